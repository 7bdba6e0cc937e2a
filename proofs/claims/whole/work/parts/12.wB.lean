set_option maxRecDepth 20000 in
theorem w_X11_tongue {E : mmE} {d kc ks : Nat} {G : mmG} {D : mmD} {Q : mmQ} (hG : Sh G)  (h : ((iv (D 2 3) < iv 6 → Call E d 0 0 mX11_newTongue [vR 2, vI (-5), vI (-5)] G D (retI G (fun z2 D1 => Q (some (vI z2)) G D1))) ∧ (¬ iv (D 2 3) < iv 6 → Q (some (vI (-4))) G D))) : Call E (d + 1) kc ks mX11_tongue [vR 2] G D Q := by
  show Go E (d + 1) kc ks mX11_tongue 0 [some (vR 2)] [] G D Q
  refine g_aload_n dX11_tongue_0 rfl rfl ?_
  refine h_getI (j := 3) dX11_tongue_1 f_X11_64_10 rfl rfl (by decide) hG.k2 (by decide) (hG.lt (by decide)) ?_
  refine g_bipush dX11_tongue_4 bp_6 ?_
  refine g_icmp_lt 12 dX11_tongue_6 (by decide) ⟨fun hc => ?_, fun hc => ?_⟩
  · replace h := h.1 hc
    refine g_aload_n dX11_tongue_12 rfl rfl ?_
    refine g_bipush dX11_tongue_13 bp_m5 ?_
    refine g_bipush dX11_tongue_15 bp_m5 ?_
    refine g_callV (kc := kc) (kc' := 0) (ks := ks) (ks' := 0) (as := [vI (-5), vI (-5)]) (st := []) (ci := 10) dX11_tongue_17 cB_X11_newTongue lk_X11_67 in_X11_newTongue se_X11_newTongue (by decide) rfl rfl (Nat.le_of_ble_eq_true rfl) (Nat.le_of_ble_eq_true rfl) (by decide) (hG.lt (by decide)) (congrArg Prod.fst hG.k2) ?_
    refine Go.to (fun r G' D1 hr => ?_) h
    obtain ⟨rfl, z2, rfl, h⟩ := hr
    show Go E (d + 1) kc ks mX11_tongue 20 [some (vR 2)] [vI z2] G D1 Q
    exact g_iret dX11_tongue_20 rfl h
  · replace h := h.2 hc
    refine g_bipush dX11_tongue_9 bp_m4 ?_
    exact g_iret dX11_tongue_11 rfl h
set_option maxRecDepth 20000 in
theorem w_X11_years {E : mmE} {d kc ks : Nat} {G : mmG} {D : mmD} {Q : mmQ} {x1 : Int} (hG : Sh G)  (h : ((iv x1 < iv 1 → Q (some (vI (-2))) G D) ∧ (¬ iv x1 < iv 1 → ((iv 500 < iv x1 → Q (some (vI (-2))) G D) ∧ (¬ iv 500 < iv x1 → ((iv ((D 2 11) + x1) ≤ iv 9999 → (∀ D1 : mmD, D1 = up2 D 2 11 ((D 2 11) + x1) → Q (some (vI (D1 2 11))) G D1)) ∧ (¬ iv ((D 2 11) + x1) ≤ iv 9999 → Q (some (vI (-2))) G D))))))) : Call E d kc ks mX11_years [vR 2, vI x1] G D Q := by
  show Go E d kc ks mX11_years 0 [some (vR 2), some (vI x1)] [] G D Q
  refine g_iload_n dX11_years_0 rfl rfl ?_
  refine g_iconst dX11_years_1 ?_
  refine g_icmp_lt 24 dX11_years_2 (by decide) ⟨fun hc => ?_, fun hc => ?_⟩
  · replace h := h.1 hc
    refine g_bipush dX11_years_24 bp_m2 ?_
    exact g_iret dX11_years_26 rfl h
  · replace h := h.2 hc
    refine g_iload_n dX11_years_5 rfl rfl ?_
    refine g_sipush dX11_years_6 sp_500 ?_
    refine g_icmp_gt 24 dX11_years_9 (by decide) ⟨fun hc => ?_, fun hc => ?_⟩
    · replace h := h.1 hc
      refine g_bipush dX11_years_24 bp_m2 ?_
      exact g_iret dX11_years_26 rfl h
    · replace h := h.2 hc
      refine g_aload_n dX11_years_12 rfl rfl ?_
      refine h_getI (j := 11) dX11_years_13 f_X11_71_10 rfl rfl (by decide) hG.k2 (by decide) (hG.lt (by decide)) ?_
      refine g_iload_n dX11_years_16 rfl rfl ?_
      refine g_iadd dX11_years_17 ?_
      refine g_sipush dX11_years_18 sp_9999 ?_
      refine g_icmp_le 27 dX11_years_21 (by decide) ⟨fun hc => ?_, fun hc => ?_⟩
      · replace h := h.1 hc
        refine g_aload_n dX11_years_27 rfl rfl ?_
        refine g_dup dX11_years_28 (fun _ h9 => by cases h9) ?_
        refine h_getI (j := 11) dX11_years_29 f_X11_71_10 rfl rfl (by decide) hG.k2 (by decide) (hG.lt (by decide)) ?_
        refine g_iload_n dX11_years_32 rfl rfl ?_
        refine g_iadd dX11_years_33 ?_
        refine h_putI (j := 11) dX11_years_34 f_X11_71_10 (Or.inl (mm_finI (by decide +kernel))) rfl rfl (by decide) hG.k2 (by decide) (hG.lt (by decide)) ?_
        generalize hD_D1 : up2 D 2 11 ((D 2 11) + x1) = D1
        replace h := h _ hD_D1.symm
        refine g_aload_n dX11_years_37 rfl rfl ?_
        refine h_getI (j := 11) dX11_years_38 f_X11_71_10 rfl rfl (by decide) hG.k2 (by decide) (hG.lt (by decide)) ?_
        exact g_iret dX11_years_41 rfl h
      · replace h := h.2 hc
        refine g_bipush dX11_years_24 bp_m2 ?_
        exact g_iret dX11_years_26 rfl h
set_option maxRecDepth 20000 in
theorem w_X11_feed {E : mmE} {d kc ks : Nat} {G : mmG} {D : mmD} {Q : mmQ} {x3 : Int} {w1 : Int64} (hG : Sh G)  (h : ((iv x3 < iv 1 → Q (some (vI (-2))) G D) ∧ (¬ iv x3 < iv 1 → ((iv x3 ≤ iv 8 → ((iv ((D 2 1) + x3) ≤ iv 80 → Go E d kc ks mX11_feed 33 [some (vR 2), some (vL w1), none, none, some (vI (x3 - 1))] [] G D Q) ∧ (¬ iv ((D 2 1) + x3) ≤ iv 80 → Q (some (vI (-4))) G D))) ∧ (¬ iv x3 ≤ iv 8 → Q (some (vI (-2))) G D))))) : Call E d kc ks mX11_feed [vR 2, vL w1, vI x3] G D Q := by
  show Go E d kc ks mX11_feed 0 [some (vR 2), some (vL w1), none, some (vI x3), none] [] G D Q
  refine g_iload_n dX11_feed_0 rfl rfl ?_
  refine g_iconst dX11_feed_1 ?_
  refine g_icmp_lt 11 dX11_feed_2 (by decide) ⟨fun hc => ?_, fun hc => ?_⟩
  · replace h := h.1 hc
    refine g_bipush dX11_feed_11 bp_m2 ?_
    exact g_iret dX11_feed_13 rfl h
  · replace h := h.2 hc
    refine g_iload_n dX11_feed_5 rfl rfl ?_
    refine g_bipush dX11_feed_6 bp_8 ?_
    refine g_icmp_le 14 dX11_feed_8 (by decide) ⟨fun hc => ?_, fun hc => ?_⟩
    · replace h := h.1 hc
      refine g_aload_n dX11_feed_14 rfl rfl ?_
      refine h_getI (j := 1) dX11_feed_15 f_X11_74_10 rfl rfl (by decide) hG.k2 (by decide) (hG.lt (by decide)) ?_
      refine g_iload_n dX11_feed_18 rfl rfl ?_
      refine g_iadd dX11_feed_19 ?_
      refine g_bipush dX11_feed_20 bp_80 ?_
      refine g_icmp_le 28 dX11_feed_22 (by decide) ⟨fun hc => ?_, fun hc => ?_⟩
      · replace h := h.1 hc
        refine g_iload_n dX11_feed_28 rfl rfl ?_
        refine g_iconst dX11_feed_29 ?_
        refine g_isub dX11_feed_30 ?_
        refine h_istore (L' := [some (vR 2), some (vL w1), none, some (vI x3), some (vI (x3 - 1))]) dX11_feed_31 (Nat.le_of_ble_eq_true rfl) rfl rfl ?_
        exact Go.drop (by simp only [mm_sub, and_self]) h
      · replace h := h.2 hc
        refine g_bipush dX11_feed_25 bp_m4 ?_
        exact g_iret dX11_feed_27 rfl h
    · replace h := h.2 hc
      refine g_bipush dX11_feed_11 bp_m2 ?_
      exact g_iret dX11_feed_13 rfl h
set_option maxRecDepth 20000 in
theorem w_X11_feed_33 {E : mmE} {d kc ks : Nat} {G : mmG} {D : mmD} {Q : mmQ} {x4 : Int} {w1 : Int64} (hG : Sh G)  (h : ((iv x4 < iv 0 → Q (some (vI (D 2 1))) G D) ∧ (¬ iv x4 < iv 0 → ((0 ≤ (D 2 1) ∧ (D 2 1) < 80) ∧ (∀ D1 : mmD, D1 = up2 D 3 (D 2 1) (iand ((((w1).toUInt64 >>> ((iv (8 * x4)).toInt64.toUInt64 &&& Int64.toUInt64 63)).toInt64).toInt32.toInt) 255) → (∀ D2 : mmD, D2 = up2 D1 2 1 ((D1 2 1) + 1) → Go E d kc ks mX11_feed 33 [some (vR 2), some (vL w1), none, none, some (vI (x4 + (-1)))] [] G D2 Q)))))) : Go E d kc ks mX11_feed 33 [some (vR 2), some (vL w1), none, none, some (vI x4)] [] G D Q := by
  refine g_iload dX11_feed_33 rfl ?_
  refine g_if_lt 75 dX11_feed_35 (by decide) ⟨fun hc => ?_, fun hc => ?_⟩
  · replace h := h.1 hc
    refine g_aload_n dX11_feed_75 rfl rfl ?_
    refine h_getI (j := 1) dX11_feed_76 f_X11_74_10 rfl rfl (by decide) hG.k2 (by decide) (hG.lt (by decide)) ?_
    exact g_iret dX11_feed_79 rfl h
  · replace h := h.2 hc
    refine g_aload_n dX11_feed_38 rfl rfl ?_
    refine h_getR (j := 0) dX11_feed_39 f_X11_9_10 rfl rfl (by decide) hG.k2 (by decide) (hG.lt (by decide)) hG.r2_0 ?_
    refine g_aload_n dX11_feed_42 rfl rfl ?_
    refine h_getI (j := 1) dX11_feed_43 f_X11_74_10 rfl rfl (by decide) hG.k2 (by decide) (hG.lt (by decide)) ?_
    refine g_lload_n dX11_feed_46 rfl rfl ?_
    refine g_bipush dX11_feed_47 bp_8 ?_
    refine g_iload dX11_feed_49 rfl ?_
    refine g_imul dX11_feed_51 ?_
    refine g_lushr dX11_feed_52 ?_
    refine g_l2i dX11_feed_53 ?_
    refine g_sipush dX11_feed_54 sp_255 ?_
    refine g_iand dX11_feed_57 ?_
    refine g_iast dX11_feed_58 hG.k3 (by decide) (hG.lt (by decide)) (by decide) ⟨h.1, ?_⟩
    generalize hD_D1 : up2 D 3 (D 2 1) (iand ((((w1).toUInt64 >>> ((iv (8 * x4)).toInt64.toUInt64 &&& Int64.toUInt64 63)).toInt64).toInt32.toInt) 255) = D1
    replace h := h.2 _ hD_D1.symm
    refine g_aload_n dX11_feed_59 rfl rfl ?_
    refine g_dup dX11_feed_60 (fun _ h9 => by cases h9) ?_
    refine h_getI (j := 1) dX11_feed_61 f_X11_74_10 rfl rfl (by decide) hG.k2 (by decide) (hG.lt (by decide)) ?_
    refine g_iconst dX11_feed_64 ?_
    refine g_iadd dX11_feed_65 ?_
    refine h_putI (j := 1) dX11_feed_66 f_X11_74_10 (Or.inl (mm_finI (by decide +kernel))) rfl rfl (by decide) hG.k2 (by decide) (hG.lt (by decide)) ?_
    generalize hD_D2 : up2 D1 2 1 ((D1 2 1) + 1) = D2
    replace h := h _ hD_D2.symm
    refine h_iinc (L' := [some (vR 2), some (vL w1), none, none, some (vI (x4 + (-1)))]) dX11_feed_69 (Nat.le_of_ble_eq_true rfl) rfl rfl rfl ?_
    refine g_goto 33 dX11_feed_72 (by decide) ?_
    exact Go.drop (by simp only [mm_sub, and_self]) h
set_option maxRecDepth 20000 in
theorem w_X11_law {E : mmE} {d kc ks : Nat} {G : mmG} {D : mmD} {Q : mmQ} (hG : Sh G)  (h : ((iv (D 2 6) < iv 12 → (∀ D1 : mmD, D1 = up2 D 2 1 0 → ((0 ≤ (D1 2 6) ∧ (D1 2 6) < 12) ∧ Call E d 0 0 mX4_read [vR (142 + 6 * (D1 2 6)), vR 3, vI (D 2 1)] G D1 (retI G (fun z5 D4 => ((iv z5 < iv 0 → (∀ D6 : mmD, D6 = up2 D4 2 6 ((D4 2 6) + 1) → Q (some (vI ((D6 2 6) - 1))) G D6)) ∧ (¬ iv z5 < iv 0 → Q (some (vI ((-10) - z5))) G D4))))))) ∧ (¬ iv (D 2 6) < iv 12 → Q (some (vI (-4))) G D))) : Call E (d + 1) kc ks mX11_law [vR 2] G D Q := by
  show Go E (d + 1) kc ks mX11_law 0 [some (vR 2), none, none] [] G D Q
  refine g_aload_n dX11_law_0 rfl rfl ?_
  refine h_getI (j := 6) dX11_law_1 f_X11_77_10 rfl rfl (by decide) hG.k2 (by decide) (hG.lt (by decide)) ?_
  refine g_bipush dX11_law_4 bp_12 ?_
  refine g_icmp_lt 12 dX11_law_6 (by decide) ⟨fun hc => ?_, fun hc => ?_⟩
  · replace h := h.1 hc
    refine g_aload_n dX11_law_12 rfl rfl ?_
    refine h_getI (j := 1) dX11_law_13 f_X11_74_10 rfl rfl (by decide) hG.k2 (by decide) (hG.lt (by decide)) ?_
    refine h_istore_n (L' := [some (vR 2), some (vI (D 2 1)), none]) dX11_law_16 rfl (Nat.le_of_ble_eq_true rfl) rfl rfl ?_
    refine g_aload_n dX11_law_17 rfl rfl ?_
    refine g_iconst dX11_law_18 ?_
    refine h_putI (j := 1) dX11_law_19 f_X11_74_10 (Or.inl (mm_finI (by decide +kernel))) rfl rfl (by decide) hG.k2 (by decide) (hG.lt (by decide)) ?_
    generalize hD_D1 : up2 D 2 1 0 = D1
    replace h := h _ hD_D1.symm
    refine g_aload_n dX11_law_22 rfl rfl ?_
    refine h_getR (j := 5) dX11_law_23 f_X11_24_10 rfl rfl (by decide) hG.k2 (by decide) (hG.lt (by decide)) hG.r2_5 ?_
    refine g_aload_n dX11_law_26 rfl rfl ?_
    refine h_getI (j := 6) dX11_law_27 f_X11_77_10 rfl rfl (by decide) hG.k2 (by decide) (hG.lt (by decide)) ?_
    refine h_aaldl hG dX11_law_30 ⟨h.1, ?_⟩
    have hw3 := isLw.of h.1.1 h.1.2
    replace h := h.2
    refine g_aload_n dX11_law_31 rfl rfl ?_
    refine h_getR (j := 0) dX11_law_32 f_X11_9_10 rfl rfl (by decide) hG.k2 (by decide) (hG.lt (by decide)) hG.r2_0 ?_
    refine g_iload_n dX11_law_35 rfl rfl ?_
    refine g_callV (kc := kc) (kc' := 0) (ks := ks) (ks' := 0) (as := [vR 3, vI (D 2 1)]) (st := []) (ci := 3) dX11_law_36 cB_X4_read lk_X11_80 in_X4_read se_X4_read (by decide) rfl rfl (Nat.le_of_ble_eq_true rfl) (Nat.le_of_ble_eq_true rfl) hw3.ge (hw3.lt hG) (congrArg Prod.fst (hw3.k hG)) ?_
    refine Go.to (fun r G' D4 hr => ?_) h
    obtain ⟨rfl, z5, rfl, h⟩ := hr
    show Go E (d + 1) kc ks mX11_law 39 [some (vR 2), some (vI (D 2 1)), none] [vI z5] G D4 Q
    refine h_istore_n (L' := [some (vR 2), some (vI (D 2 1)), some (vI z5)]) dX11_law_39 rfl (Nat.le_of_ble_eq_true rfl) rfl rfl ?_
    refine g_iload_n dX11_law_40 rfl rfl ?_
    refine g_if_lt 49 dX11_law_41 (by decide) ⟨fun hc => ?_, fun hc => ?_⟩
    · replace h := h.1 hc
      refine g_aload_n dX11_law_49 rfl rfl ?_
      refine g_dup dX11_law_50 (fun _ h9 => by cases h9) ?_
      refine h_getI (j := 6) dX11_law_51 f_X11_77_10 rfl rfl (by decide) hG.k2 (by decide) (hG.lt (by decide)) ?_
      refine g_iconst dX11_law_54 ?_
      refine g_iadd dX11_law_55 ?_
      refine h_putI (j := 6) dX11_law_56 f_X11_77_10 (Or.inl (mm_finI (by decide +kernel))) rfl rfl (by decide) hG.k2 (by decide) (hG.lt (by decide)) ?_
      generalize hD_D6 : up2 D4 2 6 ((D4 2 6) + 1) = D6
      replace h := h _ hD_D6.symm
      refine g_aload_n dX11_law_59 rfl rfl ?_
      refine h_getI (j := 6) dX11_law_60 f_X11_77_10 rfl rfl (by decide) hG.k2 (by decide) (hG.lt (by decide)) ?_
      refine g_iconst dX11_law_63 ?_
      refine g_isub dX11_law_64 ?_
      exact g_iret dX11_law_65 rfl h
    · replace h := h.2 hc
      refine g_bipush dX11_law_44 bp_m10 ?_
      refine g_iload_n dX11_law_46 rfl rfl ?_
      refine g_isub dX11_law_47 ?_
      exact g_iret dX11_law_48 rfl h
  · replace h := h.2 hc
    refine g_bipush dX11_law_9 bp_m4 ?_
    exact g_iret dX11_law_11 rfl h
set_option maxRecDepth 20000 in
theorem w_X11_word {E : mmE} {d kc ks : Nat} {G : mmG} {D : mmD} {Q : mmQ} {x1 x2 x3 : Int} (hG : Sh G)  (h : Call E d 0 0 mX11_spokenWord [vR 2, vI x1, vI x2] G D (retR G (fun z2 D1 => ((z2 = 0 → Q (some (vI (-1))) G D1) ∧ (¬ z2 = 0 → ((iv x3 < iv (-1) → Q (some (vI (-1))) G D1) ∧ (¬ iv x3 < iv (-1) → (isW z2 ∧ ((iv x3 < iv (D1 z2 1) → ((iv 0 ≤ iv x3 → ((0 ≤ x3 ∧ x3 < 8) ∧ Q (some (vI (D1 (z2 + 1) x3))) G D1)) ∧ (¬ iv 0 ≤ iv x3 → Q (some (vI (D1 z2 1))) G D1))) ∧ (¬ iv x3 < iv (D1 z2 1) → Q (some (vI (-1))) G D1)))))))))) : Call E (d + 1) kc ks mX11_word [vR 2, vI x1, vI x2, vI x3] G D Q := by
  show Go E (d + 1) kc ks mX11_word 0 [some (vR 2), some (vI x1), some (vI x2), some (vI x3), none] [] G D Q
  refine g_aload_n dX11_word_0 rfl rfl ?_
  refine g_iload_n dX11_word_1 rfl rfl ?_
  refine g_iload_n dX11_word_2 rfl rfl ?_
  refine g_callV (kc := kc) (kc' := 0) (ks := ks) (ks' := 0) (as := [vI x1, vI x2]) (st := []) (ci := 10) dX11_word_3 cB_X11_spokenWord lk_X11_131 in_X11_spokenWord se_X11_spokenWord (by decide) rfl rfl (Nat.le_of_ble_eq_true rfl) (Nat.le_of_ble_eq_true rfl) (by decide) (hG.lt (by decide)) (congrArg Prod.fst hG.k2) ?_
  refine Go.to (fun r G' D1 hr => ?_) h
  obtain ⟨rfl, z2, rfl, h⟩ := hr
  show Go E (d + 1) kc ks mX11_word 6 [some (vR 2), some (vI x1), some (vI x2), some (vI x3), none] [vR z2] G D1 Q
  refine h_astore (L' := [some (vR 2), some (vI x1), some (vI x2), some (vI x3), some (vR z2)]) dX11_word_6 (Nat.le_of_ble_eq_true rfl) rfl rfl ?_
  refine g_aload dX11_word_8 rfl ?_
  refine g_ifnull 27 dX11_word_10 (by decide) ⟨fun hc => ?_, fun hc => ?_⟩
  · replace h := h.1 hc
    refine g_iconst dX11_word_27 ?_
    exact g_iret dX11_word_28 rfl h
  · replace h := h.2 hc
    refine g_iload_n dX11_word_13 rfl rfl ?_
    refine g_iconst dX11_word_14 ?_
    refine g_icmp_lt 27 dX11_word_15 (by decide) ⟨fun hc => ?_, fun hc => ?_⟩
    · replace h := h.1 hc
      refine g_iconst dX11_word_27 ?_
      exact g_iret dX11_word_28 rfl h
    · replace h := h.2 hc
      refine g_iload_n dX11_word_18 rfl rfl ?_
      refine g_aload dX11_word_19 rfl ?_
      have hf3 := h.1
      replace h := h.2
      refine h_getI (j := 1) dX11_word_21 f_X11_135_9 rfl rfl (by decide) (hf3.k hG) hf3.ge (hf3.lt hG) ?_
      refine g_icmp_lt 29 dX11_word_24 (by decide) ⟨fun hc => ?_, fun hc => ?_⟩
      · replace h := h.1 hc
        refine g_iload_n dX11_word_29 rfl rfl ?_
        refine g_if_ge 41 dX11_word_30 (by decide) ⟨fun hc => ?_, fun hc => ?_⟩
        · replace h := h.1 hc
          refine g_aload dX11_word_41 rfl ?_
          refine h_getR (j := 0) dX11_word_43 f_X11_154_9 rfl rfl (by decide) (hf3.k hG) hf3.ge (hf3.lt hG) (hf3.r hG) ?_
          refine g_iload_n dX11_word_46 rfl rfl ?_
          refine g_iald dX11_word_47 (hf3.ka hG) hf3.gea (hf3.lta hG) (by decide) ⟨h.1, ?_⟩
          replace h := h.2
          exact g_iret dX11_word_48 rfl h
        · replace h := h.2 hc
          refine g_aload dX11_word_33 rfl ?_
          refine h_getI (j := 1) dX11_word_35 f_X11_135_9 rfl rfl (by decide) (hf3.k hG) hf3.ge (hf3.lt hG) ?_
          refine g_goto 48 dX11_word_38 (by decide) ?_
          exact g_iret dX11_word_48 rfl h
      · replace h := h.2 hc
        refine g_iconst dX11_word_27 ?_
        exact g_iret dX11_word_28 rfl h
set_option maxRecDepth 20000 in
theorem w_X11_open {E : mmE} {d kc ks : Nat} {G : mmG} {D : mmD} {Q : mmQ} (hG : Sh G)  (h : ((iv (D 2 12) = iv 0 → (∀ D1 : mmD, D1 = up2 D 2 12 1 → Q (some (vI (D1 2 15))) G D1)) ∧ (¬ iv (D 2 12) = iv 0 → Q (some (vI (-3))) G D))) : Call E d kc ks mX11_open [vR 2] G D Q := by
  show Go E d kc ks mX11_open 0 [some (vR 2)] [] G D Q
  refine g_aload_n dX11_open_0 rfl rfl ?_
  refine h_getI (j := 12) dX11_open_1 f_X11_157_10 rfl rfl (by decide) hG.k2 (by decide) (hG.lt (by decide)) ?_
  refine g_if_eq 10 dX11_open_4 (by decide) ⟨fun hc => ?_, fun hc => ?_⟩
  · replace h := h.1 hc
    refine g_aload_n dX11_open_10 rfl rfl ?_
    refine g_iconst dX11_open_11 ?_
    refine h_putZ (j := 12) dX11_open_12 f_X11_157_10 (Or.inl (mm_finI (by decide +kernel))) rfl rfl (by decide) hG.k2 (by decide) (hG.lt (by decide)) ⟨Or.inr rfl, ?_⟩
    generalize hD_D1 : up2 D 2 12 1 = D1
    replace h := h _ hD_D1.symm
    refine g_aload_n dX11_open_15 rfl rfl ?_
    refine h_getI (j := 15) dX11_open_16 f_X11_160_10 rfl rfl (by decide) hG.k2 (by decide) (hG.lt (by decide)) ?_
    exact g_iret dX11_open_19 rfl h
  · replace h := h.2 hc
    refine g_bipush dX11_open_7 bp_m3 ?_
    exact g_iret dX11_open_9 rfl h
set_option maxRecDepth 20000 in
theorem w_X11_truth {E : mmE} {d kc ks : Nat} {G : mmG} {D : mmD} {Q : mmQ} {x1 x2 x3 : Int} (hG : Sh G)  (h : Call E d 0 0 mX11_spokenWord [vR 2, vI x1, vI x2] G D (retR G (fun z2 D1 => ((z2 = 0 → Q (some (vI (-1))) G D1) ∧ (¬ z2 = 0 → ((iv x3 < iv 0 → Q (some (vI (-1))) G D1) ∧ (¬ iv x3 < iv 0 → ((iv x3 ≤ iv 1 → ((¬ iv (D1 2 12) = iv 0 → ((¬ iv x3 = iv 0 → (isW z2 ∧ Call E d 0 0 mX11_oneIf [vI (D1 z2 3)] G D1 (retI G (fun z5 D4 => Q (some (vI z5)) G D4)))) ∧ (iv x3 = iv 0 → (isW z2 ∧ Q (some (vI (D1 z2 2))) G D1)))) ∧ (iv (D1 2 12) = iv 0 → Q (some (vI (-3))) G D1))) ∧ (¬ iv x3 ≤ iv 1 → Q (some (vI (-1))) G D1))))))))) : Call E (d + 1) kc ks mX11_truth [vR 2, vI x1, vI x2, vI x3] G D Q := by
  show Go E (d + 1) kc ks mX11_truth 0 [some (vR 2), some (vI x1), some (vI x2), some (vI x3), none] [] G D Q
  refine g_aload_n dX11_truth_0 rfl rfl ?_
  refine g_iload_n dX11_truth_1 rfl rfl ?_
  refine g_iload_n dX11_truth_2 rfl rfl ?_
  refine g_callV (kc := kc) (kc' := 0) (ks := ks) (ks' := 0) (as := [vI x1, vI x2]) (st := []) (ci := 10) dX11_truth_3 cB_X11_spokenWord lk_X11_131 in_X11_spokenWord se_X11_spokenWord (by decide) rfl rfl (Nat.le_of_ble_eq_true rfl) (Nat.le_of_ble_eq_true rfl) (by decide) (hG.lt (by decide)) (congrArg Prod.fst hG.k2) ?_
  refine Go.to (fun r G' D1 hr => ?_) h
  obtain ⟨rfl, z2, rfl, h⟩ := hr
  show Go E (d + 1) kc ks mX11_truth 6 [some (vR 2), some (vI x1), some (vI x2), some (vI x3), none] [vR z2] G D1 Q
  refine h_astore (L' := [some (vR 2), some (vI x1), some (vI x2), some (vI x3), some (vR z2)]) dX11_truth_6 (Nat.le_of_ble_eq_true rfl) rfl rfl ?_
  refine g_aload dX11_truth_8 rfl ?_
  refine g_ifnull 22 dX11_truth_10 (by decide) ⟨fun hc => ?_, fun hc => ?_⟩
  · replace h := h.1 hc
    refine g_iconst dX11_truth_22 ?_
    exact g_iret dX11_truth_23 rfl h
  · replace h := h.2 hc
    refine g_iload_n dX11_truth_13 rfl rfl ?_
    refine g_if_lt 22 dX11_truth_14 (by decide) ⟨fun hc => ?_, fun hc => ?_⟩
    · replace h := h.1 hc
      refine g_iconst dX11_truth_22 ?_
      exact g_iret dX11_truth_23 rfl h
    · replace h := h.2 hc
      refine g_iload_n dX11_truth_17 rfl rfl ?_
      refine g_iconst dX11_truth_18 ?_
      refine g_icmp_le 24 dX11_truth_19 (by decide) ⟨fun hc => ?_, fun hc => ?_⟩
      · replace h := h.1 hc
        refine g_aload_n dX11_truth_24 rfl rfl ?_
        refine h_getI (j := 12) dX11_truth_25 f_X11_157_10 rfl rfl (by decide) hG.k2 (by decide) (hG.lt (by decide)) ?_
        refine g_if_ne 34 dX11_truth_28 (by decide) ⟨fun hc => ?_, fun hc => ?_⟩
        · replace h := h.1 hc
          refine g_iload_n dX11_truth_34 rfl rfl ?_
          refine g_if_ne 46 dX11_truth_35 (by decide) ⟨fun hc => ?_, fun hc => ?_⟩
          · replace h := h.1 hc
            refine g_aload dX11_truth_46 rfl ?_
            have hf3 := h.1
            replace h := h.2
            refine h_getI (j := 3) dX11_truth_48 f_X11_108_9 rfl rfl (by decide) (hf3.k hG) hf3.ge (hf3.lt hG) ?_
            refine g_callS (kc := kc) (kc' := 0) (ks := ks) (ks' := 0) (as := [vI (D1 z2 3)]) (st := []) dX11_truth_51 cB_X11_oneIf lk_X11_163 st_X11_oneIf rfl (Nat.le_of_ble_eq_true rfl) (Nat.le_of_ble_eq_true rfl) ?_
            refine Go.to (fun r G' D4 hr => ?_) h
            obtain ⟨rfl, z5, rfl, h⟩ := hr
            show Go E (d + 1) kc ks mX11_truth 54 [some (vR 2), some (vI x1), some (vI x2), some (vI x3), some (vR z2)] [vI z5] G D4 Q
            exact g_iret dX11_truth_54 rfl h
          · replace h := h.2 hc
            refine g_aload dX11_truth_38 rfl ?_
            have hf6 := h.1
            replace h := h.2
            refine h_getI (j := 2) dX11_truth_40 f_X11_105_9 rfl rfl (by decide) (hf6.k hG) hf6.ge (hf6.lt hG) ?_
            refine g_goto 54 dX11_truth_43 (by decide) ?_
            exact g_iret dX11_truth_54 rfl h
        · replace h := h.2 hc
          refine g_bipush dX11_truth_31 bp_m3 ?_
          exact g_iret dX11_truth_33 rfl h
      · replace h := h.2 hc
        refine g_iconst dX11_truth_22 ?_
        exact g_iret dX11_truth_23 rfl h
set_option maxRecDepth 20000 in
theorem w_X11_from {E : mmE} {d kc ks : Nat} {G : mmG} {D : mmD} {Q : mmQ} {x1 x2 : Int} (hG : Sh G)  (h : Call E d 0 0 mX11_isTongue [vR 2, vI x1] G D (retI G (fun z2 D1 => ((iv z2 = iv 0 → Q (some (vI (-1))) G D1) ∧ (¬ iv z2 = iv 0 → ((iv x2 < iv 0 → Q (some (vI (-1))) G D1) ∧ (¬ iv x2 < iv 0 → ((iv x2 ≤ iv 1 → ((¬ iv (D1 2 12) = iv 0 → ((0 ≤ ((2 * x1) + x2) ∧ ((2 * x1) + x2) < 12) ∧ Q (some (vI (D1 5 ((2 * x1) + x2)))) G D1)) ∧ (iv (D1 2 12) = iv 0 → Q (some (vI (-3))) G D1))) ∧ (¬ iv x2 ≤ iv 1 → Q (some (vI (-1))) G D1))))))))) : Call E (d + 1) kc ks mX11_from [vR 2, vI x1, vI x2] G D Q := by
  show Go E (d + 1) kc ks mX11_from 0 [some (vR 2), some (vI x1), some (vI x2)] [] G D Q
  refine g_aload_n dX11_from_0 rfl rfl ?_
  refine g_iload_n dX11_from_1 rfl rfl ?_
  refine g_callV (kc := kc) (kc' := 0) (ks := ks) (ks' := 0) (as := [vI x1]) (st := []) (ci := 10) dX11_from_2 cB_X11_isTongue lk_X11_84 in_X11_isTongue se_X11_isTongue (by decide) rfl rfl (Nat.le_of_ble_eq_true rfl) (Nat.le_of_ble_eq_true rfl) (by decide) (hG.lt (by decide)) (congrArg Prod.fst hG.k2) ?_
  refine Go.to (fun r G' D1 hr => ?_) h
  obtain ⟨rfl, z2, rfl, h⟩ := hr
  show Go E (d + 1) kc ks mX11_from 5 [some (vR 2), some (vI x1), some (vI x2)] [vI z2] G D1 Q
  refine g_if_eq 17 dX11_from_5 (by decide) ⟨fun hc => ?_, fun hc => ?_⟩
  · replace h := h.1 hc
    refine g_iconst dX11_from_17 ?_
    exact g_iret dX11_from_18 rfl h
  · replace h := h.2 hc
    refine g_iload_n dX11_from_8 rfl rfl ?_
    refine g_if_lt 17 dX11_from_9 (by decide) ⟨fun hc => ?_, fun hc => ?_⟩
    · replace h := h.1 hc
      refine g_iconst dX11_from_17 ?_
      exact g_iret dX11_from_18 rfl h
    · replace h := h.2 hc
      refine g_iload_n dX11_from_12 rfl rfl ?_
      refine g_iconst dX11_from_13 ?_
      refine g_icmp_le 19 dX11_from_14 (by decide) ⟨fun hc => ?_, fun hc => ?_⟩
      · replace h := h.1 hc
        refine g_aload_n dX11_from_19 rfl rfl ?_
        refine h_getI (j := 12) dX11_from_20 f_X11_157_10 rfl rfl (by decide) hG.k2 (by decide) (hG.lt (by decide)) ?_
        refine g_if_ne 29 dX11_from_23 (by decide) ⟨fun hc => ?_, fun hc => ?_⟩
        · replace h := h.1 hc
          refine g_aload_n dX11_from_29 rfl rfl ?_
          refine h_getR (j := 4) dX11_from_30 f_X11_19_10 rfl rfl (by decide) hG.k2 (by decide) (hG.lt (by decide)) hG.r2_4 ?_
          refine g_iconst dX11_from_33 ?_
          refine g_iload_n dX11_from_34 rfl rfl ?_
          refine g_imul dX11_from_35 ?_
          refine g_iload_n dX11_from_36 rfl rfl ?_
          refine g_iadd dX11_from_37 ?_
          refine g_iald dX11_from_38 hG.k5 (by decide) (hG.lt (by decide)) (by decide) ⟨h.1, ?_⟩
          replace h := h.2
          exact g_iret dX11_from_39 rfl h
        · replace h := h.2 hc
          refine g_bipush dX11_from_26 bp_m3 ?_
          exact g_iret dX11_from_28 rfl h
      · replace h := h.2 hc
        refine g_iconst dX11_from_17 ?_
        exact g_iret dX11_from_18 rfl h
set_option maxRecDepth 20000 in
theorem w_X11_limit {E : mmE} {d kc ks : Nat} {G : mmG} {D : mmD} {Q : mmQ} {x1 : Int} (hG : Sh G)  (h : ((iv x1 < iv 0 → Q (some (vI (-2))) G D) ∧ (¬ iv x1 < iv 0 → ((iv x1 ≤ iv 60 → (∀ D1 : mmD, D1 = up2 D 2 13 x1 → Q (some (vI (D 2 13))) G D1)) ∧ (¬ iv x1 ≤ iv 60 → Q (some (vI (-2))) G D))))) : Call E d kc ks mX11_limit [vR 2, vI x1] G D Q := by
  show Go E d kc ks mX11_limit 0 [some (vR 2), some (vI x1), none] [] G D Q
  refine g_iload_n dX11_limit_0 rfl rfl ?_
  refine g_if_lt 10 dX11_limit_1 (by decide) ⟨fun hc => ?_, fun hc => ?_⟩
  · replace h := h.1 hc
    refine g_bipush dX11_limit_10 bp_m2 ?_
    exact g_iret dX11_limit_12 rfl h
  · replace h := h.2 hc
    refine g_iload_n dX11_limit_4 rfl rfl ?_
    refine g_bipush dX11_limit_5 bp_60 ?_
    refine g_icmp_le 13 dX11_limit_7 (by decide) ⟨fun hc => ?_, fun hc => ?_⟩
    · replace h := h.1 hc
      refine g_aload_n dX11_limit_13 rfl rfl ?_
      refine h_getI (j := 13) dX11_limit_14 f_X11_34_10 rfl rfl (by decide) hG.k2 (by decide) (hG.lt (by decide)) ?_
      refine h_istore_n (L' := [some (vR 2), some (vI x1), some (vI (D 2 13))]) dX11_limit_17 rfl (Nat.le_of_ble_eq_true rfl) rfl rfl ?_
      refine g_aload_n dX11_limit_18 rfl rfl ?_
      refine g_iload_n dX11_limit_19 rfl rfl ?_
      refine h_putI (j := 13) dX11_limit_20 f_X11_34_10 (Or.inl (mm_finI (by decide +kernel))) rfl rfl (by decide) hG.k2 (by decide) (hG.lt (by decide)) ?_
      generalize hD_D1 : up2 D 2 13 x1 = D1
      replace h := h _ hD_D1.symm
      refine g_iload_n dX11_limit_23 rfl rfl ?_
      exact g_iret dX11_limit_24 rfl h
    · replace h := h.2 hc
      refine g_bipush dX11_limit_10 bp_m2 ?_
      exact g_iret dX11_limit_12 rfl h
set_option maxRecDepth 20000 in
theorem w_X11_hole {E : mmE} {d kc ks : Nat} {G : mmG} {D : mmD} {Q : mmQ} {x1 x2 x3 : Int} (hG : Sh G)  (h : Call E d 0 0 mX11_isTongue [vR 2, vI x1] G D (retI G (fun z2 D1 => ((iv z2 = iv 0 → Q (some (vI (-1))) G D1) ∧ (¬ iv z2 = iv 0 → Call E d 0 0 mX11_isMeaning [vI x2] G D1 (retI G (fun z4 D3 => ((¬ iv z4 = iv 0 → ((0 ≤ ((x1 * 10) + x2) ∧ ((x1 * 10) + x2) < 60) ∧ ((x3 = 0 ∨ x3 = 1) ∧ (∀ D7 : mmD, D7 = up2 D3 (22 + 2 * ((x1 * 10) + x2)) 4 x3 → Call E d 0 0 mX11_oneIf [vI (D3 (22 + 2 * ((x1 * 10) + x2)) 4)] G D7 (retI G (fun z9 D8 => Q (some (vI z9)) G D8)))))) ∧ (iv z4 = iv 0 → Q (some (vI (-1))) G D3))))))))) : Call E (d + 1) kc ks mX11_hole [vR 2, vI x1, vI x2, vI x3] G D Q := by
  show Go E (d + 1) kc ks mX11_hole 0 [some (vR 2), some (vI x1), some (vI x2), some (vI x3), none, none] [] G D Q
  refine g_aload_n dX11_hole_0 rfl rfl ?_
  refine g_iload_n dX11_hole_1 rfl rfl ?_
  refine g_callV (kc := kc) (kc' := 0) (ks := ks) (ks' := 0) (as := [vI x1]) (st := []) (ci := 10) dX11_hole_2 cB_X11_isTongue lk_X11_84 in_X11_isTongue se_X11_isTongue (by decide) rfl rfl (Nat.le_of_ble_eq_true rfl) (Nat.le_of_ble_eq_true rfl) (by decide) (hG.lt (by decide)) (congrArg Prod.fst hG.k2) ?_
  refine Go.to (fun r G' D1 hr => ?_) h
  obtain ⟨rfl, z2, rfl, h⟩ := hr
  show Go E (d + 1) kc ks mX11_hole 5 [some (vR 2), some (vI x1), some (vI x2), some (vI x3), none, none] [vI z2] G D1 Q
  refine g_if_eq 15 dX11_hole_5 (by decide) ⟨fun hc => ?_, fun hc => ?_⟩
  · replace h := h.1 hc
    refine g_iconst dX11_hole_15 ?_
    exact g_iret dX11_hole_16 rfl h
  · replace h := h.2 hc
    refine g_iload_n dX11_hole_8 rfl rfl ?_
    refine g_callS (kc := kc) (kc' := 0) (ks := ks) (ks' := 0) (as := [vI x2]) (st := []) dX11_hole_9 cB_X11_isMeaning lk_X11_88 st_X11_isMeaning rfl (Nat.le_of_ble_eq_true rfl) (Nat.le_of_ble_eq_true rfl) ?_
    refine Go.to (fun r G' D3 hr => ?_) h
    obtain ⟨rfl, z4, rfl, h⟩ := hr
    show Go E (d + 1) kc ks mX11_hole 12 [some (vR 2), some (vI x1), some (vI x2), some (vI x3), none, none] [vI z4] G D3 Q
    refine g_if_ne 17 dX11_hole_12 (by decide) ⟨fun hc => ?_, fun hc => ?_⟩
    · replace h := h.1 hc
      refine g_aload_n dX11_hole_17 rfl rfl ?_
      refine h_getR (j := 2) dX11_hole_18 f_X11_15_10 rfl rfl (by decide) hG.k2 (by decide) (hG.lt (by decide)) hG.r2_2 ?_
      refine g_iload_n dX11_hole_21 rfl rfl ?_
      refine g_bipush dX11_hole_22 bp_10 ?_
      refine g_imul dX11_hole_24 ?_
      refine g_iload_n dX11_hole_25 rfl rfl ?_
      refine g_iadd dX11_hole_26 ?_
      refine h_aaldw hG dX11_hole_27 ⟨h.1, ?_⟩
      have hw6 := isW.of h.1.1 h.1.2
      replace h := h.2
      refine h_astore (L' := [some (vR 2), some (vI x1), some (vI x2), some (vI x3), some (vR (22 + 2 * ((x1 * 10) + x2))), none]) dX11_hole_28 (Nat.le_of_ble_eq_true rfl) rfl rfl ?_
      refine g_aload dX11_hole_30 rfl ?_
      refine h_getI (j := 4) dX11_hole_32 f_X11_187_9 rfl rfl (by decide) (hw6.k hG) hw6.ge (hw6.lt hG) ?_
      refine h_istore (L' := [some (vR 2), some (vI x1), some (vI x2), some (vI x3), some (vR (22 + 2 * ((x1 * 10) + x2))), some (vI (D3 (22 + 2 * ((x1 * 10) + x2)) 4))]) dX11_hole_35 (Nat.le_of_ble_eq_true rfl) rfl rfl ?_
      refine g_aload dX11_hole_37 rfl ?_
      refine g_iload_n dX11_hole_39 rfl rfl ?_
      refine h_putZ (j := 4) dX11_hole_40 f_X11_187_9 (Or.inl (mm_finI (by decide +kernel))) rfl rfl (by decide) (hw6.k hG) hw6.ge (hw6.lt hG) ⟨h.1, ?_⟩
      generalize hD_D7 : up2 D3 (22 + 2 * ((x1 * 10) + x2)) 4 x3 = D7
      replace h := h.2 _ hD_D7.symm
      refine g_iload dX11_hole_43 rfl ?_
      refine g_callS (kc := kc) (kc' := 0) (ks := ks) (ks' := 0) (as := [vI (D3 (22 + 2 * ((x1 * 10) + x2)) 4)]) (st := []) dX11_hole_45 cB_X11_oneIf lk_X11_163 st_X11_oneIf rfl (Nat.le_of_ble_eq_true rfl) (Nat.le_of_ble_eq_true rfl) ?_
      refine Go.to (fun r G' D8 hr => ?_) h
      obtain ⟨rfl, z9, rfl, h⟩ := hr
      show Go E (d + 1) kc ks mX11_hole 48 [some (vR 2), some (vI x1), some (vI x2), some (vI x3), some (vR (22 + 2 * ((x1 * 10) + x2))), some (vI (D3 (22 + 2 * ((x1 * 10) + x2)) 4))] [vI z9] G D8 Q
      exact g_iret dX11_hole_48 rfl h
    · replace h := h.2 hc
      refine g_iconst dX11_hole_15 ?_
      exact g_iret dX11_hole_16 rfl h
set_option maxRecDepth 20000 in
theorem w_X11_cost {E : mmE} {d kc ks : Nat} {G : mmG} {D : mmD} {Q : mmQ} {x1 x2 x3 : Int} (hG : Sh G)  (h : Call E d 0 0 mX11_listedWord [vR 2, vI x2, vI x1] G D (retR G (fun z2 D1 => Call E d 0 0 mX11_listedWord [vR 2, vI x3, vI x1] G D1 (retR G (fun z4 D3 => ((z2 = 0 → Q (some (vI (-1))) G D3) ∧ (¬ z2 = 0 → ((¬ z4 = 0 → Call E d 0 0 mX7_leastCost [vR 9, vR z2, vR z4] G D3 (retI G (fun z6 D5 => Q (some (vI z6)) G D5))) ∧ (z4 = 0 → Q (some (vI (-1))) G D3))))))))) : Call E (d + 1) kc ks mX11_cost [vR 2, vI x1, vI x2, vI x3] G D Q := by
  show Go E (d + 1) kc ks mX11_cost 0 [some (vR 2), some (vI x1), some (vI x2), some (vI x3), none, none] [] G D Q
  refine g_aload_n dX11_cost_0 rfl rfl ?_
  refine g_iload_n dX11_cost_1 rfl rfl ?_
  refine g_iload_n dX11_cost_2 rfl rfl ?_
  refine g_callV (kc := kc) (kc' := 0) (ks := ks) (ks' := 0) (as := [vI x2, vI x1]) (st := []) (ci := 10) dX11_cost_3 cB_X11_listedWord lk_X11_190 in_X11_listedWord se_X11_listedWord (by decide) rfl rfl (Nat.le_of_ble_eq_true rfl) (Nat.le_of_ble_eq_true rfl) (by decide) (hG.lt (by decide)) (congrArg Prod.fst hG.k2) ?_
  refine Go.to (fun r G' D1 hr => ?_) h
  obtain ⟨rfl, z2, rfl, h⟩ := hr
  show Go E (d + 1) kc ks mX11_cost 6 [some (vR 2), some (vI x1), some (vI x2), some (vI x3), none, none] [vR z2] G D1 Q
  refine h_astore (L' := [some (vR 2), some (vI x1), some (vI x2), some (vI x3), some (vR z2), none]) dX11_cost_6 (Nat.le_of_ble_eq_true rfl) rfl rfl ?_
  refine g_aload_n dX11_cost_8 rfl rfl ?_
  refine g_iload_n dX11_cost_9 rfl rfl ?_
  refine g_iload_n dX11_cost_10 rfl rfl ?_
  refine g_callV (kc := kc) (kc' := 0) (ks := ks) (ks' := 0) (as := [vI x3, vI x1]) (st := []) (ci := 10) dX11_cost_11 cB_X11_listedWord lk_X11_190 in_X11_listedWord se_X11_listedWord (by decide) rfl rfl (Nat.le_of_ble_eq_true rfl) (Nat.le_of_ble_eq_true rfl) (by decide) (hG.lt (by decide)) (congrArg Prod.fst hG.k2) ?_
  refine Go.to (fun r G' D3 hr => ?_) h
  obtain ⟨rfl, z4, rfl, h⟩ := hr
  show Go E (d + 1) kc ks mX11_cost 14 [some (vR 2), some (vI x1), some (vI x2), some (vI x3), some (vR z2), none] [vR z4] G D3 Q
  refine h_astore (L' := [some (vR 2), some (vI x1), some (vI x2), some (vI x3), some (vR z2), some (vR z4)]) dX11_cost_14 (Nat.le_of_ble_eq_true rfl) rfl rfl ?_
  refine g_aload dX11_cost_16 rfl ?_
  refine g_ifnull 26 dX11_cost_18 (by decide) ⟨fun hc => ?_, fun hc => ?_⟩
  · replace h := h.1 hc
    refine g_iconst dX11_cost_26 ?_
    exact g_iret dX11_cost_27 rfl h
  · replace h := h.2 hc
    refine g_aload dX11_cost_21 rfl ?_
    refine g_ifnonnull 28 dX11_cost_23 (by decide) ⟨fun hc => ?_, fun hc => ?_⟩
    · replace h := h.1 hc
      refine g_aload_n dX11_cost_28 rfl rfl ?_
      refine h_getR (j := 16) dX11_cost_29 f_X11_44_10 rfl rfl (by decide) hG.k2 (by decide) (hG.lt (by decide)) hG.r2_16 ?_
      refine g_aload dX11_cost_32 rfl ?_
      refine g_aload dX11_cost_34 rfl ?_
      refine g_callV (kc := kc) (kc' := 0) (ks := ks) (ks' := 0) (as := [vR z2, vR z4]) (st := []) (ci := 6) dX11_cost_36 cB_X7_leastCost lk_X11_193 in_X7_leastCost se_X7_leastCost (by decide) rfl rfl (Nat.le_of_ble_eq_true rfl) (Nat.le_of_ble_eq_true rfl) (by decide) (hG.lt (by decide)) (congrArg Prod.fst hG.k9) ?_
      refine Go.to (fun r G' D5 hr => ?_) h
      obtain ⟨rfl, z6, rfl, h⟩ := hr
      show Go E (d + 1) kc ks mX11_cost 39 [some (vR 2), some (vI x1), some (vI x2), some (vI x3), some (vR z2), some (vR z4)] [vI z6] G D5 Q
      exact g_iret dX11_cost_39 rfl h
    · replace h := h.2 hc
      refine g_iconst dX11_cost_26 ?_
      exact g_iret dX11_cost_27 rfl h
set_option maxRecDepth 20000 in
theorem w_X11_way {E : mmE} {d kc ks : Nat} {G : mmG} {D : mmD} {Q : mmQ} {x1 x2 x3 x4 : Int} (hG : Sh G)  (h : Call E d 0 0 mX11_listedWord [vR 2, vI x2, vI x1] G D (retR G (fun z2 D1 => Call E d 0 0 mX11_listedWord [vR 2, vI x3, vI x1] G D1 (retR G (fun z4 D3 => ((z2 = 0 → Q (some (vI (-1))) G D3) ∧ (¬ z2 = 0 → ((z4 = 0 → Q (some (vI (-1))) G D3) ∧ (¬ z4 = 0 → ((iv (-1) ≤ iv x4 → Call E d 0 0 mX7_lay [vR 9, vR z2, vR z4] G D3 (retV G (fun D5 => ((iv x4 < iv (D5 9 2) → ((iv 0 ≤ iv x4 → ((0 ≤ x4 ∧ x4 < 16) ∧ Q (some (vI (D5 11 x4))) G D5)) ∧ (¬ iv 0 ≤ iv x4 → Q (some (vI (D5 9 2))) G D5))) ∧ (¬ iv x4 < iv (D5 9 2) → Q (some (vI (-1))) G D5))))) ∧ (¬ iv (-1) ≤ iv x4 → Q (some (vI (-1))) G D3))))))))))) : Call E (d + 1) kc ks mX11_way [vR 2, vI x1, vI x2, vI x3, vI x4] G D Q := by
  show Go E (d + 1) kc ks mX11_way 0 [some (vR 2), some (vI x1), some (vI x2), some (vI x3), some (vI x4), none, none] [] G D Q
  refine g_aload_n dX11_way_0 rfl rfl ?_
  refine g_iload_n dX11_way_1 rfl rfl ?_
  refine g_iload_n dX11_way_2 rfl rfl ?_
  refine g_callV (kc := kc) (kc' := 0) (ks := ks) (ks' := 0) (as := [vI x2, vI x1]) (st := []) (ci := 10) dX11_way_3 cB_X11_listedWord lk_X11_190 in_X11_listedWord se_X11_listedWord (by decide) rfl rfl (Nat.le_of_ble_eq_true rfl) (Nat.le_of_ble_eq_true rfl) (by decide) (hG.lt (by decide)) (congrArg Prod.fst hG.k2) ?_
  refine Go.to (fun r G' D1 hr => ?_) h
  obtain ⟨rfl, z2, rfl, h⟩ := hr
  show Go E (d + 1) kc ks mX11_way 6 [some (vR 2), some (vI x1), some (vI x2), some (vI x3), some (vI x4), none, none] [vR z2] G D1 Q
  refine h_astore (L' := [some (vR 2), some (vI x1), some (vI x2), some (vI x3), some (vI x4), some (vR z2), none]) dX11_way_6 (Nat.le_of_ble_eq_true rfl) rfl rfl ?_
  refine g_aload_n dX11_way_8 rfl rfl ?_
  refine g_iload_n dX11_way_9 rfl rfl ?_
  refine g_iload_n dX11_way_10 rfl rfl ?_
  refine g_callV (kc := kc) (kc' := 0) (ks := ks) (ks' := 0) (as := [vI x3, vI x1]) (st := []) (ci := 10) dX11_way_11 cB_X11_listedWord lk_X11_190 in_X11_listedWord se_X11_listedWord (by decide) rfl rfl (Nat.le_of_ble_eq_true rfl) (Nat.le_of_ble_eq_true rfl) (by decide) (hG.lt (by decide)) (congrArg Prod.fst hG.k2) ?_
  refine Go.to (fun r G' D3 hr => ?_) h
  obtain ⟨rfl, z4, rfl, h⟩ := hr
  show Go E (d + 1) kc ks mX11_way 14 [some (vR 2), some (vI x1), some (vI x2), some (vI x3), some (vI x4), some (vR z2), none] [vR z4] G D3 Q
  refine h_astore (L' := [some (vR 2), some (vI x1), some (vI x2), some (vI x3), some (vI x4), some (vR z2), some (vR z4)]) dX11_way_14 (Nat.le_of_ble_eq_true rfl) rfl rfl ?_
  refine g_aload dX11_way_16 rfl ?_
  refine g_ifnull 32 dX11_way_18 (by decide) ⟨fun hc => ?_, fun hc => ?_⟩
  · replace h := h.1 hc
    refine g_iconst dX11_way_32 ?_
    exact g_iret dX11_way_33 rfl h
  · replace h := h.2 hc
    refine g_aload dX11_way_21 rfl ?_
    refine g_ifnull 32 dX11_way_23 (by decide) ⟨fun hc => ?_, fun hc => ?_⟩
    · replace h := h.1 hc
      refine g_iconst dX11_way_32 ?_
      exact g_iret dX11_way_33 rfl h
    · replace h := h.2 hc
      refine g_iload dX11_way_26 rfl ?_
      refine g_iconst dX11_way_28 ?_
      refine g_icmp_ge 34 dX11_way_29 (by decide) ⟨fun hc => ?_, fun hc => ?_⟩
      · replace h := h.1 hc
        refine g_aload_n dX11_way_34 rfl rfl ?_
        refine h_getR (j := 16) dX11_way_35 f_X11_44_10 rfl rfl (by decide) hG.k2 (by decide) (hG.lt (by decide)) hG.r2_16 ?_
        refine g_aload dX11_way_38 rfl ?_
        refine g_aload dX11_way_40 rfl ?_
        refine g_callV (kc := kc) (kc' := 0) (ks := ks) (ks' := 0) (as := [vR z2, vR z4]) (st := []) (ci := 6) dX11_way_42 cB_X7_lay lk_X11_197 in_X7_lay se_X7_lay (by decide) rfl rfl (Nat.le_of_ble_eq_true rfl) (Nat.le_of_ble_eq_true rfl) (by decide) (hG.lt (by decide)) (congrArg Prod.fst hG.k9) ?_
        refine Go.to (fun r G' D5 hr => ?_) h
        obtain ⟨rfl, rfl, h⟩ := hr
        show Go E (d + 1) kc ks mX11_way 45 [some (vR 2), some (vI x1), some (vI x2), some (vI x3), some (vI x4), some (vR z2), some (vR z4)] [] G D5 Q
        refine g_iload dX11_way_45 rfl ?_
        refine g_aload_n dX11_way_47 rfl rfl ?_
        refine h_getR (j := 16) dX11_way_48 f_X11_44_10 rfl rfl (by decide) hG.k2 (by decide) (hG.lt (by decide)) hG.r2_16 ?_
        refine h_getI (j := 2) dX11_way_51 f_X11_201_6 rfl rfl (by decide) hG.k9 (by decide) (hG.lt (by decide)) ?_
        refine g_icmp_lt 59 dX11_way_54 (by decide) ⟨fun hc => ?_, fun hc => ?_⟩
        · replace h := h.1 hc
          refine g_iload dX11_way_59 rfl ?_
          refine g_if_ge 74 dX11_way_61 (by decide) ⟨fun hc => ?_, fun hc => ?_⟩
          · replace h := h.1 hc
            refine g_aload_n dX11_way_74 rfl rfl ?_
            refine h_getR (j := 16) dX11_way_75 f_X11_44_10 rfl rfl (by decide) hG.k2 (by decide) (hG.lt (by decide)) hG.r2_16 ?_
            refine h_getR (j := 1) dX11_way_78 f_X11_204_6 rfl rfl (by decide) hG.k9 (by decide) (hG.lt (by decide)) hG.r9_1 ?_
            refine g_iload dX11_way_81 rfl ?_
            refine g_iald dX11_way_83 hG.k11 (by decide) (hG.lt (by decide)) (by decide) ⟨h.1, ?_⟩
            replace h := h.2
            exact g_iret dX11_way_84 rfl h
          · replace h := h.2 hc
            refine g_aload_n dX11_way_64 rfl rfl ?_
            refine h_getR (j := 16) dX11_way_65 f_X11_44_10 rfl rfl (by decide) hG.k2 (by decide) (hG.lt (by decide)) hG.r2_16 ?_
            refine h_getI (j := 2) dX11_way_68 f_X11_201_6 rfl rfl (by decide) hG.k9 (by decide) (hG.lt (by decide)) ?_
            refine g_goto 84 dX11_way_71 (by decide) ?_
            exact g_iret dX11_way_84 rfl h
        · replace h := h.2 hc
          refine g_iconst dX11_way_57 ?_
          exact g_iret dX11_way_58 rfl h
      · replace h := h.2 hc
        refine g_iconst dX11_way_32 ?_
        exact g_iret dX11_way_33 rfl h
set_option maxRecDepth 20000 in
theorem w_X11_kin {E : mmE} {d kc ks : Nat} {G : mmG} {D : mmD} {Q : mmQ} {x1 x2 x3 : Int} (hG : Sh G)  (h : Call E d 0 0 mX11_listedWord [vR 2, vI x2, vI x1] G D (retR G (fun z2 D1 => Call E d 0 0 mX11_listedWord [vR 2, vI x3, vI x1] G D1 (retR G (fun z4 D3 => ((z2 = 0 → Q (some (vI (-1))) G D3) ∧ (¬ z2 = 0 → ((¬ z4 = 0 → ((¬ iv x2 = iv x3 → Call E d 0 0 mX11_areKin [vR 2, vR z2, vR z4] G D3 (retI G (fun z6 D5 => Call E d 0 0 mX11_oneIf [vI z6] G D5 (retI G (fun z8 D7 => Q (some (vI z8)) G D7))))) ∧ (iv x2 = iv x3 → Q (some (vI (-2))) G D3))) ∧ (z4 = 0 → Q (some (vI (-1))) G D3))))))))) : Call E (d + 1) kc ks mX11_kin [vR 2, vI x1, vI x2, vI x3] G D Q := by
  show Go E (d + 1) kc ks mX11_kin 0 [some (vR 2), some (vI x1), some (vI x2), some (vI x3), none, none] [] G D Q
  refine g_aload_n dX11_kin_0 rfl rfl ?_
  refine g_iload_n dX11_kin_1 rfl rfl ?_
  refine g_iload_n dX11_kin_2 rfl rfl ?_
  refine g_callV (kc := kc) (kc' := 0) (ks := ks) (ks' := 0) (as := [vI x2, vI x1]) (st := []) (ci := 10) dX11_kin_3 cB_X11_listedWord lk_X11_190 in_X11_listedWord se_X11_listedWord (by decide) rfl rfl (Nat.le_of_ble_eq_true rfl) (Nat.le_of_ble_eq_true rfl) (by decide) (hG.lt (by decide)) (congrArg Prod.fst hG.k2) ?_
  refine Go.to (fun r G' D1 hr => ?_) h
  obtain ⟨rfl, z2, rfl, h⟩ := hr
  show Go E (d + 1) kc ks mX11_kin 6 [some (vR 2), some (vI x1), some (vI x2), some (vI x3), none, none] [vR z2] G D1 Q
  refine h_astore (L' := [some (vR 2), some (vI x1), some (vI x2), some (vI x3), some (vR z2), none]) dX11_kin_6 (Nat.le_of_ble_eq_true rfl) rfl rfl ?_
  refine g_aload_n dX11_kin_8 rfl rfl ?_
  refine g_iload_n dX11_kin_9 rfl rfl ?_
  refine g_iload_n dX11_kin_10 rfl rfl ?_
  refine g_callV (kc := kc) (kc' := 0) (ks := ks) (ks' := 0) (as := [vI x3, vI x1]) (st := []) (ci := 10) dX11_kin_11 cB_X11_listedWord lk_X11_190 in_X11_listedWord se_X11_listedWord (by decide) rfl rfl (Nat.le_of_ble_eq_true rfl) (Nat.le_of_ble_eq_true rfl) (by decide) (hG.lt (by decide)) (congrArg Prod.fst hG.k2) ?_
  refine Go.to (fun r G' D3 hr => ?_) h
  obtain ⟨rfl, z4, rfl, h⟩ := hr
  show Go E (d + 1) kc ks mX11_kin 14 [some (vR 2), some (vI x1), some (vI x2), some (vI x3), some (vR z2), none] [vR z4] G D3 Q
  refine h_astore (L' := [some (vR 2), some (vI x1), some (vI x2), some (vI x3), some (vR z2), some (vR z4)]) dX11_kin_14 (Nat.le_of_ble_eq_true rfl) rfl rfl ?_
  refine g_aload dX11_kin_16 rfl ?_
  refine g_ifnull 26 dX11_kin_18 (by decide) ⟨fun hc => ?_, fun hc => ?_⟩
  · replace h := h.1 hc
    refine g_iconst dX11_kin_26 ?_
    exact g_iret dX11_kin_27 rfl h
  · replace h := h.2 hc
    refine g_aload dX11_kin_21 rfl ?_
    refine g_ifnonnull 28 dX11_kin_23 (by decide) ⟨fun hc => ?_, fun hc => ?_⟩
    · replace h := h.1 hc
      refine g_iload_n dX11_kin_28 rfl rfl ?_
      refine g_iload_n dX11_kin_29 rfl rfl ?_
      refine g_icmp_ne 36 dX11_kin_30 (by decide) ⟨fun hc => ?_, fun hc => ?_⟩
      · replace h := h.1 hc
        refine g_aload_n dX11_kin_36 rfl rfl ?_
        refine g_aload dX11_kin_37 rfl ?_
        refine g_aload dX11_kin_39 rfl ?_
        refine g_callV (kc := kc) (kc' := 0) (ks := ks) (ks' := 0) (as := [vR z2, vR z4]) (st := []) (ci := 10) dX11_kin_41 cB_X11_areKin lk_X11_207 in_X11_areKin se_X11_areKin (by decide) rfl rfl (Nat.le_of_ble_eq_true rfl) (Nat.le_of_ble_eq_true rfl) (by decide) (hG.lt (by decide)) (congrArg Prod.fst hG.k2) ?_
        refine Go.to (fun r G' D5 hr => ?_) h
        obtain ⟨rfl, z6, rfl, h⟩ := hr
        show Go E (d + 1) kc ks mX11_kin 44 [some (vR 2), some (vI x1), some (vI x2), some (vI x3), some (vR z2), some (vR z4)] [vI z6] G D5 Q
        refine g_callS (kc := kc) (kc' := 0) (ks := ks) (ks' := 0) (as := [vI z6]) (st := []) dX11_kin_44 cB_X11_oneIf lk_X11_163 st_X11_oneIf rfl (Nat.le_of_ble_eq_true rfl) (Nat.le_of_ble_eq_true rfl) ?_
        refine Go.to (fun r G' D7 hr => ?_) h
        obtain ⟨rfl, z8, rfl, h⟩ := hr
        show Go E (d + 1) kc ks mX11_kin 47 [some (vR 2), some (vI x1), some (vI x2), some (vI x3), some (vR z2), some (vR z4)] [vI z8] G D7 Q
        exact g_iret dX11_kin_47 rfl h
      · replace h := h.2 hc
        refine g_bipush dX11_kin_33 bp_m2 ?_
        exact g_iret dX11_kin_35 rfl h
    · replace h := h.2 hc
      refine g_iconst dX11_kin_26 ?_
      exact g_iret dX11_kin_27 rfl h
set_option maxRecDepth 20000 in
theorem w_X11_set {E : mmE} {d kc ks : Nat} {G : mmG} {D : mmD} {Q : mmQ} {x1 x2 : Int} (hG : Sh G)  (h : Call E d 0 0 mX11_listedWord [vR 2, vI x2, vI x1] G D (retR G (fun z2 D1 => ((¬ z2 = 0 → Call E d 0 0 mX11_kinSet [vR 2, vI x1, vI x2] G D1 (retI G (fun z4 D3 => Q (some (vI z4)) G D3))) ∧ (z2 = 0 → Q (some (vI (-1))) G D1))))) : Call E (d + 1) kc ks mX11_set [vR 2, vI x1, vI x2] G D Q := by
  show Go E (d + 1) kc ks mX11_set 0 [some (vR 2), some (vI x1), some (vI x2)] [] G D Q
  refine g_aload_n dX11_set_0 rfl rfl ?_
  refine g_iload_n dX11_set_1 rfl rfl ?_
  refine g_iload_n dX11_set_2 rfl rfl ?_
  refine g_callV (kc := kc) (kc' := 0) (ks := ks) (ks' := 0) (as := [vI x2, vI x1]) (st := []) (ci := 10) dX11_set_3 cB_X11_listedWord lk_X11_190 in_X11_listedWord se_X11_listedWord (by decide) rfl rfl (Nat.le_of_ble_eq_true rfl) (Nat.le_of_ble_eq_true rfl) (by decide) (hG.lt (by decide)) (congrArg Prod.fst hG.k2) ?_
  refine Go.to (fun r G' D1 hr => ?_) h
  obtain ⟨rfl, z2, rfl, h⟩ := hr
  show Go E (d + 1) kc ks mX11_set 6 [some (vR 2), some (vI x1), some (vI x2)] [vR z2] G D1 Q
  refine g_ifnonnull 11 dX11_set_6 (by decide) ⟨fun hc => ?_, fun hc => ?_⟩
  · replace h := h.1 hc
    refine g_aload_n dX11_set_11 rfl rfl ?_
    refine g_iload_n dX11_set_12 rfl rfl ?_
    refine g_iload_n dX11_set_13 rfl rfl ?_
    refine g_callV (kc := kc) (kc' := 0) (ks := ks) (ks' := 0) (as := [vI x1, vI x2]) (st := []) (ci := 10) dX11_set_14 cB_X11_kinSet lk_X11_211 in_X11_kinSet se_X11_kinSet (by decide) rfl rfl (Nat.le_of_ble_eq_true rfl) (Nat.le_of_ble_eq_true rfl) (by decide) (hG.lt (by decide)) (congrArg Prod.fst hG.k2) ?_
    refine Go.to (fun r G' D3 hr => ?_) h
    obtain ⟨rfl, z4, rfl, h⟩ := hr
    show Go E (d + 1) kc ks mX11_set 17 [some (vR 2), some (vI x1), some (vI x2)] [vI z4] G D3 Q
    exact g_iret dX11_set_17 rfl h
  · replace h := h.2 hc
    refine g_iconst dX11_set_9 ?_
    exact g_iret dX11_set_10 rfl h
set_option maxRecDepth 20000 in
theorem w_X11_odds {E : mmE} {d kc ks : Nat} {G : mmG} {D : mmD} {Q : mmQ} {x1 x2 x3 x4 : Int} (hG : Sh G)  (h : Call E d 0 0 mX11_listedWord [vR 2, vI x2, vI x1] G D (retR G (fun z2 D1 => ((z2 = 0 → Q (some (vI (-1))) G D1) ∧ (¬ z2 = 0 → Call E d 0 0 mX11_isTongue [vR 2, vI x3] G D1 (retI G (fun z4 D3 => ((iv z4 = iv 0 → Q (some (vI (-1))) G D3) ∧ (¬ iv z4 = iv 0 → ((iv x4 < iv 0 → Q (some (vI (-1))) G D3) ∧ (¬ iv x4 < iv 0 → ((iv x4 ≤ iv 1 → Go E (d + 1) kc ks mX11_odds 43 [some (vR 2), some (vI x1), none, some (vI x3), some (vI x4), some (vR z2), some (vI 0), some (vI 0), some (vI 0), none] [] G D3 Q) ∧ (¬ iv x4 ≤ iv 1 → Q (some (vI (-1))) G D3))))))))))))) : Call E (d + 1) kc ks mX11_odds [vR 2, vI x1, vI x2, vI x3, vI x4] G D Q := by
  show Go E (d + 1) kc ks mX11_odds 0 [some (vR 2), some (vI x1), some (vI x2), some (vI x3), some (vI x4), none, none, none, none, none] [] G D Q
  refine g_aload_n dX11_odds_0 rfl rfl ?_
  refine g_iload_n dX11_odds_1 rfl rfl ?_
  refine g_iload_n dX11_odds_2 rfl rfl ?_
  refine g_callV (kc := kc) (kc' := 0) (ks := ks) (ks' := 0) (as := [vI x2, vI x1]) (st := []) (ci := 10) dX11_odds_3 cB_X11_listedWord lk_X11_190 in_X11_listedWord se_X11_listedWord (by decide) rfl rfl (Nat.le_of_ble_eq_true rfl) (Nat.le_of_ble_eq_true rfl) (by decide) (hG.lt (by decide)) (congrArg Prod.fst hG.k2) ?_
  refine Go.to (fun r G' D1 hr => ?_) h
  obtain ⟨rfl, z2, rfl, h⟩ := hr
  show Go E (d + 1) kc ks mX11_odds 6 [some (vR 2), some (vI x1), some (vI x2), some (vI x3), some (vI x4), none, none, none, none, none] [vR z2] G D1 Q
  refine h_astore (L' := [some (vR 2), some (vI x1), some (vI x2), some (vI x3), some (vI x4), some (vR z2), none, none, none, none]) dX11_odds_6 (Nat.le_of_ble_eq_true rfl) rfl rfl ?_
  refine g_aload dX11_odds_8 rfl ?_
  refine g_ifnull 32 dX11_odds_10 (by decide) ⟨fun hc => ?_, fun hc => ?_⟩
  · replace h := h.1 hc
    refine g_iconst dX11_odds_32 ?_
    exact g_iret dX11_odds_33 rfl h
  · replace h := h.2 hc
    refine g_aload_n dX11_odds_13 rfl rfl ?_
    refine g_iload_n dX11_odds_14 rfl rfl ?_
    refine g_callV (kc := kc) (kc' := 0) (ks := ks) (ks' := 0) (as := [vI x3]) (st := []) (ci := 10) dX11_odds_15 cB_X11_isTongue lk_X11_84 in_X11_isTongue se_X11_isTongue (by decide) rfl rfl (Nat.le_of_ble_eq_true rfl) (Nat.le_of_ble_eq_true rfl) (by decide) (hG.lt (by decide)) (congrArg Prod.fst hG.k2) ?_
    refine Go.to (fun r G' D3 hr => ?_) h
    obtain ⟨rfl, z4, rfl, h⟩ := hr
    show Go E (d + 1) kc ks mX11_odds 18 [some (vR 2), some (vI x1), some (vI x2), some (vI x3), some (vI x4), some (vR z2), none, none, none, none] [vI z4] G D3 Q
    refine g_if_eq 32 dX11_odds_18 (by decide) ⟨fun hc => ?_, fun hc => ?_⟩
    · replace h := h.1 hc
      refine g_iconst dX11_odds_32 ?_
      exact g_iret dX11_odds_33 rfl h
    · replace h := h.2 hc
      refine g_iload dX11_odds_21 rfl ?_
      refine g_if_lt 32 dX11_odds_23 (by decide) ⟨fun hc => ?_, fun hc => ?_⟩
      · replace h := h.1 hc
        refine g_iconst dX11_odds_32 ?_
        exact g_iret dX11_odds_33 rfl h
      · replace h := h.2 hc
        refine g_iload dX11_odds_26 rfl ?_
        refine g_iconst dX11_odds_28 ?_
        refine g_icmp_le 34 dX11_odds_29 (by decide) ⟨fun hc => ?_, fun hc => ?_⟩
        · replace h := h.1 hc
          refine g_iconst dX11_odds_34 ?_
          refine h_istore (L' := [some (vR 2), some (vI x1), some (vI x2), some (vI x3), some (vI x4), some (vR z2), some (vI 0), none, none, none]) dX11_odds_35 (Nat.le_of_ble_eq_true rfl) rfl rfl ?_
          refine g_iconst dX11_odds_37 ?_
          refine h_istore (L' := [some (vR 2), some (vI x1), some (vI x2), some (vI x3), some (vI x4), some (vR z2), some (vI 0), some (vI 0), none, none]) dX11_odds_38 (Nat.le_of_ble_eq_true rfl) rfl rfl ?_
          refine g_iconst dX11_odds_40 ?_
          refine h_istore (L' := [some (vR 2), some (vI x1), some (vI x2), some (vI x3), some (vI x4), some (vR z2), some (vI 0), some (vI 0), some (vI 0), none]) dX11_odds_41 (Nat.le_of_ble_eq_true rfl) rfl rfl ?_
          exact Go.drop (by simp only [mm_sub, and_self]) h
        · replace h := h.2 hc
          refine g_iconst dX11_odds_32 ?_
          exact g_iret dX11_odds_33 rfl h
set_option maxRecDepth 20000 in
theorem w_X11_odds_43 {E : mmE} {d kc ks : Nat} {G : mmG} {D : mmD} {Q : mmQ} {x1 x3 x4 r5 x6 x7 x8 : Int} (hG : Sh G)  (h : ((iv 10 ≤ iv x8 → ((¬ iv x4 = iv 0 → Q (some (vI x7)) G D) ∧ (iv x4 = iv 0 → Q (some (vI x6)) G D))) ∧ (¬ iv 10 ≤ iv x8 → Call E d 0 0 mX11_listedWord [vR 2, vI x3, vI x8] G D (retR G (fun z2 D1 => ((iv x8 = iv x1 → Go E (d + 1) kc ks mX11_odds 43 [some (vR 2), some (vI x1), none, some (vI x3), some (vI x4), some (vR r5), some (vI x6), some (vI x7), some (vI (x8 + 1)), none] [] G D1 Q) ∧ (¬ iv x8 = iv x1 → ((z2 = 0 → Go E (d + 1) kc ks mX11_odds 43 [some (vR 2), some (vI x1), none, some (vI x3), some (vI x4), some (vR r5), some (vI x6), some (vI x7), some (vI (x8 + 1)), none] [] G D1 Q) ∧ (¬ z2 = 0 → Call E d 0 0 mX11_areKin [vR 2, vR r5, vR z2] G D1 (retI G (fun z4 D3 => Call E d 0 0 mX11_oneIf [vI z4] G D3 (retI G (fun z6 D5 => Go E (d + 1) kc ks mX11_odds 43 [some (vR 2), some (vI x1), none, some (vI x3), some (vI x4), some (vR r5), some (vI (x6 + z6)), some (vI (x7 + 1)), some (vI (x8 + 1)), none] [] G D5 Q))))))))))))) : Go E (d + 1) kc ks mX11_odds 43 [some (vR 2), some (vI x1), none, some (vI x3), some (vI x4), some (vR r5), some (vI x6), some (vI x7), some (vI x8), none] [] G D Q := by
  refine g_iload dX11_odds_43 rfl ?_
  refine g_bipush dX11_odds_45 bp_10 ?_
  refine g_icmp_ge 95 dX11_odds_47 (by decide) ⟨fun hc => ?_, fun hc => ?_⟩
  · replace h := h.1 hc
    refine g_iload dX11_odds_95 rfl ?_
    refine g_if_ne 105 dX11_odds_97 (by decide) ⟨fun hc => ?_, fun hc => ?_⟩
    · replace h := h.1 hc
      refine g_iload dX11_odds_105 rfl ?_
      exact g_iret dX11_odds_107 rfl h
    · replace h := h.2 hc
      refine g_iload dX11_odds_100 rfl ?_
      refine g_goto 107 dX11_odds_102 (by decide) ?_
      exact g_iret dX11_odds_107 rfl h
  · replace h := h.2 hc
    refine g_aload_n dX11_odds_50 rfl rfl ?_
    refine g_iload_n dX11_odds_51 rfl rfl ?_
    refine g_iload dX11_odds_52 rfl ?_
    refine g_callV (kc := kc) (kc' := 0) (ks := ks) (ks' := 0) (as := [vI x3, vI x8]) (st := []) (ci := 10) dX11_odds_54 cB_X11_listedWord lk_X11_190 in_X11_listedWord se_X11_listedWord (by decide) rfl rfl (Nat.le_of_ble_eq_true rfl) (Nat.le_of_ble_eq_true rfl) (by decide) (hG.lt (by decide)) (congrArg Prod.fst hG.k2) ?_
    refine Go.to (fun r G' D1 hr => ?_) h
    obtain ⟨rfl, z2, rfl, h⟩ := hr
    show Go E (d + 1) kc ks mX11_odds 57 [some (vR 2), some (vI x1), none, some (vI x3), some (vI x4), some (vR r5), some (vI x6), some (vI x7), some (vI x8), none] [vR z2] G D1 Q
    refine h_astore (L' := [some (vR 2), some (vI x1), none, some (vI x3), some (vI x4), some (vR r5), some (vI x6), some (vI x7), some (vI x8), some (vR z2)]) dX11_odds_57 (Nat.le_of_ble_eq_true rfl) rfl rfl ?_
    refine g_iload dX11_odds_59 rfl ?_
    refine g_iload_n dX11_odds_61 rfl rfl ?_
    refine g_icmp_eq 89 dX11_odds_62 (by decide) ⟨fun hc => ?_, fun hc => ?_⟩
    · replace h := h.1 hc
      refine h_iinc (L' := [some (vR 2), some (vI x1), none, some (vI x3), some (vI x4), some (vR r5), some (vI x6), some (vI x7), some (vI (x8 + 1)), some (vR z2)]) dX11_odds_89 (Nat.le_of_ble_eq_true rfl) rfl rfl rfl ?_
      refine g_goto 43 dX11_odds_92 (by decide) ?_
      exact Go.drop (by simp only [mm_sub, and_self]) h
    · replace h := h.2 hc
      refine g_aload dX11_odds_65 rfl ?_
      refine g_ifnull 89 dX11_odds_67 (by decide) ⟨fun hc => ?_, fun hc => ?_⟩
      · replace h := h.1 hc
        refine h_iinc (L' := [some (vR 2), some (vI x1), none, some (vI x3), some (vI x4), some (vR r5), some (vI x6), some (vI x7), some (vI (x8 + 1)), some (vR z2)]) dX11_odds_89 (Nat.le_of_ble_eq_true rfl) rfl rfl rfl ?_
        refine g_goto 43 dX11_odds_92 (by decide) ?_
        exact Go.drop (by simp only [mm_sub, and_self]) h
      · replace h := h.2 hc
        refine h_iinc (L' := [some (vR 2), some (vI x1), none, some (vI x3), some (vI x4), some (vR r5), some (vI x6), some (vI (x7 + 1)), some (vI x8), some (vR z2)]) dX11_odds_70 (Nat.le_of_ble_eq_true rfl) rfl rfl rfl ?_
        refine g_iload dX11_odds_73 rfl ?_
        refine g_aload_n dX11_odds_75 rfl rfl ?_
        refine g_aload dX11_odds_76 rfl ?_
        refine g_aload dX11_odds_78 rfl ?_
        refine g_callV (kc := kc) (kc' := 0) (ks := ks) (ks' := 0) (as := [vR r5, vR z2]) (st := [vI x6]) (ci := 10) dX11_odds_80 cB_X11_areKin lk_X11_207 in_X11_areKin se_X11_areKin (by decide) rfl rfl (Nat.le_of_ble_eq_true rfl) (Nat.le_of_ble_eq_true rfl) (by decide) (hG.lt (by decide)) (congrArg Prod.fst hG.k2) ?_
        refine Go.to (fun r G' D3 hr => ?_) h
        obtain ⟨rfl, z4, rfl, h⟩ := hr
        show Go E (d + 1) kc ks mX11_odds 83 [some (vR 2), some (vI x1), none, some (vI x3), some (vI x4), some (vR r5), some (vI x6), some (vI (x7 + 1)), some (vI x8), some (vR z2)] [vI z4, vI x6] G D3 Q
        refine g_callS (kc := kc) (kc' := 0) (ks := ks) (ks' := 0) (as := [vI z4]) (st := [vI x6]) dX11_odds_83 cB_X11_oneIf lk_X11_163 st_X11_oneIf rfl (Nat.le_of_ble_eq_true rfl) (Nat.le_of_ble_eq_true rfl) ?_
        refine Go.to (fun r G' D5 hr => ?_) h
        obtain ⟨rfl, z6, rfl, h⟩ := hr
        show Go E (d + 1) kc ks mX11_odds 86 [some (vR 2), some (vI x1), none, some (vI x3), some (vI x4), some (vR r5), some (vI x6), some (vI (x7 + 1)), some (vI x8), some (vR z2)] [vI z6, vI x6] G D5 Q
        refine g_iadd dX11_odds_86 ?_
        refine h_istore (L' := [some (vR 2), some (vI x1), none, some (vI x3), some (vI x4), some (vR r5), some (vI (x6 + z6)), some (vI (x7 + 1)), some (vI x8), some (vR z2)]) dX11_odds_87 (Nat.le_of_ble_eq_true rfl) rfl rfl ?_
        refine h_iinc (L' := [some (vR 2), some (vI x1), none, some (vI x3), some (vI x4), some (vR r5), some (vI (x6 + z6)), some (vI (x7 + 1)), some (vI (x8 + 1)), some (vR z2)]) dX11_odds_89 (Nat.le_of_ble_eq_true rfl) rfl rfl rfl ?_
        refine g_goto 43 dX11_odds_92 (by decide) ?_
        exact Go.drop (by simp only [mm_sub, and_self]) h
set_option maxRecDepth 20000 in
theorem w_X11_matches {E : mmE} {d kc ks : Nat} {G : mmG} {D : mmD} {Q : mmQ} {x1 x2 x3 x4 : Int} (hG : Sh G)  (h : Call E d 0 0 mX11_isTongue [vR 2, vI x1] G D (retI G (fun z2 D1 => ((iv z2 = iv 0 → Q (some (vI (-1))) G D1) ∧ (¬ iv z2 = iv 0 → Call E d 0 0 mX11_isTongue [vR 2, vI x2] G D1 (retI G (fun z4 D3 => ((¬ iv z4 = iv 0 → ((iv x1 = iv x2 → Q (some (vI (-2))) G D3) ∧ (¬ iv x1 = iv x2 → Call E d 0 0 mX11_isSoundOrNothing [vI x3] G D3 (retI G (fun z6 D5 => ((iv z6 = iv 0 → Q (some (vI (-2))) G D5) ∧ (¬ iv z6 = iv 0 → Call E d 0 0 mX11_isSoundOrNothing [vI x4] G D5 (retI G (fun z8 D7 => ((iv z8 = iv 0 → Q (some (vI (-2))) G D7) ∧ (¬ iv z8 = iv 0 → ((¬ iv (x3 + x4) = iv 0 → Go E (d + 1) kc ks mX11_matches 54 [some (vR 2), some (vI x1), some (vI x2), some (vI x3), some (vI x4), some (vI 0), some (vI 0), none, none] [] G D7 Q) ∧ (iv (x3 + x4) = iv 0 → Q (some (vI (-2))) G D7))))))))))))) ∧ (iv z4 = iv 0 → Q (some (vI (-1))) G D3))))))))) : Call E (d + 1) kc ks mX11_matches [vR 2, vI x1, vI x2, vI x3, vI x4] G D Q := by
  show Go E (d + 1) kc ks mX11_matches 0 [some (vR 2), some (vI x1), some (vI x2), some (vI x3), some (vI x4), none, none, none, none] [] G D Q
  refine g_aload_n dX11_matches_0 rfl rfl ?_
  refine g_iload_n dX11_matches_1 rfl rfl ?_
  refine g_callV (kc := kc) (kc' := 0) (ks := ks) (ks' := 0) (as := [vI x1]) (st := []) (ci := 10) dX11_matches_2 cB_X11_isTongue lk_X11_84 in_X11_isTongue se_X11_isTongue (by decide) rfl rfl (Nat.le_of_ble_eq_true rfl) (Nat.le_of_ble_eq_true rfl) (by decide) (hG.lt (by decide)) (congrArg Prod.fst hG.k2) ?_
  refine Go.to (fun r G' D1 hr => ?_) h
  obtain ⟨rfl, z2, rfl, h⟩ := hr
  show Go E (d + 1) kc ks mX11_matches 5 [some (vR 2), some (vI x1), some (vI x2), some (vI x3), some (vI x4), none, none, none, none] [vI z2] G D1 Q
  refine g_if_eq 16 dX11_matches_5 (by decide) ⟨fun hc => ?_, fun hc => ?_⟩
  · replace h := h.1 hc
    refine g_iconst dX11_matches_16 ?_
    exact g_iret dX11_matches_17 rfl h
  · replace h := h.2 hc
    refine g_aload_n dX11_matches_8 rfl rfl ?_
    refine g_iload_n dX11_matches_9 rfl rfl ?_
    refine g_callV (kc := kc) (kc' := 0) (ks := ks) (ks' := 0) (as := [vI x2]) (st := []) (ci := 10) dX11_matches_10 cB_X11_isTongue lk_X11_84 in_X11_isTongue se_X11_isTongue (by decide) rfl rfl (Nat.le_of_ble_eq_true rfl) (Nat.le_of_ble_eq_true rfl) (by decide) (hG.lt (by decide)) (congrArg Prod.fst hG.k2) ?_
    refine Go.to (fun r G' D3 hr => ?_) h
    obtain ⟨rfl, z4, rfl, h⟩ := hr
    show Go E (d + 1) kc ks mX11_matches 13 [some (vR 2), some (vI x1), some (vI x2), some (vI x3), some (vI x4), none, none, none, none] [vI z4] G D3 Q
    refine g_if_ne 18 dX11_matches_13 (by decide) ⟨fun hc => ?_, fun hc => ?_⟩
    · replace h := h.1 hc
      refine g_iload_n dX11_matches_18 rfl rfl ?_
      refine g_iload_n dX11_matches_19 rfl rfl ?_
      refine g_icmp_eq 45 dX11_matches_20 (by decide) ⟨fun hc => ?_, fun hc => ?_⟩
      · replace h := h.1 hc
        refine g_bipush dX11_matches_45 bp_m2 ?_
        exact g_iret dX11_matches_47 rfl h
      · replace h := h.2 hc
        refine g_iload_n dX11_matches_23 rfl rfl ?_
        refine g_callS (kc := kc) (kc' := 0) (ks := ks) (ks' := 0) (as := [vI x3]) (st := []) dX11_matches_24 cB_X11_isSoundOrNothing lk_X11_214 st_X11_isSoundOrNothing rfl (Nat.le_of_ble_eq_true rfl) (Nat.le_of_ble_eq_true rfl) ?_
        refine Go.to (fun r G' D5 hr => ?_) h
        obtain ⟨rfl, z6, rfl, h⟩ := hr
        show Go E (d + 1) kc ks mX11_matches 27 [some (vR 2), some (vI x1), some (vI x2), some (vI x3), some (vI x4), none, none, none, none] [vI z6] G D5 Q
        refine g_if_eq 45 dX11_matches_27 (by decide) ⟨fun hc => ?_, fun hc => ?_⟩
        · replace h := h.1 hc
          refine g_bipush dX11_matches_45 bp_m2 ?_
          exact g_iret dX11_matches_47 rfl h
        · replace h := h.2 hc
          refine g_iload dX11_matches_30 rfl ?_
          refine g_callS (kc := kc) (kc' := 0) (ks := ks) (ks' := 0) (as := [vI x4]) (st := []) dX11_matches_32 cB_X11_isSoundOrNothing lk_X11_214 st_X11_isSoundOrNothing rfl (Nat.le_of_ble_eq_true rfl) (Nat.le_of_ble_eq_true rfl) ?_
          refine Go.to (fun r G' D7 hr => ?_) h
          obtain ⟨rfl, z8, rfl, h⟩ := hr
          show Go E (d + 1) kc ks mX11_matches 35 [some (vR 2), some (vI x1), some (vI x2), some (vI x3), some (vI x4), none, none, none, none] [vI z8] G D7 Q
          refine g_if_eq 45 dX11_matches_35 (by decide) ⟨fun hc => ?_, fun hc => ?_⟩
          · replace h := h.1 hc
            refine g_bipush dX11_matches_45 bp_m2 ?_
            exact g_iret dX11_matches_47 rfl h
          · replace h := h.2 hc
            refine g_iload_n dX11_matches_38 rfl rfl ?_
            refine g_iload dX11_matches_39 rfl ?_
            refine g_iadd dX11_matches_41 ?_
            refine g_if_ne 48 dX11_matches_42 (by decide) ⟨fun hc => ?_, fun hc => ?_⟩
            · replace h := h.1 hc
              refine g_iconst dX11_matches_48 ?_
              refine h_istore (L' := [some (vR 2), some (vI x1), some (vI x2), some (vI x3), some (vI x4), some (vI 0), none, none, none]) dX11_matches_49 (Nat.le_of_ble_eq_true rfl) rfl rfl ?_
              refine g_iconst dX11_matches_51 ?_
              refine h_istore (L' := [some (vR 2), some (vI x1), some (vI x2), some (vI x3), some (vI x4), some (vI 0), some (vI 0), none, none]) dX11_matches_52 (Nat.le_of_ble_eq_true rfl) rfl rfl ?_
              exact Go.drop (by simp only [mm_sub, and_self]) h
            · replace h := h.2 hc
              refine g_bipush dX11_matches_45 bp_m2 ?_
              exact g_iret dX11_matches_47 rfl h
    · replace h := h.2 hc
      refine g_iconst dX11_matches_16 ?_
      exact g_iret dX11_matches_17 rfl h
set_option maxRecDepth 20000 in
theorem w_X11_matches_54 {E : mmE} {d kc ks : Nat} {G : mmG} {D : mmD} {Q : mmQ} {x1 x2 x3 x4 x5 x6 : Int} (hG : Sh G)  (h : ((iv 10 ≤ iv x6 → Q (some (vI x5)) G D) ∧ (¬ iv 10 ≤ iv x6 → Call E d 0 0 mX11_listedWord [vR 2, vI x1, vI x6] G D (retR G (fun z2 D1 => Call E d 0 0 mX11_listedWord [vR 2, vI x2, vI x6] G D1 (retR G (fun z4 D3 => ((z2 = 0 → Go E (d + 1) kc ks mX11_matches 54 [some (vR 2), some (vI x1), some (vI x2), some (vI x3), some (vI x4), some (vI x5), some (vI (x6 + 1)), none, none] [] G D3 Q) ∧ (¬ z2 = 0 → ((z4 = 0 → Go E (d + 1) kc ks mX11_matches 54 [some (vR 2), some (vI x1), some (vI x2), some (vI x3), some (vI x4), some (vI x5), some (vI (x6 + 1)), none, none] [] G D3 Q) ∧ (¬ z4 = 0 → Call E d 0 0 mX11_areKin [vR 2, vR z2, vR z4] G D3 (retI G (fun z6 D5 => ((iv z6 = iv 0 → Go E (d + 1) kc ks mX11_matches 54 [some (vR 2), some (vI x1), some (vI x2), some (vI x3), some (vI x4), some (vI x5), some (vI (x6 + 1)), none, none] [] G D5 Q) ∧ (¬ iv z6 = iv 0 → Call E d 0 0 mX7_lay [vR 9, vR z2, vR z4] G D5 (retV G (fun D7 => Call E d 0 0 mX7_hasPair [vR 9, vI ((100 * x3) + x4)] G D7 (retI G (fun z10 D9 => Call E d 0 0 mX11_oneIf [vI z10] G D9 (retI G (fun z12 D11 => Go E (d + 1) kc ks mX11_matches 54 [some (vR 2), some (vI x1), some (vI x2), some (vI x3), some (vI x4), some (vI (x5 + z12)), some (vI (x6 + 1)), none, none] [] G D11 Q))))))))))))))))))))) : Go E (d + 1) kc ks mX11_matches 54 [some (vR 2), some (vI x1), some (vI x2), some (vI x3), some (vI x4), some (vI x5), some (vI x6), none, none] [] G D Q := by
  refine g_iload dX11_matches_54 rfl ?_
  refine g_bipush dX11_matches_56 bp_10 ?_
  refine g_icmp_ge 139 dX11_matches_58 (by decide) ⟨fun hc => ?_, fun hc => ?_⟩
  · replace h := h.1 hc
    refine g_iload dX11_matches_139 rfl ?_
    exact g_iret dX11_matches_141 rfl h
  · replace h := h.2 hc
    refine g_aload_n dX11_matches_61 rfl rfl ?_
    refine g_iload_n dX11_matches_62 rfl rfl ?_
    refine g_iload dX11_matches_63 rfl ?_
    refine g_callV (kc := kc) (kc' := 0) (ks := ks) (ks' := 0) (as := [vI x1, vI x6]) (st := []) (ci := 10) dX11_matches_65 cB_X11_listedWord lk_X11_190 in_X11_listedWord se_X11_listedWord (by decide) rfl rfl (Nat.le_of_ble_eq_true rfl) (Nat.le_of_ble_eq_true rfl) (by decide) (hG.lt (by decide)) (congrArg Prod.fst hG.k2) ?_
    refine Go.to (fun r G' D1 hr => ?_) h
    obtain ⟨rfl, z2, rfl, h⟩ := hr
    show Go E (d + 1) kc ks mX11_matches 68 [some (vR 2), some (vI x1), some (vI x2), some (vI x3), some (vI x4), some (vI x5), some (vI x6), none, none] [vR z2] G D1 Q
    refine h_astore (L' := [some (vR 2), some (vI x1), some (vI x2), some (vI x3), some (vI x4), some (vI x5), some (vI x6), some (vR z2), none]) dX11_matches_68 (Nat.le_of_ble_eq_true rfl) rfl rfl ?_
    refine g_aload_n dX11_matches_70 rfl rfl ?_
    refine g_iload_n dX11_matches_71 rfl rfl ?_
    refine g_iload dX11_matches_72 rfl ?_
    refine g_callV (kc := kc) (kc' := 0) (ks := ks) (ks' := 0) (as := [vI x2, vI x6]) (st := []) (ci := 10) dX11_matches_74 cB_X11_listedWord lk_X11_190 in_X11_listedWord se_X11_listedWord (by decide) rfl rfl (Nat.le_of_ble_eq_true rfl) (Nat.le_of_ble_eq_true rfl) (by decide) (hG.lt (by decide)) (congrArg Prod.fst hG.k2) ?_
    refine Go.to (fun r G' D3 hr => ?_) h
    obtain ⟨rfl, z4, rfl, h⟩ := hr
    show Go E (d + 1) kc ks mX11_matches 77 [some (vR 2), some (vI x1), some (vI x2), some (vI x3), some (vI x4), some (vI x5), some (vI x6), some (vR z2), none] [vR z4] G D3 Q
    refine h_astore (L' := [some (vR 2), some (vI x1), some (vI x2), some (vI x3), some (vI x4), some (vI x5), some (vI x6), some (vR z2), some (vR z4)]) dX11_matches_77 (Nat.le_of_ble_eq_true rfl) rfl rfl ?_
    refine g_aload dX11_matches_79 rfl ?_
    refine g_ifnull 133 dX11_matches_81 (by decide) ⟨fun hc => ?_, fun hc => ?_⟩
    · replace h := h.1 hc
      refine h_iinc (L' := [some (vR 2), some (vI x1), some (vI x2), some (vI x3), some (vI x4), some (vI x5), some (vI (x6 + 1)), some (vR z2), some (vR z4)]) dX11_matches_133 (Nat.le_of_ble_eq_true rfl) rfl rfl rfl ?_
      refine g_goto 54 dX11_matches_136 (by decide) ?_
      exact Go.drop (by simp only [mm_sub, and_self]) h
    · replace h := h.2 hc
      refine g_aload dX11_matches_84 rfl ?_
      refine g_ifnull 133 dX11_matches_86 (by decide) ⟨fun hc => ?_, fun hc => ?_⟩
      · replace h := h.1 hc
        refine h_iinc (L' := [some (vR 2), some (vI x1), some (vI x2), some (vI x3), some (vI x4), some (vI x5), some (vI (x6 + 1)), some (vR z2), some (vR z4)]) dX11_matches_133 (Nat.le_of_ble_eq_true rfl) rfl rfl rfl ?_
        refine g_goto 54 dX11_matches_136 (by decide) ?_
        exact Go.drop (by simp only [mm_sub, and_self]) h
      · replace h := h.2 hc
        refine g_aload_n dX11_matches_89 rfl rfl ?_
        refine g_aload dX11_matches_90 rfl ?_
        refine g_aload dX11_matches_92 rfl ?_
        refine g_callV (kc := kc) (kc' := 0) (ks := ks) (ks' := 0) (as := [vR z2, vR z4]) (st := []) (ci := 10) dX11_matches_94 cB_X11_areKin lk_X11_207 in_X11_areKin se_X11_areKin (by decide) rfl rfl (Nat.le_of_ble_eq_true rfl) (Nat.le_of_ble_eq_true rfl) (by decide) (hG.lt (by decide)) (congrArg Prod.fst hG.k2) ?_
        refine Go.to (fun r G' D5 hr => ?_) h
        obtain ⟨rfl, z6, rfl, h⟩ := hr
        show Go E (d + 1) kc ks mX11_matches 97 [some (vR 2), some (vI x1), some (vI x2), some (vI x3), some (vI x4), some (vI x5), some (vI x6), some (vR z2), some (vR z4)] [vI z6] G D5 Q
        refine g_if_eq 133 dX11_matches_97 (by decide) ⟨fun hc => ?_, fun hc => ?_⟩
        · replace h := h.1 hc
          refine h_iinc (L' := [some (vR 2), some (vI x1), some (vI x2), some (vI x3), some (vI x4), some (vI x5), some (vI (x6 + 1)), some (vR z2), some (vR z4)]) dX11_matches_133 (Nat.le_of_ble_eq_true rfl) rfl rfl rfl ?_
          refine g_goto 54 dX11_matches_136 (by decide) ?_
          exact Go.drop (by simp only [mm_sub, and_self]) h
        · replace h := h.2 hc
          refine g_aload_n dX11_matches_100 rfl rfl ?_
          refine h_getR (j := 16) dX11_matches_101 f_X11_44_10 rfl rfl (by decide) hG.k2 (by decide) (hG.lt (by decide)) hG.r2_16 ?_
          refine g_aload dX11_matches_104 rfl ?_
          refine g_aload dX11_matches_106 rfl ?_
          refine g_callV (kc := kc) (kc' := 0) (ks := ks) (ks' := 0) (as := [vR z2, vR z4]) (st := []) (ci := 6) dX11_matches_108 cB_X7_lay lk_X11_197 in_X7_lay se_X7_lay (by decide) rfl rfl (Nat.le_of_ble_eq_true rfl) (Nat.le_of_ble_eq_true rfl) (by decide) (hG.lt (by decide)) (congrArg Prod.fst hG.k9) ?_
          refine Go.to (fun r G' D7 hr => ?_) h
          obtain ⟨rfl, rfl, h⟩ := hr
          show Go E (d + 1) kc ks mX11_matches 111 [some (vR 2), some (vI x1), some (vI x2), some (vI x3), some (vI x4), some (vI x5), some (vI x6), some (vR z2), some (vR z4)] [] G D7 Q
          refine g_iload dX11_matches_111 rfl ?_
          refine g_aload_n dX11_matches_113 rfl rfl ?_
          refine h_getR (j := 16) dX11_matches_114 f_X11_44_10 rfl rfl (by decide) hG.k2 (by decide) (hG.lt (by decide)) hG.r2_16 ?_
          refine g_bipush dX11_matches_117 bp_100 ?_
          refine g_iload_n dX11_matches_119 rfl rfl ?_
          refine g_imul dX11_matches_120 ?_
          refine g_iload dX11_matches_121 rfl ?_
          refine g_iadd dX11_matches_123 ?_
          refine g_callV (kc := kc) (kc' := 0) (ks := ks) (ks' := 0) (as := [vI ((100 * x3) + x4)]) (st := [vI x5]) (ci := 6) dX11_matches_124 cB_X7_hasPair lk_X11_217 in_X7_hasPair se_X7_hasPair (by decide) rfl rfl (Nat.le_of_ble_eq_true rfl) (Nat.le_of_ble_eq_true rfl) (by decide) (hG.lt (by decide)) (congrArg Prod.fst hG.k9) ?_
          refine Go.to (fun r G' D9 hr => ?_) h
          obtain ⟨rfl, z10, rfl, h⟩ := hr
          show Go E (d + 1) kc ks mX11_matches 127 [some (vR 2), some (vI x1), some (vI x2), some (vI x3), some (vI x4), some (vI x5), some (vI x6), some (vR z2), some (vR z4)] [vI z10, vI x5] G D9 Q
          refine g_callS (kc := kc) (kc' := 0) (ks := ks) (ks' := 0) (as := [vI z10]) (st := [vI x5]) dX11_matches_127 cB_X11_oneIf lk_X11_163 st_X11_oneIf rfl (Nat.le_of_ble_eq_true rfl) (Nat.le_of_ble_eq_true rfl) ?_
          refine Go.to (fun r G' D11 hr => ?_) h
          obtain ⟨rfl, z12, rfl, h⟩ := hr
          show Go E (d + 1) kc ks mX11_matches 130 [some (vR 2), some (vI x1), some (vI x2), some (vI x3), some (vI x4), some (vI x5), some (vI x6), some (vR z2), some (vR z4)] [vI z12, vI x5] G D11 Q
          refine g_iadd dX11_matches_130 ?_
          refine h_istore (L' := [some (vR 2), some (vI x1), some (vI x2), some (vI x3), some (vI x4), some (vI (x5 + z12)), some (vI x6), some (vR z2), some (vR z4)]) dX11_matches_131 (Nat.le_of_ble_eq_true rfl) rfl rfl ?_
          refine h_iinc (L' := [some (vR 2), some (vI x1), some (vI x2), some (vI x3), some (vI x4), some (vI (x5 + z12)), some (vI (x6 + 1)), some (vR z2), some (vR z4)]) dX11_matches_133 (Nat.le_of_ble_eq_true rfl) rfl rfl rfl ?_
          refine g_goto 54 dX11_matches_136 (by decide) ?_
          exact Go.drop (by simp only [mm_sub, and_self]) h
set_option maxRecDepth 20000 in
theorem w_X11_far {E : mmE} {d kc ks : Nat} {G : mmG} {D : mmD} {Q : mmQ} {x1 x2 x3 : Int} (hG : Sh G)  (h : Call E d 0 0 mX11_isTongue [vR 2, vI x1] G D (retI G (fun z2 D1 => ((iv z2 = iv 0 → Q (some (vI (-1))) G D1) ∧ (¬ iv z2 = iv 0 → Call E d 0 0 mX11_isTongue [vR 2, vI x2] G D1 (retI G (fun z4 D3 => ((iv z4 = iv 0 → Q (some (vI (-1))) G D3) ∧ (¬ iv z4 = iv 0 → ((iv x3 < iv 0 → Q (some (vI (-1))) G D3) ∧ (¬ iv x3 < iv 0 → ((iv x3 ≤ iv 1 → ((¬ iv x1 = iv x2 → Call E d 0 0 mX11_meaningsOfBoth [vR 2, vI x1, vI x2] G D3 (retI G (fun z6 D5 => ((¬ iv x3 = iv 0 → Call E d 0 0 mJ6_bitCount_0f7a4 [vI z6] G D5 (retI G (fun z8 D7 => Q (some (vI z8)) G D7))) ∧ (iv x3 = iv 0 → Call E d 0 0 mX11_costsTogether [vR 2, vI x1, vI x2, vI z6] G D5 (retI G (fun z10 D9 => Q (some (vI z10)) G D9))))))) ∧ (iv x1 = iv x2 → Q (some (vI (-2))) G D3))) ∧ (¬ iv x3 ≤ iv 1 → Q (some (vI (-1))) G D3))))))))))))) : Call E (d + 1) kc ks mX11_far [vR 2, vI x1, vI x2, vI x3] G D Q := by
  show Go E (d + 1) kc ks mX11_far 0 [some (vR 2), some (vI x1), some (vI x2), some (vI x3), none] [] G D Q
  refine g_aload_n dX11_far_0 rfl rfl ?_
  refine g_iload_n dX11_far_1 rfl rfl ?_
  refine g_callV (kc := kc) (kc' := 0) (ks := ks) (ks' := 0) (as := [vI x1]) (st := []) (ci := 10) dX11_far_2 cB_X11_isTongue lk_X11_84 in_X11_isTongue se_X11_isTongue (by decide) rfl rfl (Nat.le_of_ble_eq_true rfl) (Nat.le_of_ble_eq_true rfl) (by decide) (hG.lt (by decide)) (congrArg Prod.fst hG.k2) ?_
  refine Go.to (fun r G' D1 hr => ?_) h
  obtain ⟨rfl, z2, rfl, h⟩ := hr
  show Go E (d + 1) kc ks mX11_far 5 [some (vR 2), some (vI x1), some (vI x2), some (vI x3), none] [vI z2] G D1 Q
  refine g_if_eq 25 dX11_far_5 (by decide) ⟨fun hc => ?_, fun hc => ?_⟩
  · replace h := h.1 hc
    refine g_iconst dX11_far_25 ?_
    exact g_iret dX11_far_26 rfl h
  · replace h := h.2 hc
    refine g_aload_n dX11_far_8 rfl rfl ?_
    refine g_iload_n dX11_far_9 rfl rfl ?_
    refine g_callV (kc := kc) (kc' := 0) (ks := ks) (ks' := 0) (as := [vI x2]) (st := []) (ci := 10) dX11_far_10 cB_X11_isTongue lk_X11_84 in_X11_isTongue se_X11_isTongue (by decide) rfl rfl (Nat.le_of_ble_eq_true rfl) (Nat.le_of_ble_eq_true rfl) (by decide) (hG.lt (by decide)) (congrArg Prod.fst hG.k2) ?_
    refine Go.to (fun r G' D3 hr => ?_) h
    obtain ⟨rfl, z4, rfl, h⟩ := hr
    show Go E (d + 1) kc ks mX11_far 13 [some (vR 2), some (vI x1), some (vI x2), some (vI x3), none] [vI z4] G D3 Q
    refine g_if_eq 25 dX11_far_13 (by decide) ⟨fun hc => ?_, fun hc => ?_⟩
    · replace h := h.1 hc
      refine g_iconst dX11_far_25 ?_
      exact g_iret dX11_far_26 rfl h
    · replace h := h.2 hc
      refine g_iload_n dX11_far_16 rfl rfl ?_
      refine g_if_lt 25 dX11_far_17 (by decide) ⟨fun hc => ?_, fun hc => ?_⟩
      · replace h := h.1 hc
        refine g_iconst dX11_far_25 ?_
        exact g_iret dX11_far_26 rfl h
      · replace h := h.2 hc
        refine g_iload_n dX11_far_20 rfl rfl ?_
        refine g_iconst dX11_far_21 ?_
        refine g_icmp_le 27 dX11_far_22 (by decide) ⟨fun hc => ?_, fun hc => ?_⟩
        · replace h := h.1 hc
          refine g_iload_n dX11_far_27 rfl rfl ?_
          refine g_iload_n dX11_far_28 rfl rfl ?_
          refine g_icmp_ne 35 dX11_far_29 (by decide) ⟨fun hc => ?_, fun hc => ?_⟩
          · replace h := h.1 hc
            refine g_aload_n dX11_far_35 rfl rfl ?_
            refine g_iload_n dX11_far_36 rfl rfl ?_
            refine g_iload_n dX11_far_37 rfl rfl ?_
            refine g_callV (kc := kc) (kc' := 0) (ks := ks) (ks' := 0) (as := [vI x1, vI x2]) (st := []) (ci := 10) dX11_far_38 cB_X11_meaningsOfBoth lk_X11_220 in_X11_meaningsOfBoth se_X11_meaningsOfBoth (by decide) rfl rfl (Nat.le_of_ble_eq_true rfl) (Nat.le_of_ble_eq_true rfl) (by decide) (hG.lt (by decide)) (congrArg Prod.fst hG.k2) ?_
            refine Go.to (fun r G' D5 hr => ?_) h
            obtain ⟨rfl, z6, rfl, h⟩ := hr
            show Go E (d + 1) kc ks mX11_far 41 [some (vR 2), some (vI x1), some (vI x2), some (vI x3), none] [vI z6] G D5 Q
            refine h_istore (L' := [some (vR 2), some (vI x1), some (vI x2), some (vI x3), some (vI z6)]) dX11_far_41 (Nat.le_of_ble_eq_true rfl) rfl rfl ?_
            refine g_iload_n dX11_far_43 rfl rfl ?_
            refine g_if_ne 58 dX11_far_44 (by decide) ⟨fun hc => ?_, fun hc => ?_⟩
            · replace h := h.1 hc
              refine g_iload dX11_far_58 rfl ?_
              refine g_callS (kc := kc) (kc' := 0) (ks := ks) (ks' := 0) (as := [vI z6]) (st := []) dX11_far_60 cB_J6_bitCount_0f7a4 lk_X11_227 st_J6_bitCount_0f7a4 rfl (Nat.le_of_ble_eq_true rfl) (Nat.le_of_ble_eq_true rfl) ?_
              refine Go.to (fun r G' D7 hr => ?_) h
              obtain ⟨rfl, z8, rfl, h⟩ := hr
              show Go E (d + 1) kc ks mX11_far 63 [some (vR 2), some (vI x1), some (vI x2), some (vI x3), some (vI z6)] [vI z8] G D7 Q
              exact g_iret dX11_far_63 rfl h
            · replace h := h.2 hc
              refine g_aload_n dX11_far_47 rfl rfl ?_
              refine g_iload_n dX11_far_48 rfl rfl ?_
              refine g_iload_n dX11_far_49 rfl rfl ?_
              refine g_iload dX11_far_50 rfl ?_
              refine g_callV (kc := kc) (kc' := 0) (ks := ks) (ks' := 0) (as := [vI x1, vI x2, vI z6]) (st := []) (ci := 10) dX11_far_52 cB_X11_costsTogether lk_X11_223 in_X11_costsTogether se_X11_costsTogether (by decide) rfl rfl (Nat.le_of_ble_eq_true rfl) (Nat.le_of_ble_eq_true rfl) (by decide) (hG.lt (by decide)) (congrArg Prod.fst hG.k2) ?_
              refine Go.to (fun r G' D9 hr => ?_) h
              obtain ⟨rfl, z10, rfl, h⟩ := hr
              show Go E (d + 1) kc ks mX11_far 55 [some (vR 2), some (vI x1), some (vI x2), some (vI x3), some (vI z6)] [vI z10] G D9 Q
              refine g_goto 63 dX11_far_55 (by decide) ?_
              exact g_iret dX11_far_63 rfl h
          · replace h := h.2 hc
            refine g_bipush dX11_far_32 bp_m2 ?_
            exact g_iret dX11_far_34 rfl h
        · replace h := h.2 hc
          refine g_iconst dX11_far_25 ?_
          exact g_iret dX11_far_26 rfl h
set_option maxRecDepth 20000 in
theorem w_X11_borrowed {E : mmE} {d kc ks : Nat} {G : mmG} {D : mmD} {Q : mmQ} {x1 x2 x3 : Int} (hG : Sh G)  (h : Call E d 0 0 mX11_listedWord [vR 2, vI x2, vI x1] G D (retR G (fun z2 D1 => Call E d 0 0 mX11_listedWord [vR 2, vI x3, vI x1] G D1 (retR G (fun z4 D3 => ((z2 = 0 → Q (some (vI (-1))) G D3) ∧ (¬ z2 = 0 → ((¬ z4 = 0 → ((¬ iv x2 = iv x3 → Call E d 0 0 mX7_leastCost [vR 9, vR z2, vR z4] G D3 (retI G (fun z6 D5 => ((iv z6 = iv 0 → Call E d 0 0 mX11_meaningsOfBoth [vR 2, vI x2, vI x3] G D5 (retI G (fun z8 D7 => Call E d 0 0 mJ6_bitCount_0f7a4 [vI (iand z8 (ixor (ishl 1 x1) (-1)))] G D7 (retI G (fun z10 D9 => ((iv z10 < iv 2 → Call E d 0 0 mX11_oneIf [vI 0] G D9 (retI G (fun z12 D11 => Q (some (vI z12)) G D11))) ∧ (¬ iv z10 < iv 2 → Call E d 0 0 mX11_costsTogether [vR 2, vI x2, vI x3, vI (iand z8 (ixor (ishl 1 x1) (-1)))] G D9 (retI G (fun z14 D13 => ((iv z14 ≤ iv (2 * z10) → Call E d 0 0 mX11_oneIf [vI 0] G D13 (retI G (fun z16 D15 => Q (some (vI z16)) G D15))) ∧ (¬ iv z14 ≤ iv (2 * z10) → Call E d 0 0 mX11_oneIf [vI 1] G D13 (retI G (fun z18 D17 => Q (some (vI z18)) G D17))))))))))))) ∧ (¬ iv z6 = iv 0 → Q (some (vI 0)) G D5))))) ∧ (iv x2 = iv x3 → Q (some (vI (-2))) G D3))) ∧ (z4 = 0 → Q (some (vI (-1))) G D3))))))))) : Call E (d + 1) kc ks mX11_borrowed [vR 2, vI x1, vI x2, vI x3] G D Q := by
  show Go E (d + 1) kc ks mX11_borrowed 0 [some (vR 2), some (vI x1), some (vI x2), some (vI x3), none, none, none, none] [] G D Q
  refine g_aload_n dX11_borrowed_0 rfl rfl ?_
  refine g_iload_n dX11_borrowed_1 rfl rfl ?_
  refine g_iload_n dX11_borrowed_2 rfl rfl ?_
  refine g_callV (kc := kc) (kc' := 0) (ks := ks) (ks' := 0) (as := [vI x2, vI x1]) (st := []) (ci := 10) dX11_borrowed_3 cB_X11_listedWord lk_X11_190 in_X11_listedWord se_X11_listedWord (by decide) rfl rfl (Nat.le_of_ble_eq_true rfl) (Nat.le_of_ble_eq_true rfl) (by decide) (hG.lt (by decide)) (congrArg Prod.fst hG.k2) ?_
  refine Go.to (fun r G' D1 hr => ?_) h
  obtain ⟨rfl, z2, rfl, h⟩ := hr
  show Go E (d + 1) kc ks mX11_borrowed 6 [some (vR 2), some (vI x1), some (vI x2), some (vI x3), none, none, none, none] [vR z2] G D1 Q
  refine h_astore (L' := [some (vR 2), some (vI x1), some (vI x2), some (vI x3), some (vR z2), none, none, none]) dX11_borrowed_6 (Nat.le_of_ble_eq_true rfl) rfl rfl ?_
  refine g_aload_n dX11_borrowed_8 rfl rfl ?_
  refine g_iload_n dX11_borrowed_9 rfl rfl ?_
  refine g_iload_n dX11_borrowed_10 rfl rfl ?_
  refine g_callV (kc := kc) (kc' := 0) (ks := ks) (ks' := 0) (as := [vI x3, vI x1]) (st := []) (ci := 10) dX11_borrowed_11 cB_X11_listedWord lk_X11_190 in_X11_listedWord se_X11_listedWord (by decide) rfl rfl (Nat.le_of_ble_eq_true rfl) (Nat.le_of_ble_eq_true rfl) (by decide) (hG.lt (by decide)) (congrArg Prod.fst hG.k2) ?_
  refine Go.to (fun r G' D3 hr => ?_) h
  obtain ⟨rfl, z4, rfl, h⟩ := hr
  show Go E (d + 1) kc ks mX11_borrowed 14 [some (vR 2), some (vI x1), some (vI x2), some (vI x3), some (vR z2), none, none, none] [vR z4] G D3 Q
  refine h_astore (L' := [some (vR 2), some (vI x1), some (vI x2), some (vI x3), some (vR z2), some (vR z4), none, none]) dX11_borrowed_14 (Nat.le_of_ble_eq_true rfl) rfl rfl ?_
  refine g_aload dX11_borrowed_16 rfl ?_
  refine g_ifnull 26 dX11_borrowed_18 (by decide) ⟨fun hc => ?_, fun hc => ?_⟩
  · replace h := h.1 hc
    refine g_iconst dX11_borrowed_26 ?_
    exact g_iret dX11_borrowed_27 rfl h
  · replace h := h.2 hc
    refine g_aload dX11_borrowed_21 rfl ?_
    refine g_ifnonnull 28 dX11_borrowed_23 (by decide) ⟨fun hc => ?_, fun hc => ?_⟩
    · replace h := h.1 hc
      refine g_iload_n dX11_borrowed_28 rfl rfl ?_
      refine g_iload_n dX11_borrowed_29 rfl rfl ?_
      refine g_icmp_ne 36 dX11_borrowed_30 (by decide) ⟨fun hc => ?_, fun hc => ?_⟩
      · replace h := h.1 hc
        refine g_aload_n dX11_borrowed_36 rfl rfl ?_
        refine h_getR (j := 16) dX11_borrowed_37 f_X11_44_10 rfl rfl (by decide) hG.k2 (by decide) (hG.lt (by decide)) hG.r2_16 ?_
        refine g_aload dX11_borrowed_40 rfl ?_
        refine g_aload dX11_borrowed_42 rfl ?_
        refine g_callV (kc := kc) (kc' := 0) (ks := ks) (ks' := 0) (as := [vR z2, vR z4]) (st := []) (ci := 6) dX11_borrowed_44 cB_X7_leastCost lk_X11_193 in_X7_leastCost se_X7_leastCost (by decide) rfl rfl (Nat.le_of_ble_eq_true rfl) (Nat.le_of_ble_eq_true rfl) (by decide) (hG.lt (by decide)) (congrArg Prod.fst hG.k9) ?_
        refine Go.to (fun r G' D5 hr => ?_) h
        obtain ⟨rfl, z6, rfl, h⟩ := hr
        show Go E (d + 1) kc ks mX11_borrowed 47 [some (vR 2), some (vI x1), some (vI x2), some (vI x3), some (vR z2), some (vR z4), none, none] [vI z6] G D5 Q
        refine g_if_eq 52 dX11_borrowed_47 (by decide) ⟨fun hc => ?_, fun hc => ?_⟩
        · replace h := h.1 hc
          refine g_aload_n dX11_borrowed_52 rfl rfl ?_
          refine g_iload_n dX11_borrowed_53 rfl rfl ?_
          refine g_iload_n dX11_borrowed_54 rfl rfl ?_
          refine g_callV (kc := kc) (kc' := 0) (ks := ks) (ks' := 0) (as := [vI x2, vI x3]) (st := []) (ci := 10) dX11_borrowed_55 cB_X11_meaningsOfBoth lk_X11_220 in_X11_meaningsOfBoth se_X11_meaningsOfBoth (by decide) rfl rfl (Nat.le_of_ble_eq_true rfl) (Nat.le_of_ble_eq_true rfl) (by decide) (hG.lt (by decide)) (congrArg Prod.fst hG.k2) ?_
          refine Go.to (fun r G' D7 hr => ?_) h
          obtain ⟨rfl, z8, rfl, h⟩ := hr
          show Go E (d + 1) kc ks mX11_borrowed 58 [some (vR 2), some (vI x1), some (vI x2), some (vI x3), some (vR z2), some (vR z4), none, none] [vI z8] G D7 Q
          refine g_iconst dX11_borrowed_58 ?_
          refine g_iload_n dX11_borrowed_59 rfl rfl ?_
          refine g_ishl dX11_borrowed_60 ?_
          refine g_iconst dX11_borrowed_61 ?_
          refine g_ixor dX11_borrowed_62 ?_
          refine g_iand dX11_borrowed_63 ?_
          refine h_istore (L' := [some (vR 2), some (vI x1), some (vI x2), some (vI x3), some (vR z2), some (vR z4), some (vI (iand z8 (ixor (ishl 1 x1) (-1)))), none]) dX11_borrowed_64 (Nat.le_of_ble_eq_true rfl) rfl rfl ?_
          refine g_iload dX11_borrowed_66 rfl ?_
          refine g_callS (kc := kc) (kc' := 0) (ks := ks) (ks' := 0) (as := [vI (iand z8 (ixor (ishl 1 x1) (-1)))]) (st := []) dX11_borrowed_68 cB_J6_bitCount_0f7a4 lk_X11_227 st_J6_bitCount_0f7a4 rfl (Nat.le_of_ble_eq_true rfl) (Nat.le_of_ble_eq_true rfl) ?_
          refine Go.to (fun r G' D9 hr => ?_) h
          obtain ⟨rfl, z10, rfl, h⟩ := hr
          show Go E (d + 1) kc ks mX11_borrowed 71 [some (vR 2), some (vI x1), some (vI x2), some (vI x3), some (vR z2), some (vR z4), some (vI (iand z8 (ixor (ishl 1 x1) (-1)))), none] [vI z10] G D9 Q
          refine h_istore (L' := [some (vR 2), some (vI x1), some (vI x2), some (vI x3), some (vR z2), some (vR z4), some (vI (iand z8 (ixor (ishl 1 x1) (-1)))), some (vI z10)]) dX11_borrowed_71 (Nat.le_of_ble_eq_true rfl) rfl rfl ?_
          refine g_iload dX11_borrowed_73 rfl ?_
          refine g_iconst dX11_borrowed_75 ?_
          refine g_icmp_lt 98 dX11_borrowed_76 (by decide) ⟨fun hc => ?_, fun hc => ?_⟩
          · replace h := h.1 hc
            refine g_iconst dX11_borrowed_98 ?_
            refine g_callS (kc := kc) (kc' := 0) (ks := ks) (ks' := 0) (as := [vI 0]) (st := []) dX11_borrowed_99 cB_X11_oneIf lk_X11_163 st_X11_oneIf rfl (Nat.le_of_ble_eq_true rfl) (Nat.le_of_ble_eq_true rfl) ?_
            refine Go.to (fun r G' D11 hr => ?_) h
            obtain ⟨rfl, z12, rfl, h⟩ := hr
            show Go E (d + 1) kc ks mX11_borrowed 102 [some (vR 2), some (vI x1), some (vI x2), some (vI x3), some (vR z2), some (vR z4), some (vI (iand z8 (ixor (ishl 1 x1) (-1)))), some (vI z10)] [vI z12] G D11 Q
            exact g_iret dX11_borrowed_102 rfl h
          · replace h := h.2 hc
            refine g_aload_n dX11_borrowed_79 rfl rfl ?_
            refine g_iload_n dX11_borrowed_80 rfl rfl ?_
            refine g_iload_n dX11_borrowed_81 rfl rfl ?_
            refine g_iload dX11_borrowed_82 rfl ?_
            refine g_callV (kc := kc) (kc' := 0) (ks := ks) (ks' := 0) (as := [vI x2, vI x3, vI (iand z8 (ixor (ishl 1 x1) (-1)))]) (st := []) (ci := 10) dX11_borrowed_84 cB_X11_costsTogether lk_X11_223 in_X11_costsTogether se_X11_costsTogether (by decide) rfl rfl (Nat.le_of_ble_eq_true rfl) (Nat.le_of_ble_eq_true rfl) (by decide) (hG.lt (by decide)) (congrArg Prod.fst hG.k2) ?_
            refine Go.to (fun r G' D13 hr => ?_) h
            obtain ⟨rfl, z14, rfl, h⟩ := hr
            show Go E (d + 1) kc ks mX11_borrowed 87 [some (vR 2), some (vI x1), some (vI x2), some (vI x3), some (vR z2), some (vR z4), some (vI (iand z8 (ixor (ishl 1 x1) (-1)))), some (vI z10)] [vI z14] G D13 Q
            refine g_iconst dX11_borrowed_87 ?_
            refine g_iload dX11_borrowed_88 rfl ?_
            refine g_imul dX11_borrowed_90 ?_
            refine g_icmp_le 98 dX11_borrowed_91 (by decide) ⟨fun hc => ?_, fun hc => ?_⟩
            · replace h := h.1 hc
              refine g_iconst dX11_borrowed_98 ?_
              refine g_callS (kc := kc) (kc' := 0) (ks := ks) (ks' := 0) (as := [vI 0]) (st := []) dX11_borrowed_99 cB_X11_oneIf lk_X11_163 st_X11_oneIf rfl (Nat.le_of_ble_eq_true rfl) (Nat.le_of_ble_eq_true rfl) ?_
              refine Go.to (fun r G' D15 hr => ?_) h
              obtain ⟨rfl, z16, rfl, h⟩ := hr
              show Go E (d + 1) kc ks mX11_borrowed 102 [some (vR 2), some (vI x1), some (vI x2), some (vI x3), some (vR z2), some (vR z4), some (vI (iand z8 (ixor (ishl 1 x1) (-1)))), some (vI z10)] [vI z16] G D15 Q
              exact g_iret dX11_borrowed_102 rfl h
            · replace h := h.2 hc
              refine g_iconst dX11_borrowed_94 ?_
              refine g_goto 99 dX11_borrowed_95 (by decide) ?_
              refine g_callS (kc := kc) (kc' := 0) (ks := ks) (ks' := 0) (as := [vI 1]) (st := []) dX11_borrowed_99 cB_X11_oneIf lk_X11_163 st_X11_oneIf rfl (Nat.le_of_ble_eq_true rfl) (Nat.le_of_ble_eq_true rfl) ?_
              refine Go.to (fun r G' D17 hr => ?_) h
              obtain ⟨rfl, z18, rfl, h⟩ := hr
              show Go E (d + 1) kc ks mX11_borrowed 102 [some (vR 2), some (vI x1), some (vI x2), some (vI x3), some (vR z2), some (vR z4), some (vI (iand z8 (ixor (ishl 1 x1) (-1)))), some (vI z10)] [vI z18] G D17 Q
              exact g_iret dX11_borrowed_102 rfl h
        · replace h := h.2 hc
          refine g_iconst dX11_borrowed_50 ?_
          exact g_iret dX11_borrowed_51 rfl h
      · replace h := h.2 hc
        refine g_bipush dX11_borrowed_33 bp_m2 ?_
        exact g_iret dX11_borrowed_35 rfl h
    · replace h := h.2 hc
      refine g_iconst dX11_borrowed_26 ?_
      exact g_iret dX11_borrowed_27 rfl h
set_option maxRecDepth 20000 in
theorem w_X11_old {E : mmE} {d kc ks : Nat} {G : mmG} {D : mmD} {Q : mmQ} {x1 x2 : Int} (hG : Sh G)  (h : Call E d 0 0 mX11_isMeaning [vI x1] G D (retI G (fun z2 D1 => ((iv z2 = iv 0 → Q (some (vI (-1))) G D1) ∧ (¬ iv z2 = iv 0 → ((iv x2 < iv 0 → Q (some (vI (-1))) G D1) ∧ (¬ iv x2 < iv 0 → ((iv x2 ≤ iv 2 → Go E (d + 1) kc ks mX11_old 30 [some (vR 2), some (vI x1), some (vI x2), some (vI (-5)), some (vI 0), some (vI 0), some (vI 0), none] [] G D1 Q) ∧ (¬ iv x2 ≤ iv 2 → Q (some (vI (-1))) G D1))))))))) : Call E (d + 1) kc ks mX11_old [vR 2, vI x1, vI x2] G D Q := by
  show Go E (d + 1) kc ks mX11_old 0 [some (vR 2), some (vI x1), some (vI x2), none, none, none, none, none] [] G D Q
  refine g_iload_n dX11_old_0 rfl rfl ?_
  refine g_callS (kc := kc) (kc' := 0) (ks := ks) (ks' := 0) (as := [vI x1]) (st := []) dX11_old_1 cB_X11_isMeaning lk_X11_88 st_X11_isMeaning rfl (Nat.le_of_ble_eq_true rfl) (Nat.le_of_ble_eq_true rfl) ?_
  refine Go.to (fun r G' D1 hr => ?_) h
  obtain ⟨rfl, z2, rfl, h⟩ := hr
  show Go E (d + 1) kc ks mX11_old 4 [some (vR 2), some (vI x1), some (vI x2), none, none, none, none, none] [vI z2] G D1 Q
  refine g_if_eq 16 dX11_old_4 (by decide) ⟨fun hc => ?_, fun hc => ?_⟩
  · replace h := h.1 hc
    refine g_iconst dX11_old_16 ?_
    exact g_iret dX11_old_17 rfl h
  · replace h := h.2 hc
    refine g_iload_n dX11_old_7 rfl rfl ?_
    refine g_if_lt 16 dX11_old_8 (by decide) ⟨fun hc => ?_, fun hc => ?_⟩
    · replace h := h.1 hc
      refine g_iconst dX11_old_16 ?_
      exact g_iret dX11_old_17 rfl h
    · replace h := h.2 hc
      refine g_iload_n dX11_old_11 rfl rfl ?_
      refine g_iconst dX11_old_12 ?_
      refine g_icmp_le 18 dX11_old_13 (by decide) ⟨fun hc => ?_, fun hc => ?_⟩
      · replace h := h.1 hc
        refine g_bipush dX11_old_18 bp_m5 ?_
        refine h_istore_n (L' := [some (vR 2), some (vI x1), some (vI x2), some (vI (-5)), none, none, none, none]) dX11_old_20 rfl (Nat.le_of_ble_eq_true rfl) rfl rfl ?_
        refine g_iconst dX11_old_21 ?_
        refine h_istore (L' := [some (vR 2), some (vI x1), some (vI x2), some (vI (-5)), some (vI 0), none, none, none]) dX11_old_22 (Nat.le_of_ble_eq_true rfl) rfl rfl ?_
        refine g_iconst dX11_old_24 ?_
        refine h_istore (L' := [some (vR 2), some (vI x1), some (vI x2), some (vI (-5)), some (vI 0), some (vI 0), none, none]) dX11_old_25 (Nat.le_of_ble_eq_true rfl) rfl rfl ?_
        refine g_iconst dX11_old_27 ?_
        refine h_istore (L' := [some (vR 2), some (vI x1), some (vI x2), some (vI (-5)), some (vI 0), some (vI 0), some (vI 0), none]) dX11_old_28 (Nat.le_of_ble_eq_true rfl) rfl rfl ?_
        exact Go.drop (by simp only [mm_sub, and_self]) h
      · replace h := h.2 hc
        refine g_iconst dX11_old_16 ?_
        exact g_iret dX11_old_17 rfl h
set_option maxRecDepth 20000 in
theorem w_X11_old_30 {E : mmE} {d kc ks : Nat} {G : mmG} {D : mmD} {Q : mmQ} {x1 x2 x3 x4 x5 x6 : Int} (hG : Sh G)  (h : ((iv (D 2 3) ≤ iv x6 → ((iv 0 ≤ iv x3 → ((¬ iv x2 = iv 0 → ((¬ iv x2 = iv 1 → Q (some (vI x5)) G D) ∧ (iv x2 = iv 1 → Q (some (vI x4)) G D))) ∧ (iv x2 = iv 0 → Q (some (vI x3)) G D))) ∧ (¬ iv 0 ≤ iv x3 → Q (some (vI (-5))) G D))) ∧ (¬ iv (D 2 3) ≤ iv x6 → Call E d 0 0 mX11_listedWord [vR 2, vI x6, vI x1] G D (retR G (fun z2 D1 => ((z2 = 0 → Go E (d + 1) kc ks mX11_old 30 [some (vR 2), some (vI x1), some (vI x2), some (vI x3), some (vI x4), some (vI x5), some (vI (x6 + 1)), none] [] G D1 Q) ∧ (¬ z2 = 0 → Call E d 0 0 mX11_costsWithOthers [vR 2, vI x6, vI x1] G D1 (retI G (fun z4 D3 => ((iv x3 < iv 0 → ((¬ iv z4 = iv z4 → Call E d 0 0 mX11_oneIf [vI 0] G D3 (retI G (fun z6 D5 => Go E (d + 1) kc ks mX11_old 30 [some (vR 2), some (vI x1), some (vI x2), some (vI x6), some (vI z4), some (vI (0 + z6)), some (vI (x6 + 1)), none] [] G D5 Q))) ∧ (iv z4 = iv z4 → Call E d 0 0 mX11_oneIf [vI 1] G D3 (retI G (fun z8 D7 => Go E (d + 1) kc ks mX11_old 30 [some (vR 2), some (vI x1), some (vI x2), some (vI x6), some (vI z4), some (vI (0 + z8)), some (vI (x6 + 1)), none] [] G D7 Q))))) ∧ (¬ iv x3 < iv 0 → ((iv x4 ≤ iv z4 → ((¬ iv z4 = iv x4 → Call E d 0 0 mX11_oneIf [vI 0] G D3 (retI G (fun z10 D9 => Go E (d + 1) kc ks mX11_old 30 [some (vR 2), some (vI x1), some (vI x2), some (vI x3), some (vI x4), some (vI (x5 + z10)), some (vI (x6 + 1)), none] [] G D9 Q))) ∧ (iv z4 = iv x4 → Call E d 0 0 mX11_oneIf [vI 1] G D3 (retI G (fun z12 D11 => Go E (d + 1) kc ks mX11_old 30 [some (vR 2), some (vI x1), some (vI x2), some (vI x3), some (vI x4), some (vI (x5 + z12)), some (vI (x6 + 1)), none] [] G D11 Q))))) ∧ (¬ iv x4 ≤ iv z4 → ((¬ iv z4 = iv z4 → Call E d 0 0 mX11_oneIf [vI 0] G D3 (retI G (fun z14 D13 => Go E (d + 1) kc ks mX11_old 30 [some (vR 2), some (vI x1), some (vI x2), some (vI x6), some (vI z4), some (vI (0 + z14)), some (vI (x6 + 1)), none] [] G D13 Q))) ∧ (iv z4 = iv z4 → Call E d 0 0 mX11_oneIf [vI 1] G D3 (retI G (fun z16 D15 => Go E (d + 1) kc ks mX11_old 30 [some (vR 2), some (vI x1), some (vI x2), some (vI x6), some (vI z4), some (vI (0 + z16)), some (vI (x6 + 1)), none] [] G D15 Q))))))))))))))))) : Go E (d + 1) kc ks mX11_old 30 [some (vR 2), some (vI x1), some (vI x2), some (vI x3), some (vI x4), some (vI x5), some (vI x6), none] [] G D Q := by
  refine g_iload dX11_old_30 rfl ?_
  refine g_aload_n dX11_old_32 rfl rfl ?_
  refine h_getI (j := 3) dX11_old_33 f_X11_64_10 rfl rfl (by decide) hG.k2 (by decide) (hG.lt (by decide)) ?_
  refine g_icmp_ge 105 dX11_old_36 (by decide) ⟨fun hc => ?_, fun hc => ?_⟩
  · replace h := h.1 hc
    refine g_iload_n dX11_old_105 rfl rfl ?_
    refine g_if_ge 112 dX11_old_106 (by decide) ⟨fun hc => ?_, fun hc => ?_⟩
    · replace h := h.1 hc
      refine g_iload_n dX11_old_112 rfl rfl ?_
      refine g_if_ne 120 dX11_old_113 (by decide) ⟨fun hc => ?_, fun hc => ?_⟩
      · replace h := h.1 hc
        refine g_iload_n dX11_old_120 rfl rfl ?_
        refine g_iconst dX11_old_121 ?_
        refine g_icmp_ne 130 dX11_old_122 (by decide) ⟨fun hc => ?_, fun hc => ?_⟩
        · replace h := h.1 hc
          refine g_iload dX11_old_130 rfl ?_
          exact g_iret dX11_old_132 rfl h
        · replace h := h.2 hc
          refine g_iload dX11_old_125 rfl ?_
          refine g_goto 132 dX11_old_127 (by decide) ?_
          exact g_iret dX11_old_132 rfl h
      · replace h := h.2 hc
        refine g_iload_n dX11_old_116 rfl rfl ?_
        refine g_goto 132 dX11_old_117 (by decide) ?_
        exact g_iret dX11_old_132 rfl h
    · replace h := h.2 hc
      refine g_bipush dX11_old_109 bp_m5 ?_
      exact g_iret dX11_old_111 rfl h
  · replace h := h.2 hc
    refine g_aload_n dX11_old_39 rfl rfl ?_
    refine g_iload dX11_old_40 rfl ?_
    refine g_iload_n dX11_old_42 rfl rfl ?_
    refine g_callV (kc := kc) (kc' := 0) (ks := ks) (ks' := 0) (as := [vI x6, vI x1]) (st := []) (ci := 10) dX11_old_43 cB_X11_listedWord lk_X11_190 in_X11_listedWord se_X11_listedWord (by decide) rfl rfl (Nat.le_of_ble_eq_true rfl) (Nat.le_of_ble_eq_true rfl) (by decide) (hG.lt (by decide)) (congrArg Prod.fst hG.k2) ?_
    refine Go.to (fun r G' D1 hr => ?_) h
    obtain ⟨rfl, z2, rfl, h⟩ := hr
    show Go E (d + 1) kc ks mX11_old 46 [some (vR 2), some (vI x1), some (vI x2), some (vI x3), some (vI x4), some (vI x5), some (vI x6), none] [vR z2] G D1 Q
    refine g_ifnull 99 dX11_old_46 (by decide) ⟨fun hc => ?_, fun hc => ?_⟩
    · replace h := h.1 hc
      refine h_iinc (L' := [some (vR 2), some (vI x1), some (vI x2), some (vI x3), some (vI x4), some (vI x5), some (vI (x6 + 1)), none]) dX11_old_99 (Nat.le_of_ble_eq_true rfl) rfl rfl rfl ?_
      refine g_goto 30 dX11_old_102 (by decide) ?_
      exact Go.drop (by simp only [mm_sub, and_self]) h
    · replace h := h.2 hc
      refine g_aload_n dX11_old_49 rfl rfl ?_
      refine g_iload dX11_old_50 rfl ?_
      refine g_iload_n dX11_old_52 rfl rfl ?_
      refine g_callV (kc := kc) (kc' := 0) (ks := ks) (ks' := 0) (as := [vI x6, vI x1]) (st := []) (ci := 10) dX11_old_53 cB_X11_costsWithOthers lk_X11_232 in_X11_costsWithOthers se_X11_costsWithOthers (by decide) rfl rfl (Nat.le_of_ble_eq_true rfl) (Nat.le_of_ble_eq_true rfl) (by decide) (hG.lt (by decide)) (congrArg Prod.fst hG.k2) ?_
      refine Go.to (fun r G' D3 hr => ?_) h
      obtain ⟨rfl, z4, rfl, h⟩ := hr
      show Go E (d + 1) kc ks mX11_old 56 [some (vR 2), some (vI x1), some (vI x2), some (vI x3), some (vI x4), some (vI x5), some (vI x6), none] [vI z4] G D3 Q
      refine h_istore (L' := [some (vR 2), some (vI x1), some (vI x2), some (vI x3), some (vI x4), some (vI x5), some (vI x6), some (vI z4)]) dX11_old_56 (Nat.le_of_ble_eq_true rfl) rfl rfl ?_
      refine g_iload_n dX11_old_58 rfl rfl ?_
      refine g_if_lt 69 dX11_old_59 (by decide) ⟨fun hc => ?_, fun hc => ?_⟩
      · replace h := h.1 hc
        refine g_iload dX11_old_69 rfl ?_
        refine h_istore_n (L' := [some (vR 2), some (vI x1), some (vI x2), some (vI x6), some (vI x4), some (vI x5), some (vI x6), some (vI z4)]) dX11_old_71 rfl (Nat.le_of_ble_eq_true rfl) rfl rfl ?_
        refine g_iload dX11_old_72 rfl ?_
        refine h_istore (L' := [some (vR 2), some (vI x1), some (vI x2), some (vI x6), some (vI z4), some (vI x5), some (vI x6), some (vI z4)]) dX11_old_74 (Nat.le_of_ble_eq_true rfl) rfl rfl ?_
        refine g_iconst dX11_old_76 ?_
        refine h_istore (L' := [some (vR 2), some (vI x1), some (vI x2), some (vI x6), some (vI z4), some (vI 0), some (vI x6), some (vI z4)]) dX11_old_77 (Nat.le_of_ble_eq_true rfl) rfl rfl ?_
        refine g_iload dX11_old_79 rfl ?_
        refine g_iload dX11_old_81 rfl ?_
        refine g_iload dX11_old_83 rfl ?_
        refine g_icmp_ne 92 dX11_old_85 (by decide) ⟨fun hc => ?_, fun hc => ?_⟩
        · replace h := h.1 hc
          refine g_iconst dX11_old_92 ?_
          refine g_callS (kc := kc) (kc' := 0) (ks := ks) (ks' := 0) (as := [vI 0]) (st := [vI 0]) dX11_old_93 cB_X11_oneIf lk_X11_163 st_X11_oneIf rfl (Nat.le_of_ble_eq_true rfl) (Nat.le_of_ble_eq_true rfl) ?_
          refine Go.to (fun r G' D5 hr => ?_) h
          obtain ⟨rfl, z6, rfl, h⟩ := hr
          show Go E (d + 1) kc ks mX11_old 96 [some (vR 2), some (vI x1), some (vI x2), some (vI x6), some (vI z4), some (vI 0), some (vI x6), some (vI z4)] [vI z6, vI 0] G D5 Q
          refine g_iadd dX11_old_96 ?_
          refine h_istore (L' := [some (vR 2), some (vI x1), some (vI x2), some (vI x6), some (vI z4), some (vI (0 + z6)), some (vI x6), some (vI z4)]) dX11_old_97 (Nat.le_of_ble_eq_true rfl) rfl rfl ?_
          refine h_iinc (L' := [some (vR 2), some (vI x1), some (vI x2), some (vI x6), some (vI z4), some (vI (0 + z6)), some (vI (x6 + 1)), some (vI z4)]) dX11_old_99 (Nat.le_of_ble_eq_true rfl) rfl rfl rfl ?_
          refine g_goto 30 dX11_old_102 (by decide) ?_
          exact Go.drop (by simp only [mm_sub, and_self]) h
        · replace h := h.2 hc
          refine g_iconst dX11_old_88 ?_
          refine g_goto 93 dX11_old_89 (by decide) ?_
          refine g_callS (kc := kc) (kc' := 0) (ks := ks) (ks' := 0) (as := [vI 1]) (st := [vI 0]) dX11_old_93 cB_X11_oneIf lk_X11_163 st_X11_oneIf rfl (Nat.le_of_ble_eq_true rfl) (Nat.le_of_ble_eq_true rfl) ?_
          refine Go.to (fun r G' D7 hr => ?_) h
          obtain ⟨rfl, z8, rfl, h⟩ := hr
          show Go E (d + 1) kc ks mX11_old 96 [some (vR 2), some (vI x1), some (vI x2), some (vI x6), some (vI z4), some (vI 0), some (vI x6), some (vI z4)] [vI z8, vI 0] G D7 Q
          refine g_iadd dX11_old_96 ?_
          refine h_istore (L' := [some (vR 2), some (vI x1), some (vI x2), some (vI x6), some (vI z4), some (vI (0 + z8)), some (vI x6), some (vI z4)]) dX11_old_97 (Nat.le_of_ble_eq_true rfl) rfl rfl ?_
          refine h_iinc (L' := [some (vR 2), some (vI x1), some (vI x2), some (vI x6), some (vI z4), some (vI (0 + z8)), some (vI (x6 + 1)), some (vI z4)]) dX11_old_99 (Nat.le_of_ble_eq_true rfl) rfl rfl rfl ?_
          refine g_goto 30 dX11_old_102 (by decide) ?_
          exact Go.drop (by simp only [mm_sub, and_self]) h
      · replace h := h.2 hc
        refine g_iload dX11_old_62 rfl ?_
        refine g_iload dX11_old_64 rfl ?_
        refine g_icmp_ge 79 dX11_old_66 (by decide) ⟨fun hc => ?_, fun hc => ?_⟩
        · replace h := h.1 hc
          refine g_iload dX11_old_79 rfl ?_
          refine g_iload dX11_old_81 rfl ?_
          refine g_iload dX11_old_83 rfl ?_
          refine g_icmp_ne 92 dX11_old_85 (by decide) ⟨fun hc => ?_, fun hc => ?_⟩
          · replace h := h.1 hc
            refine g_iconst dX11_old_92 ?_
            refine g_callS (kc := kc) (kc' := 0) (ks := ks) (ks' := 0) (as := [vI 0]) (st := [vI x5]) dX11_old_93 cB_X11_oneIf lk_X11_163 st_X11_oneIf rfl (Nat.le_of_ble_eq_true rfl) (Nat.le_of_ble_eq_true rfl) ?_
            refine Go.to (fun r G' D9 hr => ?_) h
            obtain ⟨rfl, z10, rfl, h⟩ := hr
            show Go E (d + 1) kc ks mX11_old 96 [some (vR 2), some (vI x1), some (vI x2), some (vI x3), some (vI x4), some (vI x5), some (vI x6), some (vI z4)] [vI z10, vI x5] G D9 Q
            refine g_iadd dX11_old_96 ?_
            refine h_istore (L' := [some (vR 2), some (vI x1), some (vI x2), some (vI x3), some (vI x4), some (vI (x5 + z10)), some (vI x6), some (vI z4)]) dX11_old_97 (Nat.le_of_ble_eq_true rfl) rfl rfl ?_
            refine h_iinc (L' := [some (vR 2), some (vI x1), some (vI x2), some (vI x3), some (vI x4), some (vI (x5 + z10)), some (vI (x6 + 1)), some (vI z4)]) dX11_old_99 (Nat.le_of_ble_eq_true rfl) rfl rfl rfl ?_
            refine g_goto 30 dX11_old_102 (by decide) ?_
            exact Go.drop (by simp only [mm_sub, and_self]) h
          · replace h := h.2 hc
            refine g_iconst dX11_old_88 ?_
            refine g_goto 93 dX11_old_89 (by decide) ?_
            refine g_callS (kc := kc) (kc' := 0) (ks := ks) (ks' := 0) (as := [vI 1]) (st := [vI x5]) dX11_old_93 cB_X11_oneIf lk_X11_163 st_X11_oneIf rfl (Nat.le_of_ble_eq_true rfl) (Nat.le_of_ble_eq_true rfl) ?_
            refine Go.to (fun r G' D11 hr => ?_) h
            obtain ⟨rfl, z12, rfl, h⟩ := hr
            show Go E (d + 1) kc ks mX11_old 96 [some (vR 2), some (vI x1), some (vI x2), some (vI x3), some (vI x4), some (vI x5), some (vI x6), some (vI z4)] [vI z12, vI x5] G D11 Q
            refine g_iadd dX11_old_96 ?_
            refine h_istore (L' := [some (vR 2), some (vI x1), some (vI x2), some (vI x3), some (vI x4), some (vI (x5 + z12)), some (vI x6), some (vI z4)]) dX11_old_97 (Nat.le_of_ble_eq_true rfl) rfl rfl ?_
            refine h_iinc (L' := [some (vR 2), some (vI x1), some (vI x2), some (vI x3), some (vI x4), some (vI (x5 + z12)), some (vI (x6 + 1)), some (vI z4)]) dX11_old_99 (Nat.le_of_ble_eq_true rfl) rfl rfl rfl ?_
            refine g_goto 30 dX11_old_102 (by decide) ?_
            exact Go.drop (by simp only [mm_sub, and_self]) h
        · replace h := h.2 hc
          refine g_iload dX11_old_69 rfl ?_
          refine h_istore_n (L' := [some (vR 2), some (vI x1), some (vI x2), some (vI x6), some (vI x4), some (vI x5), some (vI x6), some (vI z4)]) dX11_old_71 rfl (Nat.le_of_ble_eq_true rfl) rfl rfl ?_
          refine g_iload dX11_old_72 rfl ?_
          refine h_istore (L' := [some (vR 2), some (vI x1), some (vI x2), some (vI x6), some (vI z4), some (vI x5), some (vI x6), some (vI z4)]) dX11_old_74 (Nat.le_of_ble_eq_true rfl) rfl rfl ?_
          refine g_iconst dX11_old_76 ?_
          refine h_istore (L' := [some (vR 2), some (vI x1), some (vI x2), some (vI x6), some (vI z4), some (vI 0), some (vI x6), some (vI z4)]) dX11_old_77 (Nat.le_of_ble_eq_true rfl) rfl rfl ?_
          refine g_iload dX11_old_79 rfl ?_
          refine g_iload dX11_old_81 rfl ?_
          refine g_iload dX11_old_83 rfl ?_
          refine g_icmp_ne 92 dX11_old_85 (by decide) ⟨fun hc => ?_, fun hc => ?_⟩
          · replace h := h.1 hc
            refine g_iconst dX11_old_92 ?_
            refine g_callS (kc := kc) (kc' := 0) (ks := ks) (ks' := 0) (as := [vI 0]) (st := [vI 0]) dX11_old_93 cB_X11_oneIf lk_X11_163 st_X11_oneIf rfl (Nat.le_of_ble_eq_true rfl) (Nat.le_of_ble_eq_true rfl) ?_
            refine Go.to (fun r G' D13 hr => ?_) h
            obtain ⟨rfl, z14, rfl, h⟩ := hr
            show Go E (d + 1) kc ks mX11_old 96 [some (vR 2), some (vI x1), some (vI x2), some (vI x6), some (vI z4), some (vI 0), some (vI x6), some (vI z4)] [vI z14, vI 0] G D13 Q
            refine g_iadd dX11_old_96 ?_
            refine h_istore (L' := [some (vR 2), some (vI x1), some (vI x2), some (vI x6), some (vI z4), some (vI (0 + z14)), some (vI x6), some (vI z4)]) dX11_old_97 (Nat.le_of_ble_eq_true rfl) rfl rfl ?_
            refine h_iinc (L' := [some (vR 2), some (vI x1), some (vI x2), some (vI x6), some (vI z4), some (vI (0 + z14)), some (vI (x6 + 1)), some (vI z4)]) dX11_old_99 (Nat.le_of_ble_eq_true rfl) rfl rfl rfl ?_
            refine g_goto 30 dX11_old_102 (by decide) ?_
            exact Go.drop (by simp only [mm_sub, and_self]) h
          · replace h := h.2 hc
            refine g_iconst dX11_old_88 ?_
            refine g_goto 93 dX11_old_89 (by decide) ?_
            refine g_callS (kc := kc) (kc' := 0) (ks := ks) (ks' := 0) (as := [vI 1]) (st := [vI 0]) dX11_old_93 cB_X11_oneIf lk_X11_163 st_X11_oneIf rfl (Nat.le_of_ble_eq_true rfl) (Nat.le_of_ble_eq_true rfl) ?_
            refine Go.to (fun r G' D15 hr => ?_) h
            obtain ⟨rfl, z16, rfl, h⟩ := hr
            show Go E (d + 1) kc ks mX11_old 96 [some (vR 2), some (vI x1), some (vI x2), some (vI x6), some (vI z4), some (vI 0), some (vI x6), some (vI z4)] [vI z16, vI 0] G D15 Q
            refine g_iadd dX11_old_96 ?_
            refine h_istore (L' := [some (vR 2), some (vI x1), some (vI x2), some (vI x6), some (vI z4), some (vI (0 + z16)), some (vI x6), some (vI z4)]) dX11_old_97 (Nat.le_of_ble_eq_true rfl) rfl rfl ?_
            refine h_iinc (L' := [some (vR 2), some (vI x1), some (vI x2), some (vI x6), some (vI z4), some (vI (0 + z16)), some (vI (x6 + 1)), some (vI z4)]) dX11_old_99 (Nat.le_of_ble_eq_true rfl) rfl rfl rfl ?_
            refine g_goto 30 dX11_old_102 (by decide) ?_
            exact Go.drop (by simp only [mm_sub, and_self]) h
set_option maxRecDepth 20000 in
theorem w_X11_best {E : mmE} {d kc ks : Nat} {G : mmG} {D : mmD} {Q : mmQ} {x1 x2 x3 x4 : Int} (hG : Sh G)  (h : Call E d 0 0 mX11_isTongue [vR 2, vI x1] G D (retI G (fun z2 D1 => ((iv z2 = iv 0 → Q (some (vI (-1))) G D1) ∧ (¬ iv z2 = iv 0 → Call E d 0 0 mX11_isTongue [vR 2, vI x2] G D1 (retI G (fun z4 D3 => ((iv z4 = iv 0 → Q (some (vI (-1))) G D3) ∧ (¬ iv z4 = iv 0 → ((iv (-2) ≤ iv x4 → Call E d 0 0 mJ6_bitCount_0f7a4 [vI x3] G D3 (retI G (fun z6 D5 => ((iv x1 = iv x2 → Q (some (vI (-2))) G D5) ∧ (¬ iv x1 = iv x2 → ((¬ iv (iushr x3 (D5 2 6)) = iv 0 → Q (some (vI (-2))) G D5) ∧ (iv (iushr x3 (D5 2 6)) = iv 0 → ((iv z6 < iv 1 → Q (some (vI (-2))) G D5) ∧ (¬ iv z6 < iv 1 → ((iv z6 ≤ iv 4 → ((iv x4 < iv z6 → Call E d 1 4 mX11_firstOrder [vI x3] G D5 (retRG (fun z8 G9 D7 => (Sh G9 ∧ (isA4 G9 z8 ∧ (∀ G12 : mmG, G12 = mm_push G9 12 4 → ∀ D14 : mmD, D14 = mm_zero D7 G9.1 → Go E (d + 1) kc ks mX11_best 92 [some (vR 2), some (vI x1), some (vI x2), none, some (vI x4), some (vI z6), some (vR z8), some (vR (G9.1)), some (vI 0), some (vI (-1)), some (vI 1), some (vI 0), none] [] G12 D14 Q)))))) ∧ (¬ iv x4 < iv z6 → Q (some (vI (-1))) G D5))) ∧ (¬ iv z6 ≤ iv 4 → Q (some (vI (-2))) G D5))))))))))) ∧ (¬ iv (-2) ≤ iv x4 → Q (some (vI (-1))) G D3))))))))))) : Call E (d + 1) (kc + 2) (ks + 8) mX11_best [vR 2, vI x1, vI x2, vI x3, vI x4] G D Q := by
  show Go E (d + 1) (kc + 2) (ks + 8) mX11_best 0 [some (vR 2), some (vI x1), some (vI x2), some (vI x3), some (vI x4), none, none, none, none, none, none, none, none] [] G D Q
  refine g_aload_n dX11_best_0 rfl rfl ?_
  refine g_iload_n dX11_best_1 rfl rfl ?_
  refine g_callV (kc := (kc + 2)) (kc' := 0) (ks := (ks + 8)) (ks' := 0) (as := [vI x1]) (st := []) (ci := 10) dX11_best_2 cB_X11_isTongue lk_X11_84 in_X11_isTongue se_X11_isTongue (by decide) rfl rfl (Nat.le_of_ble_eq_true rfl) (Nat.le_of_ble_eq_true rfl) (by decide) (hG.lt (by decide)) (congrArg Prod.fst hG.k2) ?_
  refine Go.to (fun r G' D1 hr => ?_) h
  obtain ⟨rfl, z2, rfl, h⟩ := hr
  show Go E (d + 1) (kc + 2) (ks + 8) mX11_best 5 [some (vR 2), some (vI x1), some (vI x2), some (vI x3), some (vI x4), none, none, none, none, none, none, none, none] [vI z2] G D1 Q
  refine g_if_eq 23 dX11_best_5 (by decide) ⟨fun hc => ?_, fun hc => ?_⟩
  · replace h := h.1 hc
    refine g_iconst dX11_best_23 ?_
    exact g_iret dX11_best_24 rfl h
  · replace h := h.2 hc
    refine g_aload_n dX11_best_8 rfl rfl ?_
    refine g_iload_n dX11_best_9 rfl rfl ?_
    refine g_callV (kc := (kc + 2)) (kc' := 0) (ks := (ks + 8)) (ks' := 0) (as := [vI x2]) (st := []) (ci := 10) dX11_best_10 cB_X11_isTongue lk_X11_84 in_X11_isTongue se_X11_isTongue (by decide) rfl rfl (Nat.le_of_ble_eq_true rfl) (Nat.le_of_ble_eq_true rfl) (by decide) (hG.lt (by decide)) (congrArg Prod.fst hG.k2) ?_
    refine Go.to (fun r G' D3 hr => ?_) h
    obtain ⟨rfl, z4, rfl, h⟩ := hr
    show Go E (d + 1) (kc + 2) (ks + 8) mX11_best 13 [some (vR 2), some (vI x1), some (vI x2), some (vI x3), some (vI x4), none, none, none, none, none, none, none, none] [vI z4] G D3 Q
    refine g_if_eq 23 dX11_best_13 (by decide) ⟨fun hc => ?_, fun hc => ?_⟩
    · replace h := h.1 hc
      refine g_iconst dX11_best_23 ?_
      exact g_iret dX11_best_24 rfl h
    · replace h := h.2 hc
      refine g_iload dX11_best_16 rfl ?_
      refine g_bipush dX11_best_18 bp_m2 ?_
      refine g_icmp_ge 25 dX11_best_20 (by decide) ⟨fun hc => ?_, fun hc => ?_⟩
      · replace h := h.1 hc
        refine g_iload_n dX11_best_25 rfl rfl ?_
        refine g_callS (kc := (kc + 2)) (kc' := 0) (ks := (ks + 8)) (ks' := 0) (as := [vI x3]) (st := []) dX11_best_26 cB_J6_bitCount_0f7a4 lk_X11_227 st_J6_bitCount_0f7a4 rfl (Nat.le_of_ble_eq_true rfl) (Nat.le_of_ble_eq_true rfl) ?_
        refine Go.to (fun r G' D5 hr => ?_) h
        obtain ⟨rfl, z6, rfl, h⟩ := hr
        show Go E (d + 1) (kc + 2) (ks + 8) mX11_best 29 [some (vR 2), some (vI x1), some (vI x2), some (vI x3), some (vI x4), none, none, none, none, none, none, none, none] [vI z6] G D5 Q
        refine h_istore (L' := [some (vR 2), some (vI x1), some (vI x2), some (vI x3), some (vI x4), some (vI z6), none, none, none, none, none, none, none]) dX11_best_29 (Nat.le_of_ble_eq_true rfl) rfl rfl ?_
        refine g_iload_n dX11_best_31 rfl rfl ?_
        refine g_iload_n dX11_best_32 rfl rfl ?_
        refine g_icmp_eq 57 dX11_best_33 (by decide) ⟨fun hc => ?_, fun hc => ?_⟩
        · replace h := h.1 hc
          refine g_bipush dX11_best_57 bp_m2 ?_
          exact g_iret dX11_best_59 rfl h
        · replace h := h.2 hc
          refine g_iload_n dX11_best_36 rfl rfl ?_
          refine g_aload_n dX11_best_37 rfl rfl ?_
          refine h_getI (j := 6) dX11_best_38 f_X11_77_10 rfl rfl (by decide) hG.k2 (by decide) (hG.lt (by decide)) ?_
          refine g_iushr dX11_best_41 ?_
          refine g_if_ne 57 dX11_best_42 (by decide) ⟨fun hc => ?_, fun hc => ?_⟩
          · replace h := h.1 hc
            refine g_bipush dX11_best_57 bp_m2 ?_
            exact g_iret dX11_best_59 rfl h
          · replace h := h.2 hc
            refine g_iload dX11_best_45 rfl ?_
            refine g_iconst dX11_best_47 ?_
            refine g_icmp_lt 57 dX11_best_48 (by decide) ⟨fun hc => ?_, fun hc => ?_⟩
            · replace h := h.1 hc
              refine g_bipush dX11_best_57 bp_m2 ?_
              exact g_iret dX11_best_59 rfl h
            · replace h := h.2 hc
              refine g_iload dX11_best_51 rfl ?_
              refine g_iconst dX11_best_53 ?_
              refine g_icmp_le 60 dX11_best_54 (by decide) ⟨fun hc => ?_, fun hc => ?_⟩
              · replace h := h.1 hc
                refine g_iload dX11_best_60 rfl ?_
                refine g_iload dX11_best_62 rfl ?_
                refine g_icmp_lt 69 dX11_best_64 (by decide) ⟨fun hc => ?_, fun hc => ?_⟩
                · replace h := h.1 hc
                  refine g_iload_n dX11_best_69 rfl rfl ?_
                  refine g_callS (kc := (kc + 1)) (kc' := 1) (ks := (ks + 4)) (ks' := 4) (as := [vI x3]) (st := []) dX11_best_70 cB_X11_firstOrder lk_X11_235 st_X11_firstOrder rfl (Nat.le_of_ble_eq_true rfl) (Nat.le_of_ble_eq_true rfl) ?_
                  refine Go.to (fun r G9 D7 hr => ?_) h
                  obtain ⟨z8, rfl, hG10, h⟩ := hr
                  have ha11 := h.1
                  replace h := h.2
                  show Go E (d + 1) (kc + 1) (ks + 4) mX11_best 73 [some (vR 2), some (vI x1), some (vI x2), some (vI x3), some (vI x4), some (vI z6), none, none, none, none, none, none, none] [vR z8] G9 D7 Q
                  refine h_astore (L' := [some (vR 2), some (vI x1), some (vI x2), some (vI x3), some (vI x4), some (vI z6), some (vR z8), none, none, none, none, none, none]) dX11_best_73 (Nat.le_of_ble_eq_true rfl) rfl rfl ?_
                  refine g_iconst dX11_best_75 ?_
                  refine g_newa (at0 := .int) (kd := 12) (kc := kc) (ks := ks) dX11_best_76 (Or.inl ⟨rfl, rfl⟩) ka_I (by decide) (by decide) (N := 4) rfl ?_
                  have hG13 := hG10.push (kd := 12) (n := 4)
                  have ha15 : isA4 (mm_push G9 12 4) G9.1 := ⟨hG10.1, by simp only [mm_push]; omega, by simp only [mm_push, if_true]⟩
                  have ha16 : isA4 (mm_push G9 12 4) z8 := ⟨ha11.1, by have := ha11.2.1; simp only [mm_push]; omega, by simp only [mm_push]; rw [if_neg (by have := ha11.2.1; omega)]; exact ha11.2.2⟩
                  generalize hG_G12 : mm_push G9 12 4 = G12 at hG13 ha15 ha16 ⊢
                  generalize hD_D14 : mm_zero D7 G9.1 = D14
                  replace h := h _ hG_G12.symm _ hD_D14.symm
                  refine h_astore (L' := [some (vR 2), some (vI x1), some (vI x2), some (vI x3), some (vI x4), some (vI z6), some (vR z8), some (vR (G9.1)), none, none, none, none, none]) dX11_best_78 (Nat.le_of_ble_eq_true rfl) rfl rfl ?_
                  refine g_iconst dX11_best_80 ?_
                  refine h_istore (L' := [some (vR 2), some (vI x1), some (vI x2), some (vI x3), some (vI x4), some (vI z6), some (vR z8), some (vR (G9.1)), some (vI 0), none, none, none, none]) dX11_best_81 (Nat.le_of_ble_eq_true rfl) rfl rfl ?_
                  refine g_iconst dX11_best_83 ?_
                  refine h_istore (L' := [some (vR 2), some (vI x1), some (vI x2), some (vI x3), some (vI x4), some (vI z6), some (vR z8), some (vR (G9.1)), some (vI 0), some (vI (-1)), none, none, none]) dX11_best_84 (Nat.le_of_ble_eq_true rfl) rfl rfl ?_
                  refine g_iconst dX11_best_86 ?_
                  refine h_istore (L' := [some (vR 2), some (vI x1), some (vI x2), some (vI x3), some (vI x4), some (vI z6), some (vR z8), some (vR (G9.1)), some (vI 0), some (vI (-1)), some (vI 1), none, none]) dX11_best_87 (Nat.le_of_ble_eq_true rfl) rfl rfl ?_
                  refine g_iconst dX11_best_89 ?_
                  refine h_istore (L' := [some (vR 2), some (vI x1), some (vI x2), some (vI x3), some (vI x4), some (vI z6), some (vR z8), some (vR (G9.1)), some (vI 0), some (vI (-1)), some (vI 1), some (vI 0), none]) dX11_best_90 (Nat.le_of_ble_eq_true rfl) rfl rfl ?_
                  exact Go.drop (by simp only [mm_sub, and_self]) h
                · replace h := h.2 hc
                  refine g_iconst dX11_best_67 ?_
                  exact g_iret dX11_best_68 rfl h
              · replace h := h.2 hc
                refine g_bipush dX11_best_57 bp_m2 ?_
                exact g_iret dX11_best_59 rfl h
      · replace h := h.2 hc
        refine g_iconst dX11_best_23 ?_
        exact g_iret dX11_best_24 rfl h
set_option maxRecDepth 20000 in
theorem w_X11_best_92 {E : mmE} {d kc ks : Nat} {G : mmG} {D : mmD} {Q : mmQ} {x1 x2 x4 x5 r6 r7 x8 x9 x10 x11 : Int} (hG : Sh G) (ha6 : isA4 G r6) (ha7 : isA4 G r7) (h : ((iv 24 ≤ iv x11 → ((¬ iv x4 = iv (-2) → ((¬ iv x4 = iv (-1) → ((0 ≤ x4 ∧ x4 < 4) ∧ Q (some (vI (D r7 x4))) G D)) ∧ (iv x4 = iv (-1) → Q (some (vI x9)) G D))) ∧ (iv x4 = iv (-2) → Call E d 0 0 mX11_meaningsOfBoth [vR 2, vI x1, vI x2] G D (retI G (fun z2 D1 => Q (some (vI (iand z2 (ixor x8 (-1))))) G D1))))) ∧ (¬ iv 24 ≤ iv x11 → ((iv x10 = iv 0 → ((¬ iv x4 = iv (-2) → ((¬ iv x4 = iv (-1) → ((0 ≤ x4 ∧ x4 < 4) ∧ Q (some (vI (D r7 x4))) G D)) ∧ (iv x4 = iv (-1) → Q (some (vI x9)) G D))) ∧ (iv x4 = iv (-2) → Call E d 0 0 mX11_meaningsOfBoth [vR 2, vI x1, vI x2] G D (retI G (fun z4 D3 => Q (some (vI (iand z4 (ixor x8 (-1))))) G D3))))) ∧ (¬ iv x10 = iv 0 → Call E d 0 0 mX11_comeOut [vR 2, vI x1, vI x2, vR r6, vI x5] G D (retI G (fun z6 D5 => Call E d 0 0 mJ6_bitCount_0f7a4 [vI z6] G D5 (retI G (fun z8 D7 => ((iv z8 ≤ iv x9 → Call E d 0 0 mX11_toNextOrder [vR r6, vI x5] G D7 (retI G (fun z10 D9 => Go E (d + 1) (kc + 2) (ks + 8) mX11_best 92 [some (vR 2), some (vI x1), some (vI x2), none, some (vI x4), some (vI x5), some (vR r6), some (vR r7), some (vI x8), some (vI x9), some (vI z10), some (vI (x11 + 1)), none] [] G D9 Q))) ∧ (¬ iv z8 ≤ iv x9 → Call E d 0 0 mJ6_bitCount_0f7a4 [vI z6] G D7 (retI G (fun z12 D11 => ((0 ≤ x5 ∧ x5 ≤ 4 ∧ x5 ≤ 4) ∧ (∀ D13 : mmD, D13 = cp0 D11 r6 r7 x5 → Call E d 0 0 mX11_toNextOrder [vR r6, vI x5] G D13 (retI G (fun z15 D14 => Go E (d + 1) (kc + 2) (ks + 8) mX11_best 92 [some (vR 2), some (vI x1), some (vI x2), none, some (vI x4), some (vI x5), some (vR r6), some (vR r7), some (vI z6), some (vI z12), some (vI z15), some (vI (x11 + 1)), none] [] G D14 Q))))))))))))))))) : Go E (d + 1) (kc + 2) (ks + 8) mX11_best 92 [some (vR 2), some (vI x1), some (vI x2), none, some (vI x4), some (vI x5), some (vR r6), some (vR r7), some (vI x8), some (vI x9), some (vI x10), some (vI x11), none] [] G D Q := by
  refine g_iload dX11_best_92 rfl ?_
  refine g_bipush dX11_best_94 bp_24 ?_
  refine g_icmp_ge 163 dX11_best_96 (by decide) ⟨fun hc => ?_, fun hc => ?_⟩
  · replace h := h.1 hc
    refine g_iload dX11_best_163 rfl ?_
    refine g_bipush dX11_best_165 bp_m2 ?_
    refine g_icmp_ne 182 dX11_best_167 (by decide) ⟨fun hc => ?_, fun hc => ?_⟩
    · replace h := h.1 hc
      refine g_iload dX11_best_182 rfl ?_
      refine g_iconst dX11_best_184 ?_
      refine g_icmp_ne 193 dX11_best_185 (by decide) ⟨fun hc => ?_, fun hc => ?_⟩
      · replace h := h.1 hc
        refine g_aload dX11_best_193 rfl ?_
        refine g_iload dX11_best_195 rfl ?_
        refine g_iald dX11_best_197 ha7.2.2 ha7.ge ha7.2.1 (by decide) ⟨h.1, ?_⟩
        replace h := h.2
        exact g_iret dX11_best_198 rfl h
      · replace h := h.2 hc
        refine g_iload dX11_best_188 rfl ?_
        refine g_goto 198 dX11_best_190 (by decide) ?_
        exact g_iret dX11_best_198 rfl h
    · replace h := h.2 hc
      refine g_aload_n dX11_best_170 rfl rfl ?_
      refine g_iload_n dX11_best_171 rfl rfl ?_
      refine g_iload_n dX11_best_172 rfl rfl ?_
      refine g_callV (kc := (kc + 2)) (kc' := 0) (ks := (ks + 8)) (ks' := 0) (as := [vI x1, vI x2]) (st := []) (ci := 10) dX11_best_173 cB_X11_meaningsOfBoth lk_X11_220 in_X11_meaningsOfBoth se_X11_meaningsOfBoth (by decide) rfl rfl (Nat.le_of_ble_eq_true rfl) (Nat.le_of_ble_eq_true rfl) (by decide) (hG.lt (by decide)) (congrArg Prod.fst hG.k2) ?_
      refine Go.to (fun r G' D1 hr => ?_) h
      obtain ⟨rfl, z2, rfl, h⟩ := hr
      show Go E (d + 1) (kc + 2) (ks + 8) mX11_best 176 [some (vR 2), some (vI x1), some (vI x2), none, some (vI x4), some (vI x5), some (vR r6), some (vR r7), some (vI x8), some (vI x9), some (vI x10), some (vI x11), none] [vI z2] G D1 Q
      refine g_iload dX11_best_176 rfl ?_
      refine g_iconst dX11_best_178 ?_
      refine g_ixor dX11_best_179 ?_
      refine g_iand dX11_best_180 ?_
      exact g_iret dX11_best_181 rfl h
  · replace h := h.2 hc
    refine g_iload dX11_best_99 rfl ?_
    refine g_if_eq 163 dX11_best_101 (by decide) ⟨fun hc => ?_, fun hc => ?_⟩
    · replace h := h.1 hc
      refine g_iload dX11_best_163 rfl ?_
      refine g_bipush dX11_best_165 bp_m2 ?_
      refine g_icmp_ne 182 dX11_best_167 (by decide) ⟨fun hc => ?_, fun hc => ?_⟩
      · replace h := h.1 hc
        refine g_iload dX11_best_182 rfl ?_
        refine g_iconst dX11_best_184 ?_
        refine g_icmp_ne 193 dX11_best_185 (by decide) ⟨fun hc => ?_, fun hc => ?_⟩
        · replace h := h.1 hc
          refine g_aload dX11_best_193 rfl ?_
          refine g_iload dX11_best_195 rfl ?_
          refine g_iald dX11_best_197 ha7.2.2 ha7.ge ha7.2.1 (by decide) ⟨h.1, ?_⟩
          replace h := h.2
          exact g_iret dX11_best_198 rfl h
        · replace h := h.2 hc
          refine g_iload dX11_best_188 rfl ?_
          refine g_goto 198 dX11_best_190 (by decide) ?_
          exact g_iret dX11_best_198 rfl h
      · replace h := h.2 hc
        refine g_aload_n dX11_best_170 rfl rfl ?_
        refine g_iload_n dX11_best_171 rfl rfl ?_
        refine g_iload_n dX11_best_172 rfl rfl ?_
        refine g_callV (kc := (kc + 2)) (kc' := 0) (ks := (ks + 8)) (ks' := 0) (as := [vI x1, vI x2]) (st := []) (ci := 10) dX11_best_173 cB_X11_meaningsOfBoth lk_X11_220 in_X11_meaningsOfBoth se_X11_meaningsOfBoth (by decide) rfl rfl (Nat.le_of_ble_eq_true rfl) (Nat.le_of_ble_eq_true rfl) (by decide) (hG.lt (by decide)) (congrArg Prod.fst hG.k2) ?_
        refine Go.to (fun r G' D3 hr => ?_) h
        obtain ⟨rfl, z4, rfl, h⟩ := hr
        show Go E (d + 1) (kc + 2) (ks + 8) mX11_best 176 [some (vR 2), some (vI x1), some (vI x2), none, some (vI x4), some (vI x5), some (vR r6), some (vR r7), some (vI x8), some (vI x9), some (vI x10), some (vI x11), none] [vI z4] G D3 Q
        refine g_iload dX11_best_176 rfl ?_
        refine g_iconst dX11_best_178 ?_
        refine g_ixor dX11_best_179 ?_
        refine g_iand dX11_best_180 ?_
        exact g_iret dX11_best_181 rfl h
    · replace h := h.2 hc
      refine g_aload_n dX11_best_104 rfl rfl ?_
      refine g_iload_n dX11_best_105 rfl rfl ?_
      refine g_iload_n dX11_best_106 rfl rfl ?_
      refine g_aload dX11_best_107 rfl ?_
      refine g_iload dX11_best_109 rfl ?_
      refine g_callV (kc := (kc + 2)) (kc' := 0) (ks := (ks + 8)) (ks' := 0) (as := [vI x1, vI x2, vR r6, vI x5]) (st := []) (ci := 10) dX11_best_111 cB_X11_comeOut lk_X11_239 in_X11_comeOut se_X11_comeOut (by decide) rfl rfl (Nat.le_of_ble_eq_true rfl) (Nat.le_of_ble_eq_true rfl) (by decide) (hG.lt (by decide)) (congrArg Prod.fst hG.k2) ?_
      refine Go.to (fun r G' D5 hr => ?_) h
      obtain ⟨rfl, z6, rfl, h⟩ := hr
      show Go E (d + 1) (kc + 2) (ks + 8) mX11_best 114 [some (vR 2), some (vI x1), some (vI x2), none, some (vI x4), some (vI x5), some (vR r6), some (vR r7), some (vI x8), some (vI x9), some (vI x10), some (vI x11), none] [vI z6] G D5 Q
      refine h_istore (L' := [some (vR 2), some (vI x1), some (vI x2), none, some (vI x4), some (vI x5), some (vR r6), some (vR r7), some (vI x8), some (vI x9), some (vI x10), some (vI x11), some (vI z6)]) dX11_best_114 (Nat.le_of_ble_eq_true rfl) rfl rfl ?_
      refine g_iload dX11_best_116 rfl ?_
      refine g_callS (kc := (kc + 2)) (kc' := 0) (ks := (ks + 8)) (ks' := 0) (as := [vI z6]) (st := []) dX11_best_118 cB_J6_bitCount_0f7a4 lk_X11_227 st_J6_bitCount_0f7a4 rfl (Nat.le_of_ble_eq_true rfl) (Nat.le_of_ble_eq_true rfl) ?_
      refine Go.to (fun r G' D7 hr => ?_) h
      obtain ⟨rfl, z8, rfl, h⟩ := hr
      show Go E (d + 1) (kc + 2) (ks + 8) mX11_best 121 [some (vR 2), some (vI x1), some (vI x2), none, some (vI x4), some (vI x5), some (vR r6), some (vR r7), some (vI x8), some (vI x9), some (vI x10), some (vI x11), some (vI z6)] [vI z8] G D7 Q
      refine g_iload dX11_best_121 rfl ?_
      refine g_icmp_le 148 dX11_best_123 (by decide) ⟨fun hc => ?_, fun hc => ?_⟩
      · replace h := h.1 hc
        refine g_aload dX11_best_148 rfl ?_
        refine g_iload dX11_best_150 rfl ?_
        refine g_callS (kc := (kc + 2)) (kc' := 0) (ks := (ks + 8)) (ks' := 0) (as := [vR r6, vI x5]) (st := []) dX11_best_152 cB_X11_toNextOrder lk_X11_249 st_X11_toNextOrder rfl (Nat.le_of_ble_eq_true rfl) (Nat.le_of_ble_eq_true rfl) ?_
        refine Go.to (fun r G' D9 hr => ?_) h
        obtain ⟨rfl, z10, rfl, h⟩ := hr
        show Go E (d + 1) (kc + 2) (ks + 8) mX11_best 155 [some (vR 2), some (vI x1), some (vI x2), none, some (vI x4), some (vI x5), some (vR r6), some (vR r7), some (vI x8), some (vI x9), some (vI x10), some (vI x11), some (vI z6)] [vI z10] G D9 Q
        refine h_istore (L' := [some (vR 2), some (vI x1), some (vI x2), none, some (vI x4), some (vI x5), some (vR r6), some (vR r7), some (vI x8), some (vI x9), some (vI z10), some (vI x11), some (vI z6)]) dX11_best_155 (Nat.le_of_ble_eq_true rfl) rfl rfl ?_
        refine h_iinc (L' := [some (vR 2), some (vI x1), some (vI x2), none, some (vI x4), some (vI x5), some (vR r6), some (vR r7), some (vI x8), some (vI x9), some (vI z10), some (vI (x11 + 1)), some (vI z6)]) dX11_best_157 (Nat.le_of_ble_eq_true rfl) rfl rfl rfl ?_
        refine g_goto 92 dX11_best_160 (by decide) ?_
        exact Go.drop (by simp only [mm_sub, and_self]) h
      · replace h := h.2 hc
        refine g_iload dX11_best_126 rfl ?_
        refine g_callS (kc := (kc + 2)) (kc' := 0) (ks := (ks + 8)) (ks' := 0) (as := [vI z6]) (st := []) dX11_best_128 cB_J6_bitCount_0f7a4 lk_X11_227 st_J6_bitCount_0f7a4 rfl (Nat.le_of_ble_eq_true rfl) (Nat.le_of_ble_eq_true rfl) ?_
        refine Go.to (fun r G' D11 hr => ?_) h
        obtain ⟨rfl, z12, rfl, h⟩ := hr
        show Go E (d + 1) (kc + 2) (ks + 8) mX11_best 131 [some (vR 2), some (vI x1), some (vI x2), none, some (vI x4), some (vI x5), some (vR r6), some (vR r7), some (vI x8), some (vI x9), some (vI x10), some (vI x11), some (vI z6)] [vI z12] G D11 Q
        refine h_istore (L' := [some (vR 2), some (vI x1), some (vI x2), none, some (vI x4), some (vI x5), some (vR r6), some (vR r7), some (vI x8), some (vI z12), some (vI x10), some (vI x11), some (vI z6)]) dX11_best_131 (Nat.le_of_ble_eq_true rfl) rfl rfl ?_
        refine g_iload dX11_best_133 rfl ?_
        refine h_istore (L' := [some (vR 2), some (vI x1), some (vI x2), none, some (vI x4), some (vI x5), some (vR r6), some (vR r7), some (vI z6), some (vI z12), some (vI x10), some (vI x11), some (vI z6)]) dX11_best_135 (Nat.le_of_ble_eq_true rfl) rfl rfl ?_
        refine g_aload dX11_best_137 rfl ?_
        refine g_iconst dX11_best_139 ?_
        refine g_aload dX11_best_140 rfl ?_
        refine g_iconst dX11_best_142 ?_
        refine g_iload dX11_best_143 rfl ?_
        refine g_acopy dX11_best_145 ac_X11_243 (Nat.le_of_ble_eq_true rfl) ha6.2.2 ha7.2.2 ha6.ge ha6.2.1 ha7.ge ha7.2.1 (by decide) (by decide) ⟨h.1, ?_⟩
        generalize hD_D13 : cp0 D11 r6 r7 x5 = D13
        replace h := h.2 _ hD_D13.symm
        refine g_aload dX11_best_148 rfl ?_
        refine g_iload dX11_best_150 rfl ?_
        refine g_callS (kc := (kc + 2)) (kc' := 0) (ks := (ks + 8)) (ks' := 0) (as := [vR r6, vI x5]) (st := []) dX11_best_152 cB_X11_toNextOrder lk_X11_249 st_X11_toNextOrder rfl (Nat.le_of_ble_eq_true rfl) (Nat.le_of_ble_eq_true rfl) ?_
        refine Go.to (fun r G' D14 hr => ?_) h
        obtain ⟨rfl, z15, rfl, h⟩ := hr
        show Go E (d + 1) (kc + 2) (ks + 8) mX11_best 155 [some (vR 2), some (vI x1), some (vI x2), none, some (vI x4), some (vI x5), some (vR r6), some (vR r7), some (vI z6), some (vI z12), some (vI x10), some (vI x11), some (vI z6)] [vI z15] G D14 Q
        refine h_istore (L' := [some (vR 2), some (vI x1), some (vI x2), none, some (vI x4), some (vI x5), some (vR r6), some (vR r7), some (vI z6), some (vI z12), some (vI z15), some (vI x11), some (vI z6)]) dX11_best_155 (Nat.le_of_ble_eq_true rfl) rfl rfl ?_
        refine h_iinc (L' := [some (vR 2), some (vI x1), some (vI x2), none, some (vI x4), some (vI x5), some (vR r6), some (vR r7), some (vI z6), some (vI z12), some (vI z15), some (vI (x11 + 1)), some (vI z6)]) dX11_best_157 (Nat.le_of_ble_eq_true rfl) rfl rfl rfl ?_
        refine g_goto 92 dX11_best_160 (by decide) ?_
        exact Go.drop (by simp only [mm_sub, and_self]) h
set_option maxRecDepth 20000 in
theorem w_X11_feeds {E : mmE} {d kc ks : Nat} {G : mmG} {D : mmD} {Q : mmQ} {x1 x2 x3 : Int} (hG : Sh G)  (h : Call E d 0 0 mX11_isTongue [vR 2, vI x1] G D (retI G (fun z2 D1 => ((iv z2 = iv 0 → Q (some (vI (-1))) G D1) ∧ (¬ iv z2 = iv 0 → Call E d 0 0 mX11_isLaw [vR 2, vI x2] G D1 (retI G (fun z4 D3 => ((iv z4 = iv 0 → Q (some (vI (-1))) G D3) ∧ (¬ iv z4 = iv 0 → Call E d 0 0 mX11_isLaw [vR 2, vI x3] G D3 (retI G (fun z6 D5 => ((¬ iv z6 = iv 0 → ((¬ iv x2 = iv x3 → Go E (d + 1) kc ks mX11_feeds 37 [some (vR 2), some (vI x1), some (vI x2), some (vI x3), some (vI 0), none] [] G D5 Q) ∧ (iv x2 = iv x3 → Q (some (vI (-2))) G D5))) ∧ (iv z6 = iv 0 → Q (some (vI (-1))) G D5))))))))))))) : Call E (d + 1) kc ks mX11_feeds [vR 2, vI x1, vI x2, vI x3] G D Q := by
  show Go E (d + 1) kc ks mX11_feeds 0 [some (vR 2), some (vI x1), some (vI x2), some (vI x3), none, none] [] G D Q
  refine g_aload_n dX11_feeds_0 rfl rfl ?_
  refine g_iload_n dX11_feeds_1 rfl rfl ?_
  refine g_callV (kc := kc) (kc' := 0) (ks := ks) (ks' := 0) (as := [vI x1]) (st := []) (ci := 10) dX11_feeds_2 cB_X11_isTongue lk_X11_84 in_X11_isTongue se_X11_isTongue (by decide) rfl rfl (Nat.le_of_ble_eq_true rfl) (Nat.le_of_ble_eq_true rfl) (by decide) (hG.lt (by decide)) (congrArg Prod.fst hG.k2) ?_
  refine Go.to (fun r G' D1 hr => ?_) h
  obtain ⟨rfl, z2, rfl, h⟩ := hr
  show Go E (d + 1) kc ks mX11_feeds 5 [some (vR 2), some (vI x1), some (vI x2), some (vI x3), none, none] [vI z2] G D1 Q
  refine g_if_eq 24 dX11_feeds_5 (by decide) ⟨fun hc => ?_, fun hc => ?_⟩
  · replace h := h.1 hc
    refine g_iconst dX11_feeds_24 ?_
    exact g_iret dX11_feeds_25 rfl h
  · replace h := h.2 hc
    refine g_aload_n dX11_feeds_8 rfl rfl ?_
    refine g_iload_n dX11_feeds_9 rfl rfl ?_
    refine g_callV (kc := kc) (kc' := 0) (ks := ks) (ks' := 0) (as := [vI x2]) (st := []) (ci := 10) dX11_feeds_10 cB_X11_isLaw lk_X11_121 in_X11_isLaw se_X11_isLaw (by decide) rfl rfl (Nat.le_of_ble_eq_true rfl) (Nat.le_of_ble_eq_true rfl) (by decide) (hG.lt (by decide)) (congrArg Prod.fst hG.k2) ?_
    refine Go.to (fun r G' D3 hr => ?_) h
    obtain ⟨rfl, z4, rfl, h⟩ := hr
    show Go E (d + 1) kc ks mX11_feeds 13 [some (vR 2), some (vI x1), some (vI x2), some (vI x3), none, none] [vI z4] G D3 Q
    refine g_if_eq 24 dX11_feeds_13 (by decide) ⟨fun hc => ?_, fun hc => ?_⟩
    · replace h := h.1 hc
      refine g_iconst dX11_feeds_24 ?_
      exact g_iret dX11_feeds_25 rfl h
    · replace h := h.2 hc
      refine g_aload_n dX11_feeds_16 rfl rfl ?_
      refine g_iload_n dX11_feeds_17 rfl rfl ?_
      refine g_callV (kc := kc) (kc' := 0) (ks := ks) (ks' := 0) (as := [vI x3]) (st := []) (ci := 10) dX11_feeds_18 cB_X11_isLaw lk_X11_121 in_X11_isLaw se_X11_isLaw (by decide) rfl rfl (Nat.le_of_ble_eq_true rfl) (Nat.le_of_ble_eq_true rfl) (by decide) (hG.lt (by decide)) (congrArg Prod.fst hG.k2) ?_
      refine Go.to (fun r G' D5 hr => ?_) h
      obtain ⟨rfl, z6, rfl, h⟩ := hr
      show Go E (d + 1) kc ks mX11_feeds 21 [some (vR 2), some (vI x1), some (vI x2), some (vI x3), none, none] [vI z6] G D5 Q
      refine g_if_ne 26 dX11_feeds_21 (by decide) ⟨fun hc => ?_, fun hc => ?_⟩
      · replace h := h.1 hc
        refine g_iload_n dX11_feeds_26 rfl rfl ?_
        refine g_iload_n dX11_feeds_27 rfl rfl ?_
        refine g_icmp_ne 34 dX11_feeds_28 (by decide) ⟨fun hc => ?_, fun hc => ?_⟩
        · replace h := h.1 hc
          refine g_iconst dX11_feeds_34 ?_
          refine h_istore (L' := [some (vR 2), some (vI x1), some (vI x2), some (vI x3), some (vI 0), none]) dX11_feeds_35 (Nat.le_of_ble_eq_true rfl) rfl rfl ?_
          exact Go.drop (by simp only [mm_sub, and_self]) h
        · replace h := h.2 hc
          refine g_bipush dX11_feeds_31 bp_m2 ?_
          exact g_iret dX11_feeds_33 rfl h
      · replace h := h.2 hc
        refine g_iconst dX11_feeds_24 ?_
        exact g_iret dX11_feeds_25 rfl h
set_option maxRecDepth 20000 in
theorem w_X11_feeds_37 {E : mmE} {d kc ks : Nat} {G : mmG} {D : mmD} {Q : mmQ} {x1 x2 x3 x4 : Int} (hG : Sh G)  (h : ((iv 10 ≤ iv x4 → Q (some (vI 0)) G D) ∧ (¬ iv 10 ≤ iv x4 → Call E d 0 0 mX11_listedWord [vR 2, vI x1, vI x4] G D (retR G (fun z2 D1 => ((z2 = 0 → Go E (d + 1) kc ks mX11_feeds 37 [some (vR 2), some (vI x1), some (vI x2), some (vI x3), some (vI (x4 + 1)), none] [] G D1 Q) ∧ (¬ z2 = 0 → ((0 ≤ x2 ∧ x2 < 12) ∧ ((0 ≤ x3 ∧ x3 < 12) ∧ Call E d 0 0 mX11_isOrderFelt [vR 2, vR z2, vR (142 + 6 * x2), vR (142 + 6 * x3)] G D1 (retI G (fun z8 D7 => ((iv z8 = iv 0 → Go E (d + 1) kc ks mX11_feeds 37 [some (vR 2), some (vI x1), some (vI x2), some (vI x3), some (vI (x4 + 1)), none] [] G D7 Q) ∧ (¬ iv z8 = iv 0 → Q (some (vI 1)) G D7))))))))))))) : Go E (d + 1) kc ks mX11_feeds 37 [some (vR 2), some (vI x1), some (vI x2), some (vI x3), some (vI x4), none] [] G D Q := by
  refine g_iload dX11_feeds_37 rfl ?_
  refine g_bipush dX11_feeds_39 bp_10 ?_
  refine g_icmp_ge 87 dX11_feeds_41 (by decide) ⟨fun hc => ?_, fun hc => ?_⟩
  · replace h := h.1 hc
    refine g_iconst dX11_feeds_87 ?_
    exact g_iret dX11_feeds_88 rfl h
  · replace h := h.2 hc
    refine g_aload_n dX11_feeds_44 rfl rfl ?_
    refine g_iload_n dX11_feeds_45 rfl rfl ?_
    refine g_iload dX11_feeds_46 rfl ?_
    refine g_callV (kc := kc) (kc' := 0) (ks := ks) (ks' := 0) (as := [vI x1, vI x4]) (st := []) (ci := 10) dX11_feeds_48 cB_X11_listedWord lk_X11_190 in_X11_listedWord se_X11_listedWord (by decide) rfl rfl (Nat.le_of_ble_eq_true rfl) (Nat.le_of_ble_eq_true rfl) (by decide) (hG.lt (by decide)) (congrArg Prod.fst hG.k2) ?_
    refine Go.to (fun r G' D1 hr => ?_) h
    obtain ⟨rfl, z2, rfl, h⟩ := hr
    show Go E (d + 1) kc ks mX11_feeds 51 [some (vR 2), some (vI x1), some (vI x2), some (vI x3), some (vI x4), none] [vR z2] G D1 Q
    refine h_astore (L' := [some (vR 2), some (vI x1), some (vI x2), some (vI x3), some (vI x4), some (vR z2)]) dX11_feeds_51 (Nat.le_of_ble_eq_true rfl) rfl rfl ?_
    refine g_aload dX11_feeds_53 rfl ?_
    refine g_ifnull 81 dX11_feeds_55 (by decide) ⟨fun hc => ?_, fun hc => ?_⟩
    · replace h := h.1 hc
      refine h_iinc (L' := [some (vR 2), some (vI x1), some (vI x2), some (vI x3), some (vI (x4 + 1)), some (vR z2)]) dX11_feeds_81 (Nat.le_of_ble_eq_true rfl) rfl rfl rfl ?_
      refine g_goto 37 dX11_feeds_84 (by decide) ?_
      exact Go.drop (by simp only [mm_sub, and_self]) h
    · replace h := h.2 hc
      refine g_aload_n dX11_feeds_58 rfl rfl ?_
      refine g_aload dX11_feeds_59 rfl ?_
      refine g_aload_n dX11_feeds_61 rfl rfl ?_
      refine h_getR (j := 5) dX11_feeds_62 f_X11_24_10 rfl rfl (by decide) hG.k2 (by decide) (hG.lt (by decide)) hG.r2_5 ?_
      refine g_iload_n dX11_feeds_65 rfl rfl ?_
      refine h_aaldl hG dX11_feeds_66 ⟨h.1, ?_⟩
      have hw4 := isLw.of h.1.1 h.1.2
      replace h := h.2
      refine g_aload_n dX11_feeds_67 rfl rfl ?_
      refine h_getR (j := 5) dX11_feeds_68 f_X11_24_10 rfl rfl (by decide) hG.k2 (by decide) (hG.lt (by decide)) hG.r2_5 ?_
      refine g_iload_n dX11_feeds_71 rfl rfl ?_
      refine h_aaldl hG dX11_feeds_72 ⟨h.1, ?_⟩
      have hw6 := isLw.of h.1.1 h.1.2
      replace h := h.2
      refine g_callV (kc := kc) (kc' := 0) (ks := ks) (ks' := 0) (as := [vR z2, vR (142 + 6 * x2), vR (142 + 6 * x3)]) (st := []) (ci := 10) dX11_feeds_73 cB_X11_isOrderFelt lk_X11_253 in_X11_isOrderFelt se_X11_isOrderFelt (by decide) rfl rfl (Nat.le_of_ble_eq_true rfl) (Nat.le_of_ble_eq_true rfl) (by decide) (hG.lt (by decide)) (congrArg Prod.fst hG.k2) ?_
      refine Go.to (fun r G' D7 hr => ?_) h
      obtain ⟨rfl, z8, rfl, h⟩ := hr
      show Go E (d + 1) kc ks mX11_feeds 76 [some (vR 2), some (vI x1), some (vI x2), some (vI x3), some (vI x4), some (vR z2)] [vI z8] G D7 Q
      refine g_if_eq 81 dX11_feeds_76 (by decide) ⟨fun hc => ?_, fun hc => ?_⟩
      · replace h := h.1 hc
        refine h_iinc (L' := [some (vR 2), some (vI x1), some (vI x2), some (vI x3), some (vI (x4 + 1)), some (vR z2)]) dX11_feeds_81 (Nat.le_of_ble_eq_true rfl) rfl rfl rfl ?_
        refine g_goto 37 dX11_feeds_84 (by decide) ?_
        exact Go.drop (by simp only [mm_sub, and_self]) h
      · replace h := h.2 hc
        refine g_iconst dX11_feeds_79 ?_
        exact g_iret dX11_feeds_80 rfl h
set_option maxRecDepth 20000 in
theorem w_X11_steps {E : mmE} {d kc ks : Nat} {G : mmG} {D : mmD} {Q : mmQ} {x1 x2 : Int} (hG : Sh G)  (h : Call E d 0 0 mX11_areLeaves [vR 2, vI x1] G D (retI G (fun z2 D1 => ((iv z2 = iv 0 → Q (some (vI (-2))) G D1) ∧ (¬ iv z2 = iv 0 → ((iv x2 < iv 0 → Q (some (vI (-2))) G D1) ∧ (¬ iv x2 < iv 0 → Call E d 0 0 mX11_treesOf [vI x1] G D1 (retI G (fun z4 D3 => ((iv x2 < iv z4 → Call E d 0 0 mX11_hangSets [vR 2] G D3 (retV G (fun D5 => Call E d 0 0 mX11_stepsOf [vR 2, vI x1, vI x2] G D5 (retI G (fun z8 D7 => Q (some (vI z8)) G D7))))) ∧ (¬ iv x2 < iv z4 → Q (some (vI (-2))) G D3))))))))))) : Call E (d + 1) kc ks mX11_steps [vR 2, vI x1, vI x2] G D Q := by
  show Go E (d + 1) kc ks mX11_steps 0 [some (vR 2), some (vI x1), some (vI x2)] [] G D Q
  refine g_aload_n dX11_steps_0 rfl rfl ?_
  refine g_iload_n dX11_steps_1 rfl rfl ?_
  refine g_callV (kc := kc) (kc' := 0) (ks := ks) (ks' := 0) (as := [vI x1]) (st := []) (ci := 10) dX11_steps_2 cB_X11_areLeaves lk_X11_257 in_X11_areLeaves se_X11_areLeaves (by decide) rfl rfl (Nat.le_of_ble_eq_true rfl) (Nat.le_of_ble_eq_true rfl) (by decide) (hG.lt (by decide)) (congrArg Prod.fst hG.k2) ?_
  refine Go.to (fun r G' D1 hr => ?_) h
  obtain ⟨rfl, z2, rfl, h⟩ := hr
  show Go E (d + 1) kc ks mX11_steps 5 [some (vR 2), some (vI x1), some (vI x2)] [vI z2] G D1 Q
  refine g_if_eq 20 dX11_steps_5 (by decide) ⟨fun hc => ?_, fun hc => ?_⟩
  · replace h := h.1 hc
    refine g_bipush dX11_steps_20 bp_m2 ?_
    exact g_iret dX11_steps_22 rfl h
  · replace h := h.2 hc
    refine g_iload_n dX11_steps_8 rfl rfl ?_
    refine g_if_lt 20 dX11_steps_9 (by decide) ⟨fun hc => ?_, fun hc => ?_⟩
    · replace h := h.1 hc
      refine g_bipush dX11_steps_20 bp_m2 ?_
      exact g_iret dX11_steps_22 rfl h
    · replace h := h.2 hc
      refine g_iload_n dX11_steps_12 rfl rfl ?_
      refine g_iload_n dX11_steps_13 rfl rfl ?_
      refine g_callS (kc := kc) (kc' := 0) (ks := ks) (ks' := 0) (as := [vI x1]) (st := [vI x2]) dX11_steps_14 cB_X11_treesOf lk_X11_260 st_X11_treesOf rfl (Nat.le_of_ble_eq_true rfl) (Nat.le_of_ble_eq_true rfl) ?_
      refine Go.to (fun r G' D3 hr => ?_) h
      obtain ⟨rfl, z4, rfl, h⟩ := hr
      show Go E (d + 1) kc ks mX11_steps 17 [some (vR 2), some (vI x1), some (vI x2)] [vI z4, vI x2] G D3 Q
      refine g_icmp_lt 23 dX11_steps_17 (by decide) ⟨fun hc => ?_, fun hc => ?_⟩
      · replace h := h.1 hc
        refine g_aload_n dX11_steps_23 rfl rfl ?_
        refine g_callV (kc := kc) (kc' := 0) (ks := ks) (ks' := 0) (as := []) (st := []) (ci := 10) dX11_steps_24 cB_X11_hangSets lk_X11_263 in_X11_hangSets se_X11_hangSets (by decide) rfl rfl (Nat.le_of_ble_eq_true rfl) (Nat.le_of_ble_eq_true rfl) (by decide) (hG.lt (by decide)) (congrArg Prod.fst hG.k2) ?_
        refine Go.to (fun r G' D5 hr => ?_) h
        obtain ⟨rfl, rfl, h⟩ := hr
        show Go E (d + 1) kc ks mX11_steps 27 [some (vR 2), some (vI x1), some (vI x2)] [] G D5 Q
        refine g_aload_n dX11_steps_27 rfl rfl ?_
        refine g_iload_n dX11_steps_28 rfl rfl ?_
        refine g_iload_n dX11_steps_29 rfl rfl ?_
        refine g_callV (kc := kc) (kc' := 0) (ks := ks) (ks' := 0) (as := [vI x1, vI x2]) (st := []) (ci := 10) dX11_steps_30 cB_X11_stepsOf lk_X11_266 in_X11_stepsOf se_X11_stepsOf (by decide) rfl rfl (Nat.le_of_ble_eq_true rfl) (Nat.le_of_ble_eq_true rfl) (by decide) (hG.lt (by decide)) (congrArg Prod.fst hG.k2) ?_
        refine Go.to (fun r G' D7 hr => ?_) h
        obtain ⟨rfl, z8, rfl, h⟩ := hr
        show Go E (d + 1) kc ks mX11_steps 33 [some (vR 2), some (vI x1), some (vI x2)] [vI z8] G D7 Q
        exact g_iret dX11_steps_33 rfl h
      · replace h := h.2 hc
        refine g_bipush dX11_steps_20 bp_m2 ?_
        exact g_iret dX11_steps_22 rfl h
set_option maxRecDepth 20000 in
theorem w_X11_tree {E : mmE} {d kc ks : Nat} {G : mmG} {D : mmD} {Q : mmQ} {x1 x2 : Int} (hG : Sh G)  (h : Call E d 0 0 mX11_areLeaves [vR 2, vI x1] G D (retI G (fun z2 D1 => ((¬ iv z2 = iv 0 → ((iv x2 < iv 0 → Q (some (vI (-1))) G D1) ∧ (¬ iv x2 < iv 0 → ((iv x2 ≤ iv 2 → Call E d 0 0 mX11_hangSets [vR 2] G D1 (retV G (fun D3 => Call E d 0 0 mX11_treesOf [vI x1] G D3 (retI G (fun z6 D5 => Go E (d + 1) kc ks mX11_tree 43 [some (vR 2), some (vI x1), some (vI x2), some (vI z6), some (vI 0), some (vI 0), some (vI 0), some (vI 0), none] [] G D5 Q))))) ∧ (¬ iv x2 ≤ iv 2 → Q (some (vI (-1))) G D1))))) ∧ (iv z2 = iv 0 → Q (some (vI (-2))) G D1))))) : Call E (d + 1) kc ks mX11_tree [vR 2, vI x1, vI x2] G D Q := by
  show Go E (d + 1) kc ks mX11_tree 0 [some (vR 2), some (vI x1), some (vI x2), none, none, none, none, none, none] [] G D Q
  refine g_aload_n dX11_tree_0 rfl rfl ?_
  refine g_iload_n dX11_tree_1 rfl rfl ?_
  refine g_callV (kc := kc) (kc' := 0) (ks := ks) (ks' := 0) (as := [vI x1]) (st := []) (ci := 10) dX11_tree_2 cB_X11_areLeaves lk_X11_257 in_X11_areLeaves se_X11_areLeaves (by decide) rfl rfl (Nat.le_of_ble_eq_true rfl) (Nat.le_of_ble_eq_true rfl) (by decide) (hG.lt (by decide)) (congrArg Prod.fst hG.k2) ?_
  refine Go.to (fun r G' D1 hr => ?_) h
  obtain ⟨rfl, z2, rfl, h⟩ := hr
  show Go E (d + 1) kc ks mX11_tree 5 [some (vR 2), some (vI x1), some (vI x2), none, none, none, none, none, none] [vI z2] G D1 Q
  refine g_if_ne 11 dX11_tree_5 (by decide) ⟨fun hc => ?_, fun hc => ?_⟩
  · replace h := h.1 hc
    refine g_iload_n dX11_tree_11 rfl rfl ?_
    refine g_if_lt 20 dX11_tree_12 (by decide) ⟨fun hc => ?_, fun hc => ?_⟩
    · replace h := h.1 hc
      refine g_iconst dX11_tree_20 ?_
      exact g_iret dX11_tree_21 rfl h
    · replace h := h.2 hc
      refine g_iload_n dX11_tree_15 rfl rfl ?_
      refine g_iconst dX11_tree_16 ?_
      refine g_icmp_le 22 dX11_tree_17 (by decide) ⟨fun hc => ?_, fun hc => ?_⟩
      · replace h := h.1 hc
        refine g_aload_n dX11_tree_22 rfl rfl ?_
        refine g_callV (kc := kc) (kc' := 0) (ks := ks) (ks' := 0) (as := []) (st := []) (ci := 10) dX11_tree_23 cB_X11_hangSets lk_X11_263 in_X11_hangSets se_X11_hangSets (by decide) rfl rfl (Nat.le_of_ble_eq_true rfl) (Nat.le_of_ble_eq_true rfl) (by decide) (hG.lt (by decide)) (congrArg Prod.fst hG.k2) ?_
        refine Go.to (fun r G' D3 hr => ?_) h
        obtain ⟨rfl, rfl, h⟩ := hr
        show Go E (d + 1) kc ks mX11_tree 26 [some (vR 2), some (vI x1), some (vI x2), none, none, none, none, none, none] [] G D3 Q
        refine g_iload_n dX11_tree_26 rfl rfl ?_
        refine g_callS (kc := kc) (kc' := 0) (ks := ks) (ks' := 0) (as := [vI x1]) (st := []) dX11_tree_27 cB_X11_treesOf lk_X11_260 st_X11_treesOf rfl (Nat.le_of_ble_eq_true rfl) (Nat.le_of_ble_eq_true rfl) ?_
        refine Go.to (fun r G' D5 hr => ?_) h
        obtain ⟨rfl, z6, rfl, h⟩ := hr
        show Go E (d + 1) kc ks mX11_tree 30 [some (vR 2), some (vI x1), some (vI x2), none, none, none, none, none, none] [vI z6] G D5 Q
        refine h_istore_n (L' := [some (vR 2), some (vI x1), some (vI x2), some (vI z6), none, none, none, none, none]) dX11_tree_30 rfl (Nat.le_of_ble_eq_true rfl) rfl rfl ?_
        refine g_iconst dX11_tree_31 ?_
        refine h_istore (L' := [some (vR 2), some (vI x1), some (vI x2), some (vI z6), some (vI 0), none, none, none, none]) dX11_tree_32 (Nat.le_of_ble_eq_true rfl) rfl rfl ?_
        refine g_iconst dX11_tree_34 ?_
        refine h_istore (L' := [some (vR 2), some (vI x1), some (vI x2), some (vI z6), some (vI 0), some (vI 0), none, none, none]) dX11_tree_35 (Nat.le_of_ble_eq_true rfl) rfl rfl ?_
        refine g_iconst dX11_tree_37 ?_
        refine h_istore (L' := [some (vR 2), some (vI x1), some (vI x2), some (vI z6), some (vI 0), some (vI 0), some (vI 0), none, none]) dX11_tree_38 (Nat.le_of_ble_eq_true rfl) rfl rfl ?_
        refine g_iconst dX11_tree_40 ?_
        refine h_istore (L' := [some (vR 2), some (vI x1), some (vI x2), some (vI z6), some (vI 0), some (vI 0), some (vI 0), some (vI 0), none]) dX11_tree_41 (Nat.le_of_ble_eq_true rfl) rfl rfl ?_
        exact Go.drop (by simp only [mm_sub, and_self]) h
      · replace h := h.2 hc
        refine g_iconst dX11_tree_20 ?_
        exact g_iret dX11_tree_21 rfl h
  · replace h := h.2 hc
    refine g_bipush dX11_tree_8 bp_m2 ?_
    exact g_iret dX11_tree_10 rfl h
set_option maxRecDepth 20000 in
theorem w_X11_tree_43 {E : mmE} {d kc ks : Nat} {G : mmG} {D : mmD} {Q : mmQ} {x1 x2 x3 x4 x5 x6 x7 : Int} (hG : Sh G)  (h : ((iv x3 ≤ iv x7 → ((¬ iv x2 = iv 0 → ((¬ iv x2 = iv 1 → Q (some (vI x6)) G D) ∧ (iv x2 = iv 1 → Q (some (vI x5)) G D))) ∧ (iv x2 = iv 0 → Q (some (vI x4)) G D))) ∧ (¬ iv x3 ≤ iv x7 → Call E d 0 0 mX11_stepsOf [vR 2, vI x1, vI x7] G D (retI G (fun z2 D1 => ((iv x7 = iv 0 → ((¬ iv z2 = iv z2 → Call E d 0 0 mX11_oneIf [vI 0] G D1 (retI G (fun z4 D3 => Go E (d + 1) kc ks mX11_tree 43 [some (vR 2), some (vI x1), some (vI x2), some (vI x3), some (vI x7), some (vI z2), some (vI (0 + z4)), some (vI (x7 + 1)), none] [] G D3 Q))) ∧ (iv z2 = iv z2 → Call E d 0 0 mX11_oneIf [vI 1] G D1 (retI G (fun z6 D5 => Go E (d + 1) kc ks mX11_tree 43 [some (vR 2), some (vI x1), some (vI x2), some (vI x3), some (vI x7), some (vI z2), some (vI (0 + z6)), some (vI (x7 + 1)), none] [] G D5 Q))))) ∧ (¬ iv x7 = iv 0 → ((iv x5 ≤ iv z2 → ((¬ iv z2 = iv x5 → Call E d 0 0 mX11_oneIf [vI 0] G D1 (retI G (fun z8 D7 => Go E (d + 1) kc ks mX11_tree 43 [some (vR 2), some (vI x1), some (vI x2), some (vI x3), some (vI x4), some (vI x5), some (vI (x6 + z8)), some (vI (x7 + 1)), none] [] G D7 Q))) ∧ (iv z2 = iv x5 → Call E d 0 0 mX11_oneIf [vI 1] G D1 (retI G (fun z10 D9 => Go E (d + 1) kc ks mX11_tree 43 [some (vR 2), some (vI x1), some (vI x2), some (vI x3), some (vI x4), some (vI x5), some (vI (x6 + z10)), some (vI (x7 + 1)), none] [] G D9 Q))))) ∧ (¬ iv x5 ≤ iv z2 → ((¬ iv z2 = iv z2 → Call E d 0 0 mX11_oneIf [vI 0] G D1 (retI G (fun z12 D11 => Go E (d + 1) kc ks mX11_tree 43 [some (vR 2), some (vI x1), some (vI x2), some (vI x3), some (vI x7), some (vI z2), some (vI (0 + z12)), some (vI (x7 + 1)), none] [] G D11 Q))) ∧ (iv z2 = iv z2 → Call E d 0 0 mX11_oneIf [vI 1] G D1 (retI G (fun z14 D13 => Go E (d + 1) kc ks mX11_tree 43 [some (vR 2), some (vI x1), some (vI x2), some (vI x3), some (vI x7), some (vI z2), some (vI (0 + z14)), some (vI (x7 + 1)), none] [] G D13 Q))))))))))))) : Go E (d + 1) kc ks mX11_tree 43 [some (vR 2), some (vI x1), some (vI x2), some (vI x3), some (vI x4), some (vI x5), some (vI x6), some (vI x7), none] [] G D Q := by
  refine g_iload dX11_tree_43 rfl ?_
  refine g_iload_n dX11_tree_45 rfl rfl ?_
  refine g_icmp_ge 107 dX11_tree_46 (by decide) ⟨fun hc => ?_, fun hc => ?_⟩
  · replace h := h.1 hc
    refine g_iload_n dX11_tree_107 rfl rfl ?_
    refine g_if_ne 116 dX11_tree_108 (by decide) ⟨fun hc => ?_, fun hc => ?_⟩
    · replace h := h.1 hc
      refine g_iload_n dX11_tree_116 rfl rfl ?_
      refine g_iconst dX11_tree_117 ?_
      refine g_icmp_ne 126 dX11_tree_118 (by decide) ⟨fun hc => ?_, fun hc => ?_⟩
      · replace h := h.1 hc
        refine g_iload dX11_tree_126 rfl ?_
        exact g_iret dX11_tree_128 rfl h
      · replace h := h.2 hc
        refine g_iload dX11_tree_121 rfl ?_
        refine g_goto 128 dX11_tree_123 (by decide) ?_
        exact g_iret dX11_tree_128 rfl h
    · replace h := h.2 hc
      refine g_iload dX11_tree_111 rfl ?_
      refine g_goto 128 dX11_tree_113 (by decide) ?_
      exact g_iret dX11_tree_128 rfl h
  · replace h := h.2 hc
    refine g_aload_n dX11_tree_49 rfl rfl ?_
    refine g_iload_n dX11_tree_50 rfl rfl ?_
    refine g_iload dX11_tree_51 rfl ?_
    refine g_callV (kc := kc) (kc' := 0) (ks := ks) (ks' := 0) (as := [vI x1, vI x7]) (st := []) (ci := 10) dX11_tree_53 cB_X11_stepsOf lk_X11_266 in_X11_stepsOf se_X11_stepsOf (by decide) rfl rfl (Nat.le_of_ble_eq_true rfl) (Nat.le_of_ble_eq_true rfl) (by decide) (hG.lt (by decide)) (congrArg Prod.fst hG.k2) ?_
    refine Go.to (fun r G' D1 hr => ?_) h
    obtain ⟨rfl, z2, rfl, h⟩ := hr
    show Go E (d + 1) kc ks mX11_tree 56 [some (vR 2), some (vI x1), some (vI x2), some (vI x3), some (vI x4), some (vI x5), some (vI x6), some (vI x7), none] [vI z2] G D1 Q
    refine h_istore (L' := [some (vR 2), some (vI x1), some (vI x2), some (vI x3), some (vI x4), some (vI x5), some (vI x6), some (vI x7), some (vI z2)]) dX11_tree_56 (Nat.le_of_ble_eq_true rfl) rfl rfl ?_
    refine g_iload dX11_tree_58 rfl ?_
    refine g_if_eq 70 dX11_tree_60 (by decide) ⟨fun hc => ?_, fun hc => ?_⟩
    · replace h := h.1 hc
      refine g_iload dX11_tree_70 rfl ?_
      refine h_istore (L' := [some (vR 2), some (vI x1), some (vI x2), some (vI x3), some (vI x7), some (vI x5), some (vI x6), some (vI x7), some (vI z2)]) dX11_tree_72 (Nat.le_of_ble_eq_true rfl) rfl rfl ?_
      refine g_iload dX11_tree_74 rfl ?_
      refine h_istore (L' := [some (vR 2), some (vI x1), some (vI x2), some (vI x3), some (vI x7), some (vI z2), some (vI x6), some (vI x7), some (vI z2)]) dX11_tree_76 (Nat.le_of_ble_eq_true rfl) rfl rfl ?_
      refine g_iconst dX11_tree_78 ?_
      refine h_istore (L' := [some (vR 2), some (vI x1), some (vI x2), some (vI x3), some (vI x7), some (vI z2), some (vI 0), some (vI x7), some (vI z2)]) dX11_tree_79 (Nat.le_of_ble_eq_true rfl) rfl rfl ?_
      refine g_iload dX11_tree_81 rfl ?_
      refine g_iload dX11_tree_83 rfl ?_
      refine g_iload dX11_tree_85 rfl ?_
      refine g_icmp_ne 94 dX11_tree_87 (by decide) ⟨fun hc => ?_, fun hc => ?_⟩
      · replace h := h.1 hc
        refine g_iconst dX11_tree_94 ?_
        refine g_callS (kc := kc) (kc' := 0) (ks := ks) (ks' := 0) (as := [vI 0]) (st := [vI 0]) dX11_tree_95 cB_X11_oneIf lk_X11_163 st_X11_oneIf rfl (Nat.le_of_ble_eq_true rfl) (Nat.le_of_ble_eq_true rfl) ?_
        refine Go.to (fun r G' D3 hr => ?_) h
        obtain ⟨rfl, z4, rfl, h⟩ := hr
        show Go E (d + 1) kc ks mX11_tree 98 [some (vR 2), some (vI x1), some (vI x2), some (vI x3), some (vI x7), some (vI z2), some (vI 0), some (vI x7), some (vI z2)] [vI z4, vI 0] G D3 Q
        refine g_iadd dX11_tree_98 ?_
        refine h_istore (L' := [some (vR 2), some (vI x1), some (vI x2), some (vI x3), some (vI x7), some (vI z2), some (vI (0 + z4)), some (vI x7), some (vI z2)]) dX11_tree_99 (Nat.le_of_ble_eq_true rfl) rfl rfl ?_
        refine h_iinc (L' := [some (vR 2), some (vI x1), some (vI x2), some (vI x3), some (vI x7), some (vI z2), some (vI (0 + z4)), some (vI (x7 + 1)), some (vI z2)]) dX11_tree_101 (Nat.le_of_ble_eq_true rfl) rfl rfl rfl ?_
        refine g_goto 43 dX11_tree_104 (by decide) ?_
        exact Go.drop (by simp only [mm_sub, and_self]) h
      · replace h := h.2 hc
        refine g_iconst dX11_tree_90 ?_
        refine g_goto 95 dX11_tree_91 (by decide) ?_
        refine g_callS (kc := kc) (kc' := 0) (ks := ks) (ks' := 0) (as := [vI 1]) (st := [vI 0]) dX11_tree_95 cB_X11_oneIf lk_X11_163 st_X11_oneIf rfl (Nat.le_of_ble_eq_true rfl) (Nat.le_of_ble_eq_true rfl) ?_
        refine Go.to (fun r G' D5 hr => ?_) h
        obtain ⟨rfl, z6, rfl, h⟩ := hr
        show Go E (d + 1) kc ks mX11_tree 98 [some (vR 2), some (vI x1), some (vI x2), some (vI x3), some (vI x7), some (vI z2), some (vI 0), some (vI x7), some (vI z2)] [vI z6, vI 0] G D5 Q
        refine g_iadd dX11_tree_98 ?_
        refine h_istore (L' := [some (vR 2), some (vI x1), some (vI x2), some (vI x3), some (vI x7), some (vI z2), some (vI (0 + z6)), some (vI x7), some (vI z2)]) dX11_tree_99 (Nat.le_of_ble_eq_true rfl) rfl rfl ?_
        refine h_iinc (L' := [some (vR 2), some (vI x1), some (vI x2), some (vI x3), some (vI x7), some (vI z2), some (vI (0 + z6)), some (vI (x7 + 1)), some (vI z2)]) dX11_tree_101 (Nat.le_of_ble_eq_true rfl) rfl rfl rfl ?_
        refine g_goto 43 dX11_tree_104 (by decide) ?_
        exact Go.drop (by simp only [mm_sub, and_self]) h
    · replace h := h.2 hc
      refine g_iload dX11_tree_63 rfl ?_
      refine g_iload dX11_tree_65 rfl ?_
      refine g_icmp_ge 81 dX11_tree_67 (by decide) ⟨fun hc => ?_, fun hc => ?_⟩
      · replace h := h.1 hc
        refine g_iload dX11_tree_81 rfl ?_
        refine g_iload dX11_tree_83 rfl ?_
        refine g_iload dX11_tree_85 rfl ?_
        refine g_icmp_ne 94 dX11_tree_87 (by decide) ⟨fun hc => ?_, fun hc => ?_⟩
        · replace h := h.1 hc
          refine g_iconst dX11_tree_94 ?_
          refine g_callS (kc := kc) (kc' := 0) (ks := ks) (ks' := 0) (as := [vI 0]) (st := [vI x6]) dX11_tree_95 cB_X11_oneIf lk_X11_163 st_X11_oneIf rfl (Nat.le_of_ble_eq_true rfl) (Nat.le_of_ble_eq_true rfl) ?_
          refine Go.to (fun r G' D7 hr => ?_) h
          obtain ⟨rfl, z8, rfl, h⟩ := hr
          show Go E (d + 1) kc ks mX11_tree 98 [some (vR 2), some (vI x1), some (vI x2), some (vI x3), some (vI x4), some (vI x5), some (vI x6), some (vI x7), some (vI z2)] [vI z8, vI x6] G D7 Q
          refine g_iadd dX11_tree_98 ?_
          refine h_istore (L' := [some (vR 2), some (vI x1), some (vI x2), some (vI x3), some (vI x4), some (vI x5), some (vI (x6 + z8)), some (vI x7), some (vI z2)]) dX11_tree_99 (Nat.le_of_ble_eq_true rfl) rfl rfl ?_
          refine h_iinc (L' := [some (vR 2), some (vI x1), some (vI x2), some (vI x3), some (vI x4), some (vI x5), some (vI (x6 + z8)), some (vI (x7 + 1)), some (vI z2)]) dX11_tree_101 (Nat.le_of_ble_eq_true rfl) rfl rfl rfl ?_
          refine g_goto 43 dX11_tree_104 (by decide) ?_
          exact Go.drop (by simp only [mm_sub, and_self]) h
        · replace h := h.2 hc
          refine g_iconst dX11_tree_90 ?_
          refine g_goto 95 dX11_tree_91 (by decide) ?_
          refine g_callS (kc := kc) (kc' := 0) (ks := ks) (ks' := 0) (as := [vI 1]) (st := [vI x6]) dX11_tree_95 cB_X11_oneIf lk_X11_163 st_X11_oneIf rfl (Nat.le_of_ble_eq_true rfl) (Nat.le_of_ble_eq_true rfl) ?_
          refine Go.to (fun r G' D9 hr => ?_) h
          obtain ⟨rfl, z10, rfl, h⟩ := hr
          show Go E (d + 1) kc ks mX11_tree 98 [some (vR 2), some (vI x1), some (vI x2), some (vI x3), some (vI x4), some (vI x5), some (vI x6), some (vI x7), some (vI z2)] [vI z10, vI x6] G D9 Q
          refine g_iadd dX11_tree_98 ?_
          refine h_istore (L' := [some (vR 2), some (vI x1), some (vI x2), some (vI x3), some (vI x4), some (vI x5), some (vI (x6 + z10)), some (vI x7), some (vI z2)]) dX11_tree_99 (Nat.le_of_ble_eq_true rfl) rfl rfl ?_
          refine h_iinc (L' := [some (vR 2), some (vI x1), some (vI x2), some (vI x3), some (vI x4), some (vI x5), some (vI (x6 + z10)), some (vI (x7 + 1)), some (vI z2)]) dX11_tree_101 (Nat.le_of_ble_eq_true rfl) rfl rfl rfl ?_
          refine g_goto 43 dX11_tree_104 (by decide) ?_
          exact Go.drop (by simp only [mm_sub, and_self]) h
      · replace h := h.2 hc
        refine g_iload dX11_tree_70 rfl ?_
        refine h_istore (L' := [some (vR 2), some (vI x1), some (vI x2), some (vI x3), some (vI x7), some (vI x5), some (vI x6), some (vI x7), some (vI z2)]) dX11_tree_72 (Nat.le_of_ble_eq_true rfl) rfl rfl ?_
        refine g_iload dX11_tree_74 rfl ?_
        refine h_istore (L' := [some (vR 2), some (vI x1), some (vI x2), some (vI x3), some (vI x7), some (vI z2), some (vI x6), some (vI x7), some (vI z2)]) dX11_tree_76 (Nat.le_of_ble_eq_true rfl) rfl rfl ?_
        refine g_iconst dX11_tree_78 ?_
        refine h_istore (L' := [some (vR 2), some (vI x1), some (vI x2), some (vI x3), some (vI x7), some (vI z2), some (vI 0), some (vI x7), some (vI z2)]) dX11_tree_79 (Nat.le_of_ble_eq_true rfl) rfl rfl ?_
        refine g_iload dX11_tree_81 rfl ?_
        refine g_iload dX11_tree_83 rfl ?_
        refine g_iload dX11_tree_85 rfl ?_
        refine g_icmp_ne 94 dX11_tree_87 (by decide) ⟨fun hc => ?_, fun hc => ?_⟩
        · replace h := h.1 hc
          refine g_iconst dX11_tree_94 ?_
          refine g_callS (kc := kc) (kc' := 0) (ks := ks) (ks' := 0) (as := [vI 0]) (st := [vI 0]) dX11_tree_95 cB_X11_oneIf lk_X11_163 st_X11_oneIf rfl (Nat.le_of_ble_eq_true rfl) (Nat.le_of_ble_eq_true rfl) ?_
          refine Go.to (fun r G' D11 hr => ?_) h
          obtain ⟨rfl, z12, rfl, h⟩ := hr
          show Go E (d + 1) kc ks mX11_tree 98 [some (vR 2), some (vI x1), some (vI x2), some (vI x3), some (vI x7), some (vI z2), some (vI 0), some (vI x7), some (vI z2)] [vI z12, vI 0] G D11 Q
          refine g_iadd dX11_tree_98 ?_
          refine h_istore (L' := [some (vR 2), some (vI x1), some (vI x2), some (vI x3), some (vI x7), some (vI z2), some (vI (0 + z12)), some (vI x7), some (vI z2)]) dX11_tree_99 (Nat.le_of_ble_eq_true rfl) rfl rfl ?_
          refine h_iinc (L' := [some (vR 2), some (vI x1), some (vI x2), some (vI x3), some (vI x7), some (vI z2), some (vI (0 + z12)), some (vI (x7 + 1)), some (vI z2)]) dX11_tree_101 (Nat.le_of_ble_eq_true rfl) rfl rfl rfl ?_
          refine g_goto 43 dX11_tree_104 (by decide) ?_
          exact Go.drop (by simp only [mm_sub, and_self]) h
        · replace h := h.2 hc
          refine g_iconst dX11_tree_90 ?_
          refine g_goto 95 dX11_tree_91 (by decide) ?_
          refine g_callS (kc := kc) (kc' := 0) (ks := ks) (ks' := 0) (as := [vI 1]) (st := [vI 0]) dX11_tree_95 cB_X11_oneIf lk_X11_163 st_X11_oneIf rfl (Nat.le_of_ble_eq_true rfl) (Nat.le_of_ble_eq_true rfl) ?_
          refine Go.to (fun r G' D13 hr => ?_) h
          obtain ⟨rfl, z14, rfl, h⟩ := hr
          show Go E (d + 1) kc ks mX11_tree 98 [some (vR 2), some (vI x1), some (vI x2), some (vI x3), some (vI x7), some (vI z2), some (vI 0), some (vI x7), some (vI z2)] [vI z14, vI 0] G D13 Q
          refine g_iadd dX11_tree_98 ?_
          refine h_istore (L' := [some (vR 2), some (vI x1), some (vI x2), some (vI x3), some (vI x7), some (vI z2), some (vI (0 + z14)), some (vI x7), some (vI z2)]) dX11_tree_99 (Nat.le_of_ble_eq_true rfl) rfl rfl ?_
          refine h_iinc (L' := [some (vR 2), some (vI x1), some (vI x2), some (vI x3), some (vI x7), some (vI z2), some (vI (0 + z14)), some (vI (x7 + 1)), some (vI z2)]) dX11_tree_101 (Nat.le_of_ble_eq_true rfl) rfl rfl rfl ?_
          refine g_goto 43 dX11_tree_104 (by decide) ?_
          exact Go.drop (by simp only [mm_sub, and_self]) h
set_option maxRecDepth 20000 in
theorem w_X11_claim {E : mmE} {d kc ks : Nat} {G : mmG} {D : mmD} {Q : mmQ} {x1 x2 x3 x4 x5 : Int} (hG : Sh G)  (h : Call E d 0 0 mX11_listedWord [vR 2, vI x2, vI x1] G D (retR G (fun z2 D1 => Call E d 0 0 mX11_listedWord [vR 2, vI x3, vI x1] G D1 (retR G (fun z4 D3 => ((z2 = 0 → Q (some (vI (-1))) G D3) ∧ (¬ z2 = 0 → ((¬ z4 = 0 → ((iv x2 = iv x3 → Q (some (vI (-2))) G D3) ∧ (¬ iv x2 = iv x3 → Call E d 0 0 mX11_isSureness [vI x5] G D3 (retI G (fun z6 D5 => ((¬ iv z6 = iv 0 → ((iv (D5 2 12) = iv 0 → ((iv (D5 2 15) < iv 60 → ((0 ≤ (2 * (D5 2 15)) ∧ (2 * (D5 2 15)) < 120) ∧ (∀ D7 : mmD, D7 = up2 D5 8 (2 * (D5 2 15)) x5 → (isW z2 ∧ (isW z4 ∧ ((¬ iv (D7 z2 2) = iv (D7 z4 2) → ((¬ iv 0 = iv x4 → Call E d 0 0 mX11_oneIf [vI 0] G D7 (retI G (fun z11 D10 => ((0 ≤ ((2 * (D7 2 15)) + 1) ∧ ((2 * (D7 2 15)) + 1) < 120) ∧ (∀ D12 : mmD, D12 = up2 D10 8 ((2 * (D7 2 15)) + 1) z11 → (∀ D13 : mmD, D13 = up2 D12 2 15 ((D12 2 15) + 1) → Q (some (vI ((D13 2 15) - 1))) G D13)))))) ∧ (iv 0 = iv x4 → Call E d 0 0 mX11_oneIf [vI 1] G D7 (retI G (fun z15 D14 => ((0 ≤ ((2 * (D7 2 15)) + 1) ∧ ((2 * (D7 2 15)) + 1) < 120) ∧ (∀ D16 : mmD, D16 = up2 D14 8 ((2 * (D7 2 15)) + 1) z15 → (∀ D17 : mmD, D17 = up2 D16 2 15 ((D16 2 15) + 1) → Q (some (vI ((D17 2 15) - 1))) G D17)))))))) ∧ (iv (D7 z2 2) = iv (D7 z4 2) → ((¬ iv 1 = iv x4 → Call E d 0 0 mX11_oneIf [vI 0] G D7 (retI G (fun z19 D18 => ((0 ≤ ((2 * (D7 2 15)) + 1) ∧ ((2 * (D7 2 15)) + 1) < 120) ∧ (∀ D20 : mmD, D20 = up2 D18 8 ((2 * (D7 2 15)) + 1) z19 → (∀ D21 : mmD, D21 = up2 D20 2 15 ((D20 2 15) + 1) → Q (some (vI ((D21 2 15) - 1))) G D21)))))) ∧ (iv 1 = iv x4 → Call E d 0 0 mX11_oneIf [vI 1] G D7 (retI G (fun z23 D22 => ((0 ≤ ((2 * (D7 2 15)) + 1) ∧ ((2 * (D7 2 15)) + 1) < 120) ∧ (∀ D24 : mmD, D24 = up2 D22 8 ((2 * (D7 2 15)) + 1) z23 → (∀ D25 : mmD, D25 = up2 D24 2 15 ((D24 2 15) + 1) → Q (some (vI ((D25 2 15) - 1))) G D25)))))))))))))) ∧ (¬ iv (D5 2 15) < iv 60 → Q (some (vI (-4))) G D5))) ∧ (¬ iv (D5 2 12) = iv 0 → Q (some (vI (-3))) G D5))) ∧ (iv z6 = iv 0 → Q (some (vI (-2))) G D5))))))) ∧ (z4 = 0 → Q (some (vI (-1))) G D3))))))))) : Call E (d + 1) kc ks mX11_claim [vR 2, vI x1, vI x2, vI x3, vI x4, vI x5] G D Q := by
  show Go E (d + 1) kc ks mX11_claim 0 [some (vR 2), some (vI x1), some (vI x2), some (vI x3), some (vI x4), some (vI x5), none, none] [] G D Q
  refine g_aload_n dX11_claim_0 rfl rfl ?_
  refine g_iload_n dX11_claim_1 rfl rfl ?_
  refine g_iload_n dX11_claim_2 rfl rfl ?_
  refine g_callV (kc := kc) (kc' := 0) (ks := ks) (ks' := 0) (as := [vI x2, vI x1]) (st := []) (ci := 10) dX11_claim_3 cB_X11_listedWord lk_X11_190 in_X11_listedWord se_X11_listedWord (by decide) rfl rfl (Nat.le_of_ble_eq_true rfl) (Nat.le_of_ble_eq_true rfl) (by decide) (hG.lt (by decide)) (congrArg Prod.fst hG.k2) ?_
  refine Go.to (fun r G' D1 hr => ?_) h
  obtain ⟨rfl, z2, rfl, h⟩ := hr
  show Go E (d + 1) kc ks mX11_claim 6 [some (vR 2), some (vI x1), some (vI x2), some (vI x3), some (vI x4), some (vI x5), none, none] [vR z2] G D1 Q
  refine h_astore (L' := [some (vR 2), some (vI x1), some (vI x2), some (vI x3), some (vI x4), some (vI x5), some (vR z2), none]) dX11_claim_6 (Nat.le_of_ble_eq_true rfl) rfl rfl ?_
  refine g_aload_n dX11_claim_8 rfl rfl ?_
  refine g_iload_n dX11_claim_9 rfl rfl ?_
  refine g_iload_n dX11_claim_10 rfl rfl ?_
  refine g_callV (kc := kc) (kc' := 0) (ks := ks) (ks' := 0) (as := [vI x3, vI x1]) (st := []) (ci := 10) dX11_claim_11 cB_X11_listedWord lk_X11_190 in_X11_listedWord se_X11_listedWord (by decide) rfl rfl (Nat.le_of_ble_eq_true rfl) (Nat.le_of_ble_eq_true rfl) (by decide) (hG.lt (by decide)) (congrArg Prod.fst hG.k2) ?_
  refine Go.to (fun r G' D3 hr => ?_) h
  obtain ⟨rfl, z4, rfl, h⟩ := hr
  show Go E (d + 1) kc ks mX11_claim 14 [some (vR 2), some (vI x1), some (vI x2), some (vI x3), some (vI x4), some (vI x5), some (vR z2), none] [vR z4] G D3 Q
  refine h_astore (L' := [some (vR 2), some (vI x1), some (vI x2), some (vI x3), some (vI x4), some (vI x5), some (vR z2), some (vR z4)]) dX11_claim_14 (Nat.le_of_ble_eq_true rfl) rfl rfl ?_
  refine g_aload dX11_claim_16 rfl ?_
  refine g_ifnull 26 dX11_claim_18 (by decide) ⟨fun hc => ?_, fun hc => ?_⟩
  · replace h := h.1 hc
    refine g_iconst dX11_claim_26 ?_
    exact g_iret dX11_claim_27 rfl h
  · replace h := h.2 hc
    refine g_aload dX11_claim_21 rfl ?_
    refine g_ifnonnull 28 dX11_claim_23 (by decide) ⟨fun hc => ?_, fun hc => ?_⟩
    · replace h := h.1 hc
      refine g_iload_n dX11_claim_28 rfl rfl ?_
      refine g_iload_n dX11_claim_29 rfl rfl ?_
      refine g_icmp_eq 41 dX11_claim_30 (by decide) ⟨fun hc => ?_, fun hc => ?_⟩
      · replace h := h.1 hc
        refine g_bipush dX11_claim_41 bp_m2 ?_
        exact g_iret dX11_claim_43 rfl h
      · replace h := h.2 hc
        refine g_iload dX11_claim_33 rfl ?_
        refine g_callS (kc := kc) (kc' := 0) (ks := ks) (ks' := 0) (as := [vI x5]) (st := []) dX11_claim_35 cB_X11_isSureness lk_X11_269 st_X11_isSureness rfl (Nat.le_of_ble_eq_true rfl) (Nat.le_of_ble_eq_true rfl) ?_
        refine Go.to (fun r G' D5 hr => ?_) h
        obtain ⟨rfl, z6, rfl, h⟩ := hr
        show Go E (d + 1) kc ks mX11_claim 38 [some (vR 2), some (vI x1), some (vI x2), some (vI x3), some (vI x4), some (vI x5), some (vR z2), some (vR z4)] [vI z6] G D5 Q
        refine g_if_ne 44 dX11_claim_38 (by decide) ⟨fun hc => ?_, fun hc => ?_⟩
        · replace h := h.1 hc
          refine g_aload_n dX11_claim_44 rfl rfl ?_
          refine h_getI (j := 12) dX11_claim_45 f_X11_157_10 rfl rfl (by decide) hG.k2 (by decide) (hG.lt (by decide)) ?_
          refine g_if_eq 54 dX11_claim_48 (by decide) ⟨fun hc => ?_, fun hc => ?_⟩
          · replace h := h.1 hc
            refine g_aload_n dX11_claim_54 rfl rfl ?_
            refine h_getI (j := 15) dX11_claim_55 f_X11_160_10 rfl rfl (by decide) hG.k2 (by decide) (hG.lt (by decide)) ?_
            refine g_bipush dX11_claim_58 bp_60 ?_
            refine g_icmp_lt 66 dX11_claim_60 (by decide) ⟨fun hc => ?_, fun hc => ?_⟩
            · replace h := h.1 hc
              refine g_aload_n dX11_claim_66 rfl rfl ?_
              refine h_getR (j := 14) dX11_claim_67 f_X11_38_10 rfl rfl (by decide) hG.k2 (by decide) (hG.lt (by decide)) hG.r2_14 ?_
              refine g_iconst dX11_claim_70 ?_
              refine g_aload_n dX11_claim_71 rfl rfl ?_
              refine h_getI (j := 15) dX11_claim_72 f_X11_160_10 rfl rfl (by decide) hG.k2 (by decide) (hG.lt (by decide)) ?_
              refine g_imul dX11_claim_75 ?_
              refine g_iload dX11_claim_76 rfl ?_
              refine g_iast dX11_claim_78 hG.k8 (by decide) (hG.lt (by decide)) (by decide) ⟨h.1, ?_⟩
              generalize hD_D7 : up2 D5 8 (2 * (D5 2 15)) x5 = D7
              replace h := h.2 _ hD_D7.symm
              refine g_aload_n dX11_claim_79 rfl rfl ?_
              refine h_getR (j := 14) dX11_claim_80 f_X11_38_10 rfl rfl (by decide) hG.k2 (by decide) (hG.lt (by decide)) hG.r2_14 ?_
              refine g_iconst dX11_claim_83 ?_
              refine g_aload_n dX11_claim_84 rfl rfl ?_
              refine h_getI (j := 15) dX11_claim_85 f_X11_160_10 rfl rfl (by decide) hG.k2 (by decide) (hG.lt (by decide)) ?_
              refine g_imul dX11_claim_88 ?_
              refine g_iconst dX11_claim_89 ?_
              refine g_iadd dX11_claim_90 ?_
              refine g_aload dX11_claim_91 rfl ?_
              have hf8 := h.1
              replace h := h.2
              refine h_getI (j := 2) dX11_claim_93 f_X11_105_9 rfl rfl (by decide) (hf8.k hG) hf8.ge (hf8.lt hG) ?_
              refine g_aload dX11_claim_96 rfl ?_
              have hf9 := h.1
              replace h := h.2
              refine h_getI (j := 2) dX11_claim_98 f_X11_105_9 rfl rfl (by decide) (hf9.k hG) hf9.ge (hf9.lt hG) ?_
              refine g_icmp_ne 108 dX11_claim_101 (by decide) ⟨fun hc => ?_, fun hc => ?_⟩
              · replace h := h.1 hc
                refine g_iconst dX11_claim_108 ?_
                refine g_iload dX11_claim_109 rfl ?_
                refine g_icmp_ne 118 dX11_claim_111 (by decide) ⟨fun hc => ?_, fun hc => ?_⟩
                · replace h := h.1 hc
                  refine g_iconst dX11_claim_118 ?_
                  refine g_callS (kc := kc) (kc' := 0) (ks := ks) (ks' := 0) (as := [vI 0]) (st := [vI ((2 * (D7 2 15)) + 1), vR 8]) dX11_claim_119 cB_X11_oneIf lk_X11_163 st_X11_oneIf rfl (Nat.le_of_ble_eq_true rfl) (Nat.le_of_ble_eq_true rfl) ?_
                  refine Go.to (fun r G' D10 hr => ?_) h
                  obtain ⟨rfl, z11, rfl, h⟩ := hr
                  show Go E (d + 1) kc ks mX11_claim 122 [some (vR 2), some (vI x1), some (vI x2), some (vI x3), some (vI x4), some (vI x5), some (vR z2), some (vR z4)] [vI z11, vI ((2 * (D7 2 15)) + 1), vR 8] G D10 Q
                  refine g_iast dX11_claim_122 hG.k8 (by decide) (hG.lt (by decide)) (by decide) ⟨h.1, ?_⟩
                  generalize hD_D12 : up2 D10 8 ((2 * (D7 2 15)) + 1) z11 = D12
                  replace h := h.2 _ hD_D12.symm
                  refine g_aload_n dX11_claim_123 rfl rfl ?_
                  refine g_dup dX11_claim_124 (fun _ h9 => by cases h9) ?_
                  refine h_getI (j := 15) dX11_claim_125 f_X11_160_10 rfl rfl (by decide) hG.k2 (by decide) (hG.lt (by decide)) ?_
                  refine g_iconst dX11_claim_128 ?_
                  refine g_iadd dX11_claim_129 ?_
                  refine h_putI (j := 15) dX11_claim_130 f_X11_160_10 (Or.inl (mm_finI (by decide +kernel))) rfl rfl (by decide) hG.k2 (by decide) (hG.lt (by decide)) ?_
                  generalize hD_D13 : up2 D12 2 15 ((D12 2 15) + 1) = D13
                  replace h := h _ hD_D13.symm
                  refine g_aload_n dX11_claim_133 rfl rfl ?_
                  refine h_getI (j := 15) dX11_claim_134 f_X11_160_10 rfl rfl (by decide) hG.k2 (by decide) (hG.lt (by decide)) ?_
                  refine g_iconst dX11_claim_137 ?_
                  refine g_isub dX11_claim_138 ?_
                  exact g_iret dX11_claim_139 rfl h
                · replace h := h.2 hc
                  refine g_iconst dX11_claim_114 ?_
                  refine g_goto 119 dX11_claim_115 (by decide) ?_
                  refine g_callS (kc := kc) (kc' := 0) (ks := ks) (ks' := 0) (as := [vI 1]) (st := [vI ((2 * (D7 2 15)) + 1), vR 8]) dX11_claim_119 cB_X11_oneIf lk_X11_163 st_X11_oneIf rfl (Nat.le_of_ble_eq_true rfl) (Nat.le_of_ble_eq_true rfl) ?_
                  refine Go.to (fun r G' D14 hr => ?_) h
                  obtain ⟨rfl, z15, rfl, h⟩ := hr
                  show Go E (d + 1) kc ks mX11_claim 122 [some (vR 2), some (vI x1), some (vI x2), some (vI x3), some (vI x4), some (vI x5), some (vR z2), some (vR z4)] [vI z15, vI ((2 * (D7 2 15)) + 1), vR 8] G D14 Q
                  refine g_iast dX11_claim_122 hG.k8 (by decide) (hG.lt (by decide)) (by decide) ⟨h.1, ?_⟩
                  generalize hD_D16 : up2 D14 8 ((2 * (D7 2 15)) + 1) z15 = D16
                  replace h := h.2 _ hD_D16.symm
                  refine g_aload_n dX11_claim_123 rfl rfl ?_
                  refine g_dup dX11_claim_124 (fun _ h9 => by cases h9) ?_
                  refine h_getI (j := 15) dX11_claim_125 f_X11_160_10 rfl rfl (by decide) hG.k2 (by decide) (hG.lt (by decide)) ?_
                  refine g_iconst dX11_claim_128 ?_
                  refine g_iadd dX11_claim_129 ?_
                  refine h_putI (j := 15) dX11_claim_130 f_X11_160_10 (Or.inl (mm_finI (by decide +kernel))) rfl rfl (by decide) hG.k2 (by decide) (hG.lt (by decide)) ?_
                  generalize hD_D17 : up2 D16 2 15 ((D16 2 15) + 1) = D17
                  replace h := h _ hD_D17.symm
                  refine g_aload_n dX11_claim_133 rfl rfl ?_
                  refine h_getI (j := 15) dX11_claim_134 f_X11_160_10 rfl rfl (by decide) hG.k2 (by decide) (hG.lt (by decide)) ?_
                  refine g_iconst dX11_claim_137 ?_
                  refine g_isub dX11_claim_138 ?_
                  exact g_iret dX11_claim_139 rfl h
              · replace h := h.2 hc
                refine g_iconst dX11_claim_104 ?_
                refine g_goto 109 dX11_claim_105 (by decide) ?_
                refine g_iload dX11_claim_109 rfl ?_
                refine g_icmp_ne 118 dX11_claim_111 (by decide) ⟨fun hc => ?_, fun hc => ?_⟩
                · replace h := h.1 hc
                  refine g_iconst dX11_claim_118 ?_
                  refine g_callS (kc := kc) (kc' := 0) (ks := ks) (ks' := 0) (as := [vI 0]) (st := [vI ((2 * (D7 2 15)) + 1), vR 8]) dX11_claim_119 cB_X11_oneIf lk_X11_163 st_X11_oneIf rfl (Nat.le_of_ble_eq_true rfl) (Nat.le_of_ble_eq_true rfl) ?_
                  refine Go.to (fun r G' D18 hr => ?_) h
                  obtain ⟨rfl, z19, rfl, h⟩ := hr
                  show Go E (d + 1) kc ks mX11_claim 122 [some (vR 2), some (vI x1), some (vI x2), some (vI x3), some (vI x4), some (vI x5), some (vR z2), some (vR z4)] [vI z19, vI ((2 * (D7 2 15)) + 1), vR 8] G D18 Q
                  refine g_iast dX11_claim_122 hG.k8 (by decide) (hG.lt (by decide)) (by decide) ⟨h.1, ?_⟩
                  generalize hD_D20 : up2 D18 8 ((2 * (D7 2 15)) + 1) z19 = D20
                  replace h := h.2 _ hD_D20.symm
                  refine g_aload_n dX11_claim_123 rfl rfl ?_
                  refine g_dup dX11_claim_124 (fun _ h9 => by cases h9) ?_
                  refine h_getI (j := 15) dX11_claim_125 f_X11_160_10 rfl rfl (by decide) hG.k2 (by decide) (hG.lt (by decide)) ?_
                  refine g_iconst dX11_claim_128 ?_
                  refine g_iadd dX11_claim_129 ?_
                  refine h_putI (j := 15) dX11_claim_130 f_X11_160_10 (Or.inl (mm_finI (by decide +kernel))) rfl rfl (by decide) hG.k2 (by decide) (hG.lt (by decide)) ?_
                  generalize hD_D21 : up2 D20 2 15 ((D20 2 15) + 1) = D21
                  replace h := h _ hD_D21.symm
                  refine g_aload_n dX11_claim_133 rfl rfl ?_
                  refine h_getI (j := 15) dX11_claim_134 f_X11_160_10 rfl rfl (by decide) hG.k2 (by decide) (hG.lt (by decide)) ?_
                  refine g_iconst dX11_claim_137 ?_
                  refine g_isub dX11_claim_138 ?_
                  exact g_iret dX11_claim_139 rfl h
                · replace h := h.2 hc
                  refine g_iconst dX11_claim_114 ?_
                  refine g_goto 119 dX11_claim_115 (by decide) ?_
                  refine g_callS (kc := kc) (kc' := 0) (ks := ks) (ks' := 0) (as := [vI 1]) (st := [vI ((2 * (D7 2 15)) + 1), vR 8]) dX11_claim_119 cB_X11_oneIf lk_X11_163 st_X11_oneIf rfl (Nat.le_of_ble_eq_true rfl) (Nat.le_of_ble_eq_true rfl) ?_
                  refine Go.to (fun r G' D22 hr => ?_) h
                  obtain ⟨rfl, z23, rfl, h⟩ := hr
                  show Go E (d + 1) kc ks mX11_claim 122 [some (vR 2), some (vI x1), some (vI x2), some (vI x3), some (vI x4), some (vI x5), some (vR z2), some (vR z4)] [vI z23, vI ((2 * (D7 2 15)) + 1), vR 8] G D22 Q
                  refine g_iast dX11_claim_122 hG.k8 (by decide) (hG.lt (by decide)) (by decide) ⟨h.1, ?_⟩
                  generalize hD_D24 : up2 D22 8 ((2 * (D7 2 15)) + 1) z23 = D24
                  replace h := h.2 _ hD_D24.symm
                  refine g_aload_n dX11_claim_123 rfl rfl ?_
                  refine g_dup dX11_claim_124 (fun _ h9 => by cases h9) ?_
                  refine h_getI (j := 15) dX11_claim_125 f_X11_160_10 rfl rfl (by decide) hG.k2 (by decide) (hG.lt (by decide)) ?_
                  refine g_iconst dX11_claim_128 ?_
                  refine g_iadd dX11_claim_129 ?_
                  refine h_putI (j := 15) dX11_claim_130 f_X11_160_10 (Or.inl (mm_finI (by decide +kernel))) rfl rfl (by decide) hG.k2 (by decide) (hG.lt (by decide)) ?_
                  generalize hD_D25 : up2 D24 2 15 ((D24 2 15) + 1) = D25
                  replace h := h _ hD_D25.symm
                  refine g_aload_n dX11_claim_133 rfl rfl ?_
                  refine h_getI (j := 15) dX11_claim_134 f_X11_160_10 rfl rfl (by decide) hG.k2 (by decide) (hG.lt (by decide)) ?_
                  refine g_iconst dX11_claim_137 ?_
                  refine g_isub dX11_claim_138 ?_
                  exact g_iret dX11_claim_139 rfl h
            · replace h := h.2 hc
              refine g_bipush dX11_claim_63 bp_m4 ?_
              exact g_iret dX11_claim_65 rfl h
          · replace h := h.2 hc
            refine g_bipush dX11_claim_51 bp_m3 ?_
            exact g_iret dX11_claim_53 rfl h
        · replace h := h.2 hc
          refine g_bipush dX11_claim_41 bp_m2 ?_
          exact g_iret dX11_claim_43 rfl h
    · replace h := h.2 hc
      refine g_iconst dX11_claim_26 ?_
      exact g_iret dX11_claim_27 rfl h
set_option maxRecDepth 20000 in
theorem w_X11_right {E : mmE} {d kc ks : Nat} {G : mmG} {D : mmD} {Q : mmQ} {x1 : Int} (hG : Sh G)  (h : ((iv x1 < iv 0 → Q (some (vI (-1))) G D) ∧ (¬ iv x1 < iv 0 → ((iv x1 < iv (D 2 15) → ((¬ iv (D 2 12) = iv 0 → ((0 ≤ ((2 * x1) + 1) ∧ ((2 * x1) + 1) < 120) ∧ Q (some (vI (D 8 ((2 * x1) + 1)))) G D)) ∧ (iv (D 2 12) = iv 0 → Q (some (vI (-3))) G D))) ∧ (¬ iv x1 < iv (D 2 15) → Q (some (vI (-1))) G D))))) : Call E d kc ks mX11_right [vR 2, vI x1] G D Q := by
  show Go E d kc ks mX11_right 0 [some (vR 2), some (vI x1)] [] G D Q
  refine g_iload_n dX11_right_0 rfl rfl ?_
  refine g_if_lt 12 dX11_right_1 (by decide) ⟨fun hc => ?_, fun hc => ?_⟩
  · replace h := h.1 hc
    refine g_iconst dX11_right_12 ?_
    exact g_iret dX11_right_13 rfl h
  · replace h := h.2 hc
    refine g_iload_n dX11_right_4 rfl rfl ?_
    refine g_aload_n dX11_right_5 rfl rfl ?_
    refine h_getI (j := 15) dX11_right_6 f_X11_160_10 rfl rfl (by decide) hG.k2 (by decide) (hG.lt (by decide)) ?_
    refine g_icmp_lt 14 dX11_right_9 (by decide) ⟨fun hc => ?_, fun hc => ?_⟩
    · replace h := h.1 hc
      refine g_aload_n dX11_right_14 rfl rfl ?_
      refine h_getI (j := 12) dX11_right_15 f_X11_157_10 rfl rfl (by decide) hG.k2 (by decide) (hG.lt (by decide)) ?_
      refine g_if_ne 24 dX11_right_18 (by decide) ⟨fun hc => ?_, fun hc => ?_⟩
      · replace h := h.1 hc
        refine g_aload_n dX11_right_24 rfl rfl ?_
        refine h_getR (j := 14) dX11_right_25 f_X11_38_10 rfl rfl (by decide) hG.k2 (by decide) (hG.lt (by decide)) hG.r2_14 ?_
        refine g_iconst dX11_right_28 ?_
        refine g_iload_n dX11_right_29 rfl rfl ?_
        refine g_imul dX11_right_30 ?_
        refine g_iconst dX11_right_31 ?_
        refine g_iadd dX11_right_32 ?_
        refine g_iald dX11_right_33 hG.k8 (by decide) (hG.lt (by decide)) (by decide) ⟨h.1, ?_⟩
        replace h := h.2
        exact g_iret dX11_right_34 rfl h
      · replace h := h.2 hc
        refine g_bipush dX11_right_21 bp_m3 ?_
        exact g_iret dX11_right_23 rfl h
    · replace h := h.2 hc
      refine g_iconst dX11_right_12 ?_
      exact g_iret dX11_right_13 rfl h
set_option maxRecDepth 20000 in
theorem w_X11_sure {E : mmE} {d kc ks : Nat} {G : mmG} {D : mmD} {Q : mmQ} {x1 x2 : Int} (hG : Sh G)  (h : ((iv x2 < iv 0 → Q (some (vI (-1))) G D) ∧ (¬ iv x2 < iv 0 → ((iv x2 ≤ iv 1 → Call E d 0 0 mX11_isSureness [vI x1] G D (retI G (fun z2 D1 => ((¬ iv z2 = iv 0 → ((¬ iv x2 = iv 1 → Go E (d + 1) kc ks mX11_sure 41 [some (vR 2), some (vI x1), some (vI x2), some (vI 0), some (vI 0)] [] G D1 Q) ∧ (iv x2 = iv 1 → ((¬ iv (D1 2 12) = iv 0 → Go E (d + 1) kc ks mX11_sure 41 [some (vR 2), some (vI x1), some (vI x2), some (vI 0), some (vI 0)] [] G D1 Q) ∧ (iv (D1 2 12) = iv 0 → Q (some (vI (-3))) G D1))))) ∧ (iv z2 = iv 0 → Q (some (vI (-2))) G D1))))) ∧ (¬ iv x2 ≤ iv 1 → Q (some (vI (-1))) G D))))) : Call E (d + 1) kc ks mX11_sure [vR 2, vI x1, vI x2] G D Q := by
  show Go E (d + 1) kc ks mX11_sure 0 [some (vR 2), some (vI x1), some (vI x2), none, none] [] G D Q
  refine g_iload_n dX11_sure_0 rfl rfl ?_
  refine g_if_lt 9 dX11_sure_1 (by decide) ⟨fun hc => ?_, fun hc => ?_⟩
  · replace h := h.1 hc
    refine g_iconst dX11_sure_9 ?_
    exact g_iret dX11_sure_10 rfl h
  · replace h := h.2 hc
    refine g_iload_n dX11_sure_4 rfl rfl ?_
    refine g_iconst dX11_sure_5 ?_
    refine g_icmp_le 11 dX11_sure_6 (by decide) ⟨fun hc => ?_, fun hc => ?_⟩
    · replace h := h.1 hc
      refine g_iload_n dX11_sure_11 rfl rfl ?_
      refine g_callS (kc := kc) (kc' := 0) (ks := ks) (ks' := 0) (as := [vI x1]) (st := []) dX11_sure_12 cB_X11_isSureness lk_X11_269 st_X11_isSureness rfl (Nat.le_of_ble_eq_true rfl) (Nat.le_of_ble_eq_true rfl) ?_
      refine Go.to (fun r G' D1 hr => ?_) h
      obtain ⟨rfl, z2, rfl, h⟩ := hr
      show Go E (d + 1) kc ks mX11_sure 15 [some (vR 2), some (vI x1), some (vI x2), none, none] [vI z2] G D1 Q
      refine g_if_ne 21 dX11_sure_15 (by decide) ⟨fun hc => ?_, fun hc => ?_⟩
      · replace h := h.1 hc
        refine g_iload_n dX11_sure_21 rfl rfl ?_
        refine g_iconst dX11_sure_22 ?_
        refine g_icmp_ne 36 dX11_sure_23 (by decide) ⟨fun hc => ?_, fun hc => ?_⟩
        · replace h := h.1 hc
          refine g_iconst dX11_sure_36 ?_
          refine h_istore_n (L' := [some (vR 2), some (vI x1), some (vI x2), some (vI 0), none]) dX11_sure_37 rfl (Nat.le_of_ble_eq_true rfl) rfl rfl ?_
          refine g_iconst dX11_sure_38 ?_
          refine h_istore (L' := [some (vR 2), some (vI x1), some (vI x2), some (vI 0), some (vI 0)]) dX11_sure_39 (Nat.le_of_ble_eq_true rfl) rfl rfl ?_
          exact Go.drop (by simp only [mm_sub, and_self]) h
        · replace h := h.2 hc
          refine g_aload_n dX11_sure_26 rfl rfl ?_
          refine h_getI (j := 12) dX11_sure_27 f_X11_157_10 rfl rfl (by decide) hG.k2 (by decide) (hG.lt (by decide)) ?_
          refine g_if_ne 36 dX11_sure_30 (by decide) ⟨fun hc => ?_, fun hc => ?_⟩
          · replace h := h.1 hc
            refine g_iconst dX11_sure_36 ?_
            refine h_istore_n (L' := [some (vR 2), some (vI x1), some (vI x2), some (vI 0), none]) dX11_sure_37 rfl (Nat.le_of_ble_eq_true rfl) rfl rfl ?_
            refine g_iconst dX11_sure_38 ?_
            refine h_istore (L' := [some (vR 2), some (vI x1), some (vI x2), some (vI 0), some (vI 0)]) dX11_sure_39 (Nat.le_of_ble_eq_true rfl) rfl rfl ?_
            exact Go.drop (by simp only [mm_sub, and_self]) h
          · replace h := h.2 hc
            refine g_bipush dX11_sure_33 bp_m3 ?_
            exact g_iret dX11_sure_35 rfl h
      · replace h := h.2 hc
        refine g_bipush dX11_sure_18 bp_m2 ?_
        exact g_iret dX11_sure_20 rfl h
    · replace h := h.2 hc
      refine g_iconst dX11_sure_9 ?_
      exact g_iret dX11_sure_10 rfl h
set_option maxRecDepth 20000 in
theorem w_X11_sure_41 {E : mmE} {d kc ks : Nat} {G : mmG} {D : mmD} {Q : mmQ} {x1 x2 x3 x4 : Int} (hG : Sh G)  (h : ((iv (D 2 15) ≤ iv x4 → Q (some (vI x3)) G D) ∧ (¬ iv (D 2 15) ≤ iv x4 → ((0 ≤ (2 * x4) ∧ (2 * x4) < 120) ∧ ((¬ iv (D 8 (2 * x4)) = iv x1 → Go E (d + 1) kc ks mX11_sure 41 [some (vR 2), some (vI x1), some (vI x2), some (vI x3), some (vI (x4 + 1))] [] G D Q) ∧ (iv (D 8 (2 * x4)) = iv x1 → ((¬ iv x2 = iv 0 → ((0 ≤ ((2 * x4) + 1) ∧ ((2 * x4) + 1) < 120) ∧ Go E (d + 1) kc ks mX11_sure 41 [some (vR 2), some (vI x1), some (vI x2), some (vI (x3 + (D 8 ((2 * x4) + 1)))), some (vI (x4 + 1))] [] G D Q)) ∧ (iv x2 = iv 0 → Go E (d + 1) kc ks mX11_sure 41 [some (vR 2), some (vI x1), some (vI x2), some (vI (x3 + 1)), some (vI (x4 + 1))] [] G D Q)))))))) : Go E (d + 1) kc ks mX11_sure 41 [some (vR 2), some (vI x1), some (vI x2), some (vI x3), some (vI x4)] [] G D Q := by
  refine g_iload dX11_sure_41 rfl ?_
  refine g_aload_n dX11_sure_43 rfl rfl ?_
  refine h_getI (j := 15) dX11_sure_44 f_X11_160_10 rfl rfl (by decide) hG.k2 (by decide) (hG.lt (by decide)) ?_
  refine g_icmp_ge 91 dX11_sure_47 (by decide) ⟨fun hc => ?_, fun hc => ?_⟩
  · replace h := h.1 hc
    refine g_iload_n dX11_sure_91 rfl rfl ?_
    exact g_iret dX11_sure_92 rfl h
  · replace h := h.2 hc
    refine g_aload_n dX11_sure_50 rfl rfl ?_
    refine h_getR (j := 14) dX11_sure_51 f_X11_38_10 rfl rfl (by decide) hG.k2 (by decide) (hG.lt (by decide)) hG.r2_14 ?_
    refine g_iconst dX11_sure_54 ?_
    refine g_iload dX11_sure_55 rfl ?_
    refine g_imul dX11_sure_57 ?_
    refine g_iald dX11_sure_58 hG.k8 (by decide) (hG.lt (by decide)) (by decide) ⟨h.1, ?_⟩
    replace h := h.2
    refine g_iload_n dX11_sure_59 rfl rfl ?_
    refine g_icmp_ne 85 dX11_sure_60 (by decide) ⟨fun hc => ?_, fun hc => ?_⟩
    · replace h := h.1 hc
      refine h_iinc (L' := [some (vR 2), some (vI x1), some (vI x2), some (vI x3), some (vI (x4 + 1))]) dX11_sure_85 (Nat.le_of_ble_eq_true rfl) rfl rfl rfl ?_
      refine g_goto 41 dX11_sure_88 (by decide) ?_
      exact Go.drop (by simp only [mm_sub, and_self]) h
    · replace h := h.2 hc
      refine g_iload_n dX11_sure_63 rfl rfl ?_
      refine g_iload_n dX11_sure_64 rfl rfl ?_
      refine g_if_ne 72 dX11_sure_65 (by decide) ⟨fun hc => ?_, fun hc => ?_⟩
      · replace h := h.1 hc
        refine g_aload_n dX11_sure_72 rfl rfl ?_
        refine h_getR (j := 14) dX11_sure_73 f_X11_38_10 rfl rfl (by decide) hG.k2 (by decide) (hG.lt (by decide)) hG.r2_14 ?_
        refine g_iconst dX11_sure_76 ?_
        refine g_iload dX11_sure_77 rfl ?_
        refine g_imul dX11_sure_79 ?_
        refine g_iconst dX11_sure_80 ?_
        refine g_iadd dX11_sure_81 ?_
        refine g_iald dX11_sure_82 hG.k8 (by decide) (hG.lt (by decide)) (by decide) ⟨h.1, ?_⟩
        replace h := h.2
        refine g_iadd dX11_sure_83 ?_
        refine h_istore_n (L' := [some (vR 2), some (vI x1), some (vI x2), some (vI (x3 + (D 8 ((2 * x4) + 1)))), some (vI x4)]) dX11_sure_84 rfl (Nat.le_of_ble_eq_true rfl) rfl rfl ?_
        refine h_iinc (L' := [some (vR 2), some (vI x1), some (vI x2), some (vI (x3 + (D 8 ((2 * x4) + 1)))), some (vI (x4 + 1))]) dX11_sure_85 (Nat.le_of_ble_eq_true rfl) rfl rfl rfl ?_
        refine g_goto 41 dX11_sure_88 (by decide) ?_
        exact Go.drop (by simp only [mm_sub, and_self]) h
      · replace h := h.2 hc
        refine g_iconst dX11_sure_68 ?_
        refine g_goto 83 dX11_sure_69 (by decide) ?_
        refine g_iadd dX11_sure_83 ?_
        refine h_istore_n (L' := [some (vR 2), some (vI x1), some (vI x2), some (vI (x3 + 1)), some (vI x4)]) dX11_sure_84 rfl (Nat.le_of_ble_eq_true rfl) rfl rfl ?_
        refine h_iinc (L' := [some (vR 2), some (vI x1), some (vI x2), some (vI (x3 + 1)), some (vI (x4 + 1))]) dX11_sure_85 (Nat.le_of_ble_eq_true rfl) rfl rfl rfl ?_
        refine g_goto 41 dX11_sure_88 (by decide) ?_
        exact Go.drop (by simp only [mm_sub, and_self]) h
set_option maxRecDepth 20000 in
theorem w_X11_oneIf {E : mmE} {d kc ks : Nat} {G : mmG} {D : mmD} {Q : mmQ} {x0 : Int} (hG : Sh G)  (h : ((iv x0 = iv 0 → Q (some (vI 0)) G D) ∧ (¬ iv x0 = iv 0 → Q (some (vI 1)) G D))) : Call E d kc ks mX11_oneIf [vI x0] G D Q := by
  show Go E d kc ks mX11_oneIf 0 [some (vI x0)] [] G D Q
  refine g_iload_n dX11_oneIf_0 rfl rfl ?_
  refine g_if_eq 8 dX11_oneIf_1 (by decide) ⟨fun hc => ?_, fun hc => ?_⟩
  · replace h := h.1 hc
    refine g_iconst dX11_oneIf_8 ?_
    exact g_iret dX11_oneIf_9 rfl h
  · replace h := h.2 hc
    refine g_iconst dX11_oneIf_4 ?_
    refine g_goto 9 dX11_oneIf_5 (by decide) ?_
    exact g_iret dX11_oneIf_9 rfl h
set_option maxRecDepth 20000 in
theorem w_X11_isTongue {E : mmE} {d kc ks : Nat} {G : mmG} {D : mmD} {Q : mmQ} {x1 : Int} (hG : Sh G)  (h : ((iv x1 < iv 0 → Q (some (vI 0)) G D) ∧ (¬ iv x1 < iv 0 → ((iv (D 2 3) ≤ iv x1 → Q (some (vI 0)) G D) ∧ (¬ iv (D 2 3) ≤ iv x1 → Q (some (vI 1)) G D))))) : Call E d kc ks mX11_isTongue [vR 2, vI x1] G D Q := by
  show Go E d kc ks mX11_isTongue 0 [some (vR 2), some (vI x1)] [] G D Q
  refine g_iload_n dX11_isTongue_0 rfl rfl ?_
  refine g_if_lt 16 dX11_isTongue_1 (by decide) ⟨fun hc => ?_, fun hc => ?_⟩
  · replace h := h.1 hc
    refine g_iconst dX11_isTongue_16 ?_
    exact g_zret dX11_isTongue_17 rfl ⟨Or.inl rfl, h⟩
  · replace h := h.2 hc
    refine g_iload_n dX11_isTongue_4 rfl rfl ?_
    refine g_aload_n dX11_isTongue_5 rfl rfl ?_
    refine h_getI (j := 3) dX11_isTongue_6 f_X11_64_10 rfl rfl (by decide) hG.k2 (by decide) (hG.lt (by decide)) ?_
    refine g_icmp_ge 16 dX11_isTongue_9 (by decide) ⟨fun hc => ?_, fun hc => ?_⟩
    · replace h := h.1 hc
      refine g_iconst dX11_isTongue_16 ?_
      exact g_zret dX11_isTongue_17 rfl ⟨Or.inl rfl, h⟩
    · replace h := h.2 hc
      refine g_iconst dX11_isTongue_12 ?_
      refine g_goto 17 dX11_isTongue_13 (by decide) ?_
      exact g_zret dX11_isTongue_17 rfl ⟨Or.inr rfl, h⟩
set_option maxRecDepth 20000 in
theorem w_X11_isMeaning {E : mmE} {d kc ks : Nat} {G : mmG} {D : mmD} {Q : mmQ} {x0 : Int} (hG : Sh G)  (h : ((iv x0 < iv 0 → Q (some (vI 0)) G D) ∧ (¬ iv x0 < iv 0 → ((iv 10 ≤ iv x0 → Q (some (vI 0)) G D) ∧ (¬ iv 10 ≤ iv x0 → Q (some (vI 1)) G D))))) : Call E d kc ks mX11_isMeaning [vI x0] G D Q := by
  show Go E d kc ks mX11_isMeaning 0 [some (vI x0)] [] G D Q
  refine g_iload_n dX11_isMeaning_0 rfl rfl ?_
  refine g_if_lt 14 dX11_isMeaning_1 (by decide) ⟨fun hc => ?_, fun hc => ?_⟩
  · replace h := h.1 hc
    refine g_iconst dX11_isMeaning_14 ?_
    exact g_zret dX11_isMeaning_15 rfl ⟨Or.inl rfl, h⟩
  · replace h := h.2 hc
    refine g_iload_n dX11_isMeaning_4 rfl rfl ?_
    refine g_bipush dX11_isMeaning_5 bp_10 ?_
    refine g_icmp_ge 14 dX11_isMeaning_7 (by decide) ⟨fun hc => ?_, fun hc => ?_⟩
    · replace h := h.1 hc
      refine g_iconst dX11_isMeaning_14 ?_
      exact g_zret dX11_isMeaning_15 rfl ⟨Or.inl rfl, h⟩
    · replace h := h.2 hc
      refine g_iconst dX11_isMeaning_10 ?_
      refine g_goto 15 dX11_isMeaning_11 (by decide) ?_
      exact g_zret dX11_isMeaning_15 rfl ⟨Or.inr rfl, h⟩
set_option maxRecDepth 20000 in
theorem w_X11_isLaw {E : mmE} {d kc ks : Nat} {G : mmG} {D : mmD} {Q : mmQ} {x1 : Int} (hG : Sh G)  (h : ((iv x1 < iv 0 → Q (some (vI 0)) G D) ∧ (¬ iv x1 < iv 0 → ((iv (D 2 6) ≤ iv x1 → Q (some (vI 0)) G D) ∧ (¬ iv (D 2 6) ≤ iv x1 → Q (some (vI 1)) G D))))) : Call E d kc ks mX11_isLaw [vR 2, vI x1] G D Q := by
  show Go E d kc ks mX11_isLaw 0 [some (vR 2), some (vI x1)] [] G D Q
  refine g_iload_n dX11_isLaw_0 rfl rfl ?_
  refine g_if_lt 16 dX11_isLaw_1 (by decide) ⟨fun hc => ?_, fun hc => ?_⟩
  · replace h := h.1 hc
    refine g_iconst dX11_isLaw_16 ?_
    exact g_zret dX11_isLaw_17 rfl ⟨Or.inl rfl, h⟩
  · replace h := h.2 hc
    refine g_iload_n dX11_isLaw_4 rfl rfl ?_
    refine g_aload_n dX11_isLaw_5 rfl rfl ?_
    refine h_getI (j := 6) dX11_isLaw_6 f_X11_77_10 rfl rfl (by decide) hG.k2 (by decide) (hG.lt (by decide)) ?_
    refine g_icmp_ge 16 dX11_isLaw_9 (by decide) ⟨fun hc => ?_, fun hc => ?_⟩
    · replace h := h.1 hc
      refine g_iconst dX11_isLaw_16 ?_
      exact g_zret dX11_isLaw_17 rfl ⟨Or.inl rfl, h⟩
    · replace h := h.2 hc
      refine g_iconst dX11_isLaw_12 ?_
      refine g_goto 17 dX11_isLaw_13 (by decide) ?_
      exact g_zret dX11_isLaw_17 rfl ⟨Or.inr rfl, h⟩
set_option maxRecDepth 20000 in
theorem w_X11_isSureness {E : mmE} {d kc ks : Nat} {G : mmG} {D : mmD} {Q : mmQ} {x0 : Int} (hG : Sh G)  (h : ((iv x0 < iv 0 → Q (some (vI 0)) G D) ∧ (¬ iv x0 < iv 0 → ((iv 10 < iv x0 → Q (some (vI 0)) G D) ∧ (¬ iv 10 < iv x0 → Q (some (vI 1)) G D))))) : Call E d kc ks mX11_isSureness [vI x0] G D Q := by
  show Go E d kc ks mX11_isSureness 0 [some (vI x0)] [] G D Q
  refine g_iload_n dX11_isSureness_0 rfl rfl ?_
  refine g_if_lt 14 dX11_isSureness_1 (by decide) ⟨fun hc => ?_, fun hc => ?_⟩
  · replace h := h.1 hc
    refine g_iconst dX11_isSureness_14 ?_
    exact g_zret dX11_isSureness_15 rfl ⟨Or.inl rfl, h⟩
  · replace h := h.2 hc
    refine g_iload_n dX11_isSureness_4 rfl rfl ?_
    refine g_bipush dX11_isSureness_5 bp_10 ?_
    refine g_icmp_gt 14 dX11_isSureness_7 (by decide) ⟨fun hc => ?_, fun hc => ?_⟩
    · replace h := h.1 hc
      refine g_iconst dX11_isSureness_14 ?_
      exact g_zret dX11_isSureness_15 rfl ⟨Or.inl rfl, h⟩
    · replace h := h.2 hc
      refine g_iconst dX11_isSureness_10 ?_
      refine g_goto 15 dX11_isSureness_11 (by decide) ?_
      exact g_zret dX11_isSureness_15 rfl ⟨Or.inr rfl, h⟩
set_option maxRecDepth 20000 in
theorem w_X11_isSoundOrNothing {E : mmE} {d kc ks : Nat} {G : mmG} {D : mmD} {Q : mmQ} {x0 : Int} (hG : Sh G)  (h : ((iv x0 < iv 0 → Q (some (vI 0)) G D) ∧ (¬ iv x0 < iv 0 → ((iv 26 < iv x0 → Q (some (vI 0)) G D) ∧ (¬ iv 26 < iv x0 → Q (some (vI 1)) G D))))) : Call E d kc ks mX11_isSoundOrNothing [vI x0] G D Q := by
  show Go E d kc ks mX11_isSoundOrNothing 0 [some (vI x0)] [] G D Q
  refine g_iload_n dX11_isSoundOrNothing_0 rfl rfl ?_
  refine g_if_lt 14 dX11_isSoundOrNothing_1 (by decide) ⟨fun hc => ?_, fun hc => ?_⟩
  · replace h := h.1 hc
    refine g_iconst dX11_isSoundOrNothing_14 ?_
    exact g_zret dX11_isSoundOrNothing_15 rfl ⟨Or.inl rfl, h⟩
  · replace h := h.2 hc
    refine g_iload_n dX11_isSoundOrNothing_4 rfl rfl ?_
    refine g_bipush dX11_isSoundOrNothing_5 bp_26 ?_
    refine g_icmp_gt 14 dX11_isSoundOrNothing_7 (by decide) ⟨fun hc => ?_, fun hc => ?_⟩
    · replace h := h.1 hc
      refine g_iconst dX11_isSoundOrNothing_14 ?_
      exact g_zret dX11_isSoundOrNothing_15 rfl ⟨Or.inl rfl, h⟩
    · replace h := h.2 hc
      refine g_iconst dX11_isSoundOrNothing_10 ?_
      refine g_goto 15 dX11_isSoundOrNothing_11 (by decide) ?_
      exact g_zret dX11_isSoundOrNothing_15 rfl ⟨Or.inr rfl, h⟩
set_option maxRecDepth 20000 in
theorem w_X11_isLetterByte {E : mmE} {d kc ks : Nat} {G : mmG} {D : mmD} {Q : mmQ} {x0 : Int} (hG : Sh G)  (h : ((iv x0 < iv 97 → Q (some (vI 0)) G D) ∧ (¬ iv x0 < iv 97 → ((iv 122 < iv x0 → Q (some (vI 0)) G D) ∧ (¬ iv 122 < iv x0 → Q (some (vI 1)) G D))))) : Call E d kc ks mX11_isLetterByte [vI x0] G D Q := by
  show Go E d kc ks mX11_isLetterByte 0 [some (vI x0)] [] G D Q
  refine g_iload_n dX11_isLetterByte_0 rfl rfl ?_
  refine g_bipush dX11_isLetterByte_1 bp_97 ?_
  refine g_icmp_lt 16 dX11_isLetterByte_3 (by decide) ⟨fun hc => ?_, fun hc => ?_⟩
  · replace h := h.1 hc
    refine g_iconst dX11_isLetterByte_16 ?_
    exact g_zret dX11_isLetterByte_17 rfl ⟨Or.inl rfl, h⟩
  · replace h := h.2 hc
    refine g_iload_n dX11_isLetterByte_6 rfl rfl ?_
    refine g_bipush dX11_isLetterByte_7 bp_122 ?_
    refine g_icmp_gt 16 dX11_isLetterByte_9 (by decide) ⟨fun hc => ?_, fun hc => ?_⟩
    · replace h := h.1 hc
      refine g_iconst dX11_isLetterByte_16 ?_
      exact g_zret dX11_isLetterByte_17 rfl ⟨Or.inl rfl, h⟩
    · replace h := h.2 hc
      refine g_iconst dX11_isLetterByte_12 ?_
      refine g_goto 17 dX11_isLetterByte_13 (by decide) ?_
      exact g_zret dX11_isLetterByte_17 rfl ⟨Or.inr rfl, h⟩
set_option maxRecDepth 20000 in
theorem w_X11_isVowel {E : mmE} {d kc ks : Nat} {G : mmG} {D : mmD} {Q : mmQ} {x0 : Int} (hG : Sh G)  (h : ((iv x0 = iv 0 → Q (some (vI 1)) G D) ∧ (¬ iv x0 = iv 0 → ((iv x0 = iv 4 → Q (some (vI 1)) G D) ∧ (¬ iv x0 = iv 4 → ((iv x0 = iv 8 → Q (some (vI 1)) G D) ∧ (¬ iv x0 = iv 8 → ((iv x0 = iv 14 → Q (some (vI 1)) G D) ∧ (¬ iv x0 = iv 14 → ((¬ iv x0 = iv 20 → Q (some (vI 0)) G D) ∧ (iv x0 = iv 20 → Q (some (vI 1)) G D))))))))))) : Call E d kc ks mX11_isVowel [vI x0] G D Q := by
  show Go E d kc ks mX11_isVowel 0 [some (vI x0)] [] G D Q
  refine g_iload_n dX11_isVowel_0 rfl rfl ?_
  refine g_if_eq 27 dX11_isVowel_1 (by decide) ⟨fun hc => ?_, fun hc => ?_⟩
  · replace h := h.1 hc
    refine g_iconst dX11_isVowel_27 ?_
    refine g_goto 32 dX11_isVowel_28 (by decide) ?_
    exact g_zret dX11_isVowel_32 rfl ⟨Or.inr rfl, h⟩
  · replace h := h.2 hc
    refine g_iload_n dX11_isVowel_4 rfl rfl ?_
    refine g_iconst dX11_isVowel_5 ?_
    refine g_icmp_eq 27 dX11_isVowel_6 (by decide) ⟨fun hc => ?_, fun hc => ?_⟩
    · replace h := h.1 hc
      refine g_iconst dX11_isVowel_27 ?_
      refine g_goto 32 dX11_isVowel_28 (by decide) ?_
      exact g_zret dX11_isVowel_32 rfl ⟨Or.inr rfl, h⟩
    · replace h := h.2 hc
      refine g_iload_n dX11_isVowel_9 rfl rfl ?_
      refine g_bipush dX11_isVowel_10 bp_8 ?_
      refine g_icmp_eq 27 dX11_isVowel_12 (by decide) ⟨fun hc => ?_, fun hc => ?_⟩
      · replace h := h.1 hc
        refine g_iconst dX11_isVowel_27 ?_
        refine g_goto 32 dX11_isVowel_28 (by decide) ?_
        exact g_zret dX11_isVowel_32 rfl ⟨Or.inr rfl, h⟩
      · replace h := h.2 hc
        refine g_iload_n dX11_isVowel_15 rfl rfl ?_
        refine g_bipush dX11_isVowel_16 bp_14 ?_
        refine g_icmp_eq 27 dX11_isVowel_18 (by decide) ⟨fun hc => ?_, fun hc => ?_⟩
        · replace h := h.1 hc
          refine g_iconst dX11_isVowel_27 ?_
          refine g_goto 32 dX11_isVowel_28 (by decide) ?_
          exact g_zret dX11_isVowel_32 rfl ⟨Or.inr rfl, h⟩
        · replace h := h.2 hc
          refine g_iload_n dX11_isVowel_21 rfl rfl ?_
          refine g_bipush dX11_isVowel_22 bp_20 ?_
          refine g_icmp_ne 31 dX11_isVowel_24 (by decide) ⟨fun hc => ?_, fun hc => ?_⟩
          · replace h := h.1 hc
            refine g_iconst dX11_isVowel_31 ?_
            exact g_zret dX11_isVowel_32 rfl ⟨Or.inl rfl, h⟩
          · replace h := h.2 hc
            refine g_iconst dX11_isVowel_27 ?_
            refine g_goto 32 dX11_isVowel_28 (by decide) ?_
            exact g_zret dX11_isVowel_32 rfl ⟨Or.inr rfl, h⟩
set_option maxRecDepth 20000 in
theorem w_X11_spokenWord {E : mmE} {d kc ks : Nat} {G : mmG} {D : mmD} {Q : mmQ} {x1 x2 : Int} (hG : Sh G)  (h : Call E d 0 0 mX11_isTongue [vR 2, vI x1] G D (retI G (fun z2 D1 => ((iv z2 = iv 0 → Q (some (vR 0)) G D1) ∧ (¬ iv z2 = iv 0 → Call E d 0 0 mX11_isMeaning [vI x2] G D1 (retI G (fun z4 D3 => ((¬ iv z4 = iv 0 → ((0 ≤ ((x1 * 10) + x2) ∧ ((x1 * 10) + x2) < 60) ∧ ((iv (D3 (22 + 2 * ((x1 * 10) + x2)) 1) ≤ iv 0 → Q (some (vR 0)) G D3) ∧ (¬ iv (D3 (22 + 2 * ((x1 * 10) + x2)) 1) ≤ iv 0 → Q (some (vR (22 + 2 * ((x1 * 10) + x2)))) G D3)))) ∧ (iv z4 = iv 0 → Q (some (vR 0)) G D3))))))))) : Call E (d + 1) kc ks mX11_spokenWord [vR 2, vI x1, vI x2] G D Q := by
  show Go E (d + 1) kc ks mX11_spokenWord 0 [some (vR 2), some (vI x1), some (vI x2), none] [] G D Q
  refine g_aload_n dX11_spokenWord_0 rfl rfl ?_
  refine g_iload_n dX11_spokenWord_1 rfl rfl ?_
  refine g_callV (kc := kc) (kc' := 0) (ks := ks) (ks' := 0) (as := [vI x1]) (st := []) (ci := 10) dX11_spokenWord_2 cB_X11_isTongue lk_X11_84 in_X11_isTongue se_X11_isTongue (by decide) rfl rfl (Nat.le_of_ble_eq_true rfl) (Nat.le_of_ble_eq_true rfl) (by decide) (hG.lt (by decide)) (congrArg Prod.fst hG.k2) ?_
  refine Go.to (fun r G' D1 hr => ?_) h
  obtain ⟨rfl, z2, rfl, h⟩ := hr
  show Go E (d + 1) kc ks mX11_spokenWord 5 [some (vR 2), some (vI x1), some (vI x2), none] [vI z2] G D1 Q
  refine g_if_eq 15 dX11_spokenWord_5 (by decide) ⟨fun hc => ?_, fun hc => ?_⟩
  · replace h := h.1 hc
    refine g_null dX11_spokenWord_15 ?_
    exact g_aret dX11_spokenWord_16 rfl (Or.inl ⟨_, rfl⟩) h
  · replace h := h.2 hc
    refine g_iload_n dX11_spokenWord_8 rfl rfl ?_
    refine g_callS (kc := kc) (kc' := 0) (ks := ks) (ks' := 0) (as := [vI x2]) (st := []) dX11_spokenWord_9 cB_X11_isMeaning lk_X11_88 st_X11_isMeaning rfl (Nat.le_of_ble_eq_true rfl) (Nat.le_of_ble_eq_true rfl) ?_
    refine Go.to (fun r G' D3 hr => ?_) h
    obtain ⟨rfl, z4, rfl, h⟩ := hr
    show Go E (d + 1) kc ks mX11_spokenWord 12 [some (vR 2), some (vI x1), some (vI x2), none] [vI z4] G D3 Q
    refine g_if_ne 17 dX11_spokenWord_12 (by decide) ⟨fun hc => ?_, fun hc => ?_⟩
    · replace h := h.1 hc
      refine g_aload_n dX11_spokenWord_17 rfl rfl ?_
      refine h_getR (j := 2) dX11_spokenWord_18 f_X11_15_10 rfl rfl (by decide) hG.k2 (by decide) (hG.lt (by decide)) hG.r2_2 ?_
      refine g_iload_n dX11_spokenWord_21 rfl rfl ?_
      refine g_bipush dX11_spokenWord_22 bp_10 ?_
      refine g_imul dX11_spokenWord_24 ?_
      refine g_iload_n dX11_spokenWord_25 rfl rfl ?_
      refine g_iadd dX11_spokenWord_26 ?_
      refine h_aaldw hG dX11_spokenWord_27 ⟨h.1, ?_⟩
      have hw6 := isW.of h.1.1 h.1.2
      replace h := h.2
      refine h_astore_n (L' := [some (vR 2), some (vI x1), some (vI x2), some (vR (22 + 2 * ((x1 * 10) + x2)))]) dX11_spokenWord_28 rfl (Nat.le_of_ble_eq_true rfl) rfl rfl ?_
      refine g_aload_n dX11_spokenWord_29 rfl rfl ?_
      refine h_getI (j := 1) dX11_spokenWord_30 f_X11_135_9 rfl rfl (by decide) (hw6.k hG) hw6.ge (hw6.lt hG) ?_
      refine g_if_le 40 dX11_spokenWord_33 (by decide) ⟨fun hc => ?_, fun hc => ?_⟩
      · replace h := h.1 hc
        refine g_null dX11_spokenWord_40 ?_
        exact g_aret dX11_spokenWord_41 rfl (Or.inl ⟨_, rfl⟩) h
      · replace h := h.2 hc
        refine g_aload_n dX11_spokenWord_36 rfl rfl ?_
        refine g_goto 41 dX11_spokenWord_37 (by decide) ?_
        exact g_aret dX11_spokenWord_41 rfl (Or.inl ⟨_, rfl⟩) h
    · replace h := h.2 hc
      refine g_null dX11_spokenWord_15 ?_
      exact g_aret dX11_spokenWord_16 rfl (Or.inl ⟨_, rfl⟩) h
set_option maxRecDepth 20000 in
theorem w_X11_listedWord {E : mmE} {d kc ks : Nat} {G : mmG} {D : mmD} {Q : mmQ} {x1 x2 : Int} (hG : Sh G)  (h : Call E d 0 0 mX11_spokenWord [vR 2, vI x1, vI x2] G D (retR G (fun z2 D1 => ((z2 = 0 → Q (some (vR 0)) G D1) ∧ (¬ z2 = 0 → (isW z2 ∧ ((iv (D1 z2 4) = iv 0 → Q (some (vR z2)) G D1) ∧ (¬ iv (D1 z2 4) = iv 0 → Q (some (vR 0)) G D1)))))))) : Call E (d + 1) kc ks mX11_listedWord [vR 2, vI x1, vI x2] G D Q := by
  show Go E (d + 1) kc ks mX11_listedWord 0 [some (vR 2), some (vI x1), some (vI x2), none] [] G D Q
  refine g_aload_n dX11_listedWord_0 rfl rfl ?_
  refine g_iload_n dX11_listedWord_1 rfl rfl ?_
  refine g_iload_n dX11_listedWord_2 rfl rfl ?_
  refine g_callV (kc := kc) (kc' := 0) (ks := ks) (ks' := 0) (as := [vI x1, vI x2]) (st := []) (ci := 10) dX11_listedWord_3 cB_X11_spokenWord lk_X11_131 in_X11_spokenWord se_X11_spokenWord (by decide) rfl rfl (Nat.le_of_ble_eq_true rfl) (Nat.le_of_ble_eq_true rfl) (by decide) (hG.lt (by decide)) (congrArg Prod.fst hG.k2) ?_
  refine Go.to (fun r G' D1 hr => ?_) h
  obtain ⟨rfl, z2, rfl, h⟩ := hr
  show Go E (d + 1) kc ks mX11_listedWord 6 [some (vR 2), some (vI x1), some (vI x2), none] [vR z2] G D1 Q
  refine h_astore_n (L' := [some (vR 2), some (vI x1), some (vI x2), some (vR z2)]) dX11_listedWord_6 rfl (Nat.le_of_ble_eq_true rfl) rfl rfl ?_
  refine g_aload_n dX11_listedWord_7 rfl rfl ?_
  refine g_ifnull 18 dX11_listedWord_8 (by decide) ⟨fun hc => ?_, fun hc => ?_⟩
  · replace h := h.1 hc
    refine g_null dX11_listedWord_18 ?_
    refine g_goto 23 dX11_listedWord_19 (by decide) ?_
    exact g_aret dX11_listedWord_23 rfl (Or.inl ⟨_, rfl⟩) h
  · replace h := h.2 hc
    refine g_aload_n dX11_listedWord_11 rfl rfl ?_
    have hf3 := h.1
    replace h := h.2
    refine h_getI (j := 4) dX11_listedWord_12 f_X11_187_9 rfl rfl (by decide) (hf3.k hG) hf3.ge (hf3.lt hG) ?_
    refine g_if_eq 22 dX11_listedWord_15 (by decide) ⟨fun hc => ?_, fun hc => ?_⟩
    · replace h := h.1 hc
      refine g_aload_n dX11_listedWord_22 rfl rfl ?_
      exact g_aret dX11_listedWord_23 rfl (Or.inl ⟨_, rfl⟩) h
    · replace h := h.2 hc
      refine g_null dX11_listedWord_18 ?_
      refine g_goto 23 dX11_listedWord_19 (by decide) ?_
      exact g_aret dX11_listedWord_23 rfl (Or.inl ⟨_, rfl⟩) h
set_option maxRecDepth 20000 in
theorem w_X11_newTongue {E : mmE} {d kc ks : Nat} {G : mmG} {D : mmD} {Q : mmQ} {x1 x2 : Int} (hG : Sh G)  (h : ((iv 6 ≤ iv (D 2 3) → Q (some (vI ((D 2 3) - 1))) G D) ∧ (¬ iv 6 ≤ iv (D 2 3) → ((0 ≤ (2 * (D 2 3)) ∧ (2 * (D 2 3)) < 12) ∧ (∀ D1 : mmD, D1 = up2 D 5 (2 * (D 2 3)) x1 → ((0 ≤ ((2 * (D1 2 3)) + 1) ∧ ((2 * (D1 2 3)) + 1) < 12) ∧ (∀ D2 : mmD, D2 = up2 D1 5 ((2 * (D1 2 3)) + 1) x2 → (∀ D3 : mmD, D3 = up2 D2 2 3 ((D2 2 3) + 1) → Q (some (vI ((D3 2 3) - 1))) G D3)))))))) : Call E d kc ks mX11_newTongue [vR 2, vI x1, vI x2] G D Q := by
  show Go E d kc ks mX11_newTongue 0 [some (vR 2), some (vI x1), some (vI x2)] [] G D Q
  refine g_aload_n dX11_newTongue_0 rfl rfl ?_
  refine h_getI (j := 3) dX11_newTongue_1 f_X11_64_10 rfl rfl (by decide) hG.k2 (by decide) (hG.lt (by decide)) ?_
  refine g_bipush dX11_newTongue_4 bp_6 ?_
  refine g_icmp_ge 45 dX11_newTongue_6 (by decide) ⟨fun hc => ?_, fun hc => ?_⟩
  · replace h := h.1 hc
    refine g_aload_n dX11_newTongue_45 rfl rfl ?_
    refine h_getI (j := 3) dX11_newTongue_46 f_X11_64_10 rfl rfl (by decide) hG.k2 (by decide) (hG.lt (by decide)) ?_
    refine g_iconst dX11_newTongue_49 ?_
    refine g_isub dX11_newTongue_50 ?_
    exact g_iret dX11_newTongue_51 rfl h
  · replace h := h.2 hc
    refine g_aload_n dX11_newTongue_9 rfl rfl ?_
    refine h_getR (j := 4) dX11_newTongue_10 f_X11_19_10 rfl rfl (by decide) hG.k2 (by decide) (hG.lt (by decide)) hG.r2_4 ?_
    refine g_iconst dX11_newTongue_13 ?_
    refine g_aload_n dX11_newTongue_14 rfl rfl ?_
    refine h_getI (j := 3) dX11_newTongue_15 f_X11_64_10 rfl rfl (by decide) hG.k2 (by decide) (hG.lt (by decide)) ?_
    refine g_imul dX11_newTongue_18 ?_
    refine g_iload_n dX11_newTongue_19 rfl rfl ?_
    refine g_iast dX11_newTongue_20 hG.k5 (by decide) (hG.lt (by decide)) (by decide) ⟨h.1, ?_⟩
    generalize hD_D1 : up2 D 5 (2 * (D 2 3)) x1 = D1
    replace h := h.2 _ hD_D1.symm
    refine g_aload_n dX11_newTongue_21 rfl rfl ?_
    refine h_getR (j := 4) dX11_newTongue_22 f_X11_19_10 rfl rfl (by decide) hG.k2 (by decide) (hG.lt (by decide)) hG.r2_4 ?_
    refine g_iconst dX11_newTongue_25 ?_
    refine g_aload_n dX11_newTongue_26 rfl rfl ?_
    refine h_getI (j := 3) dX11_newTongue_27 f_X11_64_10 rfl rfl (by decide) hG.k2 (by decide) (hG.lt (by decide)) ?_
    refine g_imul dX11_newTongue_30 ?_
    refine g_iconst dX11_newTongue_31 ?_
    refine g_iadd dX11_newTongue_32 ?_
    refine g_iload_n dX11_newTongue_33 rfl rfl ?_
    refine g_iast dX11_newTongue_34 hG.k5 (by decide) (hG.lt (by decide)) (by decide) ⟨h.1, ?_⟩
    generalize hD_D2 : up2 D1 5 ((2 * (D1 2 3)) + 1) x2 = D2
    replace h := h.2 _ hD_D2.symm
    refine g_aload_n dX11_newTongue_35 rfl rfl ?_
    refine g_dup dX11_newTongue_36 (fun _ h9 => by cases h9) ?_
    refine h_getI (j := 3) dX11_newTongue_37 f_X11_64_10 rfl rfl (by decide) hG.k2 (by decide) (hG.lt (by decide)) ?_
    refine g_iconst dX11_newTongue_40 ?_
    refine g_iadd dX11_newTongue_41 ?_
    refine h_putI (j := 3) dX11_newTongue_42 f_X11_64_10 (Or.inl (mm_finI (by decide +kernel))) rfl rfl (by decide) hG.k2 (by decide) (hG.lt (by decide)) ?_
    generalize hD_D3 : up2 D2 2 3 ((D2 2 3) + 1) = D3
    replace h := h _ hD_D3.symm
    refine g_aload_n dX11_newTongue_45 rfl rfl ?_
    refine h_getI (j := 3) dX11_newTongue_46 f_X11_64_10 rfl rfl (by decide) hG.k2 (by decide) (hG.lt (by decide)) ?_
    refine g_iconst dX11_newTongue_49 ?_
    refine g_isub dX11_newTongue_50 ?_
    exact g_iret dX11_newTongue_51 rfl h
set_option maxRecDepth 20000 in
theorem w_X11_faultOfWord {E : mmE} {d kc ks : Nat} {G : mmG} {D : mmD} {Q : mmQ} {x1 : Int} (hG : Sh G)  (h : Go E (d + 1) kc ks mX11_faultOfWord 2 [some (vR 2), some (vI x1), some (vI 0)] [] G D Q) : Call E (d + 1) kc ks mX11_faultOfWord [vR 2, vI x1] G D Q := by
  show Go E (d + 1) kc ks mX11_faultOfWord 0 [some (vR 2), some (vI x1), none] [] G D Q
  refine g_iconst dX11_faultOfWord_0 ?_
  refine h_istore_n (L' := [some (vR 2), some (vI x1), some (vI 0)]) dX11_faultOfWord_1 rfl (Nat.le_of_ble_eq_true rfl) rfl rfl ?_
  exact Go.drop (by simp only [mm_sub, and_self]) h
set_option maxRecDepth 20000 in
theorem w_X11_faultOfWord_2 {E : mmE} {d kc ks : Nat} {G : mmG} {D : mmD} {Q : mmQ} {x1 x2 : Int} (hG : Sh G)  (h : ((iv x1 ≤ iv x2 → ((¬ iv x1 = iv 0 → Q (some (vI (-1))) G D) ∧ (iv x1 = iv 0 → Q (some (vI 0)) G D))) ∧ (¬ iv x1 ≤ iv x2 → ((iv 8 ≤ iv x2 → Q (some (vI x2)) G D) ∧ (¬ iv 8 ≤ iv x2 → ((0 ≤ x2 ∧ x2 < 80) ∧ Call E d 0 0 mX11_isLetterByte [vI (D 3 x2)] G D (retI G (fun z2 D1 => ((¬ iv z2 = iv 0 → Go E (d + 1) kc ks mX11_faultOfWord 2 [some (vR 2), some (vI x1), some (vI (x2 + 1))] [] G D1 Q) ∧ (iv z2 = iv 0 → Q (some (vI x2)) G D1)))))))))) : Go E (d + 1) kc ks mX11_faultOfWord 2 [some (vR 2), some (vI x1), some (vI x2)] [] G D Q := by
  refine g_iload_n dX11_faultOfWord_2 rfl rfl ?_
  refine g_iload_n dX11_faultOfWord_3 rfl rfl ?_
  refine g_icmp_ge 33 dX11_faultOfWord_4 (by decide) ⟨fun hc => ?_, fun hc => ?_⟩
  · replace h := h.1 hc
    refine g_iload_n dX11_faultOfWord_33 rfl rfl ?_
    refine g_if_ne 41 dX11_faultOfWord_34 (by decide) ⟨fun hc => ?_, fun hc => ?_⟩
    · replace h := h.1 hc
      refine g_iconst dX11_faultOfWord_41 ?_
      exact g_iret dX11_faultOfWord_42 rfl h
    · replace h := h.2 hc
      refine g_iconst dX11_faultOfWord_37 ?_
      refine g_goto 42 dX11_faultOfWord_38 (by decide) ?_
      exact g_iret dX11_faultOfWord_42 rfl h
  · replace h := h.2 hc
    refine g_iload_n dX11_faultOfWord_7 rfl rfl ?_
    refine g_bipush dX11_faultOfWord_8 bp_8 ?_
    refine g_icmp_ge 25 dX11_faultOfWord_10 (by decide) ⟨fun hc => ?_, fun hc => ?_⟩
    · replace h := h.1 hc
      refine g_iload_n dX11_faultOfWord_25 rfl rfl ?_
      exact g_iret dX11_faultOfWord_26 rfl h
    · replace h := h.2 hc
      refine g_aload_n dX11_faultOfWord_13 rfl rfl ?_
      refine h_getR (j := 0) dX11_faultOfWord_14 f_X11_9_10 rfl rfl (by decide) hG.k2 (by decide) (hG.lt (by decide)) hG.r2_0 ?_
      refine g_iload_n dX11_faultOfWord_17 rfl rfl ?_
      refine g_iald dX11_faultOfWord_18 hG.k3 (by decide) (hG.lt (by decide)) (by decide) ⟨h.1, ?_⟩
      replace h := h.2
      refine g_callS (kc := kc) (kc' := 0) (ks := ks) (ks' := 0) (as := [vI (D 3 x2)]) (st := []) dX11_faultOfWord_19 cB_X11_isLetterByte lk_X11_295 st_X11_isLetterByte rfl (Nat.le_of_ble_eq_true rfl) (Nat.le_of_ble_eq_true rfl) ?_
      refine Go.to (fun r G' D1 hr => ?_) h
      obtain ⟨rfl, z2, rfl, h⟩ := hr
      show Go E (d + 1) kc ks mX11_faultOfWord 22 [some (vR 2), some (vI x1), some (vI x2)] [vI z2] G D1 Q
      refine g_if_ne 27 dX11_faultOfWord_22 (by decide) ⟨fun hc => ?_, fun hc => ?_⟩
      · replace h := h.1 hc
        refine h_iinc (L' := [some (vR 2), some (vI x1), some (vI (x2 + 1))]) dX11_faultOfWord_27 (Nat.le_of_ble_eq_true rfl) rfl rfl rfl ?_
        refine g_goto 2 dX11_faultOfWord_30 (by decide) ?_
        exact Go.drop (by simp only [mm_sub, and_self]) h
      · replace h := h.2 hc
        refine g_iload_n dX11_faultOfWord_25 rfl rfl ?_
        exact g_iret dX11_faultOfWord_26 rfl h
set_option maxRecDepth 20000 in
theorem w_X11_areKin {E : mmE} {d kc ks : Nat} {G : mmG} {D : mmD} {Q : mmQ} {r1 r2 : Int} (hG : Sh G) (hw1 : isW r1) (hw2 : isW r2) (h : Call E d 0 0 mX7_leastCost [vR 9, vR r1, vR r2] G D (retI G (fun z2 D1 => ((iv ((D1 2 13) * (if iv (D r1 1) < iv (D r2 1) then (D r2 1) else (D r1 1))) < iv (10 * z2) → Q (some (vI 0)) G D1) ∧ (¬ iv ((D1 2 13) * (if iv (D r1 1) < iv (D r2 1) then (D r2 1) else (D r1 1))) < iv (10 * z2) → Q (some (vI 1)) G D1))))) : Call E (d + 1) kc ks mX11_areKin [vR 2, vR r1, vR r2] G D Q := by
  show Go E (d + 1) kc ks mX11_areKin 0 [some (vR 2), some (vR r1), some (vR r2), none] [] G D Q
  refine g_aload_n dX11_areKin_0 rfl rfl ?_
  refine h_getI (j := 1) dX11_areKin_1 f_X11_135_9 rfl rfl (by decide) (hw1.k hG) hw1.ge (hw1.lt hG) ?_
  refine g_aload_n dX11_areKin_4 rfl rfl ?_
  refine h_getI (j := 1) dX11_areKin_5 f_X11_135_9 rfl rfl (by decide) (hw2.k hG) hw2.ge (hw2.lt hG) ?_
  refine g_mmax dX11_areKin_8 mx_X11_298 (Nat.le_of_ble_eq_true rfl) ?_
  refine h_istore_n (L' := [some (vR 2), some (vR r1), some (vR r2), some (vI (if iv (D r1 1) < iv (D r2 1) then (D r2 1) else (D r1 1)))]) dX11_areKin_11 rfl (Nat.le_of_ble_eq_true rfl) rfl rfl ?_
  refine g_bipush dX11_areKin_12 bp_10 ?_
  refine g_aload_n dX11_areKin_14 rfl rfl ?_
  refine h_getR (j := 16) dX11_areKin_15 f_X11_44_10 rfl rfl (by decide) hG.k2 (by decide) (hG.lt (by decide)) hG.r2_16 ?_
  refine g_aload_n dX11_areKin_18 rfl rfl ?_
  refine g_aload_n dX11_areKin_19 rfl rfl ?_
  refine g_callV (kc := kc) (kc' := 0) (ks := ks) (ks' := 0) (as := [vR r1, vR r2]) (st := [vI 10]) (ci := 6) dX11_areKin_20 cB_X7_leastCost lk_X11_193 in_X7_leastCost se_X7_leastCost (by decide) rfl rfl (Nat.le_of_ble_eq_true rfl) (Nat.le_of_ble_eq_true rfl) (by decide) (hG.lt (by decide)) (congrArg Prod.fst hG.k9) ?_
  refine Go.to (fun r G' D1 hr => ?_) h
  obtain ⟨rfl, z2, rfl, h⟩ := hr
  show Go E (d + 1) kc ks mX11_areKin 23 [some (vR 2), some (vR r1), some (vR r2), some (vI (if iv (D r1 1) < iv (D r2 1) then (D r2 1) else (D r1 1)))] [vI z2, vI 10] G D1 Q
  refine g_imul dX11_areKin_23 ?_
  refine g_aload_n dX11_areKin_24 rfl rfl ?_
  refine h_getI (j := 13) dX11_areKin_25 f_X11_34_10 rfl rfl (by decide) hG.k2 (by decide) (hG.lt (by decide)) ?_
  refine g_iload_n dX11_areKin_28 rfl rfl ?_
  refine g_imul dX11_areKin_29 ?_
  refine g_icmp_gt 37 dX11_areKin_30 (by decide) ⟨fun hc => ?_, fun hc => ?_⟩
  · replace h := h.1 hc
    refine g_iconst dX11_areKin_37 ?_
    exact g_zret dX11_areKin_38 rfl ⟨Or.inl rfl, h⟩
  · replace h := h.2 hc
    refine g_iconst dX11_areKin_33 ?_
    refine g_goto 38 dX11_areKin_34 (by decide) ?_
    exact g_zret dX11_areKin_38 rfl ⟨Or.inr rfl, h⟩
set_option maxRecDepth 20000 in
theorem w_X11_kinSet {E : mmE} {d kc ks : Nat} {G : mmG} {D : mmD} {Q : mmQ} {x1 x2 : Int} (hG : Sh G)  (h : Go E (d + 1) kc ks mX11_kinSet 10 [some (vR 2), some (vI x1), none, some (vI (ishl 1 x2)), some (vI 0), some (vI 0), none, none, none, none, none] [] G D Q) : Call E (d + 1) kc ks mX11_kinSet [vR 2, vI x1, vI x2] G D Q := by
  show Go E (d + 1) kc ks mX11_kinSet 0 [some (vR 2), some (vI x1), some (vI x2), none, none, none, none, none, none, none, none] [] G D Q
  refine g_iconst dX11_kinSet_0 ?_
  refine g_iload_n dX11_kinSet_1 rfl rfl ?_
  refine g_ishl dX11_kinSet_2 ?_
  refine h_istore_n (L' := [some (vR 2), some (vI x1), some (vI x2), some (vI (ishl 1 x2)), none, none, none, none, none, none, none]) dX11_kinSet_3 rfl (Nat.le_of_ble_eq_true rfl) rfl rfl ?_
  refine g_iconst dX11_kinSet_4 ?_
  refine h_istore (L' := [some (vR 2), some (vI x1), some (vI x2), some (vI (ishl 1 x2)), some (vI 0), none, none, none, none, none, none]) dX11_kinSet_5 (Nat.le_of_ble_eq_true rfl) rfl rfl ?_
  refine g_iconst dX11_kinSet_7 ?_
  refine h_istore (L' := [some (vR 2), some (vI x1), some (vI x2), some (vI (ishl 1 x2)), some (vI 0), some (vI 0), none, none, none, none, none]) dX11_kinSet_8 (Nat.le_of_ble_eq_true rfl) rfl rfl ?_
  exact Go.drop (by simp only [mm_sub, and_self]) h
set_option maxRecDepth 20000 in
theorem w_X11_kinSet_10 {E : mmE} {d kc ks : Nat} {G : mmG} {D : mmD} {Q : mmQ} {x1 x3 x4 x5 : Int} (hG : Sh G)  (h : ((iv (D 2 3) ≤ iv x5 → Q (some (vI x3)) G D) ∧ (¬ iv (D 2 3) ≤ iv x5 → ((iv x4 = iv x3 → Q (some (vI x3)) G D) ∧ (¬ iv x4 = iv x3 → Call E d 0 0 mJ6_numberOfTrailingZeros_0f7a4 [vI (iand x3 (ixor x4 (-1)))] G D (retI G (fun z2 D1 => Call E d 0 0 mX11_listedWord [vR 2, vI z2, vI x1] G D1 (retR G (fun z4 D3 => Go E (d + 1) kc ks mX11_kinSet 57 [some (vR 2), some (vI x1), none, some (vI x3), some (vI (ior x4 (ishl 1 z2))), some (vI x5), none, some (vR z4), some (vI 0), none, none] [] G D3 Q))))))))) : Go E (d + 1) kc ks mX11_kinSet 10 [some (vR 2), some (vI x1), none, some (vI x3), some (vI x4), some (vI x5), none, none, none, none, none] [] G D Q := by
  refine g_iload dX11_kinSet_10 rfl ?_
  refine g_aload_n dX11_kinSet_12 rfl rfl ?_
  refine h_getI (j := 3) dX11_kinSet_13 f_X11_64_10 rfl rfl (by decide) hG.k2 (by decide) (hG.lt (by decide)) ?_
  refine g_icmp_ge 136 dX11_kinSet_16 (by decide) ⟨fun hc => ?_, fun hc => ?_⟩
  · replace h := h.1 hc
    refine g_iload_n dX11_kinSet_136 rfl rfl ?_
    exact g_iret dX11_kinSet_137 rfl h
  · replace h := h.2 hc
    refine g_iload dX11_kinSet_19 rfl ?_
    refine g_iload_n dX11_kinSet_21 rfl rfl ?_
    refine g_icmp_eq 136 dX11_kinSet_22 (by decide) ⟨fun hc => ?_, fun hc => ?_⟩
    · replace h := h.1 hc
      refine g_iload_n dX11_kinSet_136 rfl rfl ?_
      exact g_iret dX11_kinSet_137 rfl h
    · replace h := h.2 hc
      refine g_iload_n dX11_kinSet_25 rfl rfl ?_
      refine g_iload dX11_kinSet_26 rfl ?_
      refine g_iconst dX11_kinSet_28 ?_
      refine g_ixor dX11_kinSet_29 ?_
      refine g_iand dX11_kinSet_30 ?_
      refine g_callS (kc := kc) (kc' := 0) (ks := ks) (ks' := 0) (as := [vI (iand x3 (ixor x4 (-1)))]) (st := []) dX11_kinSet_31 cB_J6_numberOfTrailingZeros_0f7a4 lk_X11_303 st_J6_numberOfTrailingZeros_0f7a4 rfl (Nat.le_of_ble_eq_true rfl) (Nat.le_of_ble_eq_true rfl) ?_
      refine Go.to (fun r G' D1 hr => ?_) h
      obtain ⟨rfl, z2, rfl, h⟩ := hr
      show Go E (d + 1) kc ks mX11_kinSet 34 [some (vR 2), some (vI x1), none, some (vI x3), some (vI x4), some (vI x5), none, none, none, none, none] [vI z2] G D1 Q
      refine h_istore (L' := [some (vR 2), some (vI x1), none, some (vI x3), some (vI x4), some (vI x5), some (vI z2), none, none, none, none]) dX11_kinSet_34 (Nat.le_of_ble_eq_true rfl) rfl rfl ?_
      refine g_iload dX11_kinSet_36 rfl ?_
      refine g_iconst dX11_kinSet_38 ?_
      refine g_iload dX11_kinSet_39 rfl ?_
      refine g_ishl dX11_kinSet_41 ?_
      refine g_ior dX11_kinSet_42 ?_
      refine h_istore (L' := [some (vR 2), some (vI x1), none, some (vI x3), some (vI (ior x4 (ishl 1 z2))), some (vI x5), some (vI z2), none, none, none, none]) dX11_kinSet_43 (Nat.le_of_ble_eq_true rfl) rfl rfl ?_
      refine g_aload_n dX11_kinSet_45 rfl rfl ?_
      refine g_iload dX11_kinSet_46 rfl ?_
      refine g_iload_n dX11_kinSet_48 rfl rfl ?_
      refine g_callV (kc := kc) (kc' := 0) (ks := ks) (ks' := 0) (as := [vI z2, vI x1]) (st := []) (ci := 10) dX11_kinSet_49 cB_X11_listedWord lk_X11_190 in_X11_listedWord se_X11_listedWord (by decide) rfl rfl (Nat.le_of_ble_eq_true rfl) (Nat.le_of_ble_eq_true rfl) (by decide) (hG.lt (by decide)) (congrArg Prod.fst hG.k2) ?_
      refine Go.to (fun r G' D3 hr => ?_) h
      obtain ⟨rfl, z4, rfl, h⟩ := hr
      show Go E (d + 1) kc ks mX11_kinSet 52 [some (vR 2), some (vI x1), none, some (vI x3), some (vI (ior x4 (ishl 1 z2))), some (vI x5), some (vI z2), none, none, none, none] [vR z4] G D3 Q
      refine h_astore (L' := [some (vR 2), some (vI x1), none, some (vI x3), some (vI (ior x4 (ishl 1 z2))), some (vI x5), some (vI z2), some (vR z4), none, none, none]) dX11_kinSet_52 (Nat.le_of_ble_eq_true rfl) rfl rfl ?_
      refine g_iconst dX11_kinSet_54 ?_
      refine h_istore (L' := [some (vR 2), some (vI x1), none, some (vI x3), some (vI (ior x4 (ishl 1 z2))), some (vI x5), some (vI z2), some (vR z4), some (vI 0), none, none]) dX11_kinSet_55 (Nat.le_of_ble_eq_true rfl) rfl rfl ?_
      exact Go.drop (by simp only [mm_sub, and_self]) h
set_option maxRecDepth 20000 in
theorem w_X11_kinSet_57 {E : mmE} {d kc ks : Nat} {G : mmG} {D : mmD} {Q : mmQ} {x1 x3 x4 x5 r7 x8 : Int} (hG : Sh G)  (h : ((iv (D 2 3) ≤ iv x8 → Go E (d + 1) kc ks mX11_kinSet 10 [some (vR 2), some (vI x1), none, some (vI x3), some (vI x4), some (vI (x5 + 1)), none, none, none, none, none] [] G D Q) ∧ (¬ iv (D 2 3) ≤ iv x8 → Call E d 0 0 mX11_listedWord [vR 2, vI x8, vI x1] G D (retR G (fun z2 D1 => ((¬ iv (iand (ishr x3 x8) 1) = iv 0 → ((iv 0 = iv 0 → Go E (d + 1) kc ks mX11_kinSet 57 [some (vR 2), some (vI x1), none, some (vI x3), some (vI x4), some (vI x5), none, some (vR r7), some (vI (x8 + 1)), none, none] [] G D1 Q) ∧ (¬ iv 0 = iv 0 → ((r7 = 0 → Go E (d + 1) kc ks mX11_kinSet 57 [some (vR 2), some (vI x1), none, some (vI x3), some (vI x4), some (vI x5), none, some (vR r7), some (vI (x8 + 1)), none, none] [] G D1 Q) ∧ (¬ r7 = 0 → ((z2 = 0 → Go E (d + 1) kc ks mX11_kinSet 57 [some (vR 2), some (vI x1), none, some (vI x3), some (vI x4), some (vI x5), none, some (vR r7), some (vI (x8 + 1)), none, none] [] G D1 Q) ∧ (¬ z2 = 0 → Call E d 0 0 mX11_areKin [vR 2, vR r7, vR z2] G D1 (retI G (fun z4 D3 => ((iv z4 = iv 0 → Go E (d + 1) kc ks mX11_kinSet 57 [some (vR 2), some (vI x1), none, some (vI x3), some (vI x4), some (vI x5), none, some (vR r7), some (vI (x8 + 1)), none, none] [] G D3 Q) ∧ (¬ iv z4 = iv 0 → Go E (d + 1) kc ks mX11_kinSet 57 [some (vR 2), some (vI x1), none, some (vI (ior x3 (ishl 1 x8))), some (vI x4), some (vI x5), none, some (vR r7), some (vI (x8 + 1)), none, none] [] G D3 Q))))))))))) ∧ (iv (iand (ishr x3 x8) 1) = iv 0 → ((iv 1 = iv 0 → Go E (d + 1) kc ks mX11_kinSet 57 [some (vR 2), some (vI x1), none, some (vI x3), some (vI x4), some (vI x5), none, some (vR r7), some (vI (x8 + 1)), none, none] [] G D1 Q) ∧ (¬ iv 1 = iv 0 → ((r7 = 0 → Go E (d + 1) kc ks mX11_kinSet 57 [some (vR 2), some (vI x1), none, some (vI x3), some (vI x4), some (vI x5), none, some (vR r7), some (vI (x8 + 1)), none, none] [] G D1 Q) ∧ (¬ r7 = 0 → ((z2 = 0 → Go E (d + 1) kc ks mX11_kinSet 57 [some (vR 2), some (vI x1), none, some (vI x3), some (vI x4), some (vI x5), none, some (vR r7), some (vI (x8 + 1)), none, none] [] G D1 Q) ∧ (¬ z2 = 0 → Call E d 0 0 mX11_areKin [vR 2, vR r7, vR z2] G D1 (retI G (fun z6 D5 => ((iv z6 = iv 0 → Go E (d + 1) kc ks mX11_kinSet 57 [some (vR 2), some (vI x1), none, some (vI x3), some (vI x4), some (vI x5), none, some (vR r7), some (vI (x8 + 1)), none, none] [] G D5 Q) ∧ (¬ iv z6 = iv 0 → Go E (d + 1) kc ks mX11_kinSet 57 [some (vR 2), some (vI x1), none, some (vI (ior x3 (ishl 1 x8))), some (vI x4), some (vI x5), none, some (vR r7), some (vI (x8 + 1)), none, none] [] G D5 Q))))))))))))))))) : Go E (d + 1) kc ks mX11_kinSet 57 [some (vR 2), some (vI x1), none, some (vI x3), some (vI x4), some (vI x5), none, some (vR r7), some (vI x8), none, none] [] G D Q := by
  refine g_iload dX11_kinSet_57 rfl ?_
  refine g_aload_n dX11_kinSet_59 rfl rfl ?_
  refine h_getI (j := 3) dX11_kinSet_60 f_X11_64_10 rfl rfl (by decide) hG.k2 (by decide) (hG.lt (by decide)) ?_
  refine g_icmp_ge 130 dX11_kinSet_63 (by decide) ⟨fun hc => ?_, fun hc => ?_⟩
  · replace h := h.1 hc
    refine h_iinc (L' := [some (vR 2), some (vI x1), none, some (vI x3), some (vI x4), some (vI (x5 + 1)), none, some (vR r7), some (vI x8), none, none]) dX11_kinSet_130 (Nat.le_of_ble_eq_true rfl) rfl rfl rfl ?_
    refine g_goto 10 dX11_kinSet_133 (by decide) ?_
    exact Go.drop (by simp only [mm_sub, and_self]) h
  · replace h := h.2 hc
    refine g_aload_n dX11_kinSet_66 rfl rfl ?_
    refine g_iload dX11_kinSet_67 rfl ?_
    refine g_iload_n dX11_kinSet_69 rfl rfl ?_
    refine g_callV (kc := kc) (kc' := 0) (ks := ks) (ks' := 0) (as := [vI x8, vI x1]) (st := []) (ci := 10) dX11_kinSet_70 cB_X11_listedWord lk_X11_190 in_X11_listedWord se_X11_listedWord (by decide) rfl rfl (Nat.le_of_ble_eq_true rfl) (Nat.le_of_ble_eq_true rfl) (by decide) (hG.lt (by decide)) (congrArg Prod.fst hG.k2) ?_
    refine Go.to (fun r G' D1 hr => ?_) h
    obtain ⟨rfl, z2, rfl, h⟩ := hr
    show Go E (d + 1) kc ks mX11_kinSet 73 [some (vR 2), some (vI x1), none, some (vI x3), some (vI x4), some (vI x5), none, some (vR r7), some (vI x8), none, none] [vR z2] G D1 Q
    refine h_astore (L' := [some (vR 2), some (vI x1), none, some (vI x3), some (vI x4), some (vI x5), none, some (vR r7), some (vI x8), some (vR z2), none]) dX11_kinSet_73 (Nat.le_of_ble_eq_true rfl) rfl rfl ?_
    refine g_iload_n dX11_kinSet_75 rfl rfl ?_
    refine g_iload dX11_kinSet_76 rfl ?_
    refine g_ishr dX11_kinSet_78 ?_
    refine g_iconst dX11_kinSet_79 ?_
    refine g_iand dX11_kinSet_80 ?_
    refine g_if_ne 88 dX11_kinSet_81 (by decide) ⟨fun hc => ?_, fun hc => ?_⟩
    · replace h := h.1 hc
      refine g_iconst dX11_kinSet_88 ?_
      refine h_istore (L' := [some (vR 2), some (vI x1), none, some (vI x3), some (vI x4), some (vI x5), none, some (vR r7), some (vI x8), some (vR z2), some (vI 0)]) dX11_kinSet_89 (Nat.le_of_ble_eq_true rfl) rfl rfl ?_
      refine g_iload dX11_kinSet_91 rfl ?_
      refine g_if_eq 124 dX11_kinSet_93 (by decide) ⟨fun hc => ?_, fun hc => ?_⟩
      · replace h := h.1 hc
        refine h_iinc (L' := [some (vR 2), some (vI x1), none, some (vI x3), some (vI x4), some (vI x5), none, some (vR r7), some (vI (x8 + 1)), some (vR z2), some (vI 0)]) dX11_kinSet_124 (Nat.le_of_ble_eq_true rfl) rfl rfl rfl ?_
        refine g_goto 57 dX11_kinSet_127 (by decide) ?_
        exact Go.drop (by simp only [mm_sub, and_self]) h
      · replace h := h.2 hc
        refine g_aload dX11_kinSet_96 rfl ?_
        refine g_ifnull 124 dX11_kinSet_98 (by decide) ⟨fun hc => ?_, fun hc => ?_⟩
        · replace h := h.1 hc
          refine h_iinc (L' := [some (vR 2), some (vI x1), none, some (vI x3), some (vI x4), some (vI x5), none, some (vR r7), some (vI (x8 + 1)), some (vR z2), some (vI 0)]) dX11_kinSet_124 (Nat.le_of_ble_eq_true rfl) rfl rfl rfl ?_
          refine g_goto 57 dX11_kinSet_127 (by decide) ?_
          exact Go.drop (by simp only [mm_sub, and_self]) h
        · replace h := h.2 hc
          refine g_aload dX11_kinSet_101 rfl ?_
          refine g_ifnull 124 dX11_kinSet_103 (by decide) ⟨fun hc => ?_, fun hc => ?_⟩
          · replace h := h.1 hc
            refine h_iinc (L' := [some (vR 2), some (vI x1), none, some (vI x3), some (vI x4), some (vI x5), none, some (vR r7), some (vI (x8 + 1)), some (vR z2), some (vI 0)]) dX11_kinSet_124 (Nat.le_of_ble_eq_true rfl) rfl rfl rfl ?_
            refine g_goto 57 dX11_kinSet_127 (by decide) ?_
            exact Go.drop (by simp only [mm_sub, and_self]) h
          · replace h := h.2 hc
            refine g_aload_n dX11_kinSet_106 rfl rfl ?_
            refine g_aload dX11_kinSet_107 rfl ?_
            refine g_aload dX11_kinSet_109 rfl ?_
            refine g_callV (kc := kc) (kc' := 0) (ks := ks) (ks' := 0) (as := [vR r7, vR z2]) (st := []) (ci := 10) dX11_kinSet_111 cB_X11_areKin lk_X11_207 in_X11_areKin se_X11_areKin (by decide) rfl rfl (Nat.le_of_ble_eq_true rfl) (Nat.le_of_ble_eq_true rfl) (by decide) (hG.lt (by decide)) (congrArg Prod.fst hG.k2) ?_
            refine Go.to (fun r G' D3 hr => ?_) h
            obtain ⟨rfl, z4, rfl, h⟩ := hr
            show Go E (d + 1) kc ks mX11_kinSet 114 [some (vR 2), some (vI x1), none, some (vI x3), some (vI x4), some (vI x5), none, some (vR r7), some (vI x8), some (vR z2), some (vI 0)] [vI z4] G D3 Q
            refine g_if_eq 124 dX11_kinSet_114 (by decide) ⟨fun hc => ?_, fun hc => ?_⟩
            · replace h := h.1 hc
              refine h_iinc (L' := [some (vR 2), some (vI x1), none, some (vI x3), some (vI x4), some (vI x5), none, some (vR r7), some (vI (x8 + 1)), some (vR z2), some (vI 0)]) dX11_kinSet_124 (Nat.le_of_ble_eq_true rfl) rfl rfl rfl ?_
              refine g_goto 57 dX11_kinSet_127 (by decide) ?_
              exact Go.drop (by simp only [mm_sub, and_self]) h
            · replace h := h.2 hc
              refine g_iload_n dX11_kinSet_117 rfl rfl ?_
              refine g_iconst dX11_kinSet_118 ?_
              refine g_iload dX11_kinSet_119 rfl ?_
              refine g_ishl dX11_kinSet_121 ?_
              refine g_ior dX11_kinSet_122 ?_
              refine h_istore_n (L' := [some (vR 2), some (vI x1), none, some (vI (ior x3 (ishl 1 x8))), some (vI x4), some (vI x5), none, some (vR r7), some (vI x8), some (vR z2), some (vI 0)]) dX11_kinSet_123 rfl (Nat.le_of_ble_eq_true rfl) rfl rfl ?_
              refine h_iinc (L' := [some (vR 2), some (vI x1), none, some (vI (ior x3 (ishl 1 x8))), some (vI x4), some (vI x5), none, some (vR r7), some (vI (x8 + 1)), some (vR z2), some (vI 0)]) dX11_kinSet_124 (Nat.le_of_ble_eq_true rfl) rfl rfl rfl ?_
              refine g_goto 57 dX11_kinSet_127 (by decide) ?_
              exact Go.drop (by simp only [mm_sub, and_self]) h
    · replace h := h.2 hc
      refine g_iconst dX11_kinSet_84 ?_
      refine g_goto 89 dX11_kinSet_85 (by decide) ?_
      refine h_istore (L' := [some (vR 2), some (vI x1), none, some (vI x3), some (vI x4), some (vI x5), none, some (vR r7), some (vI x8), some (vR z2), some (vI 1)]) dX11_kinSet_89 (Nat.le_of_ble_eq_true rfl) rfl rfl ?_
      refine g_iload dX11_kinSet_91 rfl ?_
      refine g_if_eq 124 dX11_kinSet_93 (by decide) ⟨fun hc => ?_, fun hc => ?_⟩
      · replace h := h.1 hc
        refine h_iinc (L' := [some (vR 2), some (vI x1), none, some (vI x3), some (vI x4), some (vI x5), none, some (vR r7), some (vI (x8 + 1)), some (vR z2), some (vI 1)]) dX11_kinSet_124 (Nat.le_of_ble_eq_true rfl) rfl rfl rfl ?_
        refine g_goto 57 dX11_kinSet_127 (by decide) ?_
        exact Go.drop (by simp only [mm_sub, and_self]) h
      · replace h := h.2 hc
        refine g_aload dX11_kinSet_96 rfl ?_
        refine g_ifnull 124 dX11_kinSet_98 (by decide) ⟨fun hc => ?_, fun hc => ?_⟩
        · replace h := h.1 hc
          refine h_iinc (L' := [some (vR 2), some (vI x1), none, some (vI x3), some (vI x4), some (vI x5), none, some (vR r7), some (vI (x8 + 1)), some (vR z2), some (vI 1)]) dX11_kinSet_124 (Nat.le_of_ble_eq_true rfl) rfl rfl rfl ?_
          refine g_goto 57 dX11_kinSet_127 (by decide) ?_
          exact Go.drop (by simp only [mm_sub, and_self]) h
        · replace h := h.2 hc
          refine g_aload dX11_kinSet_101 rfl ?_
          refine g_ifnull 124 dX11_kinSet_103 (by decide) ⟨fun hc => ?_, fun hc => ?_⟩
          · replace h := h.1 hc
            refine h_iinc (L' := [some (vR 2), some (vI x1), none, some (vI x3), some (vI x4), some (vI x5), none, some (vR r7), some (vI (x8 + 1)), some (vR z2), some (vI 1)]) dX11_kinSet_124 (Nat.le_of_ble_eq_true rfl) rfl rfl rfl ?_
            refine g_goto 57 dX11_kinSet_127 (by decide) ?_
            exact Go.drop (by simp only [mm_sub, and_self]) h
          · replace h := h.2 hc
            refine g_aload_n dX11_kinSet_106 rfl rfl ?_
            refine g_aload dX11_kinSet_107 rfl ?_
            refine g_aload dX11_kinSet_109 rfl ?_
            refine g_callV (kc := kc) (kc' := 0) (ks := ks) (ks' := 0) (as := [vR r7, vR z2]) (st := []) (ci := 10) dX11_kinSet_111 cB_X11_areKin lk_X11_207 in_X11_areKin se_X11_areKin (by decide) rfl rfl (Nat.le_of_ble_eq_true rfl) (Nat.le_of_ble_eq_true rfl) (by decide) (hG.lt (by decide)) (congrArg Prod.fst hG.k2) ?_
            refine Go.to (fun r G' D5 hr => ?_) h
            obtain ⟨rfl, z6, rfl, h⟩ := hr
            show Go E (d + 1) kc ks mX11_kinSet 114 [some (vR 2), some (vI x1), none, some (vI x3), some (vI x4), some (vI x5), none, some (vR r7), some (vI x8), some (vR z2), some (vI 1)] [vI z6] G D5 Q
            refine g_if_eq 124 dX11_kinSet_114 (by decide) ⟨fun hc => ?_, fun hc => ?_⟩
            · replace h := h.1 hc
              refine h_iinc (L' := [some (vR 2), some (vI x1), none, some (vI x3), some (vI x4), some (vI x5), none, some (vR r7), some (vI (x8 + 1)), some (vR z2), some (vI 1)]) dX11_kinSet_124 (Nat.le_of_ble_eq_true rfl) rfl rfl rfl ?_
              refine g_goto 57 dX11_kinSet_127 (by decide) ?_
              exact Go.drop (by simp only [mm_sub, and_self]) h
            · replace h := h.2 hc
              refine g_iload_n dX11_kinSet_117 rfl rfl ?_
              refine g_iconst dX11_kinSet_118 ?_
              refine g_iload dX11_kinSet_119 rfl ?_
              refine g_ishl dX11_kinSet_121 ?_
              refine g_ior dX11_kinSet_122 ?_
              refine h_istore_n (L' := [some (vR 2), some (vI x1), none, some (vI (ior x3 (ishl 1 x8))), some (vI x4), some (vI x5), none, some (vR r7), some (vI x8), some (vR z2), some (vI 1)]) dX11_kinSet_123 rfl (Nat.le_of_ble_eq_true rfl) rfl rfl ?_
              refine h_iinc (L' := [some (vR 2), some (vI x1), none, some (vI (ior x3 (ishl 1 x8))), some (vI x4), some (vI x5), none, some (vR r7), some (vI (x8 + 1)), some (vR z2), some (vI 1)]) dX11_kinSet_124 (Nat.le_of_ble_eq_true rfl) rfl rfl rfl ?_
              refine g_goto 57 dX11_kinSet_127 (by decide) ?_
              exact Go.drop (by simp only [mm_sub, and_self]) h
set_option maxRecDepth 20000 in
theorem w_X11_meaningsOfBoth {E : mmE} {d kc ks : Nat} {G : mmG} {D : mmD} {Q : mmQ} {x1 x2 : Int} (hG : Sh G)  (h : Go E (d + 1) kc ks mX11_meaningsOfBoth 5 [some (vR 2), some (vI x1), some (vI x2), some (vI 0), some (vI 0)] [] G D Q) : Call E (d + 1) kc ks mX11_meaningsOfBoth [vR 2, vI x1, vI x2] G D Q := by
  show Go E (d + 1) kc ks mX11_meaningsOfBoth 0 [some (vR 2), some (vI x1), some (vI x2), none, none] [] G D Q
  refine g_iconst dX11_meaningsOfBoth_0 ?_
  refine h_istore_n (L' := [some (vR 2), some (vI x1), some (vI x2), some (vI 0), none]) dX11_meaningsOfBoth_1 rfl (Nat.le_of_ble_eq_true rfl) rfl rfl ?_
  refine g_iconst dX11_meaningsOfBoth_2 ?_
  refine h_istore (L' := [some (vR 2), some (vI x1), some (vI x2), some (vI 0), some (vI 0)]) dX11_meaningsOfBoth_3 (Nat.le_of_ble_eq_true rfl) rfl rfl ?_
  exact Go.drop (by simp only [mm_sub, and_self]) h
set_option maxRecDepth 20000 in
theorem w_X11_meaningsOfBoth_5 {E : mmE} {d kc ks : Nat} {G : mmG} {D : mmD} {Q : mmQ} {x1 x2 x3 x4 : Int} (hG : Sh G)  (h : ((iv 10 ≤ iv x4 → Q (some (vI x3)) G D) ∧ (¬ iv 10 ≤ iv x4 → Call E d 0 0 mX11_listedWord [vR 2, vI x1, vI x4] G D (retR G (fun z2 D1 => ((z2 = 0 → Go E (d + 1) kc ks mX11_meaningsOfBoth 5 [some (vR 2), some (vI x1), some (vI x2), some (vI x3), some (vI (x4 + 1))] [] G D1 Q) ∧ (¬ z2 = 0 → Call E d 0 0 mX11_listedWord [vR 2, vI x2, vI x4] G D1 (retR G (fun z4 D3 => ((z4 = 0 → Go E (d + 1) kc ks mX11_meaningsOfBoth 5 [some (vR 2), some (vI x1), some (vI x2), some (vI x3), some (vI (x4 + 1))] [] G D3 Q) ∧ (¬ z4 = 0 → Go E (d + 1) kc ks mX11_meaningsOfBoth 5 [some (vR 2), some (vI x1), some (vI x2), some (vI (ior x3 (ishl 1 x4))), some (vI (x4 + 1))] [] G D3 Q))))))))))) : Go E (d + 1) kc ks mX11_meaningsOfBoth 5 [some (vR 2), some (vI x1), some (vI x2), some (vI x3), some (vI x4)] [] G D Q := by
  refine g_iload dX11_meaningsOfBoth_5 rfl ?_
  refine g_bipush dX11_meaningsOfBoth_7 bp_10 ?_
  refine g_icmp_ge 45 dX11_meaningsOfBoth_9 (by decide) ⟨fun hc => ?_, fun hc => ?_⟩
  · replace h := h.1 hc
    refine g_iload_n dX11_meaningsOfBoth_45 rfl rfl ?_
    exact g_iret dX11_meaningsOfBoth_46 rfl h
  · replace h := h.2 hc
    refine g_aload_n dX11_meaningsOfBoth_12 rfl rfl ?_
    refine g_iload_n dX11_meaningsOfBoth_13 rfl rfl ?_
    refine g_iload dX11_meaningsOfBoth_14 rfl ?_
    refine g_callV (kc := kc) (kc' := 0) (ks := ks) (ks' := 0) (as := [vI x1, vI x4]) (st := []) (ci := 10) dX11_meaningsOfBoth_16 cB_X11_listedWord lk_X11_190 in_X11_listedWord se_X11_listedWord (by decide) rfl rfl (Nat.le_of_ble_eq_true rfl) (Nat.le_of_ble_eq_true rfl) (by decide) (hG.lt (by decide)) (congrArg Prod.fst hG.k2) ?_
    refine Go.to (fun r G' D1 hr => ?_) h
    obtain ⟨rfl, z2, rfl, h⟩ := hr
    show Go E (d + 1) kc ks mX11_meaningsOfBoth 19 [some (vR 2), some (vI x1), some (vI x2), some (vI x3), some (vI x4)] [vR z2] G D1 Q
    refine g_ifnull 39 dX11_meaningsOfBoth_19 (by decide) ⟨fun hc => ?_, fun hc => ?_⟩
    · replace h := h.1 hc
      refine h_iinc (L' := [some (vR 2), some (vI x1), some (vI x2), some (vI x3), some (vI (x4 + 1))]) dX11_meaningsOfBoth_39 (Nat.le_of_ble_eq_true rfl) rfl rfl rfl ?_
      refine g_goto 5 dX11_meaningsOfBoth_42 (by decide) ?_
      exact Go.drop (by simp only [mm_sub, and_self]) h
    · replace h := h.2 hc
      refine g_aload_n dX11_meaningsOfBoth_22 rfl rfl ?_
      refine g_iload_n dX11_meaningsOfBoth_23 rfl rfl ?_
      refine g_iload dX11_meaningsOfBoth_24 rfl ?_
      refine g_callV (kc := kc) (kc' := 0) (ks := ks) (ks' := 0) (as := [vI x2, vI x4]) (st := []) (ci := 10) dX11_meaningsOfBoth_26 cB_X11_listedWord lk_X11_190 in_X11_listedWord se_X11_listedWord (by decide) rfl rfl (Nat.le_of_ble_eq_true rfl) (Nat.le_of_ble_eq_true rfl) (by decide) (hG.lt (by decide)) (congrArg Prod.fst hG.k2) ?_
      refine Go.to (fun r G' D3 hr => ?_) h
      obtain ⟨rfl, z4, rfl, h⟩ := hr
      show Go E (d + 1) kc ks mX11_meaningsOfBoth 29 [some (vR 2), some (vI x1), some (vI x2), some (vI x3), some (vI x4)] [vR z4] G D3 Q
      refine g_ifnull 39 dX11_meaningsOfBoth_29 (by decide) ⟨fun hc => ?_, fun hc => ?_⟩
      · replace h := h.1 hc
        refine h_iinc (L' := [some (vR 2), some (vI x1), some (vI x2), some (vI x3), some (vI (x4 + 1))]) dX11_meaningsOfBoth_39 (Nat.le_of_ble_eq_true rfl) rfl rfl rfl ?_
        refine g_goto 5 dX11_meaningsOfBoth_42 (by decide) ?_
        exact Go.drop (by simp only [mm_sub, and_self]) h
      · replace h := h.2 hc
        refine g_iload_n dX11_meaningsOfBoth_32 rfl rfl ?_
        refine g_iconst dX11_meaningsOfBoth_33 ?_
        refine g_iload dX11_meaningsOfBoth_34 rfl ?_
        refine g_ishl dX11_meaningsOfBoth_36 ?_
        refine g_ior dX11_meaningsOfBoth_37 ?_
        refine h_istore_n (L' := [some (vR 2), some (vI x1), some (vI x2), some (vI (ior x3 (ishl 1 x4))), some (vI x4)]) dX11_meaningsOfBoth_38 rfl (Nat.le_of_ble_eq_true rfl) rfl rfl ?_
        refine h_iinc (L' := [some (vR 2), some (vI x1), some (vI x2), some (vI (ior x3 (ishl 1 x4))), some (vI (x4 + 1))]) dX11_meaningsOfBoth_39 (Nat.le_of_ble_eq_true rfl) rfl rfl rfl ?_
        refine g_goto 5 dX11_meaningsOfBoth_42 (by decide) ?_
        exact Go.drop (by simp only [mm_sub, and_self]) h
set_option maxRecDepth 20000 in
theorem w_X11_costsTogether {E : mmE} {d kc ks : Nat} {G : mmG} {D : mmD} {Q : mmQ} {x1 x2 x3 : Int} (hG : Sh G)  (h : Go E (d + 1) kc ks mX11_costsTogether 6 [some (vR 2), some (vI x1), some (vI x2), some (vI x3), some (vI 0), some (vI 0)] [] G D Q) : Call E (d + 1) kc ks mX11_costsTogether [vR 2, vI x1, vI x2, vI x3] G D Q := by
  show Go E (d + 1) kc ks mX11_costsTogether 0 [some (vR 2), some (vI x1), some (vI x2), some (vI x3), none, none] [] G D Q
  refine g_iconst dX11_costsTogether_0 ?_
  refine h_istore (L' := [some (vR 2), some (vI x1), some (vI x2), some (vI x3), some (vI 0), none]) dX11_costsTogether_1 (Nat.le_of_ble_eq_true rfl) rfl rfl ?_
  refine g_iconst dX11_costsTogether_3 ?_
  refine h_istore (L' := [some (vR 2), some (vI x1), some (vI x2), some (vI x3), some (vI 0), some (vI 0)]) dX11_costsTogether_4 (Nat.le_of_ble_eq_true rfl) rfl rfl ?_
  exact Go.drop (by simp only [mm_sub, and_self]) h
set_option maxRecDepth 20000 in
theorem w_X11_costsTogether_6 {E : mmE} {d kc ks : Nat} {G : mmG} {D : mmD} {Q : mmQ} {x1 x2 x3 x4 x5 : Int} (hG : Sh G)  (h : ((iv 10 ≤ iv x5 → Q (some (vI x4)) G D) ∧ (¬ iv 10 ≤ iv x5 → ((iv (iand (ishr x3 x5) 1) = iv 0 → Go E (d + 1) kc ks mX11_costsTogether 6 [some (vR 2), some (vI x1), some (vI x2), some (vI x3), some (vI x4), some (vI (x5 + 1))] [] G D Q) ∧ (¬ iv (iand (ishr x3 x5) 1) = iv 0 → Call E d 0 0 mX11_cost [vR 2, vI x5, vI x1, vI x2] G D (retI G (fun z2 D1 => Go E (d + 1) kc ks mX11_costsTogether 6 [some (vR 2), some (vI x1), some (vI x2), some (vI x3), some (vI (x4 + z2)), some (vI (x5 + 1))] [] G D1 Q))))))) : Go E (d + 1) kc ks mX11_costsTogether 6 [some (vR 2), some (vI x1), some (vI x2), some (vI x3), some (vI x4), some (vI x5)] [] G D Q := by
  refine g_iload dX11_costsTogether_6 rfl ?_
  refine g_bipush dX11_costsTogether_8 bp_10 ?_
  refine g_icmp_ge 41 dX11_costsTogether_10 (by decide) ⟨fun hc => ?_, fun hc => ?_⟩
  · replace h := h.1 hc
    refine g_iload dX11_costsTogether_41 rfl ?_
    exact g_iret dX11_costsTogether_43 rfl h
  · replace h := h.2 hc
    refine g_iload_n dX11_costsTogether_13 rfl rfl ?_
    refine g_iload dX11_costsTogether_14 rfl ?_
    refine g_ishr dX11_costsTogether_16 ?_
    refine g_iconst dX11_costsTogether_17 ?_
    refine g_iand dX11_costsTogether_18 ?_
    refine g_if_eq 35 dX11_costsTogether_19 (by decide) ⟨fun hc => ?_, fun hc => ?_⟩
    · replace h := h.1 hc
      refine h_iinc (L' := [some (vR 2), some (vI x1), some (vI x2), some (vI x3), some (vI x4), some (vI (x5 + 1))]) dX11_costsTogether_35 (Nat.le_of_ble_eq_true rfl) rfl rfl rfl ?_
      refine g_goto 6 dX11_costsTogether_38 (by decide) ?_
      exact Go.drop (by simp only [mm_sub, and_self]) h
    · replace h := h.2 hc
      refine g_iload dX11_costsTogether_22 rfl ?_
      refine g_aload_n dX11_costsTogether_24 rfl rfl ?_
      refine g_iload dX11_costsTogether_25 rfl ?_
      refine g_iload_n dX11_costsTogether_27 rfl rfl ?_
      refine g_iload_n dX11_costsTogether_28 rfl rfl ?_
      refine g_callV (kc := kc) (kc' := 0) (ks := ks) (ks' := 0) (as := [vI x5, vI x1, vI x2]) (st := [vI x4]) (ci := 10) dX11_costsTogether_29 cB_X11_cost lk_X11_306 in_X11_cost se_X11_cost (by decide) rfl rfl (Nat.le_of_ble_eq_true rfl) (Nat.le_of_ble_eq_true rfl) (by decide) (hG.lt (by decide)) (congrArg Prod.fst hG.k2) ?_
      refine Go.to (fun r G' D1 hr => ?_) h
      obtain ⟨rfl, z2, rfl, h⟩ := hr
      show Go E (d + 1) kc ks mX11_costsTogether 32 [some (vR 2), some (vI x1), some (vI x2), some (vI x3), some (vI x4), some (vI x5)] [vI z2, vI x4] G D1 Q
      refine g_iadd dX11_costsTogether_32 ?_
      refine h_istore (L' := [some (vR 2), some (vI x1), some (vI x2), some (vI x3), some (vI (x4 + z2)), some (vI x5)]) dX11_costsTogether_33 (Nat.le_of_ble_eq_true rfl) rfl rfl ?_
      refine h_iinc (L' := [some (vR 2), some (vI x1), some (vI x2), some (vI x3), some (vI (x4 + z2)), some (vI (x5 + 1))]) dX11_costsTogether_35 (Nat.le_of_ble_eq_true rfl) rfl rfl rfl ?_
      refine g_goto 6 dX11_costsTogether_38 (by decide) ?_
      exact Go.drop (by simp only [mm_sub, and_self]) h
set_option maxRecDepth 20000 in
theorem w_X11_costsWithOthers {E : mmE} {d kc ks : Nat} {G : mmG} {D : mmD} {Q : mmQ} {x1 x2 : Int} (hG : Sh G)  (h : Go E (d + 1) kc ks mX11_costsWithOthers 5 [some (vR 2), some (vI x1), some (vI x2), some (vI 0), some (vI 0)] [] G D Q) : Call E (d + 1) kc ks mX11_costsWithOthers [vR 2, vI x1, vI x2] G D Q := by
  show Go E (d + 1) kc ks mX11_costsWithOthers 0 [some (vR 2), some (vI x1), some (vI x2), none, none] [] G D Q
  refine g_iconst dX11_costsWithOthers_0 ?_
  refine h_istore_n (L' := [some (vR 2), some (vI x1), some (vI x2), some (vI 0), none]) dX11_costsWithOthers_1 rfl (Nat.le_of_ble_eq_true rfl) rfl rfl ?_
  refine g_iconst dX11_costsWithOthers_2 ?_
  refine h_istore (L' := [some (vR 2), some (vI x1), some (vI x2), some (vI 0), some (vI 0)]) dX11_costsWithOthers_3 (Nat.le_of_ble_eq_true rfl) rfl rfl ?_
  exact Go.drop (by simp only [mm_sub, and_self]) h
set_option maxRecDepth 20000 in
theorem w_X11_costsWithOthers_5 {E : mmE} {d kc ks : Nat} {G : mmG} {D : mmD} {Q : mmQ} {x1 x2 x3 x4 : Int} (hG : Sh G)  (h : ((iv (D 2 3) ≤ iv x4 → Q (some (vI x3)) G D) ∧ (¬ iv (D 2 3) ≤ iv x4 → Call E d 0 0 mX11_listedWord [vR 2, vI x4, vI x2] G D (retR G (fun z2 D1 => ((z2 = 0 → Go E (d + 1) kc ks mX11_costsWithOthers 5 [some (vR 2), some (vI x1), some (vI x2), some (vI x3), some (vI (x4 + 1))] [] G D1 Q) ∧ (¬ z2 = 0 → Call E d 0 0 mX11_cost [vR 2, vI x2, vI x1, vI x4] G D1 (retI G (fun z4 D3 => Go E (d + 1) kc ks mX11_costsWithOthers 5 [some (vR 2), some (vI x1), some (vI x2), some (vI (x3 + z4)), some (vI (x4 + 1))] [] G D3 Q))))))))) : Go E (d + 1) kc ks mX11_costsWithOthers 5 [some (vR 2), some (vI x1), some (vI x2), some (vI x3), some (vI x4)] [] G D Q := by
  refine g_iload dX11_costsWithOthers_5 rfl ?_
  refine g_aload_n dX11_costsWithOthers_7 rfl rfl ?_
  refine h_getI (j := 3) dX11_costsWithOthers_8 f_X11_64_10 rfl rfl (by decide) hG.k2 (by decide) (hG.lt (by decide)) ?_
  refine g_icmp_ge 41 dX11_costsWithOthers_11 (by decide) ⟨fun hc => ?_, fun hc => ?_⟩
  · replace h := h.1 hc
    refine g_iload_n dX11_costsWithOthers_41 rfl rfl ?_
    exact g_iret dX11_costsWithOthers_42 rfl h
  · replace h := h.2 hc
    refine g_aload_n dX11_costsWithOthers_14 rfl rfl ?_
    refine g_iload dX11_costsWithOthers_15 rfl ?_
    refine g_iload_n dX11_costsWithOthers_17 rfl rfl ?_
    refine g_callV (kc := kc) (kc' := 0) (ks := ks) (ks' := 0) (as := [vI x4, vI x2]) (st := []) (ci := 10) dX11_costsWithOthers_18 cB_X11_listedWord lk_X11_190 in_X11_listedWord se_X11_listedWord (by decide) rfl rfl (Nat.le_of_ble_eq_true rfl) (Nat.le_of_ble_eq_true rfl) (by decide) (hG.lt (by decide)) (congrArg Prod.fst hG.k2) ?_
    refine Go.to (fun r G' D1 hr => ?_) h
    obtain ⟨rfl, z2, rfl, h⟩ := hr
    show Go E (d + 1) kc ks mX11_costsWithOthers 21 [some (vR 2), some (vI x1), some (vI x2), some (vI x3), some (vI x4)] [vR z2] G D1 Q
    refine g_ifnull 35 dX11_costsWithOthers_21 (by decide) ⟨fun hc => ?_, fun hc => ?_⟩
    · replace h := h.1 hc
      refine h_iinc (L' := [some (vR 2), some (vI x1), some (vI x2), some (vI x3), some (vI (x4 + 1))]) dX11_costsWithOthers_35 (Nat.le_of_ble_eq_true rfl) rfl rfl rfl ?_
      refine g_goto 5 dX11_costsWithOthers_38 (by decide) ?_
      exact Go.drop (by simp only [mm_sub, and_self]) h
    · replace h := h.2 hc
      refine g_iload_n dX11_costsWithOthers_24 rfl rfl ?_
      refine g_aload_n dX11_costsWithOthers_25 rfl rfl ?_
      refine g_iload_n dX11_costsWithOthers_26 rfl rfl ?_
      refine g_iload_n dX11_costsWithOthers_27 rfl rfl ?_
      refine g_iload dX11_costsWithOthers_28 rfl ?_
      refine g_callV (kc := kc) (kc' := 0) (ks := ks) (ks' := 0) (as := [vI x2, vI x1, vI x4]) (st := [vI x3]) (ci := 10) dX11_costsWithOthers_30 cB_X11_cost lk_X11_306 in_X11_cost se_X11_cost (by decide) rfl rfl (Nat.le_of_ble_eq_true rfl) (Nat.le_of_ble_eq_true rfl) (by decide) (hG.lt (by decide)) (congrArg Prod.fst hG.k2) ?_
      refine Go.to (fun r G' D3 hr => ?_) h
      obtain ⟨rfl, z4, rfl, h⟩ := hr
      show Go E (d + 1) kc ks mX11_costsWithOthers 33 [some (vR 2), some (vI x1), some (vI x2), some (vI x3), some (vI x4)] [vI z4, vI x3] G D3 Q
      refine g_iadd dX11_costsWithOthers_33 ?_
      refine h_istore_n (L' := [some (vR 2), some (vI x1), some (vI x2), some (vI (x3 + z4)), some (vI x4)]) dX11_costsWithOthers_34 rfl (Nat.le_of_ble_eq_true rfl) rfl rfl ?_
      refine h_iinc (L' := [some (vR 2), some (vI x1), some (vI x2), some (vI (x3 + z4)), some (vI (x4 + 1))]) dX11_costsWithOthers_35 (Nat.le_of_ble_eq_true rfl) rfl rfl rfl ?_
      refine g_goto 5 dX11_costsWithOthers_38 (by decide) ?_
      exact Go.drop (by simp only [mm_sub, and_self]) h
set_option maxRecDepth 20000 in
theorem w_X11_firstOrder {E : mmE} {d kc ks : Nat} {G : mmG} {D : mmD} {Q : mmQ} {x0 : Int} (hG : Sh G)  (h : (∀ G1 : mmG, G1 = mm_push G 12 4 → ∀ D3 : mmD, D3 = mm_zero D G.1 → Go E d kc ks mX11_firstOrder 8 [some (vI x0), some (vR (G.1)), some (vI 0), some (vI 0)] [] G1 D3 Q)) : Call E d (kc + 1) (ks + 4) mX11_firstOrder [vI x0] G D Q := by
  show Go E d (kc + 1) (ks + 4) mX11_firstOrder 0 [some (vI x0), none, none, none] [] G D Q
  refine g_iconst dX11_firstOrder_0 ?_
  refine g_newa (at0 := .int) (kd := 12) (kc := kc) (ks := ks) dX11_firstOrder_1 (Or.inl ⟨rfl, rfl⟩) ka_I (by decide) (by decide) (N := 4) rfl ?_
  have hG2 := hG.push (kd := 12) (n := 4)
  have ha4 : isA4 (mm_push G 12 4) G.1 := ⟨hG.1, by simp only [mm_push]; omega, by simp only [mm_push, if_true]⟩
  generalize hG_G1 : mm_push G 12 4 = G1 at hG2 ha4 ⊢
  generalize hD_D3 : mm_zero D G.1 = D3
  replace h := h _ hG_G1.symm _ hD_D3.symm
  refine h_astore_n (L' := [some (vI x0), some (vR (G.1)), none, none]) dX11_firstOrder_3 rfl (Nat.le_of_ble_eq_true rfl) rfl rfl ?_
  refine g_iconst dX11_firstOrder_4 ?_
  refine h_istore_n (L' := [some (vI x0), some (vR (G.1)), some (vI 0), none]) dX11_firstOrder_5 rfl (Nat.le_of_ble_eq_true rfl) rfl rfl ?_
  refine g_iconst dX11_firstOrder_6 ?_
  refine h_istore_n (L' := [some (vI x0), some (vR (G.1)), some (vI 0), some (vI 0)]) dX11_firstOrder_7 rfl (Nat.le_of_ble_eq_true rfl) rfl rfl ?_
  exact Go.drop (by simp only [mm_sub, and_self]) h
set_option maxRecDepth 20000 in
theorem w_X11_firstOrder_8 {E : mmE} {d kc ks : Nat} {G : mmG} {D : mmD} {Q : mmQ} {x0 r1 x2 x3 : Int} (hG : Sh G) (ha1 : isA4 G r1) (h : ((iv 12 ≤ iv x3 → Q (some (vR r1)) G D) ∧ (¬ iv 12 ≤ iv x3 → ((iv 4 ≤ iv x2 → Q (some (vR r1)) G D) ∧ (¬ iv 4 ≤ iv x2 → ((iv (iand (ishr x0 x3) 1) = iv 0 → Go E d (kc + 1) (ks + 4) mX11_firstOrder 8 [some (vI x0), some (vR r1), some (vI x2), some (vI (x3 + 1))] [] G D Q) ∧ (¬ iv (iand (ishr x0 x3) 1) = iv 0 → ((0 ≤ x2 ∧ x2 < 4) ∧ (∀ D1 : mmD, D1 = up2 D r1 x2 x3 → Go E d (kc + 1) (ks + 4) mX11_firstOrder 8 [some (vI x0), some (vR r1), some (vI (x2 + 1)), some (vI (x3 + 1))] [] G D1 Q))))))))) : Go E d (kc + 1) (ks + 4) mX11_firstOrder 8 [some (vI x0), some (vR r1), some (vI x2), some (vI x3)] [] G D Q := by
  refine g_iload_n dX11_firstOrder_8 rfl rfl ?_
  refine g_bipush dX11_firstOrder_9 bp_12 ?_
  refine g_icmp_ge 40 dX11_firstOrder_11 (by decide) ⟨fun hc => ?_, fun hc => ?_⟩
  · replace h := h.1 hc
    refine g_aload_n dX11_firstOrder_40 rfl rfl ?_
    exact g_aret dX11_firstOrder_41 rfl (Or.inr ⟨_, rfl⟩) h
  · replace h := h.2 hc
    refine g_iload_n dX11_firstOrder_14 rfl rfl ?_
    refine g_iconst dX11_firstOrder_15 ?_
    refine g_icmp_ge 40 dX11_firstOrder_16 (by decide) ⟨fun hc => ?_, fun hc => ?_⟩
    · replace h := h.1 hc
      refine g_aload_n dX11_firstOrder_40 rfl rfl ?_
      exact g_aret dX11_firstOrder_41 rfl (Or.inr ⟨_, rfl⟩) h
    · replace h := h.2 hc
      refine g_iload_n dX11_firstOrder_19 rfl rfl ?_
      refine g_iload_n dX11_firstOrder_20 rfl rfl ?_
      refine g_ishr dX11_firstOrder_21 ?_
      refine g_iconst dX11_firstOrder_22 ?_
      refine g_iand dX11_firstOrder_23 ?_
      refine g_if_eq 34 dX11_firstOrder_24 (by decide) ⟨fun hc => ?_, fun hc => ?_⟩
      · replace h := h.1 hc
        refine h_iinc (L' := [some (vI x0), some (vR r1), some (vI x2), some (vI (x3 + 1))]) dX11_firstOrder_34 (Nat.le_of_ble_eq_true rfl) rfl rfl rfl ?_
        refine g_goto 8 dX11_firstOrder_37 (by decide) ?_
        exact Go.drop (by simp only [mm_sub, and_self]) h
      · replace h := h.2 hc
        refine g_aload_n dX11_firstOrder_27 rfl rfl ?_
        refine g_iload_n dX11_firstOrder_28 rfl rfl ?_
        refine g_iload_n dX11_firstOrder_29 rfl rfl ?_
        refine g_iast dX11_firstOrder_30 ha1.2.2 ha1.ge ha1.2.1 (by decide) ⟨h.1, ?_⟩
        generalize hD_D1 : up2 D r1 x2 x3 = D1
        replace h := h.2 _ hD_D1.symm
        refine h_iinc (L' := [some (vI x0), some (vR r1), some (vI (x2 + 1)), some (vI x3)]) dX11_firstOrder_31 (Nat.le_of_ble_eq_true rfl) rfl rfl rfl ?_
        refine h_iinc (L' := [some (vI x0), some (vR r1), some (vI (x2 + 1)), some (vI (x3 + 1))]) dX11_firstOrder_34 (Nat.le_of_ble_eq_true rfl) rfl rfl rfl ?_
        refine g_goto 8 dX11_firstOrder_37 (by decide) ?_
        exact Go.drop (by simp only [mm_sub, and_self]) h
set_option maxRecDepth 20000 in
theorem w_X11_toNextOrder {E : mmE} {d kc ks : Nat} {G : mmG} {D : mmD} {Q : mmQ} {r0 x1 : Int} (hG : Sh G) (ha0 : isA4 G r0) (h : Go E (d + 1) kc ks mX11_toNextOrder 4 [some (vR r0), some (vI x1), some (vI (x1 - 2)), none, none, none] [] G D Q) : Call E (d + 1) kc ks mX11_toNextOrder [vR r0, vI x1] G D Q := by
  show Go E (d + 1) kc ks mX11_toNextOrder 0 [some (vR r0), some (vI x1), none, none, none, none] [] G D Q
  refine g_iload_n dX11_toNextOrder_0 rfl rfl ?_
  refine g_iconst dX11_toNextOrder_1 ?_
  refine g_isub dX11_toNextOrder_2 ?_
  refine h_istore_n (L' := [some (vR r0), some (vI x1), some (vI (x1 - 2)), none, none, none]) dX11_toNextOrder_3 rfl (Nat.le_of_ble_eq_true rfl) rfl rfl ?_
  exact Go.drop (by simp only [mm_sub, and_self]) h
set_option maxRecDepth 20000 in
theorem w_X11_toNextOrder_4 {E : mmE} {d kc ks : Nat} {G : mmG} {D : mmD} {Q : mmQ} {r0 x1 x2 : Int} (hG : Sh G) (ha0 : isA4 G r0) (h : ((iv x2 < iv 0 → ((iv 0 ≤ iv x2 → Go E (d + 1) kc ks mX11_toNextOrder 35 [some (vR r0), some (vI x1), some (vI x2), some (vI (x1 - 1)), none, none] [] G D Q) ∧ (¬ iv 0 ≤ iv x2 → Q (some (vI 0)) G D))) ∧ (¬ iv x2 < iv 0 → ((0 ≤ x2 ∧ x2 < 4) ∧ ((0 ≤ (x2 + 1) ∧ (x2 + 1) < 4) ∧ ((iv (D r0 x2) ≤ iv (D r0 (x2 + 1)) → ((iv 0 ≤ iv x2 → Go E (d + 1) kc ks mX11_toNextOrder 35 [some (vR r0), some (vI x1), some (vI x2), some (vI (x1 - 1)), none, none] [] G D Q) ∧ (¬ iv 0 ≤ iv x2 → Q (some (vI 0)) G D))) ∧ (¬ iv (D r0 x2) ≤ iv (D r0 (x2 + 1)) → Go E (d + 1) kc ks mX11_toNextOrder 4 [some (vR r0), some (vI x1), some (vI (x2 + (-1))), none, none, none] [] G D Q))))))) : Go E (d + 1) kc ks mX11_toNextOrder 4 [some (vR r0), some (vI x1), some (vI x2), none, none, none] [] G D Q := by
  refine g_iload_n dX11_toNextOrder_4 rfl rfl ?_
  refine g_if_lt 25 dX11_toNextOrder_5 (by decide) ⟨fun hc => ?_, fun hc => ?_⟩
  · replace h := h.1 hc
    refine g_iload_n dX11_toNextOrder_25 rfl rfl ?_
    refine g_if_ge 31 dX11_toNextOrder_26 (by decide) ⟨fun hc => ?_, fun hc => ?_⟩
    · replace h := h.1 hc
      refine g_iload_n dX11_toNextOrder_31 rfl rfl ?_
      refine g_iconst dX11_toNextOrder_32 ?_
      refine g_isub dX11_toNextOrder_33 ?_
      refine h_istore_n (L' := [some (vR r0), some (vI x1), some (vI x2), some (vI (x1 - 1)), none, none]) dX11_toNextOrder_34 rfl (Nat.le_of_ble_eq_true rfl) rfl rfl ?_
      exact Go.drop (by simp only [mm_sub, and_self]) h
    · replace h := h.2 hc
      refine g_iconst dX11_toNextOrder_29 ?_
      exact g_zret dX11_toNextOrder_30 rfl ⟨Or.inl rfl, h⟩
  · replace h := h.2 hc
    refine g_aload_n dX11_toNextOrder_8 rfl rfl ?_
    refine g_iload_n dX11_toNextOrder_9 rfl rfl ?_
    refine g_iald dX11_toNextOrder_10 ha0.2.2 ha0.ge ha0.2.1 (by decide) ⟨h.1, ?_⟩
    replace h := h.2
    refine g_aload_n dX11_toNextOrder_11 rfl rfl ?_
    refine g_iload_n dX11_toNextOrder_12 rfl rfl ?_
    refine g_iconst dX11_toNextOrder_13 ?_
    refine g_iadd dX11_toNextOrder_14 ?_
    refine g_iald dX11_toNextOrder_15 ha0.2.2 ha0.ge ha0.2.1 (by decide) ⟨h.1, ?_⟩
    replace h := h.2
    refine g_icmp_le 25 dX11_toNextOrder_16 (by decide) ⟨fun hc => ?_, fun hc => ?_⟩
    · replace h := h.1 hc
      refine g_iload_n dX11_toNextOrder_25 rfl rfl ?_
      refine g_if_ge 31 dX11_toNextOrder_26 (by decide) ⟨fun hc => ?_, fun hc => ?_⟩
      · replace h := h.1 hc
        refine g_iload_n dX11_toNextOrder_31 rfl rfl ?_
        refine g_iconst dX11_toNextOrder_32 ?_
        refine g_isub dX11_toNextOrder_33 ?_
        refine h_istore_n (L' := [some (vR r0), some (vI x1), some (vI x2), some (vI (x1 - 1)), none, none]) dX11_toNextOrder_34 rfl (Nat.le_of_ble_eq_true rfl) rfl rfl ?_
        exact Go.drop (by simp only [mm_sub, and_self]) h
      · replace h := h.2 hc
        refine g_iconst dX11_toNextOrder_29 ?_
        exact g_zret dX11_toNextOrder_30 rfl ⟨Or.inl rfl, h⟩
    · replace h := h.2 hc
      refine h_iinc (L' := [some (vR r0), some (vI x1), some (vI (x2 + (-1))), none, none, none]) dX11_toNextOrder_19 (Nat.le_of_ble_eq_true rfl) rfl rfl rfl ?_
      refine g_goto 4 dX11_toNextOrder_22 (by decide) ?_
      exact Go.drop (by simp only [mm_sub, and_self]) h
set_option maxRecDepth 20000 in
theorem w_X11_toNextOrder_35 {E : mmE} {d kc ks : Nat} {G : mmG} {D : mmD} {Q : mmQ} {r0 x1 x2 x3 : Int} (hG : Sh G) (ha0 : isA4 G r0) (h : ((iv x3 ≤ iv x2 → Call E d 0 0 mX11_swap [vR r0, vI x2, vI x3] G D (retV G (fun D1 => Go E (d + 1) kc ks mX11_toNextOrder 71 [some (vR r0), none, none, none, some (vI (x2 + 1)), some (vI (x1 - 1))] [] G D1 Q))) ∧ (¬ iv x3 ≤ iv x2 → ((0 ≤ x3 ∧ x3 < 4) ∧ ((0 ≤ x2 ∧ x2 < 4) ∧ ((iv (D r0 x2) ≤ iv (D r0 x3) → Call E d 0 0 mX11_swap [vR r0, vI x2, vI x3] G D (retV G (fun D3 => Go E (d + 1) kc ks mX11_toNextOrder 71 [some (vR r0), none, none, none, some (vI (x2 + 1)), some (vI (x1 - 1))] [] G D3 Q))) ∧ (¬ iv (D r0 x2) ≤ iv (D r0 x3) → Go E (d + 1) kc ks mX11_toNextOrder 35 [some (vR r0), some (vI x1), some (vI x2), some (vI (x3 + (-1))), none, none] [] G D Q))))))) : Go E (d + 1) kc ks mX11_toNextOrder 35 [some (vR r0), some (vI x1), some (vI x2), some (vI x3), none, none] [] G D Q := by
  refine g_iload_n dX11_toNextOrder_35 rfl rfl ?_
  refine g_iload_n dX11_toNextOrder_36 rfl rfl ?_
  refine g_icmp_le 55 dX11_toNextOrder_37 (by decide) ⟨fun hc => ?_, fun hc => ?_⟩
  · replace h := h.1 hc
    refine g_aload_n dX11_toNextOrder_55 rfl rfl ?_
    refine g_iload_n dX11_toNextOrder_56 rfl rfl ?_
    refine g_iload_n dX11_toNextOrder_57 rfl rfl ?_
    refine g_callS (kc := kc) (kc' := 0) (ks := ks) (ks' := 0) (as := [vR r0, vI x2, vI x3]) (st := []) dX11_toNextOrder_58 cB_X11_swap lk_X11_309 st_X11_swap rfl (Nat.le_of_ble_eq_true rfl) (Nat.le_of_ble_eq_true rfl) ?_
    refine Go.to (fun r G' D1 hr => ?_) h
    obtain ⟨rfl, rfl, h⟩ := hr
    show Go E (d + 1) kc ks mX11_toNextOrder 61 [some (vR r0), some (vI x1), some (vI x2), some (vI x3), none, none] [] G D1 Q
    refine g_iload_n dX11_toNextOrder_61 rfl rfl ?_
    refine g_iconst dX11_toNextOrder_62 ?_
    refine g_iadd dX11_toNextOrder_63 ?_
    refine h_istore (L' := [some (vR r0), some (vI x1), some (vI x2), some (vI x3), some (vI (x2 + 1)), none]) dX11_toNextOrder_64 (Nat.le_of_ble_eq_true rfl) rfl rfl ?_
    refine g_iload_n dX11_toNextOrder_66 rfl rfl ?_
    refine g_iconst dX11_toNextOrder_67 ?_
    refine g_isub dX11_toNextOrder_68 ?_
    refine h_istore (L' := [some (vR r0), some (vI x1), some (vI x2), some (vI x3), some (vI (x2 + 1)), some (vI (x1 - 1))]) dX11_toNextOrder_69 (Nat.le_of_ble_eq_true rfl) rfl rfl ?_
    exact Go.drop (by simp only [mm_sub, and_self]) h
  · replace h := h.2 hc
    refine g_aload_n dX11_toNextOrder_40 rfl rfl ?_
    refine g_iload_n dX11_toNextOrder_41 rfl rfl ?_
    refine g_iald dX11_toNextOrder_42 ha0.2.2 ha0.ge ha0.2.1 (by decide) ⟨h.1, ?_⟩
    replace h := h.2
    refine g_aload_n dX11_toNextOrder_43 rfl rfl ?_
    refine g_iload_n dX11_toNextOrder_44 rfl rfl ?_
    refine g_iald dX11_toNextOrder_45 ha0.2.2 ha0.ge ha0.2.1 (by decide) ⟨h.1, ?_⟩
    replace h := h.2
    refine g_icmp_ge 55 dX11_toNextOrder_46 (by decide) ⟨fun hc => ?_, fun hc => ?_⟩
    · replace h := h.1 hc
      refine g_aload_n dX11_toNextOrder_55 rfl rfl ?_
      refine g_iload_n dX11_toNextOrder_56 rfl rfl ?_
      refine g_iload_n dX11_toNextOrder_57 rfl rfl ?_
      refine g_callS (kc := kc) (kc' := 0) (ks := ks) (ks' := 0) (as := [vR r0, vI x2, vI x3]) (st := []) dX11_toNextOrder_58 cB_X11_swap lk_X11_309 st_X11_swap rfl (Nat.le_of_ble_eq_true rfl) (Nat.le_of_ble_eq_true rfl) ?_
      refine Go.to (fun r G' D3 hr => ?_) h
      obtain ⟨rfl, rfl, h⟩ := hr
      show Go E (d + 1) kc ks mX11_toNextOrder 61 [some (vR r0), some (vI x1), some (vI x2), some (vI x3), none, none] [] G D3 Q
      refine g_iload_n dX11_toNextOrder_61 rfl rfl ?_
      refine g_iconst dX11_toNextOrder_62 ?_
      refine g_iadd dX11_toNextOrder_63 ?_
      refine h_istore (L' := [some (vR r0), some (vI x1), some (vI x2), some (vI x3), some (vI (x2 + 1)), none]) dX11_toNextOrder_64 (Nat.le_of_ble_eq_true rfl) rfl rfl ?_
      refine g_iload_n dX11_toNextOrder_66 rfl rfl ?_
      refine g_iconst dX11_toNextOrder_67 ?_
      refine g_isub dX11_toNextOrder_68 ?_
      refine h_istore (L' := [some (vR r0), some (vI x1), some (vI x2), some (vI x3), some (vI (x2 + 1)), some (vI (x1 - 1))]) dX11_toNextOrder_69 (Nat.le_of_ble_eq_true rfl) rfl rfl ?_
      exact Go.drop (by simp only [mm_sub, and_self]) h
    · replace h := h.2 hc
      refine h_iinc (L' := [some (vR r0), some (vI x1), some (vI x2), some (vI (x3 + (-1))), none, none]) dX11_toNextOrder_49 (Nat.le_of_ble_eq_true rfl) rfl rfl rfl ?_
      refine g_goto 35 dX11_toNextOrder_52 (by decide) ?_
      exact Go.drop (by simp only [mm_sub, and_self]) h
set_option maxRecDepth 20000 in
theorem w_X11_toNextOrder_71 {E : mmE} {d kc ks : Nat} {G : mmG} {D : mmD} {Q : mmQ} {r0 x4 x5 : Int} (hG : Sh G) (ha0 : isA4 G r0) (h : ((iv x5 ≤ iv x4 → Q (some (vI 1)) G D) ∧ (¬ iv x5 ≤ iv x4 → Call E d 0 0 mX11_swap [vR r0, vI x4, vI x5] G D (retV G (fun D1 => Go E (d + 1) kc ks mX11_toNextOrder 71 [some (vR r0), none, none, none, some (vI (x4 + 1)), some (vI (x5 + (-1)))] [] G D1 Q))))) : Go E (d + 1) kc ks mX11_toNextOrder 71 [some (vR r0), none, none, none, some (vI x4), some (vI x5)] [] G D Q := by
  refine g_iload dX11_toNextOrder_71 rfl ?_
  refine g_iload dX11_toNextOrder_73 rfl ?_
  refine g_icmp_ge 95 dX11_toNextOrder_75 (by decide) ⟨fun hc => ?_, fun hc => ?_⟩
  · replace h := h.1 hc
    refine g_iconst dX11_toNextOrder_95 ?_
    exact g_zret dX11_toNextOrder_96 rfl ⟨Or.inr rfl, h⟩
  · replace h := h.2 hc
    refine g_aload_n dX11_toNextOrder_78 rfl rfl ?_
    refine g_iload dX11_toNextOrder_79 rfl ?_
    refine g_iload dX11_toNextOrder_81 rfl ?_
    refine g_callS (kc := kc) (kc' := 0) (ks := ks) (ks' := 0) (as := [vR r0, vI x4, vI x5]) (st := []) dX11_toNextOrder_83 cB_X11_swap lk_X11_309 st_X11_swap rfl (Nat.le_of_ble_eq_true rfl) (Nat.le_of_ble_eq_true rfl) ?_
    refine Go.to (fun r G' D1 hr => ?_) h
    obtain ⟨rfl, rfl, h⟩ := hr
    show Go E (d + 1) kc ks mX11_toNextOrder 86 [some (vR r0), none, none, none, some (vI x4), some (vI x5)] [] G D1 Q
    refine h_iinc (L' := [some (vR r0), none, none, none, some (vI (x4 + 1)), some (vI x5)]) dX11_toNextOrder_86 (Nat.le_of_ble_eq_true rfl) rfl rfl rfl ?_
    refine h_iinc (L' := [some (vR r0), none, none, none, some (vI (x4 + 1)), some (vI (x5 + (-1)))]) dX11_toNextOrder_89 (Nat.le_of_ble_eq_true rfl) rfl rfl rfl ?_
    refine g_goto 71 dX11_toNextOrder_92 (by decide) ?_
    exact Go.drop (by simp only [mm_sub, and_self]) h
set_option maxRecDepth 20000 in
theorem w_X11_swap {E : mmE} {d kc ks : Nat} {G : mmG} {D : mmD} {Q : mmQ} {r0 x1 x2 : Int} (hG : Sh G) (ha0 : isA4 G r0) (h : ((0 ≤ x1 ∧ x1 < 4) ∧ ((0 ≤ x2 ∧ x2 < 4) ∧ ((0 ≤ x1 ∧ x1 < 4) ∧ (∀ D1 : mmD, D1 = up2 D r0 x1 (D r0 x2) → ((0 ≤ x2 ∧ x2 < 4) ∧ (∀ D2 : mmD, D2 = up2 D1 r0 x2 (D r0 x1) → Q none G D2))))))) : Call E d kc ks mX11_swap [vR r0, vI x1, vI x2] G D Q := by
  show Go E d kc ks mX11_swap 0 [some (vR r0), some (vI x1), some (vI x2), none] [] G D Q
  refine g_aload_n dX11_swap_0 rfl rfl ?_
  refine g_iload_n dX11_swap_1 rfl rfl ?_
  refine g_iald dX11_swap_2 ha0.2.2 ha0.ge ha0.2.1 (by decide) ⟨h.1, ?_⟩
  replace h := h.2
  refine h_istore_n (L' := [some (vR r0), some (vI x1), some (vI x2), some (vI (D r0 x1))]) dX11_swap_3 rfl (Nat.le_of_ble_eq_true rfl) rfl rfl ?_
  refine g_aload_n dX11_swap_4 rfl rfl ?_
  refine g_iload_n dX11_swap_5 rfl rfl ?_
  refine g_aload_n dX11_swap_6 rfl rfl ?_
  refine g_iload_n dX11_swap_7 rfl rfl ?_
  refine g_iald dX11_swap_8 ha0.2.2 ha0.ge ha0.2.1 (by decide) ⟨h.1, ?_⟩
  replace h := h.2
  refine g_iast dX11_swap_9 ha0.2.2 ha0.ge ha0.2.1 (by decide) ⟨h.1, ?_⟩
  generalize hD_D1 : up2 D r0 x1 (D r0 x2) = D1
  replace h := h.2 _ hD_D1.symm
  refine g_aload_n dX11_swap_10 rfl rfl ?_
  refine g_iload_n dX11_swap_11 rfl rfl ?_
  refine g_iload_n dX11_swap_12 rfl rfl ?_
  refine g_iast dX11_swap_13 ha0.2.2 ha0.ge ha0.2.1 (by decide) ⟨h.1, ?_⟩
  generalize hD_D2 : up2 D1 r0 x2 (D r0 x1) = D2
  replace h := h.2 _ hD_D2.symm
  exact g_vret dX11_swap_14 rfl h
set_option maxRecDepth 20000 in
theorem w_X11_comeOut {E : mmE} {d kc ks : Nat} {G : mmG} {D : mmD} {Q : mmQ} {x1 x2 r3 x4 : Int} (hG : Sh G) (ha3 : isA4 G r3) (h : Go E (d + 1) kc ks mX11_comeOut 6 [some (vR 2), some (vI x1), some (vI x2), some (vR r3), some (vI x4), some (vI 0), some (vI 0), none, none, none] [] G D Q) : Call E (d + 1) kc ks mX11_comeOut [vR 2, vI x1, vI x2, vR r3, vI x4] G D Q := by
  show Go E (d + 1) kc ks mX11_comeOut 0 [some (vR 2), some (vI x1), some (vI x2), some (vR r3), some (vI x4), none, none, none, none, none] [] G D Q
  refine g_iconst dX11_comeOut_0 ?_
  refine h_istore (L' := [some (vR 2), some (vI x1), some (vI x2), some (vR r3), some (vI x4), some (vI 0), none, none, none, none]) dX11_comeOut_1 (Nat.le_of_ble_eq_true rfl) rfl rfl ?_
  refine g_iconst dX11_comeOut_3 ?_
  refine h_istore (L' := [some (vR 2), some (vI x1), some (vI x2), some (vR r3), some (vI x4), some (vI 0), some (vI 0), none, none, none]) dX11_comeOut_4 (Nat.le_of_ble_eq_true rfl) rfl rfl ?_
  exact Go.drop (by simp only [mm_sub, and_self]) h
set_option maxRecDepth 20000 in
theorem w_X11_comeOut_6 {E : mmE} {d kc ks : Nat} {G : mmG} {D : mmD} {Q : mmQ} {x1 x2 r3 x4 x5 x6 : Int} (hG : Sh G) (ha3 : isA4 G r3) (h : ((iv 10 ≤ iv x6 → Q (some (vI x5)) G D) ∧ (¬ iv 10 ≤ iv x6 → Call E d 0 0 mX11_listedWord [vR 2, vI x1, vI x6] G D (retR G (fun z2 D1 => Call E d 0 0 mX11_listedWord [vR 2, vI x2, vI x6] G D1 (retR G (fun z4 D3 => ((z2 = 0 → Go E (d + 1) kc ks mX11_comeOut 6 [some (vR 2), some (vI x1), some (vI x2), some (vR r3), some (vI x4), some (vI x5), some (vI (x6 + 1)), none, none, none] [] G D3 Q) ∧ (¬ z2 = 0 → ((z4 = 0 → Go E (d + 1) kc ks mX11_comeOut 6 [some (vR 2), some (vI x1), some (vI x2), some (vR r3), some (vI x4), some (vI x5), some (vI (x6 + 1)), none, none, none] [] G D3 Q) ∧ (¬ z4 = 0 → Call E d 0 0 mX10_copySounds [vR 18, vR z2] G D3 (retV G (fun D5 => Go E (d + 1) kc ks mX11_comeOut 53 [some (vR 2), some (vI x1), some (vI x2), some (vR r3), some (vI x4), some (vI x5), some (vI x6), none, some (vR z4), some (vI 0)] [] G D5 Q))))))))))))) : Go E (d + 1) kc ks mX11_comeOut 6 [some (vR 2), some (vI x1), some (vI x2), some (vR r3), some (vI x4), some (vI x5), some (vI x6), none, none, none] [] G D Q := by
  refine g_iload dX11_comeOut_6 rfl ?_
  refine g_bipush dX11_comeOut_8 bp_10 ?_
  refine g_icmp_ge 109 dX11_comeOut_10 (by decide) ⟨fun hc => ?_, fun hc => ?_⟩
  · replace h := h.1 hc
    refine g_iload dX11_comeOut_109 rfl ?_
    exact g_iret dX11_comeOut_111 rfl h
  · replace h := h.2 hc
    refine g_aload_n dX11_comeOut_13 rfl rfl ?_
    refine g_iload_n dX11_comeOut_14 rfl rfl ?_
    refine g_iload dX11_comeOut_15 rfl ?_
    refine g_callV (kc := kc) (kc' := 0) (ks := ks) (ks' := 0) (as := [vI x1, vI x6]) (st := []) (ci := 10) dX11_comeOut_17 cB_X11_listedWord lk_X11_190 in_X11_listedWord se_X11_listedWord (by decide) rfl rfl (Nat.le_of_ble_eq_true rfl) (Nat.le_of_ble_eq_true rfl) (by decide) (hG.lt (by decide)) (congrArg Prod.fst hG.k2) ?_
    refine Go.to (fun r G' D1 hr => ?_) h
    obtain ⟨rfl, z2, rfl, h⟩ := hr
    show Go E (d + 1) kc ks mX11_comeOut 20 [some (vR 2), some (vI x1), some (vI x2), some (vR r3), some (vI x4), some (vI x5), some (vI x6), none, none, none] [vR z2] G D1 Q
    refine h_astore (L' := [some (vR 2), some (vI x1), some (vI x2), some (vR r3), some (vI x4), some (vI x5), some (vI x6), some (vR z2), none, none]) dX11_comeOut_20 (Nat.le_of_ble_eq_true rfl) rfl rfl ?_
    refine g_aload_n dX11_comeOut_22 rfl rfl ?_
    refine g_iload_n dX11_comeOut_23 rfl rfl ?_
    refine g_iload dX11_comeOut_24 rfl ?_
    refine g_callV (kc := kc) (kc' := 0) (ks := ks) (ks' := 0) (as := [vI x2, vI x6]) (st := []) (ci := 10) dX11_comeOut_26 cB_X11_listedWord lk_X11_190 in_X11_listedWord se_X11_listedWord (by decide) rfl rfl (Nat.le_of_ble_eq_true rfl) (Nat.le_of_ble_eq_true rfl) (by decide) (hG.lt (by decide)) (congrArg Prod.fst hG.k2) ?_
    refine Go.to (fun r G' D3 hr => ?_) h
    obtain ⟨rfl, z4, rfl, h⟩ := hr
    show Go E (d + 1) kc ks mX11_comeOut 29 [some (vR 2), some (vI x1), some (vI x2), some (vR r3), some (vI x4), some (vI x5), some (vI x6), some (vR z2), none, none] [vR z4] G D3 Q
    refine h_astore (L' := [some (vR 2), some (vI x1), some (vI x2), some (vR r3), some (vI x4), some (vI x5), some (vI x6), some (vR z2), some (vR z4), none]) dX11_comeOut_29 (Nat.le_of_ble_eq_true rfl) rfl rfl ?_
    refine g_aload dX11_comeOut_31 rfl ?_
    refine g_ifnull 103 dX11_comeOut_33 (by decide) ⟨fun hc => ?_, fun hc => ?_⟩
    · replace h := h.1 hc
      refine h_iinc (L' := [some (vR 2), some (vI x1), some (vI x2), some (vR r3), some (vI x4), some (vI x5), some (vI (x6 + 1)), some (vR z2), some (vR z4), none]) dX11_comeOut_103 (Nat.le_of_ble_eq_true rfl) rfl rfl rfl ?_
      refine g_goto 6 dX11_comeOut_106 (by decide) ?_
      exact Go.drop (by simp only [mm_sub, and_self]) h
    · replace h := h.2 hc
      refine g_aload dX11_comeOut_36 rfl ?_
      refine g_ifnull 103 dX11_comeOut_38 (by decide) ⟨fun hc => ?_, fun hc => ?_⟩
      · replace h := h.1 hc
        refine h_iinc (L' := [some (vR 2), some (vI x1), some (vI x2), some (vR r3), some (vI x4), some (vI x5), some (vI (x6 + 1)), some (vR z2), some (vR z4), none]) dX11_comeOut_103 (Nat.le_of_ble_eq_true rfl) rfl rfl rfl ?_
        refine g_goto 6 dX11_comeOut_106 (by decide) ?_
        exact Go.drop (by simp only [mm_sub, and_self]) h
      · replace h := h.2 hc
        refine g_aload_n dX11_comeOut_41 rfl rfl ?_
        refine h_getR (j := 18) dX11_comeOut_42 f_X11_56_10 rfl rfl (by decide) hG.k2 (by decide) (hG.lt (by decide)) hG.r2_18 ?_
        refine g_aload dX11_comeOut_45 rfl ?_
        refine g_callV (kc := kc) (kc' := 0) (ks := ks) (ks' := 0) (as := [vR z2]) (st := []) (ci := 9) dX11_comeOut_47 cB_X10_copySounds lk_X11_141 in_X10_copySounds se_X10_copySounds (by decide) rfl rfl (Nat.le_of_ble_eq_true rfl) (Nat.le_of_ble_eq_true rfl) isW.trial.ge (isW.trial.lt hG) (congrArg Prod.fst (isW.trial.k hG)) ?_
        refine Go.to (fun r G' D5 hr => ?_) h
        obtain ⟨rfl, rfl, h⟩ := hr
        show Go E (d + 1) kc ks mX11_comeOut 50 [some (vR 2), some (vI x1), some (vI x2), some (vR r3), some (vI x4), some (vI x5), some (vI x6), some (vR z2), some (vR z4), none] [] G D5 Q
        refine g_iconst dX11_comeOut_50 ?_
        refine h_istore (L' := [some (vR 2), some (vI x1), some (vI x2), some (vR r3), some (vI x4), some (vI x5), some (vI x6), some (vR z2), some (vR z4), some (vI 0)]) dX11_comeOut_51 (Nat.le_of_ble_eq_true rfl) rfl rfl ?_
        exact Go.drop (by simp only [mm_sub, and_self]) h
set_option maxRecDepth 20000 in
theorem w_X11_comeOut_53 {E : mmE} {d kc ks : Nat} {G : mmG} {D : mmD} {Q : mmQ} {x1 x2 r3 x4 x5 x6 r8 x9 : Int} (hG : Sh G) (ha3 : isA4 G r3) (h : ((iv x4 ≤ iv x9 → Call E d 0 0 mX10_hasSoundsOf [vR 18, vR r8] G D (retI G (fun z2 D1 => Call E d 0 0 mX11_oneIf [vI z2] G D1 (retI G (fun z4 D3 => Go E (d + 1) kc ks mX11_comeOut 6 [some (vR 2), some (vI x1), some (vI x2), some (vR r3), some (vI x4), some (vI (ior x5 (ishl z4 x6))), some (vI (x6 + 1)), none, none, none] [] G D3 Q))))) ∧ (¬ iv x4 ≤ iv x9 → ((0 ≤ x9 ∧ x9 < 4) ∧ ((0 ≤ (D r3 x9) ∧ (D r3 x9) < 12) ∧ Call E d 0 0 mX4_comeOver [vR (142 + 6 * (D r3 x9)), vR 18] G D (retI G (fun z8 D7 => Go E (d + 1) kc ks mX11_comeOut 53 [some (vR 2), some (vI x1), some (vI x2), some (vR r3), some (vI x4), some (vI x5), some (vI x6), none, some (vR r8), some (vI (x9 + 1))] [] G D7 Q))))))) : Go E (d + 1) kc ks mX11_comeOut 53 [some (vR 2), some (vI x1), some (vI x2), some (vR r3), some (vI x4), some (vI x5), some (vI x6), none, some (vR r8), some (vI x9)] [] G D Q := by
  refine g_iload dX11_comeOut_53 rfl ?_
  refine g_iload dX11_comeOut_55 rfl ?_
  refine g_icmp_ge 83 dX11_comeOut_57 (by decide) ⟨fun hc => ?_, fun hc => ?_⟩
  · replace h := h.1 hc
    refine g_iload dX11_comeOut_83 rfl ?_
    refine g_aload_n dX11_comeOut_85 rfl rfl ?_
    refine h_getR (j := 18) dX11_comeOut_86 f_X11_56_10 rfl rfl (by decide) hG.k2 (by decide) (hG.lt (by decide)) hG.r2_18 ?_
    refine g_aload dX11_comeOut_89 rfl ?_
    refine g_callV (kc := kc) (kc' := 0) (ks := ks) (ks' := 0) (as := [vR r8]) (st := [vI x5]) (ci := 9) dX11_comeOut_91 cB_X10_hasSoundsOf lk_X11_313 in_X10_hasSoundsOf se_X10_hasSoundsOf (by decide) rfl rfl (Nat.le_of_ble_eq_true rfl) (Nat.le_of_ble_eq_true rfl) isW.trial.ge (isW.trial.lt hG) (congrArg Prod.fst (isW.trial.k hG)) ?_
    refine Go.to (fun r G' D1 hr => ?_) h
    obtain ⟨rfl, z2, rfl, h⟩ := hr
    show Go E (d + 1) kc ks mX11_comeOut 94 [some (vR 2), some (vI x1), some (vI x2), some (vR r3), some (vI x4), some (vI x5), some (vI x6), none, some (vR r8), some (vI x9)] [vI z2, vI x5] G D1 Q
    refine g_callS (kc := kc) (kc' := 0) (ks := ks) (ks' := 0) (as := [vI z2]) (st := [vI x5]) dX11_comeOut_94 cB_X11_oneIf lk_X11_163 st_X11_oneIf rfl (Nat.le_of_ble_eq_true rfl) (Nat.le_of_ble_eq_true rfl) ?_
    refine Go.to (fun r G' D3 hr => ?_) h
    obtain ⟨rfl, z4, rfl, h⟩ := hr
    show Go E (d + 1) kc ks mX11_comeOut 97 [some (vR 2), some (vI x1), some (vI x2), some (vR r3), some (vI x4), some (vI x5), some (vI x6), none, some (vR r8), some (vI x9)] [vI z4, vI x5] G D3 Q
    refine g_iload dX11_comeOut_97 rfl ?_
    refine g_ishl dX11_comeOut_99 ?_
    refine g_ior dX11_comeOut_100 ?_
    refine h_istore (L' := [some (vR 2), some (vI x1), some (vI x2), some (vR r3), some (vI x4), some (vI (ior x5 (ishl z4 x6))), some (vI x6), none, some (vR r8), some (vI x9)]) dX11_comeOut_101 (Nat.le_of_ble_eq_true rfl) rfl rfl ?_
    refine h_iinc (L' := [some (vR 2), some (vI x1), some (vI x2), some (vR r3), some (vI x4), some (vI (ior x5 (ishl z4 x6))), some (vI (x6 + 1)), none, some (vR r8), some (vI x9)]) dX11_comeOut_103 (Nat.le_of_ble_eq_true rfl) rfl rfl rfl ?_
    refine g_goto 6 dX11_comeOut_106 (by decide) ?_
    exact Go.drop (by simp only [mm_sub, and_self]) h
  · replace h := h.2 hc
    refine g_aload_n dX11_comeOut_60 rfl rfl ?_
    refine h_getR (j := 5) dX11_comeOut_61 f_X11_24_10 rfl rfl (by decide) hG.k2 (by decide) (hG.lt (by decide)) hG.r2_5 ?_
    refine g_aload_n dX11_comeOut_64 rfl rfl ?_
    refine g_iload dX11_comeOut_65 rfl ?_
    refine g_iald dX11_comeOut_67 ha3.2.2 ha3.ge ha3.2.1 (by decide) ⟨h.1, ?_⟩
    replace h := h.2
    refine h_aaldl hG dX11_comeOut_68 ⟨h.1, ?_⟩
    have hw6 := isLw.of h.1.1 h.1.2
    replace h := h.2
    refine g_aload_n dX11_comeOut_69 rfl rfl ?_
    refine h_getR (j := 18) dX11_comeOut_70 f_X11_56_10 rfl rfl (by decide) hG.k2 (by decide) (hG.lt (by decide)) hG.r2_18 ?_
    refine g_callV (kc := kc) (kc' := 0) (ks := ks) (ks' := 0) (as := [vR 18]) (st := []) (ci := 3) dX11_comeOut_73 cB_X4_comeOver lk_X11_124 in_X4_comeOver se_X4_comeOver (by decide) rfl rfl (Nat.le_of_ble_eq_true rfl) (Nat.le_of_ble_eq_true rfl) hw6.ge (hw6.lt hG) (congrArg Prod.fst (hw6.k hG)) ?_
    refine Go.to (fun r G' D7 hr => ?_) h
    obtain ⟨rfl, z8, rfl, h⟩ := hr
    show Go E (d + 1) kc ks mX11_comeOut 76 [some (vR 2), some (vI x1), some (vI x2), some (vR r3), some (vI x4), some (vI x5), some (vI x6), none, some (vR r8), some (vI x9)] [vI z8] G D7 Q
    refine g_pop dX11_comeOut_76 (fun _ h9 => by cases h9) ?_
    refine h_iinc (L' := [some (vR 2), some (vI x1), some (vI x2), some (vR r3), some (vI x4), some (vI x5), some (vI x6), none, some (vR r8), some (vI (x9 + 1))]) dX11_comeOut_77 (Nat.le_of_ble_eq_true rfl) rfl rfl rfl ?_
    refine g_goto 53 dX11_comeOut_80 (by decide) ?_
    exact Go.drop (by simp only [mm_sub, and_self]) h
set_option maxRecDepth 20000 in
theorem w_X11_isOrderFelt {E : mmE} {d kc ks : Nat} {G : mmG} {D : mmD} {Q : mmQ} {r1 r2 r3 : Int} (hG : Sh G) (hw1 : isW r1) (hl2 : isLw r2) (hl3 : isLw r3) (h : Call E d 0 0 mX10_copySounds [vR 18, vR r1] G D (retV G (fun D1 => Call E d 0 0 mX4_comeOver [vR r2, vR 18] G D1 (retI G (fun z4 D3 => Call E d 0 0 mX4_comeOver [vR r3, vR 18] G D3 (retI G (fun z6 D5 => Call E d 0 0 mX10_copySounds [vR 20, vR r1] G D5 (retV G (fun D7 => Call E d 0 0 mX4_comeOver [vR r3, vR 20] G D7 (retI G (fun z10 D9 => Call E d 0 0 mX4_comeOver [vR r2, vR 20] G D9 (retI G (fun z12 D11 => Call E d 0 0 mX10_hasSoundsOf [vR 18, vR 20] G D11 (retI G (fun z14 D13 => ((¬ iv z14 = iv 0 → Q (some (vI 0)) G D13) ∧ (iv z14 = iv 0 → Q (some (vI 1)) G D13))))))))))))))))) : Call E (d + 1) kc ks mX11_isOrderFelt [vR 2, vR r1, vR r2, vR r3] G D Q := by
  show Go E (d + 1) kc ks mX11_isOrderFelt 0 [some (vR 2), some (vR r1), some (vR r2), some (vR r3)] [] G D Q
  refine g_aload_n dX11_isOrderFelt_0 rfl rfl ?_
  refine h_getR (j := 18) dX11_isOrderFelt_1 f_X11_56_10 rfl rfl (by decide) hG.k2 (by decide) (hG.lt (by decide)) hG.r2_18 ?_
  refine g_aload_n dX11_isOrderFelt_4 rfl rfl ?_
  refine g_callV (kc := kc) (kc' := 0) (ks := ks) (ks' := 0) (as := [vR r1]) (st := []) (ci := 9) dX11_isOrderFelt_5 cB_X10_copySounds lk_X11_141 in_X10_copySounds se_X10_copySounds (by decide) rfl rfl (Nat.le_of_ble_eq_true rfl) (Nat.le_of_ble_eq_true rfl) isW.trial.ge (isW.trial.lt hG) (congrArg Prod.fst (isW.trial.k hG)) ?_
  refine Go.to (fun r G' D1 hr => ?_) h
  obtain ⟨rfl, rfl, h⟩ := hr
  show Go E (d + 1) kc ks mX11_isOrderFelt 8 [some (vR 2), some (vR r1), some (vR r2), some (vR r3)] [] G D1 Q
  refine g_aload_n dX11_isOrderFelt_8 rfl rfl ?_
  refine g_aload_n dX11_isOrderFelt_9 rfl rfl ?_
  refine h_getR (j := 18) dX11_isOrderFelt_10 f_X11_56_10 rfl rfl (by decide) hG.k2 (by decide) (hG.lt (by decide)) hG.r2_18 ?_
  refine g_callV (kc := kc) (kc' := 0) (ks := ks) (ks' := 0) (as := [vR 18]) (st := []) (ci := 3) dX11_isOrderFelt_13 cB_X4_comeOver lk_X11_124 in_X4_comeOver se_X4_comeOver (by decide) rfl rfl (Nat.le_of_ble_eq_true rfl) (Nat.le_of_ble_eq_true rfl) hl2.ge (hl2.lt hG) (congrArg Prod.fst (hl2.k hG)) ?_
  refine Go.to (fun r G' D3 hr => ?_) h
  obtain ⟨rfl, z4, rfl, h⟩ := hr
  show Go E (d + 1) kc ks mX11_isOrderFelt 16 [some (vR 2), some (vR r1), some (vR r2), some (vR r3)] [vI z4] G D3 Q
  refine g_pop dX11_isOrderFelt_16 (fun _ h9 => by cases h9) ?_
  refine g_aload_n dX11_isOrderFelt_17 rfl rfl ?_
  refine g_aload_n dX11_isOrderFelt_18 rfl rfl ?_
  refine h_getR (j := 18) dX11_isOrderFelt_19 f_X11_56_10 rfl rfl (by decide) hG.k2 (by decide) (hG.lt (by decide)) hG.r2_18 ?_
  refine g_callV (kc := kc) (kc' := 0) (ks := ks) (ks' := 0) (as := [vR 18]) (st := []) (ci := 3) dX11_isOrderFelt_22 cB_X4_comeOver lk_X11_124 in_X4_comeOver se_X4_comeOver (by decide) rfl rfl (Nat.le_of_ble_eq_true rfl) (Nat.le_of_ble_eq_true rfl) hl3.ge (hl3.lt hG) (congrArg Prod.fst (hl3.k hG)) ?_
  refine Go.to (fun r G' D5 hr => ?_) h
  obtain ⟨rfl, z6, rfl, h⟩ := hr
  show Go E (d + 1) kc ks mX11_isOrderFelt 25 [some (vR 2), some (vR r1), some (vR r2), some (vR r3)] [vI z6] G D5 Q
  refine g_pop dX11_isOrderFelt_25 (fun _ h9 => by cases h9) ?_
  refine g_aload_n dX11_isOrderFelt_26 rfl rfl ?_
  refine h_getR (j := 19) dX11_isOrderFelt_27 f_X11_60_10 rfl rfl (by decide) hG.k2 (by decide) (hG.lt (by decide)) hG.r2_19 ?_
  refine g_aload_n dX11_isOrderFelt_30 rfl rfl ?_
  refine g_callV (kc := kc) (kc' := 0) (ks := ks) (ks' := 0) (as := [vR r1]) (st := []) (ci := 9) dX11_isOrderFelt_31 cB_X10_copySounds lk_X11_141 in_X10_copySounds se_X10_copySounds (by decide) rfl rfl (Nat.le_of_ble_eq_true rfl) (Nat.le_of_ble_eq_true rfl) isW.other.ge (isW.other.lt hG) (congrArg Prod.fst (isW.other.k hG)) ?_
  refine Go.to (fun r G' D7 hr => ?_) h
  obtain ⟨rfl, rfl, h⟩ := hr
  show Go E (d + 1) kc ks mX11_isOrderFelt 34 [some (vR 2), some (vR r1), some (vR r2), some (vR r3)] [] G D7 Q
  refine g_aload_n dX11_isOrderFelt_34 rfl rfl ?_
  refine g_aload_n dX11_isOrderFelt_35 rfl rfl ?_
  refine h_getR (j := 19) dX11_isOrderFelt_36 f_X11_60_10 rfl rfl (by decide) hG.k2 (by decide) (hG.lt (by decide)) hG.r2_19 ?_
  refine g_callV (kc := kc) (kc' := 0) (ks := ks) (ks' := 0) (as := [vR 20]) (st := []) (ci := 3) dX11_isOrderFelt_39 cB_X4_comeOver lk_X11_124 in_X4_comeOver se_X4_comeOver (by decide) rfl rfl (Nat.le_of_ble_eq_true rfl) (Nat.le_of_ble_eq_true rfl) hl3.ge (hl3.lt hG) (congrArg Prod.fst (hl3.k hG)) ?_
  refine Go.to (fun r G' D9 hr => ?_) h
  obtain ⟨rfl, z10, rfl, h⟩ := hr
  show Go E (d + 1) kc ks mX11_isOrderFelt 42 [some (vR 2), some (vR r1), some (vR r2), some (vR r3)] [vI z10] G D9 Q
  refine g_pop dX11_isOrderFelt_42 (fun _ h9 => by cases h9) ?_
  refine g_aload_n dX11_isOrderFelt_43 rfl rfl ?_
  refine g_aload_n dX11_isOrderFelt_44 rfl rfl ?_
  refine h_getR (j := 19) dX11_isOrderFelt_45 f_X11_60_10 rfl rfl (by decide) hG.k2 (by decide) (hG.lt (by decide)) hG.r2_19 ?_
  refine g_callV (kc := kc) (kc' := 0) (ks := ks) (ks' := 0) (as := [vR 20]) (st := []) (ci := 3) dX11_isOrderFelt_48 cB_X4_comeOver lk_X11_124 in_X4_comeOver se_X4_comeOver (by decide) rfl rfl (Nat.le_of_ble_eq_true rfl) (Nat.le_of_ble_eq_true rfl) hl2.ge (hl2.lt hG) (congrArg Prod.fst (hl2.k hG)) ?_
  refine Go.to (fun r G' D11 hr => ?_) h
  obtain ⟨rfl, z12, rfl, h⟩ := hr
  show Go E (d + 1) kc ks mX11_isOrderFelt 51 [some (vR 2), some (vR r1), some (vR r2), some (vR r3)] [vI z12] G D11 Q
  refine g_pop dX11_isOrderFelt_51 (fun _ h9 => by cases h9) ?_
  refine g_aload_n dX11_isOrderFelt_52 rfl rfl ?_
  refine h_getR (j := 18) dX11_isOrderFelt_53 f_X11_56_10 rfl rfl (by decide) hG.k2 (by decide) (hG.lt (by decide)) hG.r2_18 ?_
  refine g_aload_n dX11_isOrderFelt_56 rfl rfl ?_
  refine h_getR (j := 19) dX11_isOrderFelt_57 f_X11_60_10 rfl rfl (by decide) hG.k2 (by decide) (hG.lt (by decide)) hG.r2_19 ?_
  refine g_callV (kc := kc) (kc' := 0) (ks := ks) (ks' := 0) (as := [vR 20]) (st := []) (ci := 9) dX11_isOrderFelt_60 cB_X10_hasSoundsOf lk_X11_313 in_X10_hasSoundsOf se_X10_hasSoundsOf (by decide) rfl rfl (Nat.le_of_ble_eq_true rfl) (Nat.le_of_ble_eq_true rfl) isW.trial.ge (isW.trial.lt hG) (congrArg Prod.fst (isW.trial.k hG)) ?_
  refine Go.to (fun r G' D13 hr => ?_) h
  obtain ⟨rfl, z14, rfl, h⟩ := hr
  show Go E (d + 1) kc ks mX11_isOrderFelt 63 [some (vR 2), some (vR r1), some (vR r2), some (vR r3)] [vI z14] G D13 Q
  refine g_if_ne 70 dX11_isOrderFelt_63 (by decide) ⟨fun hc => ?_, fun hc => ?_⟩
  · replace h := h.1 hc
    refine g_iconst dX11_isOrderFelt_70 ?_
    exact g_zret dX11_isOrderFelt_71 rfl ⟨Or.inl rfl, h⟩
  · replace h := h.2 hc
    refine g_iconst dX11_isOrderFelt_66 ?_
    refine g_goto 71 dX11_isOrderFelt_67 (by decide) ?_
    exact g_zret dX11_isOrderFelt_71 rfl ⟨Or.inr rfl, h⟩
set_option maxRecDepth 20000 in
theorem w_X11_areLeaves {E : mmE} {d kc ks : Nat} {G : mmG} {D : mmD} {Q : mmQ} {x1 : Int} (hG : Sh G)  (h : ((¬ iv (iushr x1 (D 2 3)) = iv 0 → Q (some (vI 0)) G D) ∧ (iv (iushr x1 (D 2 3)) = iv 0 → Call E d 0 0 mJ6_bitCount_0f7a4 [vI x1] G D (retI G (fun z2 D1 => ((iv z2 < iv 3 → Q (some (vI 0)) G D1) ∧ (¬ iv z2 < iv 3 → Q (some (vI 1)) G D1))))))) : Call E (d + 1) kc ks mX11_areLeaves [vR 2, vI x1] G D Q := by
  show Go E (d + 1) kc ks mX11_areLeaves 0 [some (vR 2), some (vI x1)] [] G D Q
  refine g_iload_n dX11_areLeaves_0 rfl rfl ?_
  refine g_aload_n dX11_areLeaves_1 rfl rfl ?_
  refine h_getI (j := 3) dX11_areLeaves_2 f_X11_64_10 rfl rfl (by decide) hG.k2 (by decide) (hG.lt (by decide)) ?_
  refine g_iushr dX11_areLeaves_5 ?_
  refine g_if_ne 21 dX11_areLeaves_6 (by decide) ⟨fun hc => ?_, fun hc => ?_⟩
  · replace h := h.1 hc
    refine g_iconst dX11_areLeaves_21 ?_
    exact g_zret dX11_areLeaves_22 rfl ⟨Or.inl rfl, h⟩
  · replace h := h.2 hc
    refine g_iload_n dX11_areLeaves_9 rfl rfl ?_
    refine g_callS (kc := kc) (kc' := 0) (ks := ks) (ks' := 0) (as := [vI x1]) (st := []) dX11_areLeaves_10 cB_J6_bitCount_0f7a4 lk_X11_227 st_J6_bitCount_0f7a4 rfl (Nat.le_of_ble_eq_true rfl) (Nat.le_of_ble_eq_true rfl) ?_
    refine Go.to (fun r G' D1 hr => ?_) h
    obtain ⟨rfl, z2, rfl, h⟩ := hr
    show Go E (d + 1) kc ks mX11_areLeaves 13 [some (vR 2), some (vI x1)] [vI z2] G D1 Q
    refine g_iconst dX11_areLeaves_13 ?_
    refine g_icmp_lt 21 dX11_areLeaves_14 (by decide) ⟨fun hc => ?_, fun hc => ?_⟩
    · replace h := h.1 hc
      refine g_iconst dX11_areLeaves_21 ?_
      exact g_zret dX11_areLeaves_22 rfl ⟨Or.inl rfl, h⟩
    · replace h := h.2 hc
      refine g_iconst dX11_areLeaves_17 ?_
      refine g_goto 22 dX11_areLeaves_18 (by decide) ?_
      exact g_zret dX11_areLeaves_22 rfl ⟨Or.inr rfl, h⟩
set_option maxRecDepth 20000 in
theorem w_X11_treesOf {E : mmE} {d kc ks : Nat} {G : mmG} {D : mmD} {Q : mmQ} {x0 : Int} (hG : Sh G)  (h : Call E d 0 0 mJ6_bitCount_0f7a4 [vI x0] G D (retI G (fun z2 D1 => Go E (d + 1) kc ks mX11_treesOf 9 [none, some (vI z2), some (vI 1), some (vI 3)] [] G D1 Q))) : Call E (d + 1) kc ks mX11_treesOf [vI x0] G D Q := by
  show Go E (d + 1) kc ks mX11_treesOf 0 [some (vI x0), none, none, none] [] G D Q
  refine g_iload_n dX11_treesOf_0 rfl rfl ?_
  refine g_callS (kc := kc) (kc' := 0) (ks := ks) (ks' := 0) (as := [vI x0]) (st := []) dX11_treesOf_1 cB_J6_bitCount_0f7a4 lk_X11_227 st_J6_bitCount_0f7a4 rfl (Nat.le_of_ble_eq_true rfl) (Nat.le_of_ble_eq_true rfl) ?_
  refine Go.to (fun r G' D1 hr => ?_) h
  obtain ⟨rfl, z2, rfl, h⟩ := hr
  show Go E (d + 1) kc ks mX11_treesOf 4 [some (vI x0), none, none, none] [vI z2] G D1 Q
  refine h_istore_n (L' := [some (vI x0), some (vI z2), none, none]) dX11_treesOf_4 rfl (Nat.le_of_ble_eq_true rfl) rfl rfl ?_
  refine g_iconst dX11_treesOf_5 ?_
  refine h_istore_n (L' := [some (vI x0), some (vI z2), some (vI 1), none]) dX11_treesOf_6 rfl (Nat.le_of_ble_eq_true rfl) rfl rfl ?_
  refine g_iconst dX11_treesOf_7 ?_
  refine h_istore_n (L' := [some (vI x0), some (vI z2), some (vI 1), some (vI 3)]) dX11_treesOf_8 rfl (Nat.le_of_ble_eq_true rfl) rfl rfl ?_
  exact Go.drop (by simp only [mm_sub, and_self]) h
set_option maxRecDepth 20000 in
theorem w_X11_treesOf_9 {E : mmE} {d kc ks : Nat} {G : mmG} {D : mmD} {Q : mmQ} {x1 x2 x3 : Int} (hG : Sh G)  (h : ((iv x1 ≤ iv x3 → Q (some (vI x2)) G D) ∧ (¬ iv x1 ≤ iv x3 → Call E d 0 0 mX0_whenSet [vI x3] G D (retI G (fun z2 D1 => Go E (d + 1) kc ks mX11_treesOf 9 [none, some (vI x1), some (vI (x2 * z2)), some (vI (x3 + 1))] [] G D1 Q))))) : Go E (d + 1) kc ks mX11_treesOf 9 [none, some (vI x1), some (vI x2), some (vI x3)] [] G D Q := by
  refine g_iload_n dX11_treesOf_9 rfl rfl ?_
  refine g_iload_n dX11_treesOf_10 rfl rfl ?_
  refine g_icmp_ge 27 dX11_treesOf_11 (by decide) ⟨fun hc => ?_, fun hc => ?_⟩
  · replace h := h.1 hc
    refine g_iload_n dX11_treesOf_27 rfl rfl ?_
    exact g_iret dX11_treesOf_28 rfl h
  · replace h := h.2 hc
    refine g_iload_n dX11_treesOf_14 rfl rfl ?_
    refine g_iload_n dX11_treesOf_15 rfl rfl ?_
    refine g_callS (kc := kc) (kc' := 0) (ks := ks) (ks' := 0) (as := [vI x3]) (st := [vI x2]) dX11_treesOf_16 cB_X0_whenSet lk_X11_316 st_X0_whenSet rfl (Nat.le_of_ble_eq_true rfl) (Nat.le_of_ble_eq_true rfl) ?_
    refine Go.to (fun r G' D1 hr => ?_) h
    obtain ⟨rfl, z2, rfl, h⟩ := hr
    show Go E (d + 1) kc ks mX11_treesOf 19 [none, some (vI x1), some (vI x2), some (vI x3)] [vI z2, vI x2] G D1 Q
    refine g_imul dX11_treesOf_19 ?_
    refine h_istore_n (L' := [none, some (vI x1), some (vI (x2 * z2)), some (vI x3)]) dX11_treesOf_20 rfl (Nat.le_of_ble_eq_true rfl) rfl rfl ?_
    refine h_iinc (L' := [none, some (vI x1), some (vI (x2 * z2)), some (vI (x3 + 1))]) dX11_treesOf_21 (Nat.le_of_ble_eq_true rfl) rfl rfl rfl ?_
    refine g_goto 9 dX11_treesOf_24 (by decide) ?_
    exact Go.drop (by simp only [mm_sub, and_self]) h
set_option maxRecDepth 20000 in
theorem w_X11_hangSets {E : mmE} {d kc ks : Nat} {G : mmG} {D : mmD} {Q : mmQ} (hG : Sh G)  (h : Go E (d + 1) kc ks mX11_hangSets 2 [some (vR 2), some (vI 0), none, none, none] [] G D Q) : Call E (d + 1) kc ks mX11_hangSets [vR 2] G D Q := by
  show Go E (d + 1) kc ks mX11_hangSets 0 [some (vR 2), none, none, none, none] [] G D Q
  refine g_iconst dX11_hangSets_0 ?_
  refine h_istore_n (L' := [some (vR 2), some (vI 0), none, none, none]) dX11_hangSets_1 rfl (Nat.le_of_ble_eq_true rfl) rfl rfl ?_
  exact Go.drop (by simp only [mm_sub, and_self]) h
set_option maxRecDepth 20000 in
theorem w_X11_hangSets_2 {E : mmE} {d kc ks : Nat} {G : mmG} {D : mmD} {Q : mmQ} {x1 : Int} (hG : Sh G)  (h : ((iv 10 ≤ iv x1 → Q none G D) ∧ (¬ iv 10 ≤ iv x1 → Go E (d + 1) kc ks mX11_hangSets 12 [some (vR 2), some (vI x1), some (vI 0), some (vI 0), none] [] G D Q))) : Go E (d + 1) kc ks mX11_hangSets 2 [some (vR 2), some (vI x1), none, none, none] [] G D Q := by
  refine g_iload_n dX11_hangSets_2 rfl rfl ?_
  refine g_bipush dX11_hangSets_3 bp_10 ?_
  refine g_icmp_ge 91 dX11_hangSets_5 (by decide) ⟨fun hc => ?_, fun hc => ?_⟩
  · replace h := h.1 hc
    exact g_vret dX11_hangSets_91 rfl h
  · replace h := h.2 hc
    refine g_iconst dX11_hangSets_8 ?_
    refine h_istore_n (L' := [some (vR 2), some (vI x1), some (vI 0), none, none]) dX11_hangSets_9 rfl (Nat.le_of_ble_eq_true rfl) rfl rfl ?_
    refine g_iconst dX11_hangSets_10 ?_
    refine h_istore_n (L' := [some (vR 2), some (vI x1), some (vI 0), some (vI 0), none]) dX11_hangSets_11 rfl (Nat.le_of_ble_eq_true rfl) rfl rfl ?_
    exact Go.drop (by simp only [mm_sub, and_self]) h
set_option maxRecDepth 20000 in
theorem w_X11_hangSets_12 {E : mmE} {d kc ks : Nat} {G : mmG} {D : mmD} {Q : mmQ} {x1 x2 x3 : Int} (hG : Sh G)  (h : ((iv (D 2 3) ≤ iv x3 → Go E (d + 1) kc ks mX11_hangSets 2 [some (vR 2), some (vI (x1 + 1)), none, none, none] [] G D Q) ∧ (¬ iv (D 2 3) ≤ iv x3 → Call E d 0 0 mX11_listedWord [vR 2, vI x3, vI x1] G D (retR G (fun z2 D1 => ((¬ z2 = 0 → ((¬ iv (iand (ishr x2 x3) 1) = iv 0 → Go E (d + 1) kc ks mX11_hangSets 12 [some (vR 2), some (vI x1), some (vI x2), some (vI (x3 + 1)), none] [] G D1 Q) ∧ (iv (iand (ishr x2 x3) 1) = iv 0 → Call E d 0 0 mX11_kinSet [vR 2, vI x1, vI x3] G D1 (retI G (fun z4 D3 => Call E d 0 0 mX0_hang [vR 12, vI x1, vI z4, vI (ishl 1 x3)] G D3 (retV G (fun D5 => Go E (d + 1) kc ks mX11_hangSets 12 [some (vR 2), some (vI x1), some (vI (ior x2 z4)), some (vI (x3 + 1)), none] [] G D5 Q))))))) ∧ (z2 = 0 → Call E d 0 0 mX0_hang [vR 12, vI x1, vI (ishl 1 x3), vI 63] G D1 (retV G (fun D7 => Go E (d + 1) kc ks mX11_hangSets 12 [some (vR 2), some (vI x1), some (vI x2), some (vI (x3 + 1)), none] [] G D7 Q))))))))) : Go E (d + 1) kc ks mX11_hangSets 12 [some (vR 2), some (vI x1), some (vI x2), some (vI x3), none] [] G D Q := by
  refine g_iload_n dX11_hangSets_12 rfl rfl ?_
  refine g_aload_n dX11_hangSets_13 rfl rfl ?_
  refine h_getI (j := 3) dX11_hangSets_14 f_X11_64_10 rfl rfl (by decide) hG.k2 (by decide) (hG.lt (by decide)) ?_
  refine g_icmp_ge 85 dX11_hangSets_17 (by decide) ⟨fun hc => ?_, fun hc => ?_⟩
  · replace h := h.1 hc
    refine h_iinc (L' := [some (vR 2), some (vI (x1 + 1)), some (vI x2), some (vI x3), none]) dX11_hangSets_85 (Nat.le_of_ble_eq_true rfl) rfl rfl rfl ?_
    refine g_goto 2 dX11_hangSets_88 (by decide) ?_
    exact Go.drop (by simp only [mm_sub, and_self]) h
  · replace h := h.2 hc
    refine g_aload_n dX11_hangSets_20 rfl rfl ?_
    refine g_iload_n dX11_hangSets_21 rfl rfl ?_
    refine g_iload_n dX11_hangSets_22 rfl rfl ?_
    refine g_callV (kc := kc) (kc' := 0) (ks := ks) (ks' := 0) (as := [vI x3, vI x1]) (st := []) (ci := 10) dX11_hangSets_23 cB_X11_listedWord lk_X11_190 in_X11_listedWord se_X11_listedWord (by decide) rfl rfl (Nat.le_of_ble_eq_true rfl) (Nat.le_of_ble_eq_true rfl) (by decide) (hG.lt (by decide)) (congrArg Prod.fst hG.k2) ?_
    refine Go.to (fun r G' D1 hr => ?_) h
    obtain ⟨rfl, z2, rfl, h⟩ := hr
    show Go E (d + 1) kc ks mX11_hangSets 26 [some (vR 2), some (vI x1), some (vI x2), some (vI x3), none] [vR z2] G D1 Q
    refine g_ifnonnull 45 dX11_hangSets_26 (by decide) ⟨fun hc => ?_, fun hc => ?_⟩
    · replace h := h.1 hc
      refine g_iload_n dX11_hangSets_45 rfl rfl ?_
      refine g_iload_n dX11_hangSets_46 rfl rfl ?_
      refine g_ishr dX11_hangSets_47 ?_
      refine g_iconst dX11_hangSets_48 ?_
      refine g_iand dX11_hangSets_49 ?_
      refine g_if_ne 79 dX11_hangSets_50 (by decide) ⟨fun hc => ?_, fun hc => ?_⟩
      · replace h := h.1 hc
        refine h_iinc (L' := [some (vR 2), some (vI x1), some (vI x2), some (vI (x3 + 1)), none]) dX11_hangSets_79 (Nat.le_of_ble_eq_true rfl) rfl rfl rfl ?_
        refine g_goto 12 dX11_hangSets_82 (by decide) ?_
        exact Go.drop (by simp only [mm_sub, and_self]) h
      · replace h := h.2 hc
        refine g_aload_n dX11_hangSets_53 rfl rfl ?_
        refine g_iload_n dX11_hangSets_54 rfl rfl ?_
        refine g_iload_n dX11_hangSets_55 rfl rfl ?_
        refine g_callV (kc := kc) (kc' := 0) (ks := ks) (ks' := 0) (as := [vI x1, vI x3]) (st := []) (ci := 10) dX11_hangSets_56 cB_X11_kinSet lk_X11_211 in_X11_kinSet se_X11_kinSet (by decide) rfl rfl (Nat.le_of_ble_eq_true rfl) (Nat.le_of_ble_eq_true rfl) (by decide) (hG.lt (by decide)) (congrArg Prod.fst hG.k2) ?_
        refine Go.to (fun r G' D3 hr => ?_) h
        obtain ⟨rfl, z4, rfl, h⟩ := hr
        show Go E (d + 1) kc ks mX11_hangSets 59 [some (vR 2), some (vI x1), some (vI x2), some (vI x3), none] [vI z4] G D3 Q
        refine h_istore (L' := [some (vR 2), some (vI x1), some (vI x2), some (vI x3), some (vI z4)]) dX11_hangSets_59 (Nat.le_of_ble_eq_true rfl) rfl rfl ?_
        refine g_aload_n dX11_hangSets_61 rfl rfl ?_
        refine h_getR (j := 17) dX11_hangSets_62 f_X11_51_10 rfl rfl (by decide) hG.k2 (by decide) (hG.lt (by decide)) hG.r2_17 ?_
        refine g_iload_n dX11_hangSets_65 rfl rfl ?_
        refine g_iload dX11_hangSets_66 rfl ?_
        refine g_iconst dX11_hangSets_68 ?_
        refine g_iload_n dX11_hangSets_69 rfl rfl ?_
        refine g_ishl dX11_hangSets_70 ?_
        refine g_callV (kc := kc) (kc' := 0) (ks := ks) (ks' := 0) (as := [vI x1, vI z4, vI (ishl 1 x3)]) (st := []) (ci := 0) dX11_hangSets_71 cB_X0_hang lk_X11_319 in_X0_hang se_X0_hang (by decide) rfl rfl (Nat.le_of_ble_eq_true rfl) (Nat.le_of_ble_eq_true rfl) (by decide) (hG.lt (by decide)) (congrArg Prod.fst hG.k12) ?_
        refine Go.to (fun r G' D5 hr => ?_) h
        obtain ⟨rfl, rfl, h⟩ := hr
        show Go E (d + 1) kc ks mX11_hangSets 74 [some (vR 2), some (vI x1), some (vI x2), some (vI x3), some (vI z4)] [] G D5 Q
        refine g_iload_n dX11_hangSets_74 rfl rfl ?_
        refine g_iload dX11_hangSets_75 rfl ?_
        refine g_ior dX11_hangSets_77 ?_
        refine h_istore_n (L' := [some (vR 2), some (vI x1), some (vI (ior x2 z4)), some (vI x3), some (vI z4)]) dX11_hangSets_78 rfl (Nat.le_of_ble_eq_true rfl) rfl rfl ?_
        refine h_iinc (L' := [some (vR 2), some (vI x1), some (vI (ior x2 z4)), some (vI (x3 + 1)), some (vI z4)]) dX11_hangSets_79 (Nat.le_of_ble_eq_true rfl) rfl rfl rfl ?_
        refine g_goto 12 dX11_hangSets_82 (by decide) ?_
        exact Go.drop (by simp only [mm_sub, and_self]) h
    · replace h := h.2 hc
      refine g_aload_n dX11_hangSets_29 rfl rfl ?_
      refine h_getR (j := 17) dX11_hangSets_30 f_X11_51_10 rfl rfl (by decide) hG.k2 (by decide) (hG.lt (by decide)) hG.r2_17 ?_
      refine g_iload_n dX11_hangSets_33 rfl rfl ?_
      refine g_iconst dX11_hangSets_34 ?_
      refine g_iload_n dX11_hangSets_35 rfl rfl ?_
      refine g_ishl dX11_hangSets_36 ?_
      refine g_bipush dX11_hangSets_37 bp_63 ?_
      refine g_callV (kc := kc) (kc' := 0) (ks := ks) (ks' := 0) (as := [vI x1, vI (ishl 1 x3), vI 63]) (st := []) (ci := 0) dX11_hangSets_39 cB_X0_hang lk_X11_319 in_X0_hang se_X0_hang (by decide) rfl rfl (Nat.le_of_ble_eq_true rfl) (Nat.le_of_ble_eq_true rfl) (by decide) (hG.lt (by decide)) (congrArg Prod.fst hG.k12) ?_
      refine Go.to (fun r G' D7 hr => ?_) h
      obtain ⟨rfl, rfl, h⟩ := hr
      show Go E (d + 1) kc ks mX11_hangSets 42 [some (vR 2), some (vI x1), some (vI x2), some (vI x3), none] [] G D7 Q
      refine g_goto 79 dX11_hangSets_42 (by decide) ?_
      refine h_iinc (L' := [some (vR 2), some (vI x1), some (vI x2), some (vI (x3 + 1)), none]) dX11_hangSets_79 (Nat.le_of_ble_eq_true rfl) rfl rfl rfl ?_
      refine g_goto 12 dX11_hangSets_82 (by decide) ?_
      exact Go.drop (by simp only [mm_sub, and_self]) h
set_option maxRecDepth 20000 in
theorem w_X11_stepsOf {E : mmE} {d kc ks : Nat} {G : mmG} {D : mmD} {Q : mmQ} {x1 x2 : Int} (hG : Sh G)  (h : Call E d 0 0 mX0_grow [vR 12, vI x1, vI x2] G D (retV G (fun D1 => Go E (d + 1) kc ks mX11_stepsOf 14 [some (vR 2), none, none, some (vI 0), some (vI 0)] [] G D1 Q))) : Call E (d + 1) kc ks mX11_stepsOf [vR 2, vI x1, vI x2] G D Q := by
  show Go E (d + 1) kc ks mX11_stepsOf 0 [some (vR 2), some (vI x1), some (vI x2), none, none] [] G D Q
  refine g_aload_n dX11_stepsOf_0 rfl rfl ?_
  refine h_getR (j := 17) dX11_stepsOf_1 f_X11_51_10 rfl rfl (by decide) hG.k2 (by decide) (hG.lt (by decide)) hG.r2_17 ?_
  refine g_iload_n dX11_stepsOf_4 rfl rfl ?_
  refine g_iload_n dX11_stepsOf_5 rfl rfl ?_
  refine g_callV (kc := kc) (kc' := 0) (ks := ks) (ks' := 0) (as := [vI x1, vI x2]) (st := []) (ci := 0) dX11_stepsOf_6 cB_X0_grow lk_X11_323 in_X0_grow se_X0_grow (by decide) rfl rfl (Nat.le_of_ble_eq_true rfl) (Nat.le_of_ble_eq_true rfl) (by decide) (hG.lt (by decide)) (congrArg Prod.fst hG.k12) ?_
  refine Go.to (fun r G' D1 hr => ?_) h
  obtain ⟨rfl, rfl, h⟩ := hr
  show Go E (d + 1) kc ks mX11_stepsOf 9 [some (vR 2), some (vI x1), some (vI x2), none, none] [] G D1 Q
  refine g_iconst dX11_stepsOf_9 ?_
  refine h_istore_n (L' := [some (vR 2), some (vI x1), some (vI x2), some (vI 0), none]) dX11_stepsOf_10 rfl (Nat.le_of_ble_eq_true rfl) rfl rfl ?_
  refine g_iconst dX11_stepsOf_11 ?_
  refine h_istore (L' := [some (vR 2), some (vI x1), some (vI x2), some (vI 0), some (vI 0)]) dX11_stepsOf_12 (Nat.le_of_ble_eq_true rfl) rfl rfl ?_
  exact Go.drop (by simp only [mm_sub, and_self]) h
set_option maxRecDepth 20000 in
theorem w_X11_stepsOf_14 {E : mmE} {d kc ks : Nat} {G : mmG} {D : mmD} {Q : mmQ} {x3 x4 : Int} (hG : Sh G)  (h : ((iv 10 ≤ iv x4 → Q (some (vI x3)) G D) ∧ (¬ iv 10 ≤ iv x4 → Call E d 0 0 mX0_fewestChanges [vR 12, vI x4] G D (retI G (fun z2 D1 => Go E (d + 1) kc ks mX11_stepsOf 14 [some (vR 2), none, none, some (vI (x3 + z2)), some (vI (x4 + 1))] [] G D1 Q))))) : Go E (d + 1) kc ks mX11_stepsOf 14 [some (vR 2), none, none, some (vI x3), some (vI x4)] [] G D Q := by
  refine g_iload dX11_stepsOf_14 rfl ?_
  refine g_bipush dX11_stepsOf_16 bp_10 ?_
  refine g_icmp_ge 39 dX11_stepsOf_18 (by decide) ⟨fun hc => ?_, fun hc => ?_⟩
  · replace h := h.1 hc
    refine g_iload_n dX11_stepsOf_39 rfl rfl ?_
    exact g_iret dX11_stepsOf_40 rfl h
  · replace h := h.2 hc
    refine g_iload_n dX11_stepsOf_21 rfl rfl ?_
    refine g_aload_n dX11_stepsOf_22 rfl rfl ?_
    refine h_getR (j := 17) dX11_stepsOf_23 f_X11_51_10 rfl rfl (by decide) hG.k2 (by decide) (hG.lt (by decide)) hG.r2_17 ?_
    refine g_iload dX11_stepsOf_26 rfl ?_
    refine g_callV (kc := kc) (kc' := 0) (ks := ks) (ks' := 0) (as := [vI x4]) (st := [vI x3]) (ci := 0) dX11_stepsOf_28 cB_X0_fewestChanges lk_X11_327 in_X0_fewestChanges se_X0_fewestChanges (by decide) rfl rfl (Nat.le_of_ble_eq_true rfl) (Nat.le_of_ble_eq_true rfl) (by decide) (hG.lt (by decide)) (congrArg Prod.fst hG.k12) ?_
    refine Go.to (fun r G' D1 hr => ?_) h
    obtain ⟨rfl, z2, rfl, h⟩ := hr
    show Go E (d + 1) kc ks mX11_stepsOf 31 [some (vR 2), none, none, some (vI x3), some (vI x4)] [vI z2, vI x3] G D1 Q
    refine g_iadd dX11_stepsOf_31 ?_
    refine h_istore_n (L' := [some (vR 2), none, none, some (vI (x3 + z2)), some (vI x4)]) dX11_stepsOf_32 rfl (Nat.le_of_ble_eq_true rfl) rfl rfl ?_
    refine h_iinc (L' := [some (vR 2), none, none, some (vI (x3 + z2)), some (vI (x4 + 1))]) dX11_stepsOf_33 (Nat.le_of_ble_eq_true rfl) rfl rfl rfl ?_
    refine g_goto 14 dX11_stepsOf_36 (by decide) ?_
    exact Go.drop (by simp only [mm_sub, and_self]) h
