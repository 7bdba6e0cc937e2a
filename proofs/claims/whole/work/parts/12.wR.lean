set_option maxRecDepth 20000 in
theorem w_X12_in {E : mmE} {d kc ks : Nat} {G : mmG} {D : mmD} {Q : mmQ} {x0 x1 x2 : Int} (hG : Sh G)  (h : ((iv x0 < iv x1 → Q (some (vI 0)) G D) ∧ (¬ iv x0 < iv x1 → ((iv x2 < iv x0 → Q (some (vI 0)) G D) ∧ (¬ iv x2 < iv x0 → Q (some (vI 1)) G D))))) : Call E d kc ks mX12_in [vI x0, vI x1, vI x2] G D Q := by
  show Go E d kc ks mX12_in 0 [some (vI x0), some (vI x1), some (vI x2)] [] G D Q
  refine g_iload_n dX12_in_0 rfl rfl ?_
  refine g_iload_n dX12_in_1 rfl rfl ?_
  refine g_icmp_lt 14 dX12_in_2 (by decide) ⟨fun hc => ?_, fun hc => ?_⟩
  · replace h := h.1 hc
    refine g_iconst dX12_in_14 ?_
    exact g_zret dX12_in_15 rfl ⟨Or.inl rfl, h⟩
  · replace h := h.2 hc
    refine g_iload_n dX12_in_5 rfl rfl ?_
    refine g_iload_n dX12_in_6 rfl rfl ?_
    refine g_icmp_gt 14 dX12_in_7 (by decide) ⟨fun hc => ?_, fun hc => ?_⟩
    · replace h := h.1 hc
      refine g_iconst dX12_in_14 ?_
      exact g_zret dX12_in_15 rfl ⟨Or.inl rfl, h⟩
    · replace h := h.2 hc
      refine g_iconst dX12_in_10 ?_
      refine g_goto 15 dX12_in_11 (by decide) ?_
      exact g_zret dX12_in_15 rfl ⟨Or.inr rfl, h⟩
set_option maxRecDepth 20000 in
theorem w_X12_isTongue {E : mmE} {d kc ks : Nat} {G : mmG} {D : mmD} {Q : mmQ} {x1 : Int} (hG : Sh G)  (h : Call E d 0 0 mX12_in [vI x1, vI 0, vI ((D 214 1) - 1)] G D (retI G (fun z2 D1 => ((z2 = 0 ∨ z2 = 1) ∧ Q (some (vI z2)) G D1)))) : Call E (d + 1) kc ks mX12_isTongue [vR 214, vI x1] G D Q := by
  show Go E (d + 1) kc ks mX12_isTongue 0 [some (vR 214), some (vI x1)] [] G D Q
  refine g_iload_n dX12_isTongue_0 rfl rfl ?_
  refine g_iconst dX12_isTongue_1 ?_
  refine g_aload_n dX12_isTongue_2 rfl rfl ?_
  refine h_getI (j := 1) dX12_isTongue_3 f_X12_120_11 rfl rfl (by decide) hG.k214 (by decide) (hG.lt (by decide)) ?_
  refine g_iconst dX12_isTongue_6 ?_
  refine g_isub dX12_isTongue_7 ?_
  refine g_callS (kc := kc) (kc' := 0) (ks := ks) (ks' := 0) (as := [vI x1, vI 0, vI ((D 214 1) - 1)]) (st := []) dX12_isTongue_8 cB_X12_in lk_X12_123 st_X12_in rfl (Nat.le_of_ble_eq_true rfl) (Nat.le_of_ble_eq_true rfl) ?_
  refine Go.to (fun r G' D1 hr => ?_) h
  obtain ⟨rfl, z2, rfl, h⟩ := hr
  show Go E (d + 1) kc ks mX12_isTongue 11 [some (vR 214), some (vI x1)] [vI z2] G D1 Q
  exact g_zret dX12_isTongue_11 rfl h
set_option maxRecDepth 20000 in
theorem w_X12_isMeaning {E : mmE} {d kc ks : Nat} {G : mmG} {D : mmD} {Q : mmQ} {x0 : Int} (hG : Sh G)  (h : Call E d 0 0 mX12_in [vI x0, vI 0, vI 9] G D (retI G (fun z2 D1 => ((z2 = 0 ∨ z2 = 1) ∧ Q (some (vI z2)) G D1)))) : Call E (d + 1) kc ks mX12_isMeaning [vI x0] G D Q := by
  show Go E (d + 1) kc ks mX12_isMeaning 0 [some (vI x0)] [] G D Q
  refine g_iload_n dX12_isMeaning_0 rfl rfl ?_
  refine g_iconst dX12_isMeaning_1 ?_
  refine g_bipush dX12_isMeaning_2 bp_9 ?_
  refine g_callS (kc := kc) (kc' := 0) (ks := ks) (ks' := 0) (as := [vI x0, vI 0, vI 9]) (st := []) dX12_isMeaning_4 cB_X12_in lk_X12_123 st_X12_in rfl (Nat.le_of_ble_eq_true rfl) (Nat.le_of_ble_eq_true rfl) ?_
  refine Go.to (fun r G' D1 hr => ?_) h
  obtain ⟨rfl, z2, rfl, h⟩ := hr
  show Go E (d + 1) kc ks mX12_isMeaning 7 [some (vI x0)] [vI z2] G D1 Q
  exact g_zret dX12_isMeaning_7 rfl h
set_option maxRecDepth 20000 in
theorem w_X12_isLaw {E : mmE} {d kc ks : Nat} {G : mmG} {D : mmD} {Q : mmQ} {x1 : Int} (hG : Sh G)  (h : Call E d 0 0 mX12_in [vI x1, vI 0, vI ((D 214 3) - 1)] G D (retI G (fun z2 D1 => ((z2 = 0 ∨ z2 = 1) ∧ Q (some (vI z2)) G D1)))) : Call E (d + 1) kc ks mX12_isLaw [vR 214, vI x1] G D Q := by
  show Go E (d + 1) kc ks mX12_isLaw 0 [some (vR 214), some (vI x1)] [] G D Q
  refine g_iload_n dX12_isLaw_0 rfl rfl ?_
  refine g_iconst dX12_isLaw_1 ?_
  refine g_aload_n dX12_isLaw_2 rfl rfl ?_
  refine h_getI (j := 3) dX12_isLaw_3 f_X12_127_11 rfl rfl (by decide) hG.k214 (by decide) (hG.lt (by decide)) ?_
  refine g_iconst dX12_isLaw_6 ?_
  refine g_isub dX12_isLaw_7 ?_
  refine g_callS (kc := kc) (kc' := 0) (ks := ks) (ks' := 0) (as := [vI x1, vI 0, vI ((D 214 3) - 1)]) (st := []) dX12_isLaw_8 cB_X12_in lk_X12_123 st_X12_in rfl (Nat.le_of_ble_eq_true rfl) (Nat.le_of_ble_eq_true rfl) ?_
  refine Go.to (fun r G' D1 hr => ?_) h
  obtain ⟨rfl, z2, rfl, h⟩ := hr
  show Go E (d + 1) kc ks mX12_isLaw 11 [some (vR 214), some (vI x1)] [vI z2] G D1 Q
  exact g_zret dX12_isLaw_11 rfl h
set_option maxRecDepth 20000 in
theorem w_X12_hasWord {E : mmE} {d kc ks : Nat} {G : mmG} {D : mmD} {Q : mmQ} {x1 x2 : Int} (hG : Sh G)  (h : Call E d 0 0 mX12_isTongue [vR 214, vI x1] G D (retI G (fun z2 D1 => ((iv z2 = iv 0 → Q (some (vI 0)) G D1) ∧ (¬ iv z2 = iv 0 → Call E d 0 0 mX12_isMeaning [vI x2] G D1 (retI G (fun z4 D3 => ((iv z4 = iv 0 → Q (some (vI 0)) G D3) ∧ (¬ iv z4 = iv 0 → ((0 ≤ ((10 * x1) + x2) ∧ ((10 * x1) + x2) < 60) ∧ ((iv (D3 216 ((10 * x1) + x2)) ≤ iv 0 → Q (some (vI 0)) G D3) ∧ (¬ iv (D3 216 ((10 * x1) + x2)) ≤ iv 0 → Q (some (vI 1)) G D3)))))))))))) : Call E (d + 1) kc ks mX12_hasWord [vR 214, vI x1, vI x2] G D Q := by
  show Go E (d + 1) kc ks mX12_hasWord 0 [some (vR 214), some (vI x1), some (vI x2)] [] G D Q
  refine g_aload_n dX12_hasWord_0 rfl rfl ?_
  refine g_iload_n dX12_hasWord_1 rfl rfl ?_
  refine g_callV (kc := kc) (kc' := 0) (ks := ks) (ks' := 0) (as := [vI x1]) (st := []) (ci := 11) dX12_hasWord_2 cB_X12_isTongue lk_X12_130 in_X12_isTongue se_X12_isTongue (by decide) rfl rfl (Nat.le_of_ble_eq_true rfl) (Nat.le_of_ble_eq_true rfl) (by decide) (hG.lt (by decide)) (congrArg Prod.fst hG.k214) ?_
  refine Go.to (fun r G' D1 hr => ?_) h
  obtain ⟨rfl, z2, rfl, h⟩ := hr
  show Go E (d + 1) kc ks mX12_hasWord 5 [some (vR 214), some (vI x1), some (vI x2)] [vI z2] G D1 Q
  refine g_if_eq 33 dX12_hasWord_5 (by decide) ⟨fun hc => ?_, fun hc => ?_⟩
  · replace h := h.1 hc
    refine g_iconst dX12_hasWord_33 ?_
    exact g_zret dX12_hasWord_34 rfl ⟨Or.inl rfl, h⟩
  · replace h := h.2 hc
    refine g_iload_n dX12_hasWord_8 rfl rfl ?_
    refine g_callS (kc := kc) (kc' := 0) (ks := ks) (ks' := 0) (as := [vI x2]) (st := []) dX12_hasWord_9 cB_X12_isMeaning lk_X12_134 st_X12_isMeaning rfl (Nat.le_of_ble_eq_true rfl) (Nat.le_of_ble_eq_true rfl) ?_
    refine Go.to (fun r G' D3 hr => ?_) h
    obtain ⟨rfl, z4, rfl, h⟩ := hr
    show Go E (d + 1) kc ks mX12_hasWord 12 [some (vR 214), some (vI x1), some (vI x2)] [vI z4] G D3 Q
    refine g_if_eq 33 dX12_hasWord_12 (by decide) ⟨fun hc => ?_, fun hc => ?_⟩
    · replace h := h.1 hc
      refine g_iconst dX12_hasWord_33 ?_
      exact g_zret dX12_hasWord_34 rfl ⟨Or.inl rfl, h⟩
    · replace h := h.2 hc
      refine g_aload_n dX12_hasWord_15 rfl rfl ?_
      refine h_getR (j := 11) dX12_hasWord_16 f_X12_17_11 rfl rfl (by decide) hG.k214 (by decide) (hG.lt (by decide)) hG.r214_11 ?_
      refine g_bipush dX12_hasWord_19 bp_10 ?_
      refine g_iload_n dX12_hasWord_21 rfl rfl ?_
      refine g_imul dX12_hasWord_22 ?_
      refine g_iload_n dX12_hasWord_23 rfl rfl ?_
      refine g_iadd dX12_hasWord_24 ?_
      refine g_iald dX12_hasWord_25 hG.k216 (by decide) (hG.lt (by decide)) (by decide) ⟨h.1, ?_⟩
      replace h := h.2
      refine g_if_le 33 dX12_hasWord_26 (by decide) ⟨fun hc => ?_, fun hc => ?_⟩
      · replace h := h.1 hc
        refine g_iconst dX12_hasWord_33 ?_
        exact g_zret dX12_hasWord_34 rfl ⟨Or.inl rfl, h⟩
      · replace h := h.2 hc
        refine g_iconst dX12_hasWord_29 ?_
        refine g_goto 34 dX12_hasWord_30 (by decide) ?_
        exact g_zret dX12_hasWord_34 rfl ⟨Or.inr rfl, h⟩
set_option maxRecDepth 20000 in
theorem w_X12_tongue {E : mmE} {d kc ks : Nat} {G : mmG} {D : mmD} {Q : mmQ} (hG : Sh G)  (h : ((¬ iv (D 214 1) = iv 6 → ((0 ≤ (D 214 1) ∧ (D 214 1) < 6) ∧ (∀ D1 : mmD, D1 = up2 D 221 (D 214 1) (-1) → (∀ D2 : mmD, D2 = up2 D1 214 1 ((D1 214 1) + 1) → Q (some (vI ((D2 214 1) - 1))) G D2)))) ∧ (iv (D 214 1) = iv 6 → Q (some (vI (-4))) G D))) : Call E d kc ks mX12_tongue [vR 214] G D Q := by
  show Go E d kc ks mX12_tongue 0 [some (vR 214)] [] G D Q
  refine g_aload_n dX12_tongue_0 rfl rfl ?_
  refine h_getI (j := 1) dX12_tongue_1 f_X12_120_11 rfl rfl (by decide) hG.k214 (by decide) (hG.lt (by decide)) ?_
  refine g_bipush dX12_tongue_4 bp_6 ?_
  refine g_icmp_ne 12 dX12_tongue_6 (by decide) ⟨fun hc => ?_, fun hc => ?_⟩
  · replace h := h.1 hc
    refine g_aload_n dX12_tongue_12 rfl rfl ?_
    refine h_getR (j := 16) dX12_tongue_13 f_X12_33_11 rfl rfl (by decide) hG.k214 (by decide) (hG.lt (by decide)) hG.r214_16 ?_
    refine g_aload_n dX12_tongue_16 rfl rfl ?_
    refine h_getI (j := 1) dX12_tongue_17 f_X12_120_11 rfl rfl (by decide) hG.k214 (by decide) (hG.lt (by decide)) ?_
    refine g_iconst dX12_tongue_20 ?_
    refine g_iast dX12_tongue_21 hG.k221 (by decide) (hG.lt (by decide)) (by decide) ⟨h.1, ?_⟩
    generalize hD_D1 : up2 D 221 (D 214 1) (-1) = D1
    replace h := h.2 _ hD_D1.symm
    refine g_aload_n dX12_tongue_22 rfl rfl ?_
    refine g_dup dX12_tongue_23 (fun _ h9 => by cases h9) ?_
    refine h_getI (j := 1) dX12_tongue_24 f_X12_120_11 rfl rfl (by decide) hG.k214 (by decide) (hG.lt (by decide)) ?_
    refine g_iconst dX12_tongue_27 ?_
    refine g_iadd dX12_tongue_28 ?_
    refine h_putI (j := 1) dX12_tongue_29 f_X12_120_11 (Or.inl (mm_finI (by decide +kernel))) rfl rfl (by decide) hG.k214 (by decide) (hG.lt (by decide)) ?_
    generalize hD_D2 : up2 D1 214 1 ((D1 214 1) + 1) = D2
    replace h := h _ hD_D2.symm
    refine g_aload_n dX12_tongue_32 rfl rfl ?_
    refine h_getI (j := 1) dX12_tongue_33 f_X12_120_11 rfl rfl (by decide) hG.k214 (by decide) (hG.lt (by decide)) ?_
    refine g_iconst dX12_tongue_36 ?_
    refine g_isub dX12_tongue_37 ?_
    exact g_iret dX12_tongue_38 rfl h
  · replace h := h.2 hc
    refine g_bipush dX12_tongue_9 bp_m4 ?_
    exact g_iret dX12_tongue_11 rfl h
set_option maxRecDepth 20000 in
theorem w_X12_years {E : mmE} {d kc ks : Nat} {G : mmG} {D : mmD} {Q : mmQ} {x1 : Int} (hG : Sh G)  (h : Call E d 0 0 mX12_in [vI x1, vI 1, vI 500] G D (retI G (fun z2 D1 => ((iv z2 = iv 0 → Q (some (vI (-2))) G D1) ∧ (¬ iv z2 = iv 0 → ((iv ((D1 214 2) + x1) ≤ iv 9999 → (∀ D3 : mmD, D3 = up2 D1 214 2 ((D1 214 2) + x1) → Q (some (vI (D3 214 2))) G D3)) ∧ (¬ iv ((D1 214 2) + x1) ≤ iv 9999 → Q (some (vI (-2))) G D1))))))) : Call E (d + 1) kc ks mX12_years [vR 214, vI x1] G D Q := by
  show Go E (d + 1) kc ks mX12_years 0 [some (vR 214), some (vI x1)] [] G D Q
  refine g_iload_n dX12_years_0 rfl rfl ?_
  refine g_iconst dX12_years_1 ?_
  refine g_sipush dX12_years_2 sp_500 ?_
  refine g_callS (kc := kc) (kc' := 0) (ks := ks) (ks' := 0) (as := [vI x1, vI 1, vI 500]) (st := []) dX12_years_5 cB_X12_in lk_X12_123 st_X12_in rfl (Nat.le_of_ble_eq_true rfl) (Nat.le_of_ble_eq_true rfl) ?_
  refine Go.to (fun r G' D1 hr => ?_) h
  obtain ⟨rfl, z2, rfl, h⟩ := hr
  show Go E (d + 1) kc ks mX12_years 8 [some (vR 214), some (vI x1)] [vI z2] G D1 Q
  refine g_if_eq 23 dX12_years_8 (by decide) ⟨fun hc => ?_, fun hc => ?_⟩
  · replace h := h.1 hc
    refine g_bipush dX12_years_23 bp_m2 ?_
    exact g_iret dX12_years_25 rfl h
  · replace h := h.2 hc
    refine g_aload_n dX12_years_11 rfl rfl ?_
    refine h_getI (j := 2) dX12_years_12 f_X12_137_11 rfl rfl (by decide) hG.k214 (by decide) (hG.lt (by decide)) ?_
    refine g_iload_n dX12_years_15 rfl rfl ?_
    refine g_iadd dX12_years_16 ?_
    refine g_sipush dX12_years_17 sp_9999 ?_
    refine g_icmp_le 26 dX12_years_20 (by decide) ⟨fun hc => ?_, fun hc => ?_⟩
    · replace h := h.1 hc
      refine g_aload_n dX12_years_26 rfl rfl ?_
      refine g_dup dX12_years_27 (fun _ h9 => by cases h9) ?_
      refine h_getI (j := 2) dX12_years_28 f_X12_137_11 rfl rfl (by decide) hG.k214 (by decide) (hG.lt (by decide)) ?_
      refine g_iload_n dX12_years_31 rfl rfl ?_
      refine g_iadd dX12_years_32 ?_
      refine h_putI (j := 2) dX12_years_33 f_X12_137_11 (Or.inl (mm_finI (by decide +kernel))) rfl rfl (by decide) hG.k214 (by decide) (hG.lt (by decide)) ?_
      generalize hD_D3 : up2 D1 214 2 ((D1 214 2) + x1) = D3
      replace h := h _ hD_D3.symm
      refine g_aload_n dX12_years_36 rfl rfl ?_
      refine h_getI (j := 2) dX12_years_37 f_X12_137_11 rfl rfl (by decide) hG.k214 (by decide) (hG.lt (by decide)) ?_
      exact g_iret dX12_years_40 rfl h
    · replace h := h.2 hc
      refine g_bipush dX12_years_23 bp_m2 ?_
      exact g_iret dX12_years_25 rfl h
set_option maxRecDepth 20000 in
theorem w_X12_feed {E : mmE} {d kc ks : Nat} {G : mmG} {D : mmD} {Q : mmQ} {x3 : Int} {w1 : Int64} (hG : Sh G)  (h : Call E d 0 0 mX12_in [vI x3, vI 1, vI 8] G D (retI G (fun z2 D1 => ((¬ iv z2 = iv 0 → ((iv ((D1 214 7) + x3) ≤ iv 80 → Go E (d + 1) kc ks mX12_feed 32 [some (vR 214), some (vL w1), none, none, some (vI (x3 - 1))] [] G D1 Q) ∧ (¬ iv ((D1 214 7) + x3) ≤ iv 80 → Q (some (vI (-4))) G D1))) ∧ (iv z2 = iv 0 → Q (some (vI (-2))) G D1))))) : Call E (d + 1) kc ks mX12_feed [vR 214, vL w1, vI x3] G D Q := by
  show Go E (d + 1) kc ks mX12_feed 0 [some (vR 214), some (vL w1), none, some (vI x3), none] [] G D Q
  refine g_iload_n dX12_feed_0 rfl rfl ?_
  refine g_iconst dX12_feed_1 ?_
  refine g_bipush dX12_feed_2 bp_8 ?_
  refine g_callS (kc := kc) (kc' := 0) (ks := ks) (ks' := 0) (as := [vI x3, vI 1, vI 8]) (st := []) dX12_feed_4 cB_X12_in lk_X12_123 st_X12_in rfl (Nat.le_of_ble_eq_true rfl) (Nat.le_of_ble_eq_true rfl) ?_
  refine Go.to (fun r G' D1 hr => ?_) h
  obtain ⟨rfl, z2, rfl, h⟩ := hr
  show Go E (d + 1) kc ks mX12_feed 7 [some (vR 214), some (vL w1), none, some (vI x3), none] [vI z2] G D1 Q
  refine g_if_ne 13 dX12_feed_7 (by decide) ⟨fun hc => ?_, fun hc => ?_⟩
  · replace h := h.1 hc
    refine g_aload_n dX12_feed_13 rfl rfl ?_
    refine h_getI (j := 7) dX12_feed_14 f_X12_140_11 rfl rfl (by decide) hG.k214 (by decide) (hG.lt (by decide)) ?_
    refine g_iload_n dX12_feed_17 rfl rfl ?_
    refine g_iadd dX12_feed_18 ?_
    refine g_bipush dX12_feed_19 bp_80 ?_
    refine g_icmp_le 27 dX12_feed_21 (by decide) ⟨fun hc => ?_, fun hc => ?_⟩
    · replace h := h.1 hc
      refine g_iload_n dX12_feed_27 rfl rfl ?_
      refine g_iconst dX12_feed_28 ?_
      refine g_isub dX12_feed_29 ?_
      refine h_istore (L' := [some (vR 214), some (vL w1), none, some (vI x3), some (vI (x3 - 1))]) dX12_feed_30 (Nat.le_of_ble_eq_true rfl) rfl rfl ?_
      exact Go.drop (by simp only [mm_sub, and_self]) h
    · replace h := h.2 hc
      refine g_bipush dX12_feed_24 bp_m4 ?_
      exact g_iret dX12_feed_26 rfl h
  · replace h := h.2 hc
    refine g_bipush dX12_feed_10 bp_m2 ?_
    exact g_iret dX12_feed_12 rfl h
set_option maxRecDepth 20000 in
theorem w_X12_feed_32 {E : mmE} {d kc ks : Nat} {G : mmG} {D : mmD} {Q : mmQ} {x4 : Int} {w1 : Int64} (hG : Sh G)  (h : ((iv x4 < iv 0 → Q (some (vI (D 214 7))) G D) ∧ (¬ iv x4 < iv 0 → ((0 ≤ (D 214 7) ∧ (D 214 7) < 80) ∧ (∀ D1 : mmD, D1 = up2 D 215 (D 214 7) (((w1 >>> ((iv (8 * x4)).toInt64 &&& 63)) &&& 255).toInt32.toInt) → (∀ D2 : mmD, D2 = up2 D1 214 7 ((D1 214 7) + 1) → Go E (d + 1) kc ks mX12_feed 32 [some (vR 214), some (vL w1), none, none, some (vI (x4 + (-1)))] [] G D2 Q)))))) : Go E (d + 1) kc ks mX12_feed 32 [some (vR 214), some (vL w1), none, none, some (vI x4)] [] G D Q := by
  refine g_iload dX12_feed_32 rfl ?_
  refine g_if_lt 74 dX12_feed_34 (by decide) ⟨fun hc => ?_, fun hc => ?_⟩
  · replace h := h.1 hc
    refine g_aload_n dX12_feed_74 rfl rfl ?_
    refine h_getI (j := 7) dX12_feed_75 f_X12_140_11 rfl rfl (by decide) hG.k214 (by decide) (hG.lt (by decide)) ?_
    exact g_iret dX12_feed_78 rfl h
  · replace h := h.2 hc
    refine g_aload_n dX12_feed_37 rfl rfl ?_
    refine h_getR (j := 10) dX12_feed_38 f_X12_13_11 rfl rfl (by decide) hG.k214 (by decide) (hG.lt (by decide)) hG.r214_10 ?_
    refine g_aload_n dX12_feed_41 rfl rfl ?_
    refine h_getI (j := 7) dX12_feed_42 f_X12_140_11 rfl rfl (by decide) hG.k214 (by decide) (hG.lt (by decide)) ?_
    refine g_lload_n dX12_feed_45 rfl rfl ?_
    refine g_bipush dX12_feed_46 bp_8 ?_
    refine g_iload dX12_feed_48 rfl ?_
    refine g_imul dX12_feed_50 ?_
    refine g_lshr dX12_feed_51 ?_
    refine g_ldc2 dX12_feed_52 kc_X12_143 ?_
    refine g_land dX12_feed_55 ?_
    refine g_l2i dX12_feed_56 ?_
    refine g_iast dX12_feed_57 hG.k215 (by decide) (hG.lt (by decide)) (by decide) ⟨h.1, ?_⟩
    generalize hD_D1 : up2 D 215 (D 214 7) (((w1 >>> ((iv (8 * x4)).toInt64 &&& 63)) &&& 255).toInt32.toInt) = D1
    replace h := h.2 _ hD_D1.symm
    refine g_aload_n dX12_feed_58 rfl rfl ?_
    refine g_dup dX12_feed_59 (fun _ h9 => by cases h9) ?_
    refine h_getI (j := 7) dX12_feed_60 f_X12_140_11 rfl rfl (by decide) hG.k214 (by decide) (hG.lt (by decide)) ?_
    refine g_iconst dX12_feed_63 ?_
    refine g_iadd dX12_feed_64 ?_
    refine h_putI (j := 7) dX12_feed_65 f_X12_140_11 (Or.inl (mm_finI (by decide +kernel))) rfl rfl (by decide) hG.k214 (by decide) (hG.lt (by decide)) ?_
    generalize hD_D2 : up2 D1 214 7 ((D1 214 7) + 1) = D2
    replace h := h _ hD_D2.symm
    refine h_iinc (L' := [some (vR 214), some (vL w1), none, none, some (vI (x4 + (-1)))]) dX12_feed_68 (Nat.le_of_ble_eq_true rfl) rfl rfl rfl ?_
    refine g_goto 32 dX12_feed_71 (by decide) ?_
    exact Go.drop (by simp only [mm_sub, and_self]) h
set_option maxRecDepth 20000 in
theorem w_X12_here {E : mmE} {d kc ks : Nat} {G : mmG} {D : mmD} {Q : mmQ} (hG : Sh G)  (h : ((iv (D 214 31) ≤ iv (D 214 30) → Q (some (vI (-1))) G D) ∧ (¬ iv (D 214 31) ≤ iv (D 214 30) → ((0 ≤ (D 214 30) ∧ (D 214 30) < 80) ∧ Q (some (vI (D 215 (D 214 30)))) G D)))) : Call E d kc ks mX12_here [vR 214] G D Q := by
  show Go E d kc ks mX12_here 0 [some (vR 214)] [] G D Q
  refine g_aload_n dX12_here_0 rfl rfl ?_
  refine h_getI (j := 30) dX12_here_1 f_X12_145_11 rfl rfl (by decide) hG.k214 (by decide) (hG.lt (by decide)) ?_
  refine g_aload_n dX12_here_4 rfl rfl ?_
  refine h_getI (j := 31) dX12_here_5 f_X12_148_11 rfl rfl (by decide) hG.k214 (by decide) (hG.lt (by decide)) ?_
  refine g_icmp_ge 23 dX12_here_8 (by decide) ⟨fun hc => ?_, fun hc => ?_⟩
  · replace h := h.1 hc
    refine g_iconst dX12_here_23 ?_
    exact g_iret dX12_here_24 rfl h
  · replace h := h.2 hc
    refine g_aload_n dX12_here_11 rfl rfl ?_
    refine h_getR (j := 10) dX12_here_12 f_X12_13_11 rfl rfl (by decide) hG.k214 (by decide) (hG.lt (by decide)) hG.r214_10 ?_
    refine g_aload_n dX12_here_15 rfl rfl ?_
    refine h_getI (j := 30) dX12_here_16 f_X12_145_11 rfl rfl (by decide) hG.k214 (by decide) (hG.lt (by decide)) ?_
    refine g_iald dX12_here_19 hG.k215 (by decide) (hG.lt (by decide)) (by decide) ⟨h.1, ?_⟩
    replace h := h.2
    refine g_goto 24 dX12_here_20 (by decide) ?_
    exact g_iret dX12_here_24 rfl h
set_option maxRecDepth 20000 in
theorem w_X12_must {E : mmE} {d kc ks : Nat} {G : mmG} {D : mmD} {Q : mmQ} {x1 : Int} (hG : Sh G)  (h : ((¬ iv (D 214 32) = iv 0 → (∀ D1 : mmD, D1 = up2 D 214 32 1 → ((iv (D1 214 32) = iv 0 → (∀ D2 : mmD, D2 = up2 D1 214 30 ((D1 214 30) + 1) → Q none G D2)) ∧ (¬ iv (D1 214 32) = iv 0 → (∀ D3 : mmD, D3 = up2 D1 214 30 ((D1 214 30) + 0) → Q none G D3))))) ∧ (iv (D 214 32) = iv 0 → Call E d 0 0 mX12_here [vR 214] G D (retI G (fun z5 D4 => ((iv z5 = iv x1 → (∀ D6 : mmD, D6 = up2 D4 214 32 0 → ((iv (D6 214 32) = iv 0 → (∀ D7 : mmD, D7 = up2 D6 214 30 ((D6 214 30) + 1) → Q none G D7)) ∧ (¬ iv (D6 214 32) = iv 0 → (∀ D8 : mmD, D8 = up2 D6 214 30 ((D6 214 30) + 0) → Q none G D8))))) ∧ (¬ iv z5 = iv x1 → (∀ D9 : mmD, D9 = up2 D4 214 32 1 → ((iv (D9 214 32) = iv 0 → (∀ D10 : mmD, D10 = up2 D9 214 30 ((D9 214 30) + 1) → Q none G D10)) ∧ (¬ iv (D9 214 32) = iv 0 → (∀ D11 : mmD, D11 = up2 D9 214 30 ((D9 214 30) + 0) → Q none G D11))))))))))) : Call E (d + 1) kc ks mX12_must [vR 214, vI x1] G D Q := by
  show Go E (d + 1) kc ks mX12_must 0 [some (vR 214), some (vI x1)] [] G D Q
  refine g_aload_n dX12_must_0 rfl rfl ?_
  refine g_aload_n dX12_must_1 rfl rfl ?_
  refine h_getI (j := 32) dX12_must_2 f_X12_151_11 rfl rfl (by decide) hG.k214 (by decide) (hG.lt (by decide)) ?_
  refine g_if_ne 16 dX12_must_5 (by decide) ⟨fun hc => ?_, fun hc => ?_⟩
  · replace h := h.1 hc
    refine g_iconst dX12_must_16 ?_
    refine g_goto 21 dX12_must_17 (by decide) ?_
    refine h_putZ (j := 32) dX12_must_21 f_X12_151_11 (Or.inl (mm_finI (by decide +kernel))) rfl rfl (by decide) hG.k214 (by decide) (hG.lt (by decide)) ⟨Or.inr rfl, ?_⟩
    generalize hD_D1 : up2 D 214 32 1 = D1
    replace h := h _ hD_D1.symm
    refine g_aload_n dX12_must_24 rfl rfl ?_
    refine g_dup dX12_must_25 (fun _ h9 => by cases h9) ?_
    refine h_getI (j := 30) dX12_must_26 f_X12_145_11 rfl rfl (by decide) hG.k214 (by decide) (hG.lt (by decide)) ?_
    refine g_aload_n dX12_must_29 rfl rfl ?_
    refine h_getI (j := 32) dX12_must_30 f_X12_151_11 rfl rfl (by decide) hG.k214 (by decide) (hG.lt (by decide)) ?_
    refine g_if_eq 40 dX12_must_33 (by decide) ⟨fun hc => ?_, fun hc => ?_⟩
    · replace h := h.1 hc
      refine g_iconst dX12_must_40 ?_
      refine g_iadd dX12_must_41 ?_
      refine h_putI (j := 30) dX12_must_42 f_X12_145_11 (Or.inl (mm_finI (by decide +kernel))) rfl rfl (by decide) hG.k214 (by decide) (hG.lt (by decide)) ?_
      generalize hD_D2 : up2 D1 214 30 ((D1 214 30) + 1) = D2
      replace h := h _ hD_D2.symm
      exact g_vret dX12_must_45 rfl h
    · replace h := h.2 hc
      refine g_iconst dX12_must_36 ?_
      refine g_goto 41 dX12_must_37 (by decide) ?_
      refine g_iadd dX12_must_41 ?_
      refine h_putI (j := 30) dX12_must_42 f_X12_145_11 (Or.inl (mm_finI (by decide +kernel))) rfl rfl (by decide) hG.k214 (by decide) (hG.lt (by decide)) ?_
      generalize hD_D3 : up2 D1 214 30 ((D1 214 30) + 0) = D3
      replace h := h _ hD_D3.symm
      exact g_vret dX12_must_45 rfl h
  · replace h := h.2 hc
    refine g_aload_n dX12_must_8 rfl rfl ?_
    refine g_callV (kc := kc) (kc' := 0) (ks := ks) (ks' := 0) (as := []) (st := [vR 214]) (ci := 11) dX12_must_9 cB_X12_here lk_X12_155 in_X12_here se_X12_here (by decide) rfl rfl (Nat.le_of_ble_eq_true rfl) (Nat.le_of_ble_eq_true rfl) (by decide) (hG.lt (by decide)) (congrArg Prod.fst hG.k214) ?_
    refine Go.to (fun r G' D4 hr => ?_) h
    obtain ⟨rfl, z5, rfl, h⟩ := hr
    show Go E (d + 1) kc ks mX12_must 12 [some (vR 214), some (vI x1)] [vI z5, vR 214] G D4 Q
    refine g_iload_n dX12_must_12 rfl rfl ?_
    refine g_icmp_eq 20 dX12_must_13 (by decide) ⟨fun hc => ?_, fun hc => ?_⟩
    · replace h := h.1 hc
      refine g_iconst dX12_must_20 ?_
      refine h_putZ (j := 32) dX12_must_21 f_X12_151_11 (Or.inl (mm_finI (by decide +kernel))) rfl rfl (by decide) hG.k214 (by decide) (hG.lt (by decide)) ⟨Or.inl rfl, ?_⟩
      generalize hD_D6 : up2 D4 214 32 0 = D6
      replace h := h _ hD_D6.symm
      refine g_aload_n dX12_must_24 rfl rfl ?_
      refine g_dup dX12_must_25 (fun _ h9 => by cases h9) ?_
      refine h_getI (j := 30) dX12_must_26 f_X12_145_11 rfl rfl (by decide) hG.k214 (by decide) (hG.lt (by decide)) ?_
      refine g_aload_n dX12_must_29 rfl rfl ?_
      refine h_getI (j := 32) dX12_must_30 f_X12_151_11 rfl rfl (by decide) hG.k214 (by decide) (hG.lt (by decide)) ?_
      refine g_if_eq 40 dX12_must_33 (by decide) ⟨fun hc => ?_, fun hc => ?_⟩
      · replace h := h.1 hc
        refine g_iconst dX12_must_40 ?_
        refine g_iadd dX12_must_41 ?_
        refine h_putI (j := 30) dX12_must_42 f_X12_145_11 (Or.inl (mm_finI (by decide +kernel))) rfl rfl (by decide) hG.k214 (by decide) (hG.lt (by decide)) ?_
        generalize hD_D7 : up2 D6 214 30 ((D6 214 30) + 1) = D7
        replace h := h _ hD_D7.symm
        exact g_vret dX12_must_45 rfl h
      · replace h := h.2 hc
        refine g_iconst dX12_must_36 ?_
        refine g_goto 41 dX12_must_37 (by decide) ?_
        refine g_iadd dX12_must_41 ?_
        refine h_putI (j := 30) dX12_must_42 f_X12_145_11 (Or.inl (mm_finI (by decide +kernel))) rfl rfl (by decide) hG.k214 (by decide) (hG.lt (by decide)) ?_
        generalize hD_D8 : up2 D6 214 30 ((D6 214 30) + 0) = D8
        replace h := h _ hD_D8.symm
        exact g_vret dX12_must_45 rfl h
    · replace h := h.2 hc
      refine g_iconst dX12_must_16 ?_
      refine g_goto 21 dX12_must_17 (by decide) ?_
      refine h_putZ (j := 32) dX12_must_21 f_X12_151_11 (Or.inl (mm_finI (by decide +kernel))) rfl rfl (by decide) hG.k214 (by decide) (hG.lt (by decide)) ⟨Or.inr rfl, ?_⟩
      generalize hD_D9 : up2 D4 214 32 1 = D9
      replace h := h _ hD_D9.symm
      refine g_aload_n dX12_must_24 rfl rfl ?_
      refine g_dup dX12_must_25 (fun _ h9 => by cases h9) ?_
      refine h_getI (j := 30) dX12_must_26 f_X12_145_11 rfl rfl (by decide) hG.k214 (by decide) (hG.lt (by decide)) ?_
      refine g_aload_n dX12_must_29 rfl rfl ?_
      refine h_getI (j := 32) dX12_must_30 f_X12_151_11 rfl rfl (by decide) hG.k214 (by decide) (hG.lt (by decide)) ?_
      refine g_if_eq 40 dX12_must_33 (by decide) ⟨fun hc => ?_, fun hc => ?_⟩
      · replace h := h.1 hc
        refine g_iconst dX12_must_40 ?_
        refine g_iadd dX12_must_41 ?_
        refine h_putI (j := 30) dX12_must_42 f_X12_145_11 (Or.inl (mm_finI (by decide +kernel))) rfl rfl (by decide) hG.k214 (by decide) (hG.lt (by decide)) ?_
        generalize hD_D10 : up2 D9 214 30 ((D9 214 30) + 1) = D10
        replace h := h _ hD_D10.symm
        exact g_vret dX12_must_45 rfl h
      · replace h := h.2 hc
        refine g_iconst dX12_must_36 ?_
        refine g_goto 41 dX12_must_37 (by decide) ?_
        refine g_iadd dX12_must_41 ?_
        refine h_putI (j := 30) dX12_must_42 f_X12_145_11 (Or.inl (mm_finI (by decide +kernel))) rfl rfl (by decide) hG.k214 (by decide) (hG.lt (by decide)) ?_
        generalize hD_D11 : up2 D9 214 30 ((D9 214 30) + 0) = D11
        replace h := h _ hD_D11.symm
        exact g_vret dX12_must_45 rfl h
set_option maxRecDepth 20000 in
theorem w_X12_part {E : mmE} {d kc ks : Nat} {G : mmG} {D : mmD} {Q : mmQ} (hG : Sh G)  (h : Call E d 0 0 mX12_here [vR 214] G D (retI G (fun z2 D1 => Call E d 0 0 mX12_in [vI z2, vI 97, vI 122] G D1 (retI G (fun z4 D3 => ((iv z4 = iv 0 → ((¬ iv z2 = iv 86 → ((¬ iv z2 = iv 67 → Go E (d + 1) kc ks mX12_part 46 [some (vR 214), none, none] [vI 0] G D3 Q) ∧ (iv z2 = iv 67 → Go E (d + 1) kc ks mX12_part 46 [some (vR 214), none, none] [vI 28] G D3 Q))) ∧ (iv z2 = iv 86 → Go E (d + 1) kc ks mX12_part 46 [some (vR 214), none, none] [vI 27] G D3 Q))) ∧ (¬ iv z4 = iv 0 → Go E (d + 1) kc ks mX12_part 46 [some (vR 214), none, none] [vI (z2 - 96)] G D3 Q))))))) : Call E (d + 1) kc ks mX12_part [vR 214] G D Q := by
  show Go E (d + 1) kc ks mX12_part 0 [some (vR 214), none, none] [] G D Q
  refine g_aload_n dX12_part_0 rfl rfl ?_
  refine g_callV (kc := kc) (kc' := 0) (ks := ks) (ks' := 0) (as := []) (st := []) (ci := 11) dX12_part_1 cB_X12_here lk_X12_155 in_X12_here se_X12_here (by decide) rfl rfl (Nat.le_of_ble_eq_true rfl) (Nat.le_of_ble_eq_true rfl) (by decide) (hG.lt (by decide)) (congrArg Prod.fst hG.k214) ?_
  refine Go.to (fun r G' D1 hr => ?_) h
  obtain ⟨rfl, z2, rfl, h⟩ := hr
  show Go E (d + 1) kc ks mX12_part 4 [some (vR 214), none, none] [vI z2] G D1 Q
  refine h_istore_n (L' := [some (vR 214), some (vI z2), none]) dX12_part_4 rfl (Nat.le_of_ble_eq_true rfl) rfl rfl ?_
  refine g_iload_n dX12_part_5 rfl rfl ?_
  refine g_bipush dX12_part_6 bp_97 ?_
  refine g_bipush dX12_part_8 bp_122 ?_
  refine g_callS (kc := kc) (kc' := 0) (ks := ks) (ks' := 0) (as := [vI z2, vI 97, vI 122]) (st := []) dX12_part_10 cB_X12_in lk_X12_123 st_X12_in rfl (Nat.le_of_ble_eq_true rfl) (Nat.le_of_ble_eq_true rfl) ?_
  refine Go.to (fun r G' D3 hr => ?_) h
  obtain ⟨rfl, z4, rfl, h⟩ := hr
  show Go E (d + 1) kc ks mX12_part 13 [some (vR 214), some (vI z2), none] [vI z4] G D3 Q
  refine g_if_eq 23 dX12_part_13 (by decide) ⟨fun hc => ?_, fun hc => ?_⟩
  · replace h := h.1 hc
    refine g_iload_n dX12_part_23 rfl rfl ?_
    refine g_bipush dX12_part_24 bp_86 ?_
    refine g_icmp_ne 34 dX12_part_26 (by decide) ⟨fun hc => ?_, fun hc => ?_⟩
    · replace h := h.1 hc
      refine g_iload_n dX12_part_34 rfl rfl ?_
      refine g_bipush dX12_part_35 bp_67 ?_
      refine g_icmp_ne 45 dX12_part_37 (by decide) ⟨fun hc => ?_, fun hc => ?_⟩
      · replace h := h.1 hc
        refine g_iconst dX12_part_45 ?_
        exact Go.drop (by simp only [mm_sub, and_self]) h
      · replace h := h.2 hc
        refine g_bipush dX12_part_40 bp_28 ?_
        refine g_goto 46 dX12_part_42 (by decide) ?_
        exact Go.drop (by simp only [mm_sub, and_self]) h
    · replace h := h.2 hc
      refine g_bipush dX12_part_29 bp_27 ?_
      refine g_goto 46 dX12_part_31 (by decide) ?_
      exact Go.drop (by simp only [mm_sub, and_self]) h
  · replace h := h.2 hc
    refine g_iload_n dX12_part_16 rfl rfl ?_
    refine g_bipush dX12_part_17 bp_96 ?_
    refine g_isub dX12_part_19 ?_
    refine g_goto 46 dX12_part_20 (by decide) ?_
    exact Go.drop (by simp only [mm_sub, and_self]) h
set_option maxRecDepth 20000 in
theorem w_X12_part_46 {E : mmE} {d kc ks : Nat} {G : mmG} {D : mmD} {Q : mmQ} {y0 : Int} (hG : Sh G)  (h : ((¬ iv y0 = iv 0 → (∀ D1 : mmD, D1 = up2 D 214 30 ((D 214 30) + 1) → Q (some (vI y0)) G D1)) ∧ (iv y0 = iv 0 → (∀ D2 : mmD, D2 = up2 D 214 30 ((D 214 30) + 0) → Q (some (vI y0)) G D2)))) : Go E (d + 1) kc ks mX12_part 46 [some (vR 214), none, none] [vI y0] G D Q := by
  refine h_istore_n (L' := [some (vR 214), none, some (vI y0)]) dX12_part_46 rfl (Nat.le_of_ble_eq_true rfl) rfl rfl ?_
  refine g_aload_n dX12_part_47 rfl rfl ?_
  refine g_dup dX12_part_48 (fun _ h9 => by cases h9) ?_
  refine h_getI (j := 30) dX12_part_49 f_X12_145_11 rfl rfl (by decide) hG.k214 (by decide) (hG.lt (by decide)) ?_
  refine g_iload_n dX12_part_52 rfl rfl ?_
  refine g_if_ne 60 dX12_part_53 (by decide) ⟨fun hc => ?_, fun hc => ?_⟩
  · replace h := h.1 hc
    refine g_iconst dX12_part_60 ?_
    refine g_iadd dX12_part_61 ?_
    refine h_putI (j := 30) dX12_part_62 f_X12_145_11 (Or.inl (mm_finI (by decide +kernel))) rfl rfl (by decide) hG.k214 (by decide) (hG.lt (by decide)) ?_
    generalize hD_D1 : up2 D 214 30 ((D 214 30) + 1) = D1
    replace h := h _ hD_D1.symm
    refine g_iload_n dX12_part_65 rfl rfl ?_
    exact g_iret dX12_part_66 rfl h
  · replace h := h.2 hc
    refine g_iconst dX12_part_56 ?_
    refine g_goto 61 dX12_part_57 (by decide) ?_
    refine g_iadd dX12_part_61 ?_
    refine h_putI (j := 30) dX12_part_62 f_X12_145_11 (Or.inl (mm_finI (by decide +kernel))) rfl rfl (by decide) hG.k214 (by decide) (hG.lt (by decide)) ?_
    generalize hD_D2 : up2 D 214 30 ((D 214 30) + 0) = D2
    replace h := h _ hD_D2.symm
    refine g_iload_n dX12_part_65 rfl rfl ?_
    exact g_iret dX12_part_66 rfl h
set_option maxRecDepth 20000 in
theorem w_X12_side {E : mmE} {d kc ks : Nat} {G : mmG} {D : mmD} {Q : mmQ} (hG : Sh G)  (h : Call E d 0 0 mX12_here [vR 214] G D (retI G (fun z2 D1 => ((¬ iv z2 = iv 35 → Call E d 0 0 mX12_part [vR 214] G D1 (retI G (fun z4 D3 => Q (some (vI z4)) G D3))) ∧ (iv z2 = iv 35 → (∀ D5 : mmD, D5 = up2 D1 214 30 ((D1 214 30) + 1) → Q (some (vI 29)) G D5)))))) : Call E (d + 1) kc ks mX12_side [vR 214] G D Q := by
  show Go E (d + 1) kc ks mX12_side 0 [some (vR 214)] [] G D Q
  refine g_aload_n dX12_side_0 rfl rfl ?_
  refine g_callV (kc := kc) (kc' := 0) (ks := ks) (ks' := 0) (as := []) (st := []) (ci := 11) dX12_side_1 cB_X12_here lk_X12_155 in_X12_here se_X12_here (by decide) rfl rfl (Nat.le_of_ble_eq_true rfl) (Nat.le_of_ble_eq_true rfl) (by decide) (hG.lt (by decide)) (congrArg Prod.fst hG.k214) ?_
  refine Go.to (fun r G' D1 hr => ?_) h
  obtain ⟨rfl, z2, rfl, h⟩ := hr
  show Go E (d + 1) kc ks mX12_side 4 [some (vR 214)] [vI z2] G D1 Q
  refine g_bipush dX12_side_4 bp_35 ?_
  refine g_icmp_ne 22 dX12_side_6 (by decide) ⟨fun hc => ?_, fun hc => ?_⟩
  · replace h := h.1 hc
    refine g_aload_n dX12_side_22 rfl rfl ?_
    refine g_callV (kc := kc) (kc' := 0) (ks := ks) (ks' := 0) (as := []) (st := []) (ci := 11) dX12_side_23 cB_X12_part lk_X12_159 in_X12_part se_X12_part (by decide) rfl rfl (Nat.le_of_ble_eq_true rfl) (Nat.le_of_ble_eq_true rfl) (by decide) (hG.lt (by decide)) (congrArg Prod.fst hG.k214) ?_
    refine Go.to (fun r G' D3 hr => ?_) h
    obtain ⟨rfl, z4, rfl, h⟩ := hr
    show Go E (d + 1) kc ks mX12_side 26 [some (vR 214)] [vI z4] G D3 Q
    exact g_iret dX12_side_26 rfl h
  · replace h := h.2 hc
    refine g_aload_n dX12_side_9 rfl rfl ?_
    refine g_dup dX12_side_10 (fun _ h9 => by cases h9) ?_
    refine h_getI (j := 30) dX12_side_11 f_X12_145_11 rfl rfl (by decide) hG.k214 (by decide) (hG.lt (by decide)) ?_
    refine g_iconst dX12_side_14 ?_
    refine g_iadd dX12_side_15 ?_
    refine h_putI (j := 30) dX12_side_16 f_X12_145_11 (Or.inl (mm_finI (by decide +kernel))) rfl rfl (by decide) hG.k214 (by decide) (hG.lt (by decide)) ?_
    generalize hD_D5 : up2 D1 214 30 ((D1 214 30) + 1) = D5
    replace h := h _ hD_D5.symm
    refine g_bipush dX12_side_19 bp_29 ?_
    exact g_iret dX12_side_21 rfl h
set_option maxRecDepth 20000 in
theorem w_X12_reads {E : mmE} {d kc ks : Nat} {G : mmG} {D : mmD} {Q : mmQ} {x1 : Int} (hG : Sh G)  (h : Call E d 0 0 mX12_part [vR 214] G D (retI G (fun z2 D1 => ((0 ≤ x1 ∧ x1 < 78) ∧ (∀ D3 : mmD, D3 = up2 D1 224 x1 z2 → ((0 ≤ x1 ∧ x1 < 78) ∧ ((¬ iv (D3 224 x1) = iv 0 → (∀ D4 : mmD, D4 = up2 D3 214 32 0 → Call E d 0 0 mX12_must [vR 214, vI 62] G D4 (retV G (fun D5 => Call E d 0 0 mX12_here [vR 214] G D5 (retI G (fun z8 D7 => ((¬ iv (D7 214 32) = iv 0 → Go E (d + 1) kc ks mX12_reads 64 [some (vR 214), some (vI x1), some (vI z8)] [vR 214] G D7 Q) ∧ (iv (D7 214 32) = iv 0 → Call E d 0 0 mX12_in [vI z8, vI 97, vI 122] G D7 (retI G (fun z10 D9 => ((¬ iv z10 = iv 0 → Go E (d + 1) kc ks mX12_reads 68 [some (vR 214), some (vI x1), some (vI z8)] [vR 214] G D9 Q) ∧ (iv z10 = iv 0 → ((iv z8 = iv 48 → Go E (d + 1) kc ks mX12_reads 68 [some (vR 214), some (vI x1), some (vI z8)] [vR 214] G D9 Q) ∧ (¬ iv z8 = iv 48 → Go E (d + 1) kc ks mX12_reads 64 [some (vR 214), some (vI x1), some (vI z8)] [vR 214] G D9 Q)))))))))))))) ∧ (iv (D3 224 x1) = iv 0 → (∀ D11 : mmD, D11 = up2 D3 214 32 1 → Call E d 0 0 mX12_must [vR 214, vI 62] G D11 (retV G (fun D12 => Call E d 0 0 mX12_here [vR 214] G D12 (retI G (fun z15 D14 => ((¬ iv (D14 214 32) = iv 0 → Go E (d + 1) kc ks mX12_reads 64 [some (vR 214), some (vI x1), some (vI z15)] [vR 214] G D14 Q) ∧ (iv (D14 214 32) = iv 0 → Call E d 0 0 mX12_in [vI z15, vI 97, vI 122] G D14 (retI G (fun z17 D16 => ((¬ iv z17 = iv 0 → Go E (d + 1) kc ks mX12_reads 68 [some (vR 214), some (vI x1), some (vI z15)] [vR 214] G D16 Q) ∧ (iv z17 = iv 0 → ((iv z15 = iv 48 → Go E (d + 1) kc ks mX12_reads 68 [some (vR 214), some (vI x1), some (vI z15)] [vR 214] G D16 Q) ∧ (¬ iv z15 = iv 48 → Go E (d + 1) kc ks mX12_reads 64 [some (vR 214), some (vI x1), some (vI z15)] [vR 214] G D16 Q))))))))))))))))))))) : Call E (d + 1) kc ks mX12_reads [vR 214, vI x1] G D Q := by
  show Go E (d + 1) kc ks mX12_reads 0 [some (vR 214), some (vI x1), none] [] G D Q
  refine g_aload_n dX12_reads_0 rfl rfl ?_
  refine h_getR (j := 19) dX12_reads_1 f_X12_42_11 rfl rfl (by decide) hG.k214 (by decide) (hG.lt (by decide)) hG.r214_19 ?_
  refine g_iload_n dX12_reads_4 rfl rfl ?_
  refine g_aload_n dX12_reads_5 rfl rfl ?_
  refine g_callV (kc := kc) (kc' := 0) (ks := ks) (ks' := 0) (as := []) (st := [vI x1, vR 224]) (ci := 11) dX12_reads_6 cB_X12_part lk_X12_159 in_X12_part se_X12_part (by decide) rfl rfl (Nat.le_of_ble_eq_true rfl) (Nat.le_of_ble_eq_true rfl) (by decide) (hG.lt (by decide)) (congrArg Prod.fst hG.k214) ?_
  refine Go.to (fun r G' D1 hr => ?_) h
  obtain ⟨rfl, z2, rfl, h⟩ := hr
  show Go E (d + 1) kc ks mX12_reads 9 [some (vR 214), some (vI x1), none] [vI z2, vI x1, vR 224] G D1 Q
  refine g_iast dX12_reads_9 hG.k224 (by decide) (hG.lt (by decide)) (by decide) ⟨h.1, ?_⟩
  generalize hD_D3 : up2 D1 224 x1 z2 = D3
  replace h := h.2 _ hD_D3.symm
  refine g_aload_n dX12_reads_10 rfl rfl ?_
  refine g_aload_n dX12_reads_11 rfl rfl ?_
  refine h_getR (j := 19) dX12_reads_12 f_X12_42_11 rfl rfl (by decide) hG.k214 (by decide) (hG.lt (by decide)) hG.r214_19 ?_
  refine g_iload_n dX12_reads_15 rfl rfl ?_
  refine g_iald dX12_reads_16 hG.k224 (by decide) (hG.lt (by decide)) (by decide) ⟨h.1, ?_⟩
  replace h := h.2
  refine g_if_ne 24 dX12_reads_17 (by decide) ⟨fun hc => ?_, fun hc => ?_⟩
  · replace h := h.1 hc
    refine g_iconst dX12_reads_24 ?_
    refine h_putZ (j := 32) dX12_reads_25 f_X12_151_11 (Or.inl (mm_finI (by decide +kernel))) rfl rfl (by decide) hG.k214 (by decide) (hG.lt (by decide)) ⟨Or.inl rfl, ?_⟩
    generalize hD_D4 : up2 D3 214 32 0 = D4
    replace h := h _ hD_D4.symm
    refine g_aload_n dX12_reads_28 rfl rfl ?_
    refine g_bipush dX12_reads_29 bp_62 ?_
    refine g_callV (kc := kc) (kc' := 0) (ks := ks) (ks' := 0) (as := [vI 62]) (st := []) (ci := 11) dX12_reads_31 cB_X12_must lk_X12_162 in_X12_must se_X12_must (by decide) rfl rfl (Nat.le_of_ble_eq_true rfl) (Nat.le_of_ble_eq_true rfl) (by decide) (hG.lt (by decide)) (congrArg Prod.fst hG.k214) ?_
    refine Go.to (fun r G' D5 hr => ?_) h
    obtain ⟨rfl, rfl, h⟩ := hr
    show Go E (d + 1) kc ks mX12_reads 34 [some (vR 214), some (vI x1), none] [] G D5 Q
    refine g_aload_n dX12_reads_34 rfl rfl ?_
    refine g_callV (kc := kc) (kc' := 0) (ks := ks) (ks' := 0) (as := []) (st := []) (ci := 11) dX12_reads_35 cB_X12_here lk_X12_155 in_X12_here se_X12_here (by decide) rfl rfl (Nat.le_of_ble_eq_true rfl) (Nat.le_of_ble_eq_true rfl) (by decide) (hG.lt (by decide)) (congrArg Prod.fst hG.k214) ?_
    refine Go.to (fun r G' D7 hr => ?_) h
    obtain ⟨rfl, z8, rfl, h⟩ := hr
    show Go E (d + 1) kc ks mX12_reads 38 [some (vR 214), some (vI x1), none] [vI z8] G D7 Q
    refine h_istore_n (L' := [some (vR 214), some (vI x1), some (vI z8)]) dX12_reads_38 rfl (Nat.le_of_ble_eq_true rfl) rfl rfl ?_
    refine g_aload_n dX12_reads_39 rfl rfl ?_
    refine g_aload_n dX12_reads_40 rfl rfl ?_
    refine h_getI (j := 32) dX12_reads_41 f_X12_151_11 rfl rfl (by decide) hG.k214 (by decide) (hG.lt (by decide)) ?_
    refine g_if_ne 64 dX12_reads_44 (by decide) ⟨fun hc => ?_, fun hc => ?_⟩
    · replace h := h.1 hc
      exact Go.drop (by simp only [mm_sub, and_self]) h
    · replace h := h.2 hc
      refine g_iload_n dX12_reads_47 rfl rfl ?_
      refine g_bipush dX12_reads_48 bp_97 ?_
      refine g_bipush dX12_reads_50 bp_122 ?_
      refine g_callS (kc := kc) (kc' := 0) (ks := ks) (ks' := 0) (as := [vI z8, vI 97, vI 122]) (st := [vR 214]) dX12_reads_52 cB_X12_in lk_X12_123 st_X12_in rfl (Nat.le_of_ble_eq_true rfl) (Nat.le_of_ble_eq_true rfl) ?_
      refine Go.to (fun r G' D9 hr => ?_) h
      obtain ⟨rfl, z10, rfl, h⟩ := hr
      show Go E (d + 1) kc ks mX12_reads 55 [some (vR 214), some (vI x1), some (vI z8)] [vI z10, vR 214] G D9 Q
      refine g_if_ne 68 dX12_reads_55 (by decide) ⟨fun hc => ?_, fun hc => ?_⟩
      · replace h := h.1 hc
        exact Go.drop (by simp only [mm_sub, and_self]) h
      · replace h := h.2 hc
        refine g_iload_n dX12_reads_58 rfl rfl ?_
        refine g_bipush dX12_reads_59 bp_48 ?_
        refine g_icmp_eq 68 dX12_reads_61 (by decide) ⟨fun hc => ?_, fun hc => ?_⟩
        · replace h := h.1 hc
          exact Go.drop (by simp only [mm_sub, and_self]) h
        · replace h := h.2 hc
          exact Go.drop (by simp only [mm_sub, and_self]) h
  · replace h := h.2 hc
    refine g_iconst dX12_reads_20 ?_
    refine g_goto 25 dX12_reads_21 (by decide) ?_
    refine h_putZ (j := 32) dX12_reads_25 f_X12_151_11 (Or.inl (mm_finI (by decide +kernel))) rfl rfl (by decide) hG.k214 (by decide) (hG.lt (by decide)) ⟨Or.inr rfl, ?_⟩
    generalize hD_D11 : up2 D3 214 32 1 = D11
    replace h := h _ hD_D11.symm
    refine g_aload_n dX12_reads_28 rfl rfl ?_
    refine g_bipush dX12_reads_29 bp_62 ?_
    refine g_callV (kc := kc) (kc' := 0) (ks := ks) (ks' := 0) (as := [vI 62]) (st := []) (ci := 11) dX12_reads_31 cB_X12_must lk_X12_162 in_X12_must se_X12_must (by decide) rfl rfl (Nat.le_of_ble_eq_true rfl) (Nat.le_of_ble_eq_true rfl) (by decide) (hG.lt (by decide)) (congrArg Prod.fst hG.k214) ?_
    refine Go.to (fun r G' D12 hr => ?_) h
    obtain ⟨rfl, rfl, h⟩ := hr
    show Go E (d + 1) kc ks mX12_reads 34 [some (vR 214), some (vI x1), none] [] G D12 Q
    refine g_aload_n dX12_reads_34 rfl rfl ?_
    refine g_callV (kc := kc) (kc' := 0) (ks := ks) (ks' := 0) (as := []) (st := []) (ci := 11) dX12_reads_35 cB_X12_here lk_X12_155 in_X12_here se_X12_here (by decide) rfl rfl (Nat.le_of_ble_eq_true rfl) (Nat.le_of_ble_eq_true rfl) (by decide) (hG.lt (by decide)) (congrArg Prod.fst hG.k214) ?_
    refine Go.to (fun r G' D14 hr => ?_) h
    obtain ⟨rfl, z15, rfl, h⟩ := hr
    show Go E (d + 1) kc ks mX12_reads 38 [some (vR 214), some (vI x1), none] [vI z15] G D14 Q
    refine h_istore_n (L' := [some (vR 214), some (vI x1), some (vI z15)]) dX12_reads_38 rfl (Nat.le_of_ble_eq_true rfl) rfl rfl ?_
    refine g_aload_n dX12_reads_39 rfl rfl ?_
    refine g_aload_n dX12_reads_40 rfl rfl ?_
    refine h_getI (j := 32) dX12_reads_41 f_X12_151_11 rfl rfl (by decide) hG.k214 (by decide) (hG.lt (by decide)) ?_
    refine g_if_ne 64 dX12_reads_44 (by decide) ⟨fun hc => ?_, fun hc => ?_⟩
    · replace h := h.1 hc
      exact Go.drop (by simp only [mm_sub, and_self]) h
    · replace h := h.2 hc
      refine g_iload_n dX12_reads_47 rfl rfl ?_
      refine g_bipush dX12_reads_48 bp_97 ?_
      refine g_bipush dX12_reads_50 bp_122 ?_
      refine g_callS (kc := kc) (kc' := 0) (ks := ks) (ks' := 0) (as := [vI z15, vI 97, vI 122]) (st := [vR 214]) dX12_reads_52 cB_X12_in lk_X12_123 st_X12_in rfl (Nat.le_of_ble_eq_true rfl) (Nat.le_of_ble_eq_true rfl) ?_
      refine Go.to (fun r G' D16 hr => ?_) h
      obtain ⟨rfl, z17, rfl, h⟩ := hr
      show Go E (d + 1) kc ks mX12_reads 55 [some (vR 214), some (vI x1), some (vI z15)] [vI z17, vR 214] G D16 Q
      refine g_if_ne 68 dX12_reads_55 (by decide) ⟨fun hc => ?_, fun hc => ?_⟩
      · replace h := h.1 hc
        exact Go.drop (by simp only [mm_sub, and_self]) h
      · replace h := h.2 hc
        refine g_iload_n dX12_reads_58 rfl rfl ?_
        refine g_bipush dX12_reads_59 bp_48 ?_
        refine g_icmp_eq 68 dX12_reads_61 (by decide) ⟨fun hc => ?_, fun hc => ?_⟩
        · replace h := h.1 hc
          exact Go.drop (by simp only [mm_sub, and_self]) h
        · replace h := h.2 hc
          exact Go.drop (by simp only [mm_sub, and_self]) h
set_option maxRecDepth 20000 in
theorem w_X12_reads_64 {E : mmE} {d kc ks : Nat} {G : mmG} {D : mmD} {Q : mmQ} {x1 x2 : Int} (hG : Sh G)  (h : (∀ D1 : mmD, D1 = up2 D 214 32 1 → ((¬ iv x2 = iv 48 → ((0 ≤ x1 ∧ x1 < 78) ∧ (∀ D2 : mmD, D2 = up2 D1 225 x1 (x2 - 96) → ((iv (D2 214 32) = iv 0 → Go E (d + 1) kc ks mX12_reads 109 [some (vR 214), some (vI x1), none] [vI 1, vI (D2 214 30), vR 214] G D2 Q) ∧ (¬ iv (D2 214 32) = iv 0 → Go E (d + 1) kc ks mX12_reads 109 [some (vR 214), some (vI x1), none] [vI 0, vI (D2 214 30), vR 214] G D2 Q))))) ∧ (iv x2 = iv 48 → ((0 ≤ x1 ∧ x1 < 78) ∧ (∀ D3 : mmD, D3 = up2 D1 225 x1 0 → ((iv (D3 214 32) = iv 0 → Go E (d + 1) kc ks mX12_reads 109 [some (vR 214), some (vI x1), none] [vI 1, vI (D3 214 30), vR 214] G D3 Q) ∧ (¬ iv (D3 214 32) = iv 0 → Go E (d + 1) kc ks mX12_reads 109 [some (vR 214), some (vI x1), none] [vI 0, vI (D3 214 30), vR 214] G D3 Q)))))))) : Go E (d + 1) kc ks mX12_reads 64 [some (vR 214), some (vI x1), some (vI x2)] [vR 214] G D Q := by
  refine g_iconst dX12_reads_64 ?_
  refine g_goto 69 dX12_reads_65 (by decide) ?_
  refine h_putZ (j := 32) dX12_reads_69 f_X12_151_11 (Or.inl (mm_finI (by decide +kernel))) rfl rfl (by decide) hG.k214 (by decide) (hG.lt (by decide)) ⟨Or.inr rfl, ?_⟩
  generalize hD_D1 : up2 D 214 32 1 = D1
  replace h := h _ hD_D1.symm
  refine g_aload_n dX12_reads_72 rfl rfl ?_
  refine h_getR (j := 20) dX12_reads_73 f_X12_45_11 rfl rfl (by decide) hG.k214 (by decide) (hG.lt (by decide)) hG.r214_20 ?_
  refine g_iload_n dX12_reads_76 rfl rfl ?_
  refine g_iload_n dX12_reads_77 rfl rfl ?_
  refine g_bipush dX12_reads_78 bp_48 ?_
  refine g_icmp_ne 87 dX12_reads_80 (by decide) ⟨fun hc => ?_, fun hc => ?_⟩
  · replace h := h.1 hc
    refine g_iload_n dX12_reads_87 rfl rfl ?_
    refine g_bipush dX12_reads_88 bp_96 ?_
    refine g_isub dX12_reads_90 ?_
    refine g_iast dX12_reads_91 hG.k225 (by decide) (hG.lt (by decide)) (by decide) ⟨h.1, ?_⟩
    generalize hD_D2 : up2 D1 225 x1 (x2 - 96) = D2
    replace h := h.2 _ hD_D2.symm
    refine g_aload_n dX12_reads_92 rfl rfl ?_
    refine g_dup dX12_reads_93 (fun _ h9 => by cases h9) ?_
    refine h_getI (j := 30) dX12_reads_94 f_X12_145_11 rfl rfl (by decide) hG.k214 (by decide) (hG.lt (by decide)) ?_
    refine g_aload_n dX12_reads_97 rfl rfl ?_
    refine h_getI (j := 32) dX12_reads_98 f_X12_151_11 rfl rfl (by decide) hG.k214 (by decide) (hG.lt (by decide)) ?_
    refine g_if_eq 108 dX12_reads_101 (by decide) ⟨fun hc => ?_, fun hc => ?_⟩
    · replace h := h.1 hc
      refine g_iconst dX12_reads_108 ?_
      exact Go.drop (by simp only [mm_sub, and_self]) h
    · replace h := h.2 hc
      refine g_iconst dX12_reads_104 ?_
      refine g_goto 109 dX12_reads_105 (by decide) ?_
      exact Go.drop (by simp only [mm_sub, and_self]) h
  · replace h := h.2 hc
    refine g_iconst dX12_reads_83 ?_
    refine g_goto 91 dX12_reads_84 (by decide) ?_
    refine g_iast dX12_reads_91 hG.k225 (by decide) (hG.lt (by decide)) (by decide) ⟨h.1, ?_⟩
    generalize hD_D3 : up2 D1 225 x1 0 = D3
    replace h := h.2 _ hD_D3.symm
    refine g_aload_n dX12_reads_92 rfl rfl ?_
    refine g_dup dX12_reads_93 (fun _ h9 => by cases h9) ?_
    refine h_getI (j := 30) dX12_reads_94 f_X12_145_11 rfl rfl (by decide) hG.k214 (by decide) (hG.lt (by decide)) ?_
    refine g_aload_n dX12_reads_97 rfl rfl ?_
    refine h_getI (j := 32) dX12_reads_98 f_X12_151_11 rfl rfl (by decide) hG.k214 (by decide) (hG.lt (by decide)) ?_
    refine g_if_eq 108 dX12_reads_101 (by decide) ⟨fun hc => ?_, fun hc => ?_⟩
    · replace h := h.1 hc
      refine g_iconst dX12_reads_108 ?_
      exact Go.drop (by simp only [mm_sub, and_self]) h
    · replace h := h.2 hc
      refine g_iconst dX12_reads_104 ?_
      refine g_goto 109 dX12_reads_105 (by decide) ?_
      exact Go.drop (by simp only [mm_sub, and_self]) h
set_option maxRecDepth 20000 in
theorem w_X12_reads_68 {E : mmE} {d kc ks : Nat} {G : mmG} {D : mmD} {Q : mmQ} {x1 x2 : Int} (hG : Sh G)  (h : (∀ D1 : mmD, D1 = up2 D 214 32 0 → ((¬ iv x2 = iv 48 → ((0 ≤ x1 ∧ x1 < 78) ∧ (∀ D2 : mmD, D2 = up2 D1 225 x1 (x2 - 96) → ((iv (D2 214 32) = iv 0 → Go E (d + 1) kc ks mX12_reads 109 [some (vR 214), some (vI x1), none] [vI 1, vI (D2 214 30), vR 214] G D2 Q) ∧ (¬ iv (D2 214 32) = iv 0 → Go E (d + 1) kc ks mX12_reads 109 [some (vR 214), some (vI x1), none] [vI 0, vI (D2 214 30), vR 214] G D2 Q))))) ∧ (iv x2 = iv 48 → ((0 ≤ x1 ∧ x1 < 78) ∧ (∀ D3 : mmD, D3 = up2 D1 225 x1 0 → ((iv (D3 214 32) = iv 0 → Go E (d + 1) kc ks mX12_reads 109 [some (vR 214), some (vI x1), none] [vI 1, vI (D3 214 30), vR 214] G D3 Q) ∧ (¬ iv (D3 214 32) = iv 0 → Go E (d + 1) kc ks mX12_reads 109 [some (vR 214), some (vI x1), none] [vI 0, vI (D3 214 30), vR 214] G D3 Q)))))))) : Go E (d + 1) kc ks mX12_reads 68 [some (vR 214), some (vI x1), some (vI x2)] [vR 214] G D Q := by
  refine g_iconst dX12_reads_68 ?_
  refine h_putZ (j := 32) dX12_reads_69 f_X12_151_11 (Or.inl (mm_finI (by decide +kernel))) rfl rfl (by decide) hG.k214 (by decide) (hG.lt (by decide)) ⟨Or.inl rfl, ?_⟩
  generalize hD_D1 : up2 D 214 32 0 = D1
  replace h := h _ hD_D1.symm
  refine g_aload_n dX12_reads_72 rfl rfl ?_
  refine h_getR (j := 20) dX12_reads_73 f_X12_45_11 rfl rfl (by decide) hG.k214 (by decide) (hG.lt (by decide)) hG.r214_20 ?_
  refine g_iload_n dX12_reads_76 rfl rfl ?_
  refine g_iload_n dX12_reads_77 rfl rfl ?_
  refine g_bipush dX12_reads_78 bp_48 ?_
  refine g_icmp_ne 87 dX12_reads_80 (by decide) ⟨fun hc => ?_, fun hc => ?_⟩
  · replace h := h.1 hc
    refine g_iload_n dX12_reads_87 rfl rfl ?_
    refine g_bipush dX12_reads_88 bp_96 ?_
    refine g_isub dX12_reads_90 ?_
    refine g_iast dX12_reads_91 hG.k225 (by decide) (hG.lt (by decide)) (by decide) ⟨h.1, ?_⟩
    generalize hD_D2 : up2 D1 225 x1 (x2 - 96) = D2
    replace h := h.2 _ hD_D2.symm
    refine g_aload_n dX12_reads_92 rfl rfl ?_
    refine g_dup dX12_reads_93 (fun _ h9 => by cases h9) ?_
    refine h_getI (j := 30) dX12_reads_94 f_X12_145_11 rfl rfl (by decide) hG.k214 (by decide) (hG.lt (by decide)) ?_
    refine g_aload_n dX12_reads_97 rfl rfl ?_
    refine h_getI (j := 32) dX12_reads_98 f_X12_151_11 rfl rfl (by decide) hG.k214 (by decide) (hG.lt (by decide)) ?_
    refine g_if_eq 108 dX12_reads_101 (by decide) ⟨fun hc => ?_, fun hc => ?_⟩
    · replace h := h.1 hc
      refine g_iconst dX12_reads_108 ?_
      exact Go.drop (by simp only [mm_sub, and_self]) h
    · replace h := h.2 hc
      refine g_iconst dX12_reads_104 ?_
      refine g_goto 109 dX12_reads_105 (by decide) ?_
      exact Go.drop (by simp only [mm_sub, and_self]) h
  · replace h := h.2 hc
    refine g_iconst dX12_reads_83 ?_
    refine g_goto 91 dX12_reads_84 (by decide) ?_
    refine g_iast dX12_reads_91 hG.k225 (by decide) (hG.lt (by decide)) (by decide) ⟨h.1, ?_⟩
    generalize hD_D3 : up2 D1 225 x1 0 = D3
    replace h := h.2 _ hD_D3.symm
    refine g_aload_n dX12_reads_92 rfl rfl ?_
    refine g_dup dX12_reads_93 (fun _ h9 => by cases h9) ?_
    refine h_getI (j := 30) dX12_reads_94 f_X12_145_11 rfl rfl (by decide) hG.k214 (by decide) (hG.lt (by decide)) ?_
    refine g_aload_n dX12_reads_97 rfl rfl ?_
    refine h_getI (j := 32) dX12_reads_98 f_X12_151_11 rfl rfl (by decide) hG.k214 (by decide) (hG.lt (by decide)) ?_
    refine g_if_eq 108 dX12_reads_101 (by decide) ⟨fun hc => ?_, fun hc => ?_⟩
    · replace h := h.1 hc
      refine g_iconst dX12_reads_108 ?_
      exact Go.drop (by simp only [mm_sub, and_self]) h
    · replace h := h.2 hc
      refine g_iconst dX12_reads_104 ?_
      refine g_goto 109 dX12_reads_105 (by decide) ?_
      exact Go.drop (by simp only [mm_sub, and_self]) h
set_option maxRecDepth 20000 in
theorem w_X12_reads_109 {E : mmE} {d kc ks : Nat} {G : mmG} {D : mmD} {Q : mmQ} {x1 y0 y1 : Int} (hG : Sh G)  (h : (∀ D1 : mmD, D1 = up2 D 214 30 (y1 + y0) → ((0 ≤ x1 ∧ x1 < 78) ∧ (∀ D2 : mmD, D2 = up2 D1 226 x1 0 → ((0 ≤ x1 ∧ x1 < 78) ∧ (∀ D3 : mmD, D3 = up2 D2 227 x1 0 → ((¬ iv (D3 214 32) = iv 0 → Q none G D3) ∧ (iv (D3 214 32) = iv 0 → Call E d 0 0 mX12_here [vR 214] G D3 (retI G (fun z5 D4 => ((¬ iv z5 = iv 47 → Q none G D4) ∧ (iv z5 = iv 47 → (∀ D6 : mmD, D6 = up2 D4 214 30 ((D4 214 30) + 1) → Call E d 0 0 mX12_side [vR 214] G D6 (retI G (fun z8 D7 => ((0 ≤ x1 ∧ x1 < 78) ∧ (∀ D9 : mmD, D9 = up2 D7 226 x1 z8 → Call E d 0 0 mX12_must [vR 214, vI 95] G D9 (retV G (fun D10 => ((iv (D10 214 32) = iv 0 → Call E d 0 0 mX12_side [vR 214] G D10 (retI G (fun z13 D12 => ((0 ≤ x1 ∧ x1 < 78) ∧ (∀ D14 : mmD, D14 = up2 D12 227 x1 z13 → Q none G D14))))) ∧ (¬ iv (D10 214 32) = iv 0 → ((0 ≤ x1 ∧ x1 < 78) ∧ (∀ D15 : mmD, D15 = up2 D10 227 x1 0 → Q none G D15))))))))))))))))))))))) : Go E (d + 1) kc ks mX12_reads 109 [some (vR 214), some (vI x1), none] [vI y0, vI y1, vR 214] G D Q := by
  refine g_iadd dX12_reads_109 ?_
  refine h_putI (j := 30) dX12_reads_110 f_X12_145_11 (Or.inl (mm_finI (by decide +kernel))) rfl rfl (by decide) hG.k214 (by decide) (hG.lt (by decide)) ?_
  generalize hD_D1 : up2 D 214 30 (y1 + y0) = D1
  replace h := h _ hD_D1.symm
  refine g_aload_n dX12_reads_113 rfl rfl ?_
  refine h_getR (j := 21) dX12_reads_114 f_X12_48_11 rfl rfl (by decide) hG.k214 (by decide) (hG.lt (by decide)) hG.r214_21 ?_
  refine g_iload_n dX12_reads_117 rfl rfl ?_
  refine g_iconst dX12_reads_118 ?_
  refine g_iast dX12_reads_119 hG.k226 (by decide) (hG.lt (by decide)) (by decide) ⟨h.1, ?_⟩
  generalize hD_D2 : up2 D1 226 x1 0 = D2
  replace h := h.2 _ hD_D2.symm
  refine g_aload_n dX12_reads_120 rfl rfl ?_
  refine h_getR (j := 22) dX12_reads_121 f_X12_51_11 rfl rfl (by decide) hG.k214 (by decide) (hG.lt (by decide)) hG.r214_22 ?_
  refine g_iload_n dX12_reads_124 rfl rfl ?_
  refine g_iconst dX12_reads_125 ?_
  refine g_iast dX12_reads_126 hG.k227 (by decide) (hG.lt (by decide)) (by decide) ⟨h.1, ?_⟩
  generalize hD_D3 : up2 D2 227 x1 0 = D3
  replace h := h.2 _ hD_D3.symm
  refine g_aload_n dX12_reads_127 rfl rfl ?_
  refine h_getI (j := 32) dX12_reads_128 f_X12_151_11 rfl rfl (by decide) hG.k214 (by decide) (hG.lt (by decide)) ?_
  refine g_if_ne 190 dX12_reads_131 (by decide) ⟨fun hc => ?_, fun hc => ?_⟩
  · replace h := h.1 hc
    exact g_vret dX12_reads_190 rfl h
  · replace h := h.2 hc
    refine g_aload_n dX12_reads_134 rfl rfl ?_
    refine g_callV (kc := kc) (kc' := 0) (ks := ks) (ks' := 0) (as := []) (st := []) (ci := 11) dX12_reads_135 cB_X12_here lk_X12_155 in_X12_here se_X12_here (by decide) rfl rfl (Nat.le_of_ble_eq_true rfl) (Nat.le_of_ble_eq_true rfl) (by decide) (hG.lt (by decide)) (congrArg Prod.fst hG.k214) ?_
    refine Go.to (fun r G' D4 hr => ?_) h
    obtain ⟨rfl, z5, rfl, h⟩ := hr
    show Go E (d + 1) kc ks mX12_reads 138 [some (vR 214), some (vI x1), none] [vI z5] G D4 Q
    refine g_bipush dX12_reads_138 bp_47 ?_
    refine g_icmp_ne 190 dX12_reads_140 (by decide) ⟨fun hc => ?_, fun hc => ?_⟩
    · replace h := h.1 hc
      exact g_vret dX12_reads_190 rfl h
    · replace h := h.2 hc
      refine g_aload_n dX12_reads_143 rfl rfl ?_
      refine g_dup dX12_reads_144 (fun _ h9 => by cases h9) ?_
      refine h_getI (j := 30) dX12_reads_145 f_X12_145_11 rfl rfl (by decide) hG.k214 (by decide) (hG.lt (by decide)) ?_
      refine g_iconst dX12_reads_148 ?_
      refine g_iadd dX12_reads_149 ?_
      refine h_putI (j := 30) dX12_reads_150 f_X12_145_11 (Or.inl (mm_finI (by decide +kernel))) rfl rfl (by decide) hG.k214 (by decide) (hG.lt (by decide)) ?_
      generalize hD_D6 : up2 D4 214 30 ((D4 214 30) + 1) = D6
      replace h := h _ hD_D6.symm
      refine g_aload_n dX12_reads_153 rfl rfl ?_
      refine h_getR (j := 21) dX12_reads_154 f_X12_48_11 rfl rfl (by decide) hG.k214 (by decide) (hG.lt (by decide)) hG.r214_21 ?_
      refine g_iload_n dX12_reads_157 rfl rfl ?_
      refine g_aload_n dX12_reads_158 rfl rfl ?_
      refine g_callV (kc := kc) (kc' := 0) (ks := ks) (ks' := 0) (as := []) (st := [vI x1, vR 226]) (ci := 11) dX12_reads_159 cB_X12_side lk_X12_166 in_X12_side se_X12_side (by decide) rfl rfl (Nat.le_of_ble_eq_true rfl) (Nat.le_of_ble_eq_true rfl) (by decide) (hG.lt (by decide)) (congrArg Prod.fst hG.k214) ?_
      refine Go.to (fun r G' D7 hr => ?_) h
      obtain ⟨rfl, z8, rfl, h⟩ := hr
      show Go E (d + 1) kc ks mX12_reads 162 [some (vR 214), some (vI x1), none] [vI z8, vI x1, vR 226] G D7 Q
      refine g_iast dX12_reads_162 hG.k226 (by decide) (hG.lt (by decide)) (by decide) ⟨h.1, ?_⟩
      generalize hD_D9 : up2 D7 226 x1 z8 = D9
      replace h := h.2 _ hD_D9.symm
      refine g_aload_n dX12_reads_163 rfl rfl ?_
      refine g_bipush dX12_reads_164 bp_95 ?_
      refine g_callV (kc := kc) (kc' := 0) (ks := ks) (ks' := 0) (as := [vI 95]) (st := []) (ci := 11) dX12_reads_166 cB_X12_must lk_X12_162 in_X12_must se_X12_must (by decide) rfl rfl (Nat.le_of_ble_eq_true rfl) (Nat.le_of_ble_eq_true rfl) (by decide) (hG.lt (by decide)) (congrArg Prod.fst hG.k214) ?_
      refine Go.to (fun r G' D10 hr => ?_) h
      obtain ⟨rfl, rfl, h⟩ := hr
      show Go E (d + 1) kc ks mX12_reads 169 [some (vR 214), some (vI x1), none] [] G D10 Q
      refine g_aload_n dX12_reads_169 rfl rfl ?_
      refine h_getR (j := 22) dX12_reads_170 f_X12_51_11 rfl rfl (by decide) hG.k214 (by decide) (hG.lt (by decide)) hG.r214_22 ?_
      refine g_iload_n dX12_reads_173 rfl rfl ?_
      refine g_aload_n dX12_reads_174 rfl rfl ?_
      refine h_getI (j := 32) dX12_reads_175 f_X12_151_11 rfl rfl (by decide) hG.k214 (by decide) (hG.lt (by decide)) ?_
      refine g_if_eq 185 dX12_reads_178 (by decide) ⟨fun hc => ?_, fun hc => ?_⟩
      · replace h := h.1 hc
        refine g_aload_n dX12_reads_185 rfl rfl ?_
        refine g_callV (kc := kc) (kc' := 0) (ks := ks) (ks' := 0) (as := []) (st := [vI x1, vR 227]) (ci := 11) dX12_reads_186 cB_X12_side lk_X12_166 in_X12_side se_X12_side (by decide) rfl rfl (Nat.le_of_ble_eq_true rfl) (Nat.le_of_ble_eq_true rfl) (by decide) (hG.lt (by decide)) (congrArg Prod.fst hG.k214) ?_
        refine Go.to (fun r G' D12 hr => ?_) h
        obtain ⟨rfl, z13, rfl, h⟩ := hr
        show Go E (d + 1) kc ks mX12_reads 189 [some (vR 214), some (vI x1), none] [vI z13, vI x1, vR 227] G D12 Q
        refine g_iast dX12_reads_189 hG.k227 (by decide) (hG.lt (by decide)) (by decide) ⟨h.1, ?_⟩
        generalize hD_D14 : up2 D12 227 x1 z13 = D14
        replace h := h.2 _ hD_D14.symm
        exact g_vret dX12_reads_190 rfl h
      · replace h := h.2 hc
        refine g_iconst dX12_reads_181 ?_
        refine g_goto 189 dX12_reads_182 (by decide) ?_
        refine g_iast dX12_reads_189 hG.k227 (by decide) (hG.lt (by decide)) (by decide) ⟨h.1, ?_⟩
        generalize hD_D15 : up2 D10 227 x1 0 = D15
        replace h := h.2 _ hD_D15.symm
        exact g_vret dX12_reads_190 rfl h
set_option maxRecDepth 20000 in
theorem w_X12_law {E : mmE} {d kc ks : Nat} {G : mmG} {D : mmD} {Q : mmQ} (hG : Sh G)  (h : ((¬ iv (D 214 3) = iv 12 → (∀ D1 : mmD, D1 = up2 D 214 31 (D 214 7) → (∀ D2 : mmD, D2 = up2 D1 214 7 0 → (∀ D3 : mmD, D3 = up2 D2 214 30 0 → (∀ D4 : mmD, D4 = up2 D3 214 32 0 → Call E d 0 0 mX12_reads [vR 214, vI (6 * (D4 214 3))] G D4 (retV G (fun D5 => Go E (d + 1) kc ks mX12_law 51 [some (vR 214), some (vI (0 + 1))] [] G D5 Q))))))) ∧ (iv (D 214 3) = iv 12 → Q (some (vI (-4))) G D))) : Call E (d + 1) kc ks mX12_law [vR 214] G D Q := by
  show Go E (d + 1) kc ks mX12_law 0 [some (vR 214), none] [] G D Q
  refine g_aload_n dX12_law_0 rfl rfl ?_
  refine h_getI (j := 3) dX12_law_1 f_X12_127_11 rfl rfl (by decide) hG.k214 (by decide) (hG.lt (by decide)) ?_
  refine g_bipush dX12_law_4 bp_12 ?_
  refine g_icmp_ne 12 dX12_law_6 (by decide) ⟨fun hc => ?_, fun hc => ?_⟩
  · replace h := h.1 hc
    refine g_aload_n dX12_law_12 rfl rfl ?_
    refine g_aload_n dX12_law_13 rfl rfl ?_
    refine h_getI (j := 7) dX12_law_14 f_X12_140_11 rfl rfl (by decide) hG.k214 (by decide) (hG.lt (by decide)) ?_
    refine h_putI (j := 31) dX12_law_17 f_X12_148_11 (Or.inl (mm_finI (by decide +kernel))) rfl rfl (by decide) hG.k214 (by decide) (hG.lt (by decide)) ?_
    generalize hD_D1 : up2 D 214 31 (D 214 7) = D1
    replace h := h _ hD_D1.symm
    refine g_aload_n dX12_law_20 rfl rfl ?_
    refine g_iconst dX12_law_21 ?_
    refine h_putI (j := 7) dX12_law_22 f_X12_140_11 (Or.inl (mm_finI (by decide +kernel))) rfl rfl (by decide) hG.k214 (by decide) (hG.lt (by decide)) ?_
    generalize hD_D2 : up2 D1 214 7 0 = D2
    replace h := h _ hD_D2.symm
    refine g_aload_n dX12_law_25 rfl rfl ?_
    refine g_iconst dX12_law_26 ?_
    refine h_putI (j := 30) dX12_law_27 f_X12_145_11 (Or.inl (mm_finI (by decide +kernel))) rfl rfl (by decide) hG.k214 (by decide) (hG.lt (by decide)) ?_
    generalize hD_D3 : up2 D2 214 30 0 = D3
    replace h := h _ hD_D3.symm
    refine g_aload_n dX12_law_30 rfl rfl ?_
    refine g_iconst dX12_law_31 ?_
    refine h_putZ (j := 32) dX12_law_32 f_X12_151_11 (Or.inl (mm_finI (by decide +kernel))) rfl rfl (by decide) hG.k214 (by decide) (hG.lt (by decide)) ⟨Or.inl rfl, ?_⟩
    generalize hD_D4 : up2 D3 214 32 0 = D4
    replace h := h _ hD_D4.symm
    refine g_iconst dX12_law_35 ?_
    refine h_istore_n (L' := [some (vR 214), some (vI 0)]) dX12_law_36 rfl (Nat.le_of_ble_eq_true rfl) rfl rfl ?_
    refine g_aload_n dX12_law_37 rfl rfl ?_
    refine g_bipush dX12_law_38 bp_6 ?_
    refine g_aload_n dX12_law_40 rfl rfl ?_
    refine h_getI (j := 3) dX12_law_41 f_X12_127_11 rfl rfl (by decide) hG.k214 (by decide) (hG.lt (by decide)) ?_
    refine g_imul dX12_law_44 ?_
    refine g_callV (kc := kc) (kc' := 0) (ks := ks) (ks' := 0) (as := [vI (6 * (D4 214 3))]) (st := []) (ci := 11) dX12_law_45 cB_X12_reads lk_X12_169 in_X12_reads se_X12_reads (by decide) rfl rfl (Nat.le_of_ble_eq_true rfl) (Nat.le_of_ble_eq_true rfl) (by decide) (hG.lt (by decide)) (congrArg Prod.fst hG.k214) ?_
    refine Go.to (fun r G' D5 hr => ?_) h
    obtain ⟨rfl, rfl, h⟩ := hr
    show Go E (d + 1) kc ks mX12_law 48 [some (vR 214), some (vI 0)] [] G D5 Q
    refine h_iinc (L' := [some (vR 214), some (vI (0 + 1))]) dX12_law_48 (Nat.le_of_ble_eq_true rfl) rfl rfl rfl ?_
    exact Go.drop (by simp only [mm_sub, and_self]) h
  · replace h := h.2 hc
    refine g_bipush dX12_law_9 bp_m4 ?_
    exact g_iret dX12_law_11 rfl h
set_option maxRecDepth 20000 in
theorem w_X12_law_51 {E : mmE} {d kc ks : Nat} {G : mmG} {D : mmD} {Q : mmQ} {x1 : Int} (hG : Sh G)  (h : ((¬ iv (D 214 32) = iv 0 → Go E (d + 1) kc ks mX12_law 102 [some (vR 214), some (vI x1)] [] G D Q) ∧ (iv (D 214 32) = iv 0 → ((iv 6 ≤ iv x1 → Go E (d + 1) kc ks mX12_law 102 [some (vR 214), some (vI x1)] [] G D Q) ∧ (¬ iv 6 ≤ iv x1 → Call E d 0 0 mX12_here [vR 214] G D (retI G (fun z2 D1 => ((¬ iv z2 = iv 44 → Go E (d + 1) kc ks mX12_law 102 [some (vR 214), some (vI x1)] [] G D1 Q) ∧ (iv z2 = iv 44 → (∀ D3 : mmD, D3 = up2 D1 214 30 ((D1 214 30) + 1) → Call E d 0 0 mX12_reads [vR 214, vI ((6 * (D3 214 3)) + x1)] G D3 (retV G (fun D4 => Go E (d + 1) kc ks mX12_law 51 [some (vR 214), some (vI (x1 + 1))] [] G D4 Q)))))))))))) : Go E (d + 1) kc ks mX12_law 51 [some (vR 214), some (vI x1)] [] G D Q := by
  refine g_aload_n dX12_law_51 rfl rfl ?_
  refine h_getI (j := 32) dX12_law_52 f_X12_151_11 rfl rfl (by decide) hG.k214 (by decide) (hG.lt (by decide)) ?_
  refine g_if_ne 102 dX12_law_55 (by decide) ⟨fun hc => ?_, fun hc => ?_⟩
  · replace h := h.1 hc
    exact Go.drop (by simp only [mm_sub, and_self]) h
  · replace h := h.2 hc
    refine g_iload_n dX12_law_58 rfl rfl ?_
    refine g_bipush dX12_law_59 bp_6 ?_
    refine g_icmp_ge 102 dX12_law_61 (by decide) ⟨fun hc => ?_, fun hc => ?_⟩
    · replace h := h.1 hc
      exact Go.drop (by simp only [mm_sub, and_self]) h
    · replace h := h.2 hc
      refine g_aload_n dX12_law_64 rfl rfl ?_
      refine g_callV (kc := kc) (kc' := 0) (ks := ks) (ks' := 0) (as := []) (st := []) (ci := 11) dX12_law_65 cB_X12_here lk_X12_155 in_X12_here se_X12_here (by decide) rfl rfl (Nat.le_of_ble_eq_true rfl) (Nat.le_of_ble_eq_true rfl) (by decide) (hG.lt (by decide)) (congrArg Prod.fst hG.k214) ?_
      refine Go.to (fun r G' D1 hr => ?_) h
      obtain ⟨rfl, z2, rfl, h⟩ := hr
      show Go E (d + 1) kc ks mX12_law 68 [some (vR 214), some (vI x1)] [vI z2] G D1 Q
      refine g_bipush dX12_law_68 bp_44 ?_
      refine g_icmp_ne 102 dX12_law_70 (by decide) ⟨fun hc => ?_, fun hc => ?_⟩
      · replace h := h.1 hc
        exact Go.drop (by simp only [mm_sub, and_self]) h
      · replace h := h.2 hc
        refine g_aload_n dX12_law_73 rfl rfl ?_
        refine g_dup dX12_law_74 (fun _ h9 => by cases h9) ?_
        refine h_getI (j := 30) dX12_law_75 f_X12_145_11 rfl rfl (by decide) hG.k214 (by decide) (hG.lt (by decide)) ?_
        refine g_iconst dX12_law_78 ?_
        refine g_iadd dX12_law_79 ?_
        refine h_putI (j := 30) dX12_law_80 f_X12_145_11 (Or.inl (mm_finI (by decide +kernel))) rfl rfl (by decide) hG.k214 (by decide) (hG.lt (by decide)) ?_
        generalize hD_D3 : up2 D1 214 30 ((D1 214 30) + 1) = D3
        replace h := h _ hD_D3.symm
        refine g_aload_n dX12_law_83 rfl rfl ?_
        refine g_bipush dX12_law_84 bp_6 ?_
        refine g_aload_n dX12_law_86 rfl rfl ?_
        refine h_getI (j := 3) dX12_law_87 f_X12_127_11 rfl rfl (by decide) hG.k214 (by decide) (hG.lt (by decide)) ?_
        refine g_imul dX12_law_90 ?_
        refine g_iload_n dX12_law_91 rfl rfl ?_
        refine g_iadd dX12_law_92 ?_
        refine g_callV (kc := kc) (kc' := 0) (ks := ks) (ks' := 0) (as := [vI ((6 * (D3 214 3)) + x1)]) (st := []) (ci := 11) dX12_law_93 cB_X12_reads lk_X12_169 in_X12_reads se_X12_reads (by decide) rfl rfl (Nat.le_of_ble_eq_true rfl) (Nat.le_of_ble_eq_true rfl) (by decide) (hG.lt (by decide)) (congrArg Prod.fst hG.k214) ?_
        refine Go.to (fun r G' D4 hr => ?_) h
        obtain ⟨rfl, rfl, h⟩ := hr
        show Go E (d + 1) kc ks mX12_law 96 [some (vR 214), some (vI x1)] [] G D4 Q
        refine h_iinc (L' := [some (vR 214), some (vI (x1 + 1))]) dX12_law_96 (Nat.le_of_ble_eq_true rfl) rfl rfl rfl ?_
        refine g_goto 51 dX12_law_99 (by decide) ?_
        exact Go.drop (by simp only [mm_sub, and_self]) h
set_option maxRecDepth 20000 in
theorem w_X12_law_102 {E : mmE} {d kc ks : Nat} {G : mmG} {D : mmD} {Q : mmQ} {x1 : Int} (hG : Sh G)  (h : ((¬ iv (D 214 32) = iv 0 → Q (some (vI ((-10) - (D 214 30)))) G D) ∧ (iv (D 214 32) = iv 0 → ((iv (D 214 30) = iv (D 214 31) → ((0 ≤ (D 214 3) ∧ (D 214 3) < 13) ∧ (∀ D1 : mmD, D1 = up2 D 223 (D 214 3) x1 → (∀ D2 : mmD, D2 = up2 D1 214 3 ((D1 214 3) + 1) → Q (some (vI ((D2 214 3) - 1))) G D2)))) ∧ (¬ iv (D 214 30) = iv (D 214 31) → Q (some (vI ((-10) - (D 214 30)))) G D))))) : Go E (d + 1) kc ks mX12_law 102 [some (vR 214), some (vI x1)] [] G D Q := by
  refine g_aload_n dX12_law_102 rfl rfl ?_
  refine h_getI (j := 32) dX12_law_103 f_X12_151_11 rfl rfl (by decide) hG.k214 (by decide) (hG.lt (by decide)) ?_
  refine g_if_ne 120 dX12_law_106 (by decide) ⟨fun hc => ?_, fun hc => ?_⟩
  · replace h := h.1 hc
    refine g_bipush dX12_law_120 bp_m10 ?_
    refine g_aload_n dX12_law_122 rfl rfl ?_
    refine h_getI (j := 30) dX12_law_123 f_X12_145_11 rfl rfl (by decide) hG.k214 (by decide) (hG.lt (by decide)) ?_
    refine g_isub dX12_law_126 ?_
    exact g_iret dX12_law_127 rfl h
  · replace h := h.2 hc
    refine g_aload_n dX12_law_109 rfl rfl ?_
    refine h_getI (j := 30) dX12_law_110 f_X12_145_11 rfl rfl (by decide) hG.k214 (by decide) (hG.lt (by decide)) ?_
    refine g_aload_n dX12_law_113 rfl rfl ?_
    refine h_getI (j := 31) dX12_law_114 f_X12_148_11 rfl rfl (by decide) hG.k214 (by decide) (hG.lt (by decide)) ?_
    refine g_icmp_eq 128 dX12_law_117 (by decide) ⟨fun hc => ?_, fun hc => ?_⟩
    · replace h := h.1 hc
      refine g_aload_n dX12_law_128 rfl rfl ?_
      refine h_getR (j := 18) dX12_law_129 f_X12_39_11 rfl rfl (by decide) hG.k214 (by decide) (hG.lt (by decide)) hG.r214_18 ?_
      refine g_aload_n dX12_law_132 rfl rfl ?_
      refine h_getI (j := 3) dX12_law_133 f_X12_127_11 rfl rfl (by decide) hG.k214 (by decide) (hG.lt (by decide)) ?_
      refine g_iload_n dX12_law_136 rfl rfl ?_
      refine g_iast dX12_law_137 hG.k223 (by decide) (hG.lt (by decide)) (by decide) ⟨h.1, ?_⟩
      generalize hD_D1 : up2 D 223 (D 214 3) x1 = D1
      replace h := h.2 _ hD_D1.symm
      refine g_aload_n dX12_law_138 rfl rfl ?_
      refine g_dup dX12_law_139 (fun _ h9 => by cases h9) ?_
      refine h_getI (j := 3) dX12_law_140 f_X12_127_11 rfl rfl (by decide) hG.k214 (by decide) (hG.lt (by decide)) ?_
      refine g_iconst dX12_law_143 ?_
      refine g_iadd dX12_law_144 ?_
      refine h_putI (j := 3) dX12_law_145 f_X12_127_11 (Or.inl (mm_finI (by decide +kernel))) rfl rfl (by decide) hG.k214 (by decide) (hG.lt (by decide)) ?_
      generalize hD_D2 : up2 D1 214 3 ((D1 214 3) + 1) = D2
      replace h := h _ hD_D2.symm
      refine g_aload_n dX12_law_148 rfl rfl ?_
      refine h_getI (j := 3) dX12_law_149 f_X12_127_11 rfl rfl (by decide) hG.k214 (by decide) (hG.lt (by decide)) ?_
      refine g_iconst dX12_law_152 ?_
      refine g_isub dX12_law_153 ?_
      exact g_iret dX12_law_154 rfl h
    · replace h := h.2 hc
      refine g_bipush dX12_law_120 bp_m10 ?_
      refine g_aload_n dX12_law_122 rfl rfl ?_
      refine h_getI (j := 30) dX12_law_123 f_X12_145_11 rfl rfl (by decide) hG.k214 (by decide) (hG.lt (by decide)) ?_
      refine g_isub dX12_law_126 ?_
      exact g_iret dX12_law_127 rfl h
set_option maxRecDepth 20000 in
theorem w_X12_isVowel {E : mmE} {d kc ks : Nat} {G : mmG} {D : mmD} {Q : mmQ} {x0 : Int} (hG : Sh G)  (h : ((iv x0 = iv 1 → Q (some (vI 1)) G D) ∧ (¬ iv x0 = iv 1 → ((iv x0 = iv 5 → Q (some (vI 1)) G D) ∧ (¬ iv x0 = iv 5 → ((iv x0 = iv 9 → Q (some (vI 1)) G D) ∧ (¬ iv x0 = iv 9 → ((iv x0 = iv 15 → Q (some (vI 1)) G D) ∧ (¬ iv x0 = iv 15 → ((¬ iv x0 = iv 21 → Q (some (vI 0)) G D) ∧ (iv x0 = iv 21 → Q (some (vI 1)) G D))))))))))) : Call E d kc ks mX12_isVowel [vI x0] G D Q := by
  show Go E d kc ks mX12_isVowel 0 [some (vI x0)] [] G D Q
  refine g_iload_n dX12_isVowel_0 rfl rfl ?_
  refine g_iconst dX12_isVowel_1 ?_
  refine g_icmp_eq 28 dX12_isVowel_2 (by decide) ⟨fun hc => ?_, fun hc => ?_⟩
  · replace h := h.1 hc
    refine g_iconst dX12_isVowel_28 ?_
    refine g_goto 33 dX12_isVowel_29 (by decide) ?_
    exact g_zret dX12_isVowel_33 rfl ⟨Or.inr rfl, h⟩
  · replace h := h.2 hc
    refine g_iload_n dX12_isVowel_5 rfl rfl ?_
    refine g_iconst dX12_isVowel_6 ?_
    refine g_icmp_eq 28 dX12_isVowel_7 (by decide) ⟨fun hc => ?_, fun hc => ?_⟩
    · replace h := h.1 hc
      refine g_iconst dX12_isVowel_28 ?_
      refine g_goto 33 dX12_isVowel_29 (by decide) ?_
      exact g_zret dX12_isVowel_33 rfl ⟨Or.inr rfl, h⟩
    · replace h := h.2 hc
      refine g_iload_n dX12_isVowel_10 rfl rfl ?_
      refine g_bipush dX12_isVowel_11 bp_9 ?_
      refine g_icmp_eq 28 dX12_isVowel_13 (by decide) ⟨fun hc => ?_, fun hc => ?_⟩
      · replace h := h.1 hc
        refine g_iconst dX12_isVowel_28 ?_
        refine g_goto 33 dX12_isVowel_29 (by decide) ?_
        exact g_zret dX12_isVowel_33 rfl ⟨Or.inr rfl, h⟩
      · replace h := h.2 hc
        refine g_iload_n dX12_isVowel_16 rfl rfl ?_
        refine g_bipush dX12_isVowel_17 bp_15 ?_
        refine g_icmp_eq 28 dX12_isVowel_19 (by decide) ⟨fun hc => ?_, fun hc => ?_⟩
        · replace h := h.1 hc
          refine g_iconst dX12_isVowel_28 ?_
          refine g_goto 33 dX12_isVowel_29 (by decide) ?_
          exact g_zret dX12_isVowel_33 rfl ⟨Or.inr rfl, h⟩
        · replace h := h.2 hc
          refine g_iload_n dX12_isVowel_22 rfl rfl ?_
          refine g_bipush dX12_isVowel_23 bp_21 ?_
          refine g_icmp_ne 32 dX12_isVowel_25 (by decide) ⟨fun hc => ?_, fun hc => ?_⟩
          · replace h := h.1 hc
            refine g_iconst dX12_isVowel_32 ?_
            exact g_zret dX12_isVowel_33 rfl ⟨Or.inl rfl, h⟩
          · replace h := h.2 hc
            refine g_iconst dX12_isVowel_28 ?_
            refine g_goto 33 dX12_isVowel_29 (by decide) ?_
            exact g_zret dX12_isVowel_33 rfl ⟨Or.inr rfl, h⟩
set_option maxRecDepth 20000 in
theorem w_X12_isAs {E : mmE} {d kc ks : Nat} {G : mmG} {D : mmD} {Q : mmQ} {x0 x1 : Int} (hG : Sh G)  (h : ((iv x0 = iv x1 → Q (some (vI 1)) G D) ∧ (¬ iv x0 = iv x1 → ((¬ iv x0 = iv 27 → ((¬ iv x0 = iv 28 → Q (some (vI 0)) G D) ∧ (iv x0 = iv 28 → Call E d 0 0 mX12_isVowel [vI x1] G D (retI G (fun z2 D1 => ((¬ iv z2 = iv 0 → Q (some (vI 0)) G D1) ∧ (iv z2 = iv 0 → Q (some (vI 1)) G D1))))))) ∧ (iv x0 = iv 27 → Call E d 0 0 mX12_isVowel [vI x1] G D (retI G (fun z4 D3 => ((¬ iv z4 = iv 0 → Q (some (vI 1)) G D3) ∧ (iv z4 = iv 0 → ((¬ iv x0 = iv 28 → Q (some (vI 0)) G D3) ∧ (iv x0 = iv 28 → Call E d 0 0 mX12_isVowel [vI x1] G D3 (retI G (fun z6 D5 => ((¬ iv z6 = iv 0 → Q (some (vI 0)) G D5) ∧ (iv z6 = iv 0 → Q (some (vI 1)) G D5))))))))))))))) : Call E (d + 1) kc ks mX12_isAs [vI x0, vI x1] G D Q := by
  show Go E (d + 1) kc ks mX12_isAs 0 [some (vI x0), some (vI x1)] [] G D Q
  refine g_iload_n dX12_isAs_0 rfl rfl ?_
  refine g_iload_n dX12_isAs_1 rfl rfl ?_
  refine g_icmp_eq 31 dX12_isAs_2 (by decide) ⟨fun hc => ?_, fun hc => ?_⟩
  · replace h := h.1 hc
    refine g_iconst dX12_isAs_31 ?_
    refine g_goto 36 dX12_isAs_32 (by decide) ?_
    exact g_zret dX12_isAs_36 rfl ⟨Or.inr rfl, h⟩
  · replace h := h.2 hc
    refine g_iload_n dX12_isAs_5 rfl rfl ?_
    refine g_bipush dX12_isAs_6 bp_27 ?_
    refine g_icmp_ne 18 dX12_isAs_8 (by decide) ⟨fun hc => ?_, fun hc => ?_⟩
    · replace h := h.1 hc
      refine g_iload_n dX12_isAs_18 rfl rfl ?_
      refine g_bipush dX12_isAs_19 bp_28 ?_
      refine g_icmp_ne 35 dX12_isAs_21 (by decide) ⟨fun hc => ?_, fun hc => ?_⟩
      · replace h := h.1 hc
        refine g_iconst dX12_isAs_35 ?_
        exact g_zret dX12_isAs_36 rfl ⟨Or.inl rfl, h⟩
      · replace h := h.2 hc
        refine g_iload_n dX12_isAs_24 rfl rfl ?_
        refine g_callS (kc := kc) (kc' := 0) (ks := ks) (ks' := 0) (as := [vI x1]) (st := []) dX12_isAs_25 cB_X12_isVowel lk_X12_172 st_X12_isVowel rfl (Nat.le_of_ble_eq_true rfl) (Nat.le_of_ble_eq_true rfl) ?_
        refine Go.to (fun r G' D1 hr => ?_) h
        obtain ⟨rfl, z2, rfl, h⟩ := hr
        show Go E (d + 1) kc ks mX12_isAs 28 [some (vI x0), some (vI x1)] [vI z2] G D1 Q
        refine g_if_ne 35 dX12_isAs_28 (by decide) ⟨fun hc => ?_, fun hc => ?_⟩
        · replace h := h.1 hc
          refine g_iconst dX12_isAs_35 ?_
          exact g_zret dX12_isAs_36 rfl ⟨Or.inl rfl, h⟩
        · replace h := h.2 hc
          refine g_iconst dX12_isAs_31 ?_
          refine g_goto 36 dX12_isAs_32 (by decide) ?_
          exact g_zret dX12_isAs_36 rfl ⟨Or.inr rfl, h⟩
    · replace h := h.2 hc
      refine g_iload_n dX12_isAs_11 rfl rfl ?_
      refine g_callS (kc := kc) (kc' := 0) (ks := ks) (ks' := 0) (as := [vI x1]) (st := []) dX12_isAs_12 cB_X12_isVowel lk_X12_172 st_X12_isVowel rfl (Nat.le_of_ble_eq_true rfl) (Nat.le_of_ble_eq_true rfl) ?_
      refine Go.to (fun r G' D3 hr => ?_) h
      obtain ⟨rfl, z4, rfl, h⟩ := hr
      show Go E (d + 1) kc ks mX12_isAs 15 [some (vI x0), some (vI x1)] [vI z4] G D3 Q
      refine g_if_ne 31 dX12_isAs_15 (by decide) ⟨fun hc => ?_, fun hc => ?_⟩
      · replace h := h.1 hc
        refine g_iconst dX12_isAs_31 ?_
        refine g_goto 36 dX12_isAs_32 (by decide) ?_
        exact g_zret dX12_isAs_36 rfl ⟨Or.inr rfl, h⟩
      · replace h := h.2 hc
        refine g_iload_n dX12_isAs_18 rfl rfl ?_
        refine g_bipush dX12_isAs_19 bp_28 ?_
        refine g_icmp_ne 35 dX12_isAs_21 (by decide) ⟨fun hc => ?_, fun hc => ?_⟩
        · replace h := h.1 hc
          refine g_iconst dX12_isAs_35 ?_
          exact g_zret dX12_isAs_36 rfl ⟨Or.inl rfl, h⟩
        · replace h := h.2 hc
          refine g_iload_n dX12_isAs_24 rfl rfl ?_
          refine g_callS (kc := kc) (kc' := 0) (ks := ks) (ks' := 0) (as := [vI x1]) (st := []) dX12_isAs_25 cB_X12_isVowel lk_X12_172 st_X12_isVowel rfl (Nat.le_of_ble_eq_true rfl) (Nat.le_of_ble_eq_true rfl) ?_
          refine Go.to (fun r G' D5 hr => ?_) h
          obtain ⟨rfl, z6, rfl, h⟩ := hr
          show Go E (d + 1) kc ks mX12_isAs 28 [some (vI x0), some (vI x1)] [vI z6] G D5 Q
          refine g_if_ne 35 dX12_isAs_28 (by decide) ⟨fun hc => ?_, fun hc => ?_⟩
          · replace h := h.1 hc
            refine g_iconst dX12_isAs_35 ?_
            exact g_zret dX12_isAs_36 rfl ⟨Or.inl rfl, h⟩
          · replace h := h.2 hc
            refine g_iconst dX12_isAs_31 ?_
            refine g_goto 36 dX12_isAs_32 (by decide) ?_
            exact g_zret dX12_isAs_36 rfl ⟨Or.inr rfl, h⟩
set_option maxRecDepth 20000 in
theorem w_X12_stands {E : mmE} {d kc ks : Nat} {G : mmG} {D : mmD} {Q : mmQ} {x1 x2 : Int} (hG : Sh G)  (h : Call E d 0 0 mX12_in [vI x2, vI 0, vI ((D 214 35) - 1)] G D (retI G (fun z2 D1 => ((iv x1 = iv 0 → Q (some (vI 1)) G D1) ∧ (¬ iv x1 = iv 0 → ((¬ iv x1 = iv 29 → ((iv z2 = iv 0 → Q (some (vI 0)) G D1) ∧ (¬ iv z2 = iv 0 → ((0 ≤ x2 ∧ x2 < 8) ∧ Call E d 0 0 mX12_isAs [vI x1, vI (D1 236 x2)] G D1 (retI G (fun z4 D3 => ((iv z4 = iv 0 → Q (some (vI 0)) G D3) ∧ (¬ iv z4 = iv 0 → Q (some (vI 1)) G D3)))))))) ∧ (iv x1 = iv 29 → ((¬ iv z2 = iv 0 → Q (some (vI 0)) G D1) ∧ (iv z2 = iv 0 → Q (some (vI 1)) G D1))))))))) : Call E (d + 1) kc ks mX12_stands [vR 214, vI x1, vI x2] G D Q := by
  show Go E (d + 1) kc ks mX12_stands 0 [some (vR 214), some (vI x1), some (vI x2), none] [] G D Q
  refine g_iload_n dX12_stands_0 rfl rfl ?_
  refine g_iconst dX12_stands_1 ?_
  refine g_aload_n dX12_stands_2 rfl rfl ?_
  refine h_getI (j := 35) dX12_stands_3 f_X12_175_11 rfl rfl (by decide) hG.k214 (by decide) (hG.lt (by decide)) ?_
  refine g_iconst dX12_stands_6 ?_
  refine g_isub dX12_stands_7 ?_
  refine g_callS (kc := kc) (kc' := 0) (ks := ks) (ks' := 0) (as := [vI x2, vI 0, vI ((D 214 35) - 1)]) (st := []) dX12_stands_8 cB_X12_in lk_X12_123 st_X12_in rfl (Nat.le_of_ble_eq_true rfl) (Nat.le_of_ble_eq_true rfl) ?_
  refine Go.to (fun r G' D1 hr => ?_) h
  obtain ⟨rfl, z2, rfl, h⟩ := hr
  show Go E (d + 1) kc ks mX12_stands 11 [some (vR 214), some (vI x1), some (vI x2), none] [vI z2] G D1 Q
  refine h_istore_n (L' := [some (vR 214), some (vI x1), some (vI x2), some (vI z2)]) dX12_stands_11 rfl (Nat.le_of_ble_eq_true rfl) rfl rfl ?_
  refine g_iload_n dX12_stands_12 rfl rfl ?_
  refine g_if_eq 46 dX12_stands_13 (by decide) ⟨fun hc => ?_, fun hc => ?_⟩
  · replace h := h.1 hc
    refine g_iconst dX12_stands_46 ?_
    refine g_goto 51 dX12_stands_47 (by decide) ?_
    exact g_zret dX12_stands_51 rfl ⟨Or.inr rfl, h⟩
  · replace h := h.2 hc
    refine g_iload_n dX12_stands_16 rfl rfl ?_
    refine g_bipush dX12_stands_17 bp_29 ?_
    refine g_icmp_ne 29 dX12_stands_19 (by decide) ⟨fun hc => ?_, fun hc => ?_⟩
    · replace h := h.1 hc
      refine g_iload_n dX12_stands_29 rfl rfl ?_
      refine g_if_eq 50 dX12_stands_30 (by decide) ⟨fun hc => ?_, fun hc => ?_⟩
      · replace h := h.1 hc
        refine g_iconst dX12_stands_50 ?_
        exact g_zret dX12_stands_51 rfl ⟨Or.inl rfl, h⟩
      · replace h := h.2 hc
        refine g_iload_n dX12_stands_33 rfl rfl ?_
        refine g_aload_n dX12_stands_34 rfl rfl ?_
        refine h_getR (j := 34) dX12_stands_35 f_X12_78_11 rfl rfl (by decide) hG.k214 (by decide) (hG.lt (by decide)) hG.r214_34 ?_
        refine g_iload_n dX12_stands_38 rfl rfl ?_
        refine g_iald dX12_stands_39 hG.k236 (by decide) (hG.lt (by decide)) (by decide) ⟨h.1, ?_⟩
        replace h := h.2
        refine g_callS (kc := kc) (kc' := 0) (ks := ks) (ks' := 0) (as := [vI x1, vI (D1 236 x2)]) (st := []) dX12_stands_40 cB_X12_isAs lk_X12_178 st_X12_isAs rfl (Nat.le_of_ble_eq_true rfl) (Nat.le_of_ble_eq_true rfl) ?_
        refine Go.to (fun r G' D3 hr => ?_) h
        obtain ⟨rfl, z4, rfl, h⟩ := hr
        show Go E (d + 1) kc ks mX12_stands 43 [some (vR 214), some (vI x1), some (vI x2), some (vI z2)] [vI z4] G D3 Q
        refine g_if_eq 50 dX12_stands_43 (by decide) ⟨fun hc => ?_, fun hc => ?_⟩
        · replace h := h.1 hc
          refine g_iconst dX12_stands_50 ?_
          exact g_zret dX12_stands_51 rfl ⟨Or.inl rfl, h⟩
        · replace h := h.2 hc
          refine g_iconst dX12_stands_46 ?_
          refine g_goto 51 dX12_stands_47 (by decide) ?_
          exact g_zret dX12_stands_51 rfl ⟨Or.inr rfl, h⟩
    · replace h := h.2 hc
      refine g_iload_n dX12_stands_22 rfl rfl ?_
      refine g_if_ne 50 dX12_stands_23 (by decide) ⟨fun hc => ?_, fun hc => ?_⟩
      · replace h := h.1 hc
        refine g_iconst dX12_stands_50 ?_
        exact g_zret dX12_stands_51 rfl ⟨Or.inl rfl, h⟩
      · replace h := h.2 hc
        refine g_goto 46 dX12_stands_26 (by decide) ?_
        refine g_iconst dX12_stands_46 ?_
        refine g_goto 51 dX12_stands_47 (by decide) ?_
        exact g_zret dX12_stands_51 rfl ⟨Or.inr rfl, h⟩
set_option maxRecDepth 20000 in
theorem w_X12_changeOf {E : mmE} {d kc ks : Nat} {G : mmG} {D : mmD} {Q : mmQ} {x1 x2 : Int} (hG : Sh G)  (h : Go E (d + 1) kc ks mX12_changeOf 5 [some (vR 214), some (vI x1), some (vI x2), some (vI (6 * x1))] [] G D Q) : Call E (d + 1) kc ks mX12_changeOf [vR 214, vI x1, vI x2] G D Q := by
  show Go E (d + 1) kc ks mX12_changeOf 0 [some (vR 214), some (vI x1), some (vI x2), none] [] G D Q
  refine g_bipush dX12_changeOf_0 bp_6 ?_
  refine g_iload_n dX12_changeOf_2 rfl rfl ?_
  refine g_imul dX12_changeOf_3 ?_
  refine h_istore_n (L' := [some (vR 214), some (vI x1), some (vI x2), some (vI (6 * x1))]) dX12_changeOf_4 rfl (Nat.le_of_ble_eq_true rfl) rfl rfl ?_
  exact Go.drop (by simp only [mm_sub, and_self]) h
set_option maxRecDepth 20000 in
theorem w_X12_changeOf_5 {E : mmE} {d kc ks : Nat} {G : mmG} {D : mmD} {Q : mmQ} {x1 x2 x3 : Int} (hG : Sh G)  (h : ((0 ≤ x1 ∧ x1 < 13) ∧ ((iv ((6 * x1) + (D 223 x1)) ≤ iv x3 → Q (some (vI (-1))) G D) ∧ (¬ iv ((6 * x1) + (D 223 x1)) ≤ iv x3 → ((0 ≤ x3 ∧ x3 < 78) ∧ ((0 ≤ x2 ∧ x2 < 8) ∧ Call E d 0 0 mX12_isAs [vI (D 224 x3), vI (D 236 x2)] G D (retI G (fun z2 D1 => ((iv z2 = iv 0 → Go E (d + 1) kc ks mX12_changeOf 5 [some (vR 214), some (vI x1), some (vI x2), some (vI (x3 + 1))] [] G D1 Q) ∧ (¬ iv z2 = iv 0 → ((0 ≤ x3 ∧ x3 < 78) ∧ Call E d 0 0 mX12_stands [vR 214, vI (D1 226 x3), vI (x2 - 1)] G D1 (retI G (fun z4 D3 => ((iv z4 = iv 0 → Go E (d + 1) kc ks mX12_changeOf 5 [some (vR 214), some (vI x1), some (vI x2), some (vI (x3 + 1))] [] G D3 Q) ∧ (¬ iv z4 = iv 0 → ((0 ≤ x3 ∧ x3 < 78) ∧ Call E d 0 0 mX12_stands [vR 214, vI (D3 227 x3), vI (x2 + 1)] G D3 (retI G (fun z6 D5 => ((iv z6 = iv 0 → Go E (d + 1) kc ks mX12_changeOf 5 [some (vR 214), some (vI x1), some (vI x2), some (vI (x3 + 1))] [] G D5 Q) ∧ (¬ iv z6 = iv 0 → Q (some (vI x3)) G D5)))))))))))))))))))) : Go E (d + 1) kc ks mX12_changeOf 5 [some (vR 214), some (vI x1), some (vI x2), some (vI x3)] [] G D Q := by
  refine g_iload_n dX12_changeOf_5 rfl rfl ?_
  refine g_bipush dX12_changeOf_6 bp_6 ?_
  refine g_iload_n dX12_changeOf_8 rfl rfl ?_
  refine g_imul dX12_changeOf_9 ?_
  refine g_aload_n dX12_changeOf_10 rfl rfl ?_
  refine h_getR (j := 18) dX12_changeOf_11 f_X12_39_11 rfl rfl (by decide) hG.k214 (by decide) (hG.lt (by decide)) hG.r214_18 ?_
  refine g_iload_n dX12_changeOf_14 rfl rfl ?_
  refine g_iald dX12_changeOf_15 hG.k223 (by decide) (hG.lt (by decide)) (by decide) ⟨h.1, ?_⟩
  replace h := h.2
  refine g_iadd dX12_changeOf_16 ?_
  refine g_icmp_ge 78 dX12_changeOf_17 (by decide) ⟨fun hc => ?_, fun hc => ?_⟩
  · replace h := h.1 hc
    refine g_iconst dX12_changeOf_78 ?_
    exact g_iret dX12_changeOf_79 rfl h
  · replace h := h.2 hc
    refine g_aload_n dX12_changeOf_20 rfl rfl ?_
    refine h_getR (j := 19) dX12_changeOf_21 f_X12_42_11 rfl rfl (by decide) hG.k214 (by decide) (hG.lt (by decide)) hG.r214_19 ?_
    refine g_iload_n dX12_changeOf_24 rfl rfl ?_
    refine g_iald dX12_changeOf_25 hG.k224 (by decide) (hG.lt (by decide)) (by decide) ⟨h.1, ?_⟩
    replace h := h.2
    refine g_aload_n dX12_changeOf_26 rfl rfl ?_
    refine h_getR (j := 34) dX12_changeOf_27 f_X12_78_11 rfl rfl (by decide) hG.k214 (by decide) (hG.lt (by decide)) hG.r214_34 ?_
    refine g_iload_n dX12_changeOf_30 rfl rfl ?_
    refine g_iald dX12_changeOf_31 hG.k236 (by decide) (hG.lt (by decide)) (by decide) ⟨h.1, ?_⟩
    replace h := h.2
    refine g_callS (kc := kc) (kc' := 0) (ks := ks) (ks' := 0) (as := [vI (D 224 x3), vI (D 236 x2)]) (st := []) dX12_changeOf_32 cB_X12_isAs lk_X12_178 st_X12_isAs rfl (Nat.le_of_ble_eq_true rfl) (Nat.le_of_ble_eq_true rfl) ?_
    refine Go.to (fun r G' D1 hr => ?_) h
    obtain ⟨rfl, z2, rfl, h⟩ := hr
    show Go E (d + 1) kc ks mX12_changeOf 35 [some (vR 214), some (vI x1), some (vI x2), some (vI x3)] [vI z2] G D1 Q
    refine g_if_eq 72 dX12_changeOf_35 (by decide) ⟨fun hc => ?_, fun hc => ?_⟩
    · replace h := h.1 hc
      refine h_iinc (L' := [some (vR 214), some (vI x1), some (vI x2), some (vI (x3 + 1))]) dX12_changeOf_72 (Nat.le_of_ble_eq_true rfl) rfl rfl rfl ?_
      refine g_goto 5 dX12_changeOf_75 (by decide) ?_
      exact Go.drop (by simp only [mm_sub, and_self]) h
    · replace h := h.2 hc
      refine g_aload_n dX12_changeOf_38 rfl rfl ?_
      refine g_aload_n dX12_changeOf_39 rfl rfl ?_
      refine h_getR (j := 21) dX12_changeOf_40 f_X12_48_11 rfl rfl (by decide) hG.k214 (by decide) (hG.lt (by decide)) hG.r214_21 ?_
      refine g_iload_n dX12_changeOf_43 rfl rfl ?_
      refine g_iald dX12_changeOf_44 hG.k226 (by decide) (hG.lt (by decide)) (by decide) ⟨h.1, ?_⟩
      replace h := h.2
      refine g_iload_n dX12_changeOf_45 rfl rfl ?_
      refine g_iconst dX12_changeOf_46 ?_
      refine g_isub dX12_changeOf_47 ?_
      refine g_callV (kc := kc) (kc' := 0) (ks := ks) (ks' := 0) (as := [vI (D1 226 x3), vI (x2 - 1)]) (st := []) (ci := 11) dX12_changeOf_48 cB_X12_stands lk_X12_182 in_X12_stands se_X12_stands (by decide) rfl rfl (Nat.le_of_ble_eq_true rfl) (Nat.le_of_ble_eq_true rfl) (by decide) (hG.lt (by decide)) (congrArg Prod.fst hG.k214) ?_
      refine Go.to (fun r G' D3 hr => ?_) h
      obtain ⟨rfl, z4, rfl, h⟩ := hr
      show Go E (d + 1) kc ks mX12_changeOf 51 [some (vR 214), some (vI x1), some (vI x2), some (vI x3)] [vI z4] G D3 Q
      refine g_if_eq 72 dX12_changeOf_51 (by decide) ⟨fun hc => ?_, fun hc => ?_⟩
      · replace h := h.1 hc
        refine h_iinc (L' := [some (vR 214), some (vI x1), some (vI x2), some (vI (x3 + 1))]) dX12_changeOf_72 (Nat.le_of_ble_eq_true rfl) rfl rfl rfl ?_
        refine g_goto 5 dX12_changeOf_75 (by decide) ?_
        exact Go.drop (by simp only [mm_sub, and_self]) h
      · replace h := h.2 hc
        refine g_aload_n dX12_changeOf_54 rfl rfl ?_
        refine g_aload_n dX12_changeOf_55 rfl rfl ?_
        refine h_getR (j := 22) dX12_changeOf_56 f_X12_51_11 rfl rfl (by decide) hG.k214 (by decide) (hG.lt (by decide)) hG.r214_22 ?_
        refine g_iload_n dX12_changeOf_59 rfl rfl ?_
        refine g_iald dX12_changeOf_60 hG.k227 (by decide) (hG.lt (by decide)) (by decide) ⟨h.1, ?_⟩
        replace h := h.2
        refine g_iload_n dX12_changeOf_61 rfl rfl ?_
        refine g_iconst dX12_changeOf_62 ?_
        refine g_iadd dX12_changeOf_63 ?_
        refine g_callV (kc := kc) (kc' := 0) (ks := ks) (ks' := 0) (as := [vI (D3 227 x3), vI (x2 + 1)]) (st := []) (ci := 11) dX12_changeOf_64 cB_X12_stands lk_X12_182 in_X12_stands se_X12_stands (by decide) rfl rfl (Nat.le_of_ble_eq_true rfl) (Nat.le_of_ble_eq_true rfl) (by decide) (hG.lt (by decide)) (congrArg Prod.fst hG.k214) ?_
        refine Go.to (fun r G' D5 hr => ?_) h
        obtain ⟨rfl, z6, rfl, h⟩ := hr
        show Go E (d + 1) kc ks mX12_changeOf 67 [some (vR 214), some (vI x1), some (vI x2), some (vI x3)] [vI z6] G D5 Q
        refine g_if_eq 72 dX12_changeOf_67 (by decide) ⟨fun hc => ?_, fun hc => ?_⟩
        · replace h := h.1 hc
          refine h_iinc (L' := [some (vR 214), some (vI x1), some (vI x2), some (vI (x3 + 1))]) dX12_changeOf_72 (Nat.le_of_ble_eq_true rfl) rfl rfl rfl ?_
          refine g_goto 5 dX12_changeOf_75 (by decide) ?_
          exact Go.drop (by simp only [mm_sub, and_self]) h
        · replace h := h.2 hc
          refine g_iload_n dX12_changeOf_70 rfl rfl ?_
          exact g_iret dX12_changeOf_71 rfl h
set_option maxRecDepth 20000 in
theorem w_X12_applies {E : mmE} {d kc ks : Nat} {G : mmG} {D : mmD} {Q : mmQ} {x1 : Int} (hG : Sh G)  (h : Go E (d + 1) kc ks mX12_applies 2 [some (vR 214), some (vI x1), some (vI 0), none, none, none] [] G D Q) : Call E (d + 1) kc ks mX12_applies [vR 214, vI x1] G D Q := by
  show Go E (d + 1) kc ks mX12_applies 0 [some (vR 214), some (vI x1), none, none, none, none] [] G D Q
  refine g_iconst dX12_applies_0 ?_
  refine h_istore_n (L' := [some (vR 214), some (vI x1), some (vI 0), none, none, none]) dX12_applies_1 rfl (Nat.le_of_ble_eq_true rfl) rfl rfl ?_
  exact Go.drop (by simp only [mm_sub, and_self]) h
set_option maxRecDepth 20000 in
theorem w_X12_applies_2 {E : mmE} {d kc ks : Nat} {G : mmG} {D : mmD} {Q : mmQ} {x1 x2 : Int} (hG : Sh G)  (h : ((iv (D 214 35) ≤ iv x2 → Go E (d + 1) kc ks mX12_applies 32 [some (vR 214), some (vI x1), some (vI 0), some (vI 0), none, none] [] G D Q) ∧ (¬ iv (D 214 35) ≤ iv x2 → ((0 ≤ x2 ∧ x2 < 8) ∧ ((0 ≤ x2 ∧ x2 < 8) ∧ (∀ D1 : mmD, D1 = up2 D 236 x2 (D 235 x2) → Go E (d + 1) kc ks mX12_applies 2 [some (vR 214), some (vI x1), some (vI (x2 + 1)), none, none, none] [] G D1 Q)))))) : Go E (d + 1) kc ks mX12_applies 2 [some (vR 214), some (vI x1), some (vI x2), none, none, none] [] G D Q := by
  refine g_iload_n dX12_applies_2 rfl rfl ?_
  refine g_aload_n dX12_applies_3 rfl rfl ?_
  refine h_getI (j := 35) dX12_applies_4 f_X12_175_11 rfl rfl (by decide) hG.k214 (by decide) (hG.lt (by decide)) ?_
  refine g_icmp_ge 28 dX12_applies_7 (by decide) ⟨fun hc => ?_, fun hc => ?_⟩
  · replace h := h.1 hc
    refine g_iconst dX12_applies_28 ?_
    refine h_istore_n (L' := [some (vR 214), some (vI x1), some (vI 0), none, none, none]) dX12_applies_29 rfl (Nat.le_of_ble_eq_true rfl) rfl rfl ?_
    refine g_iconst dX12_applies_30 ?_
    refine h_istore_n (L' := [some (vR 214), some (vI x1), some (vI 0), some (vI 0), none, none]) dX12_applies_31 rfl (Nat.le_of_ble_eq_true rfl) rfl rfl ?_
    exact Go.drop (by simp only [mm_sub, and_self]) h
  · replace h := h.2 hc
    refine g_aload_n dX12_applies_10 rfl rfl ?_
    refine h_getR (j := 34) dX12_applies_11 f_X12_78_11 rfl rfl (by decide) hG.k214 (by decide) (hG.lt (by decide)) hG.r214_34 ?_
    refine g_iload_n dX12_applies_14 rfl rfl ?_
    refine g_aload_n dX12_applies_15 rfl rfl ?_
    refine h_getR (j := 33) dX12_applies_16 f_X12_75_11 rfl rfl (by decide) hG.k214 (by decide) (hG.lt (by decide)) hG.r214_33 ?_
    refine g_iload_n dX12_applies_19 rfl rfl ?_
    refine g_iald dX12_applies_20 hG.k235 (by decide) (hG.lt (by decide)) (by decide) ⟨h.1, ?_⟩
    replace h := h.2
    refine g_iast dX12_applies_21 hG.k236 (by decide) (hG.lt (by decide)) (by decide) ⟨h.1, ?_⟩
    generalize hD_D1 : up2 D 236 x2 (D 235 x2) = D1
    replace h := h.2 _ hD_D1.symm
    refine h_iinc (L' := [some (vR 214), some (vI x1), some (vI (x2 + 1)), none, none, none]) dX12_applies_22 (Nat.le_of_ble_eq_true rfl) rfl rfl rfl ?_
    refine g_goto 2 dX12_applies_25 (by decide) ?_
    exact Go.drop (by simp only [mm_sub, and_self]) h
set_option maxRecDepth 20000 in
theorem w_X12_applies_32 {E : mmE} {d kc ks : Nat} {G : mmG} {D : mmD} {Q : mmQ} {x1 x2 x3 : Int} (hG : Sh G)  (h : ((iv (D 214 35) ≤ iv x3 → ((¬ iv x2 = iv 0 → (∀ D1 : mmD, D1 = up2 D 214 35 x2 → Q none G D1)) ∧ (iv x2 = iv 0 → Go E (d + 1) kc ks mX12_applies 100 [some (vR 214), none, none, some (vI 0), none, none] [] G D Q))) ∧ (¬ iv (D 214 35) ≤ iv x3 → Call E d 0 0 mX12_changeOf [vR 214, vI x1, vI x3] G D (retI G (fun z3 D2 => ((¬ iv z3 = iv (-1) → ((0 ≤ z3 ∧ z3 < 78) ∧ ((iv (D2 225 z3) ≤ iv 0 → Go E (d + 1) kc ks mX12_applies 32 [some (vR 214), some (vI x1), some (vI x2), some (vI (x3 + 1)), none, none] [] G D2 Q) ∧ (¬ iv (D2 225 z3) ≤ iv 0 → ((0 ≤ x2 ∧ x2 < 8) ∧ (∀ D4 : mmD, D4 = up2 D2 235 x2 (D2 225 z3) → Go E (d + 1) kc ks mX12_applies 32 [some (vR 214), some (vI x1), some (vI (x2 + 1)), some (vI (x3 + 1)), none, none] [] G D4 Q)))))) ∧ (iv z3 = iv (-1) → ((0 ≤ x3 ∧ x3 < 8) ∧ ((iv (D2 236 x3) ≤ iv 0 → Go E (d + 1) kc ks mX12_applies 32 [some (vR 214), some (vI x1), some (vI x2), some (vI (x3 + 1)), none, none] [] G D2 Q) ∧ (¬ iv (D2 236 x3) ≤ iv 0 → ((0 ≤ x2 ∧ x2 < 8) ∧ (∀ D5 : mmD, D5 = up2 D2 235 x2 (D2 236 x3) → Go E (d + 1) kc ks mX12_applies 32 [some (vR 214), some (vI x1), some (vI (x2 + 1)), some (vI (x3 + 1)), none, none] [] G D5 Q)))))))))))) : Go E (d + 1) kc ks mX12_applies 32 [some (vR 214), some (vI x1), some (vI x2), some (vI x3), none, none] [] G D Q := by
  refine g_iload_n dX12_applies_32 rfl rfl ?_
  refine g_aload_n dX12_applies_33 rfl rfl ?_
  refine h_getI (j := 35) dX12_applies_34 f_X12_175_11 rfl rfl (by decide) hG.k214 (by decide) (hG.lt (by decide)) ?_
  refine g_icmp_ge 94 dX12_applies_37 (by decide) ⟨fun hc => ?_, fun hc => ?_⟩
  · replace h := h.1 hc
    refine g_iload_n dX12_applies_94 rfl rfl ?_
    refine g_if_ne 129 dX12_applies_95 (by decide) ⟨fun hc => ?_, fun hc => ?_⟩
    · replace h := h.1 hc
      refine g_aload_n dX12_applies_129 rfl rfl ?_
      refine g_iload_n dX12_applies_130 rfl rfl ?_
      refine h_putI (j := 35) dX12_applies_131 f_X12_175_11 (Or.inl (mm_finI (by decide +kernel))) rfl rfl (by decide) hG.k214 (by decide) (hG.lt (by decide)) ?_
      generalize hD_D1 : up2 D 214 35 x2 = D1
      replace h := h _ hD_D1.symm
      exact g_vret dX12_applies_134 rfl h
    · replace h := h.2 hc
      refine g_iconst dX12_applies_98 ?_
      refine h_istore_n (L' := [some (vR 214), some (vI x1), some (vI x2), some (vI 0), none, none]) dX12_applies_99 rfl (Nat.le_of_ble_eq_true rfl) rfl rfl ?_
      exact Go.drop (by simp only [mm_sub, and_self]) h
  · replace h := h.2 hc
    refine g_aload_n dX12_applies_40 rfl rfl ?_
    refine g_iload_n dX12_applies_41 rfl rfl ?_
    refine g_iload_n dX12_applies_42 rfl rfl ?_
    refine g_callV (kc := kc) (kc' := 0) (ks := ks) (ks' := 0) (as := [vI x1, vI x3]) (st := []) (ci := 11) dX12_applies_43 cB_X12_changeOf lk_X12_185 in_X12_changeOf se_X12_changeOf (by decide) rfl rfl (Nat.le_of_ble_eq_true rfl) (Nat.le_of_ble_eq_true rfl) (by decide) (hG.lt (by decide)) (congrArg Prod.fst hG.k214) ?_
    refine Go.to (fun r G' D2 hr => ?_) h
    obtain ⟨rfl, z3, rfl, h⟩ := hr
    show Go E (d + 1) kc ks mX12_applies 46 [some (vR 214), some (vI x1), some (vI x2), some (vI x3), none, none] [vI z3] G D2 Q
    refine h_istore (L' := [some (vR 214), some (vI x1), some (vI x2), some (vI x3), some (vI z3), none]) dX12_applies_46 (Nat.le_of_ble_eq_true rfl) rfl rfl ?_
    refine g_iload dX12_applies_48 rfl ?_
    refine g_iconst dX12_applies_50 ?_
    refine g_icmp_ne 63 dX12_applies_51 (by decide) ⟨fun hc => ?_, fun hc => ?_⟩
    · replace h := h.1 hc
      refine g_aload_n dX12_applies_63 rfl rfl ?_
      refine h_getR (j := 20) dX12_applies_64 f_X12_45_11 rfl rfl (by decide) hG.k214 (by decide) (hG.lt (by decide)) hG.r214_20 ?_
      refine g_iload dX12_applies_67 rfl ?_
      refine g_iald dX12_applies_69 hG.k225 (by decide) (hG.lt (by decide)) (by decide) ⟨h.1, ?_⟩
      replace h := h.2
      refine h_istore (L' := [some (vR 214), some (vI x1), some (vI x2), some (vI x3), some (vI z3), some (vI (D2 225 z3))]) dX12_applies_70 (Nat.le_of_ble_eq_true rfl) rfl rfl ?_
      refine g_iload dX12_applies_72 rfl ?_
      refine g_if_le 88 dX12_applies_74 (by decide) ⟨fun hc => ?_, fun hc => ?_⟩
      · replace h := h.1 hc
        refine h_iinc (L' := [some (vR 214), some (vI x1), some (vI x2), some (vI (x3 + 1)), some (vI z3), some (vI (D2 225 z3))]) dX12_applies_88 (Nat.le_of_ble_eq_true rfl) rfl rfl rfl ?_
        refine g_goto 32 dX12_applies_91 (by decide) ?_
        exact Go.drop (by simp only [mm_sub, and_self]) h
      · replace h := h.2 hc
        refine g_aload_n dX12_applies_77 rfl rfl ?_
        refine h_getR (j := 33) dX12_applies_78 f_X12_75_11 rfl rfl (by decide) hG.k214 (by decide) (hG.lt (by decide)) hG.r214_33 ?_
        refine g_iload_n dX12_applies_81 rfl rfl ?_
        refine g_iload dX12_applies_82 rfl ?_
        refine g_iast dX12_applies_84 hG.k235 (by decide) (hG.lt (by decide)) (by decide) ⟨h.1, ?_⟩
        generalize hD_D4 : up2 D2 235 x2 (D2 225 z3) = D4
        replace h := h.2 _ hD_D4.symm
        refine h_iinc (L' := [some (vR 214), some (vI x1), some (vI (x2 + 1)), some (vI x3), some (vI z3), some (vI (D2 225 z3))]) dX12_applies_85 (Nat.le_of_ble_eq_true rfl) rfl rfl rfl ?_
        refine h_iinc (L' := [some (vR 214), some (vI x1), some (vI (x2 + 1)), some (vI (x3 + 1)), some (vI z3), some (vI (D2 225 z3))]) dX12_applies_88 (Nat.le_of_ble_eq_true rfl) rfl rfl rfl ?_
        refine g_goto 32 dX12_applies_91 (by decide) ?_
        exact Go.drop (by simp only [mm_sub, and_self]) h
    · replace h := h.2 hc
      refine g_aload_n dX12_applies_54 rfl rfl ?_
      refine h_getR (j := 34) dX12_applies_55 f_X12_78_11 rfl rfl (by decide) hG.k214 (by decide) (hG.lt (by decide)) hG.r214_34 ?_
      refine g_iload_n dX12_applies_58 rfl rfl ?_
      refine g_iald dX12_applies_59 hG.k236 (by decide) (hG.lt (by decide)) (by decide) ⟨h.1, ?_⟩
      replace h := h.2
      refine g_goto 70 dX12_applies_60 (by decide) ?_
      refine h_istore (L' := [some (vR 214), some (vI x1), some (vI x2), some (vI x3), some (vI z3), some (vI (D2 236 x3))]) dX12_applies_70 (Nat.le_of_ble_eq_true rfl) rfl rfl ?_
      refine g_iload dX12_applies_72 rfl ?_
      refine g_if_le 88 dX12_applies_74 (by decide) ⟨fun hc => ?_, fun hc => ?_⟩
      · replace h := h.1 hc
        refine h_iinc (L' := [some (vR 214), some (vI x1), some (vI x2), some (vI (x3 + 1)), some (vI z3), some (vI (D2 236 x3))]) dX12_applies_88 (Nat.le_of_ble_eq_true rfl) rfl rfl rfl ?_
        refine g_goto 32 dX12_applies_91 (by decide) ?_
        exact Go.drop (by simp only [mm_sub, and_self]) h
      · replace h := h.2 hc
        refine g_aload_n dX12_applies_77 rfl rfl ?_
        refine h_getR (j := 33) dX12_applies_78 f_X12_75_11 rfl rfl (by decide) hG.k214 (by decide) (hG.lt (by decide)) hG.r214_33 ?_
        refine g_iload_n dX12_applies_81 rfl rfl ?_
        refine g_iload dX12_applies_82 rfl ?_
        refine g_iast dX12_applies_84 hG.k235 (by decide) (hG.lt (by decide)) (by decide) ⟨h.1, ?_⟩
        generalize hD_D5 : up2 D2 235 x2 (D2 236 x3) = D5
        replace h := h.2 _ hD_D5.symm
        refine h_iinc (L' := [some (vR 214), some (vI x1), some (vI (x2 + 1)), some (vI x3), some (vI z3), some (vI (D2 236 x3))]) dX12_applies_85 (Nat.le_of_ble_eq_true rfl) rfl rfl rfl ?_
        refine h_iinc (L' := [some (vR 214), some (vI x1), some (vI (x2 + 1)), some (vI (x3 + 1)), some (vI z3), some (vI (D2 236 x3))]) dX12_applies_88 (Nat.le_of_ble_eq_true rfl) rfl rfl rfl ?_
        refine g_goto 32 dX12_applies_91 (by decide) ?_
        exact Go.drop (by simp only [mm_sub, and_self]) h
set_option maxRecDepth 20000 in
theorem w_X12_applies_100 {E : mmE} {d kc ks : Nat} {G : mmG} {D : mmD} {Q : mmQ} {x3 : Int} (hG : Sh G)  (h : ((iv (D 214 35) ≤ iv x3 → Q none G D) ∧ (¬ iv (D 214 35) ≤ iv x3 → ((0 ≤ x3 ∧ x3 < 8) ∧ ((0 ≤ x3 ∧ x3 < 8) ∧ (∀ D1 : mmD, D1 = up2 D 235 x3 (D 236 x3) → Go E (d + 1) kc ks mX12_applies 100 [some (vR 214), none, none, some (vI (x3 + 1)), none, none] [] G D1 Q)))))) : Go E (d + 1) kc ks mX12_applies 100 [some (vR 214), none, none, some (vI x3), none, none] [] G D Q := by
  refine g_iload_n dX12_applies_100 rfl rfl ?_
  refine g_aload_n dX12_applies_101 rfl rfl ?_
  refine h_getI (j := 35) dX12_applies_102 f_X12_175_11 rfl rfl (by decide) hG.k214 (by decide) (hG.lt (by decide)) ?_
  refine g_icmp_ge 126 dX12_applies_105 (by decide) ⟨fun hc => ?_, fun hc => ?_⟩
  · replace h := h.1 hc
    refine g_goto 134 dX12_applies_126 (by decide) ?_
    exact g_vret dX12_applies_134 rfl h
  · replace h := h.2 hc
    refine g_aload_n dX12_applies_108 rfl rfl ?_
    refine h_getR (j := 33) dX12_applies_109 f_X12_75_11 rfl rfl (by decide) hG.k214 (by decide) (hG.lt (by decide)) hG.r214_33 ?_
    refine g_iload_n dX12_applies_112 rfl rfl ?_
    refine g_aload_n dX12_applies_113 rfl rfl ?_
    refine h_getR (j := 34) dX12_applies_114 f_X12_78_11 rfl rfl (by decide) hG.k214 (by decide) (hG.lt (by decide)) hG.r214_34 ?_
    refine g_iload_n dX12_applies_117 rfl rfl ?_
    refine g_iald dX12_applies_118 hG.k236 (by decide) (hG.lt (by decide)) (by decide) ⟨h.1, ?_⟩
    replace h := h.2
    refine g_iast dX12_applies_119 hG.k235 (by decide) (hG.lt (by decide)) (by decide) ⟨h.1, ?_⟩
    generalize hD_D1 : up2 D 235 x3 (D 236 x3) = D1
    replace h := h.2 _ hD_D1.symm
    refine h_iinc (L' := [some (vR 214), none, none, some (vI (x3 + 1)), none, none]) dX12_applies_120 (Nat.le_of_ble_eq_true rfl) rfl rfl rfl ?_
    refine g_goto 100 dX12_applies_123 (by decide) ?_
    exact Go.drop (by simp only [mm_sub, and_self]) h
set_option maxRecDepth 20000 in
theorem w_X12_takes {E : mmE} {d kc ks : Nat} {G : mmG} {D : mmD} {Q : mmQ} {x1 x2 : Int} (hG : Sh G)  (h : ((0 ≤ ((10 * x1) + x2) ∧ ((10 * x1) + x2) < 60) ∧ (∀ D1 : mmD, D1 = up2 D 214 35 (D 216 ((10 * x1) + x2)) → Go E d kc ks mX12_takes 17 [some (vR 214), some (vI x1), some (vI x2), some (vI 0)] [] G D1 Q))) : Call E d kc ks mX12_takes [vR 214, vI x1, vI x2] G D Q := by
  show Go E d kc ks mX12_takes 0 [some (vR 214), some (vI x1), some (vI x2), none] [] G D Q
  refine g_aload_n dX12_takes_0 rfl rfl ?_
  refine g_aload_n dX12_takes_1 rfl rfl ?_
  refine h_getR (j := 11) dX12_takes_2 f_X12_17_11 rfl rfl (by decide) hG.k214 (by decide) (hG.lt (by decide)) hG.r214_11 ?_
  refine g_bipush dX12_takes_5 bp_10 ?_
  refine g_iload_n dX12_takes_7 rfl rfl ?_
  refine g_imul dX12_takes_8 ?_
  refine g_iload_n dX12_takes_9 rfl rfl ?_
  refine g_iadd dX12_takes_10 ?_
  refine g_iald dX12_takes_11 hG.k216 (by decide) (hG.lt (by decide)) (by decide) ⟨h.1, ?_⟩
  replace h := h.2
  refine h_putI (j := 35) dX12_takes_12 f_X12_175_11 (Or.inl (mm_finI (by decide +kernel))) rfl rfl (by decide) hG.k214 (by decide) (hG.lt (by decide)) ?_
  generalize hD_D1 : up2 D 214 35 (D 216 ((10 * x1) + x2)) = D1
  replace h := h _ hD_D1.symm
  refine g_iconst dX12_takes_15 ?_
  refine h_istore_n (L' := [some (vR 214), some (vI x1), some (vI x2), some (vI 0)]) dX12_takes_16 rfl (Nat.le_of_ble_eq_true rfl) rfl rfl ?_
  exact Go.drop (by simp only [mm_sub, and_self]) h
set_option maxRecDepth 20000 in
theorem w_X12_takes_17 {E : mmE} {d kc ks : Nat} {G : mmG} {D : mmD} {Q : mmQ} {x1 x2 x3 : Int} (hG : Sh G)  (h : ((iv (D 214 35) ≤ iv x3 → Q none G D) ∧ (¬ iv (D 214 35) ≤ iv x3 → ((0 ≤ (((80 * x1) + (8 * x2)) + x3) ∧ (((80 * x1) + (8 * x2)) + x3) < 480) ∧ ((0 ≤ x3 ∧ x3 < 8) ∧ (∀ D1 : mmD, D1 = up2 D 235 x3 (D 217 (((80 * x1) + (8 * x2)) + x3)) → Go E d kc ks mX12_takes 17 [some (vR 214), some (vI x1), some (vI x2), some (vI (x3 + 1))] [] G D1 Q)))))) : Go E d kc ks mX12_takes 17 [some (vR 214), some (vI x1), some (vI x2), some (vI x3)] [] G D Q := by
  refine g_iload_n dX12_takes_17 rfl rfl ?_
  refine g_aload_n dX12_takes_18 rfl rfl ?_
  refine h_getI (j := 35) dX12_takes_19 f_X12_175_11 rfl rfl (by decide) hG.k214 (by decide) (hG.lt (by decide)) ?_
  refine g_icmp_ge 53 dX12_takes_22 (by decide) ⟨fun hc => ?_, fun hc => ?_⟩
  · replace h := h.1 hc
    exact g_vret dX12_takes_53 rfl h
  · replace h := h.2 hc
    refine g_aload_n dX12_takes_25 rfl rfl ?_
    refine h_getR (j := 33) dX12_takes_26 f_X12_75_11 rfl rfl (by decide) hG.k214 (by decide) (hG.lt (by decide)) hG.r214_33 ?_
    refine g_iload_n dX12_takes_29 rfl rfl ?_
    refine g_aload_n dX12_takes_30 rfl rfl ?_
    refine h_getR (j := 12) dX12_takes_31 f_X12_20_11 rfl rfl (by decide) hG.k214 (by decide) (hG.lt (by decide)) hG.r214_12 ?_
    refine g_bipush dX12_takes_34 bp_80 ?_
    refine g_iload_n dX12_takes_36 rfl rfl ?_
    refine g_imul dX12_takes_37 ?_
    refine g_bipush dX12_takes_38 bp_8 ?_
    refine g_iload_n dX12_takes_40 rfl rfl ?_
    refine g_imul dX12_takes_41 ?_
    refine g_iadd dX12_takes_42 ?_
    refine g_iload_n dX12_takes_43 rfl rfl ?_
    refine g_iadd dX12_takes_44 ?_
    refine g_iald dX12_takes_45 hG.k217 (by decide) (hG.lt (by decide)) (by decide) ⟨h.1, ?_⟩
    replace h := h.2
    refine g_iast dX12_takes_46 hG.k235 (by decide) (hG.lt (by decide)) (by decide) ⟨h.1, ?_⟩
    generalize hD_D1 : up2 D 235 x3 (D 217 (((80 * x1) + (8 * x2)) + x3)) = D1
    replace h := h.2 _ hD_D1.symm
    refine h_iinc (L' := [some (vR 214), some (vI x1), some (vI x2), some (vI (x3 + 1))]) dX12_takes_47 (Nat.le_of_ble_eq_true rfl) rfl rfl rfl ?_
    refine g_goto 17 dX12_takes_50 (by decide) ?_
    exact Go.drop (by simp only [mm_sub, and_self]) h
set_option maxRecDepth 20000 in
theorem w_X12_isWord {E : mmE} {d kc ks : Nat} {G : mmG} {D : mmD} {Q : mmQ} {x1 x2 : Int} (hG : Sh G)  (h : ((0 ≤ ((10 * x1) + x2) ∧ ((10 * x1) + x2) < 60) ∧ ((¬ iv (D 214 35) = iv (D 216 ((10 * x1) + x2)) → Go E d kc ks mX12_isWord 27 [some (vR 214), some (vI x1), some (vI x2), some (vI 0), some (vI 0)] [] G D Q) ∧ (iv (D 214 35) = iv (D 216 ((10 * x1) + x2)) → Go E d kc ks mX12_isWord 27 [some (vR 214), some (vI x1), some (vI x2), some (vI 1), some (vI 0)] [] G D Q)))) : Call E d kc ks mX12_isWord [vR 214, vI x1, vI x2] G D Q := by
  show Go E d kc ks mX12_isWord 0 [some (vR 214), some (vI x1), some (vI x2), none, none] [] G D Q
  refine g_aload_n dX12_isWord_0 rfl rfl ?_
  refine h_getI (j := 35) dX12_isWord_1 f_X12_175_11 rfl rfl (by decide) hG.k214 (by decide) (hG.lt (by decide)) ?_
  refine g_aload_n dX12_isWord_4 rfl rfl ?_
  refine h_getR (j := 11) dX12_isWord_5 f_X12_17_11 rfl rfl (by decide) hG.k214 (by decide) (hG.lt (by decide)) hG.r214_11 ?_
  refine g_bipush dX12_isWord_8 bp_10 ?_
  refine g_iload_n dX12_isWord_10 rfl rfl ?_
  refine g_imul dX12_isWord_11 ?_
  refine g_iload_n dX12_isWord_12 rfl rfl ?_
  refine g_iadd dX12_isWord_13 ?_
  refine g_iald dX12_isWord_14 hG.k216 (by decide) (hG.lt (by decide)) (by decide) ⟨h.1, ?_⟩
  replace h := h.2
  refine g_icmp_ne 22 dX12_isWord_15 (by decide) ⟨fun hc => ?_, fun hc => ?_⟩
  · replace h := h.1 hc
    refine g_iconst dX12_isWord_22 ?_
    refine h_istore_n (L' := [some (vR 214), some (vI x1), some (vI x2), some (vI 0), none]) dX12_isWord_23 rfl (Nat.le_of_ble_eq_true rfl) rfl rfl ?_
    refine g_iconst dX12_isWord_24 ?_
    refine h_istore (L' := [some (vR 214), some (vI x1), some (vI x2), some (vI 0), some (vI 0)]) dX12_isWord_25 (Nat.le_of_ble_eq_true rfl) rfl rfl ?_
    exact Go.drop (by simp only [mm_sub, and_self]) h
  · replace h := h.2 hc
    refine g_iconst dX12_isWord_18 ?_
    refine g_goto 23 dX12_isWord_19 (by decide) ?_
    refine h_istore_n (L' := [some (vR 214), some (vI x1), some (vI x2), some (vI 1), none]) dX12_isWord_23 rfl (Nat.le_of_ble_eq_true rfl) rfl rfl ?_
    refine g_iconst dX12_isWord_24 ?_
    refine h_istore (L' := [some (vR 214), some (vI x1), some (vI x2), some (vI 1), some (vI 0)]) dX12_isWord_25 (Nat.le_of_ble_eq_true rfl) rfl rfl ?_
    exact Go.drop (by simp only [mm_sub, and_self]) h
set_option maxRecDepth 20000 in
theorem w_X12_isWord_27 {E : mmE} {d kc ks : Nat} {G : mmG} {D : mmD} {Q : mmQ} {x1 x2 x3 x4 : Int} (hG : Sh G)  (h : ((iv (D 214 35) ≤ iv x4 → ((x3 = 0 ∨ x3 = 1) ∧ Q (some (vI x3)) G D)) ∧ (¬ iv (D 214 35) ≤ iv x4 → ((iv x3 = iv 0 → ((x3 = 0 ∨ x3 = 1) ∧ Q (some (vI x3)) G D)) ∧ (¬ iv x3 = iv 0 → ((0 ≤ x4 ∧ x4 < 8) ∧ ((0 ≤ (((80 * x1) + (8 * x2)) + x4) ∧ (((80 * x1) + (8 * x2)) + x4) < 480) ∧ ((¬ iv (D 235 x4) = iv (D 217 (((80 * x1) + (8 * x2)) + x4)) → Go E d kc ks mX12_isWord 27 [some (vR 214), some (vI x1), some (vI x2), some (vI 0), some (vI (x4 + 1))] [] G D Q) ∧ (iv (D 235 x4) = iv (D 217 (((80 * x1) + (8 * x2)) + x4)) → Go E d kc ks mX12_isWord 27 [some (vR 214), some (vI x1), some (vI x2), some (vI 1), some (vI (x4 + 1))] [] G D Q))))))))) : Go E d kc ks mX12_isWord 27 [some (vR 214), some (vI x1), some (vI x2), some (vI x3), some (vI x4)] [] G D Q := by
  refine g_iload dX12_isWord_27 rfl ?_
  refine g_aload_n dX12_isWord_29 rfl rfl ?_
  refine h_getI (j := 35) dX12_isWord_30 f_X12_175_11 rfl rfl (by decide) hG.k214 (by decide) (hG.lt (by decide)) ?_
  refine g_icmp_ge 79 dX12_isWord_33 (by decide) ⟨fun hc => ?_, fun hc => ?_⟩
  · replace h := h.1 hc
    refine g_iload_n dX12_isWord_79 rfl rfl ?_
    exact g_zret dX12_isWord_80 rfl h
  · replace h := h.2 hc
    refine g_iload_n dX12_isWord_36 rfl rfl ?_
    refine g_if_eq 79 dX12_isWord_37 (by decide) ⟨fun hc => ?_, fun hc => ?_⟩
    · replace h := h.1 hc
      refine g_iload_n dX12_isWord_79 rfl rfl ?_
      exact g_zret dX12_isWord_80 rfl h
    · replace h := h.2 hc
      refine g_aload_n dX12_isWord_40 rfl rfl ?_
      refine h_getR (j := 33) dX12_isWord_41 f_X12_75_11 rfl rfl (by decide) hG.k214 (by decide) (hG.lt (by decide)) hG.r214_33 ?_
      refine g_iload dX12_isWord_44 rfl ?_
      refine g_iald dX12_isWord_46 hG.k235 (by decide) (hG.lt (by decide)) (by decide) ⟨h.1, ?_⟩
      replace h := h.2
      refine g_aload_n dX12_isWord_47 rfl rfl ?_
      refine h_getR (j := 12) dX12_isWord_48 f_X12_20_11 rfl rfl (by decide) hG.k214 (by decide) (hG.lt (by decide)) hG.r214_12 ?_
      refine g_bipush dX12_isWord_51 bp_80 ?_
      refine g_iload_n dX12_isWord_53 rfl rfl ?_
      refine g_imul dX12_isWord_54 ?_
      refine g_bipush dX12_isWord_55 bp_8 ?_
      refine g_iload_n dX12_isWord_57 rfl rfl ?_
      refine g_imul dX12_isWord_58 ?_
      refine g_iadd dX12_isWord_59 ?_
      refine g_iload dX12_isWord_60 rfl ?_
      refine g_iadd dX12_isWord_62 ?_
      refine g_iald dX12_isWord_63 hG.k217 (by decide) (hG.lt (by decide)) (by decide) ⟨h.1, ?_⟩
      replace h := h.2
      refine g_icmp_ne 71 dX12_isWord_64 (by decide) ⟨fun hc => ?_, fun hc => ?_⟩
      · replace h := h.1 hc
        refine g_iconst dX12_isWord_71 ?_
        refine h_istore_n (L' := [some (vR 214), some (vI x1), some (vI x2), some (vI 0), some (vI x4)]) dX12_isWord_72 rfl (Nat.le_of_ble_eq_true rfl) rfl rfl ?_
        refine h_iinc (L' := [some (vR 214), some (vI x1), some (vI x2), some (vI 0), some (vI (x4 + 1))]) dX12_isWord_73 (Nat.le_of_ble_eq_true rfl) rfl rfl rfl ?_
        refine g_goto 27 dX12_isWord_76 (by decide) ?_
        exact Go.drop (by simp only [mm_sub, and_self]) h
      · replace h := h.2 hc
        refine g_iconst dX12_isWord_67 ?_
        refine g_goto 72 dX12_isWord_68 (by decide) ?_
        refine h_istore_n (L' := [some (vR 214), some (vI x1), some (vI x2), some (vI 1), some (vI x4)]) dX12_isWord_72 rfl (Nat.le_of_ble_eq_true rfl) rfl rfl ?_
        refine h_iinc (L' := [some (vR 214), some (vI x1), some (vI x2), some (vI 1), some (vI (x4 + 1))]) dX12_isWord_73 (Nat.le_of_ble_eq_true rfl) rfl rfl rfl ?_
        refine g_goto 27 dX12_isWord_76 (by decide) ?_
        exact Go.drop (by simp only [mm_sub, and_self]) h
set_option maxRecDepth 20000 in
theorem w_X12_puts {E : mmE} {d kc ks : Nat} {G : mmG} {D : mmD} {Q : mmQ} {x1 x2 : Int} (hG : Sh G)  (h : ((0 ≤ ((10 * x1) + x2) ∧ ((10 * x1) + x2) < 60) ∧ (∀ D1 : mmD, D1 = up2 D 216 ((10 * x1) + x2) (D 214 35) → Go E d kc ks mX12_puts 17 [some (vR 214), some (vI x1), some (vI x2), some (vI 0)] [] G D1 Q))) : Call E d kc ks mX12_puts [vR 214, vI x1, vI x2] G D Q := by
  show Go E d kc ks mX12_puts 0 [some (vR 214), some (vI x1), some (vI x2), none] [] G D Q
  refine g_aload_n dX12_puts_0 rfl rfl ?_
  refine h_getR (j := 11) dX12_puts_1 f_X12_17_11 rfl rfl (by decide) hG.k214 (by decide) (hG.lt (by decide)) hG.r214_11 ?_
  refine g_bipush dX12_puts_4 bp_10 ?_
  refine g_iload_n dX12_puts_6 rfl rfl ?_
  refine g_imul dX12_puts_7 ?_
  refine g_iload_n dX12_puts_8 rfl rfl ?_
  refine g_iadd dX12_puts_9 ?_
  refine g_aload_n dX12_puts_10 rfl rfl ?_
  refine h_getI (j := 35) dX12_puts_11 f_X12_175_11 rfl rfl (by decide) hG.k214 (by decide) (hG.lt (by decide)) ?_
  refine g_iast dX12_puts_14 hG.k216 (by decide) (hG.lt (by decide)) (by decide) ⟨h.1, ?_⟩
  generalize hD_D1 : up2 D 216 ((10 * x1) + x2) (D 214 35) = D1
  replace h := h.2 _ hD_D1.symm
  refine g_iconst dX12_puts_15 ?_
  refine h_istore_n (L' := [some (vR 214), some (vI x1), some (vI x2), some (vI 0)]) dX12_puts_16 rfl (Nat.le_of_ble_eq_true rfl) rfl rfl ?_
  exact Go.drop (by simp only [mm_sub, and_self]) h
set_option maxRecDepth 20000 in
theorem w_X12_puts_17 {E : mmE} {d kc ks : Nat} {G : mmG} {D : mmD} {Q : mmQ} {x1 x2 x3 : Int} (hG : Sh G)  (h : ((iv (D 214 35) ≤ iv x3 → Q none G D) ∧ (¬ iv (D 214 35) ≤ iv x3 → ((0 ≤ x3 ∧ x3 < 8) ∧ ((0 ≤ (((80 * x1) + (8 * x2)) + x3) ∧ (((80 * x1) + (8 * x2)) + x3) < 480) ∧ (∀ D1 : mmD, D1 = up2 D 217 (((80 * x1) + (8 * x2)) + x3) (D 235 x3) → Go E d kc ks mX12_puts 17 [some (vR 214), some (vI x1), some (vI x2), some (vI (x3 + 1))] [] G D1 Q)))))) : Go E d kc ks mX12_puts 17 [some (vR 214), some (vI x1), some (vI x2), some (vI x3)] [] G D Q := by
  refine g_iload_n dX12_puts_17 rfl rfl ?_
  refine g_aload_n dX12_puts_18 rfl rfl ?_
  refine h_getI (j := 35) dX12_puts_19 f_X12_175_11 rfl rfl (by decide) hG.k214 (by decide) (hG.lt (by decide)) ?_
  refine g_icmp_ge 53 dX12_puts_22 (by decide) ⟨fun hc => ?_, fun hc => ?_⟩
  · replace h := h.1 hc
    exact g_vret dX12_puts_53 rfl h
  · replace h := h.2 hc
    refine g_aload_n dX12_puts_25 rfl rfl ?_
    refine h_getR (j := 12) dX12_puts_26 f_X12_20_11 rfl rfl (by decide) hG.k214 (by decide) (hG.lt (by decide)) hG.r214_12 ?_
    refine g_bipush dX12_puts_29 bp_80 ?_
    refine g_iload_n dX12_puts_31 rfl rfl ?_
    refine g_imul dX12_puts_32 ?_
    refine g_bipush dX12_puts_33 bp_8 ?_
    refine g_iload_n dX12_puts_35 rfl rfl ?_
    refine g_imul dX12_puts_36 ?_
    refine g_iadd dX12_puts_37 ?_
    refine g_iload_n dX12_puts_38 rfl rfl ?_
    refine g_iadd dX12_puts_39 ?_
    refine g_aload_n dX12_puts_40 rfl rfl ?_
    refine h_getR (j := 33) dX12_puts_41 f_X12_75_11 rfl rfl (by decide) hG.k214 (by decide) (hG.lt (by decide)) hG.r214_33 ?_
    refine g_iload_n dX12_puts_44 rfl rfl ?_
    refine g_iald dX12_puts_45 hG.k235 (by decide) (hG.lt (by decide)) (by decide) ⟨h.1, ?_⟩
    replace h := h.2
    refine g_iast dX12_puts_46 hG.k217 (by decide) (hG.lt (by decide)) (by decide) ⟨h.1, ?_⟩
    generalize hD_D1 : up2 D 217 (((80 * x1) + (8 * x2)) + x3) (D 235 x3) = D1
    replace h := h.2 _ hD_D1.symm
    refine h_iinc (L' := [some (vR 214), some (vI x1), some (vI x2), some (vI (x3 + 1))]) dX12_puts_47 (Nat.le_of_ble_eq_true rfl) rfl rfl rfl ?_
    refine g_goto 17 dX12_puts_50 (by decide) ?_
    exact Go.drop (by simp only [mm_sub, and_self]) h
set_option maxRecDepth 20000 in
theorem w_X12_happens {E : mmE} {d kc ks : Nat} {G : mmG} {D : mmD} {Q : mmQ} {x1 x2 x3 x4 : Int} (hG : Sh G)  (h : ((0 ≤ (D 214 4) ∧ (D 214 4) < 80) ∧ (∀ D1 : mmD, D1 = up2 D 228 (D 214 4) x1 → ((0 ≤ (D1 214 4) ∧ (D1 214 4) < 80) ∧ (∀ D2 : mmD, D2 = up2 D1 229 (D1 214 4) (D1 214 2) → ((0 ≤ (D2 214 4) ∧ (D2 214 4) < 80) ∧ (∀ D3 : mmD, D3 = up2 D2 230 (D2 214 4) x2 → ((0 ≤ (D3 214 4) ∧ (D3 214 4) < 80) ∧ (∀ D4 : mmD, D4 = up2 D3 231 (D3 214 4) x3 → ((0 ≤ (D4 214 4) ∧ (D4 214 4) < 80) ∧ (∀ D5 : mmD, D5 = up2 D4 232 (D4 214 4) x4 → (∀ D6 : mmD, D6 = up2 D5 214 4 ((D5 214 4) + 1) → Q none G D6)))))))))))) : Call E d kc ks mX12_happens [vR 214, vI x1, vI x2, vI x3, vI x4] G D Q := by
  show Go E d kc ks mX12_happens 0 [some (vR 214), some (vI x1), some (vI x2), some (vI x3), some (vI x4)] [] G D Q
  refine g_aload_n dX12_happens_0 rfl rfl ?_
  refine h_getR (j := 23) dX12_happens_1 f_X12_54_11 rfl rfl (by decide) hG.k214 (by decide) (hG.lt (by decide)) hG.r214_23 ?_
  refine g_aload_n dX12_happens_4 rfl rfl ?_
  refine h_getI (j := 4) dX12_happens_5 f_X12_189_11 rfl rfl (by decide) hG.k214 (by decide) (hG.lt (by decide)) ?_
  refine g_iload_n dX12_happens_8 rfl rfl ?_
  refine g_iast dX12_happens_9 hG.k228 (by decide) (hG.lt (by decide)) (by decide) ⟨h.1, ?_⟩
  generalize hD_D1 : up2 D 228 (D 214 4) x1 = D1
  replace h := h.2 _ hD_D1.symm
  refine g_aload_n dX12_happens_10 rfl rfl ?_
  refine h_getR (j := 24) dX12_happens_11 f_X12_57_11 rfl rfl (by decide) hG.k214 (by decide) (hG.lt (by decide)) hG.r214_24 ?_
  refine g_aload_n dX12_happens_14 rfl rfl ?_
  refine h_getI (j := 4) dX12_happens_15 f_X12_189_11 rfl rfl (by decide) hG.k214 (by decide) (hG.lt (by decide)) ?_
  refine g_aload_n dX12_happens_18 rfl rfl ?_
  refine h_getI (j := 2) dX12_happens_19 f_X12_137_11 rfl rfl (by decide) hG.k214 (by decide) (hG.lt (by decide)) ?_
  refine g_iast dX12_happens_22 hG.k229 (by decide) (hG.lt (by decide)) (by decide) ⟨h.1, ?_⟩
  generalize hD_D2 : up2 D1 229 (D1 214 4) (D1 214 2) = D2
  replace h := h.2 _ hD_D2.symm
  refine g_aload_n dX12_happens_23 rfl rfl ?_
  refine h_getR (j := 25) dX12_happens_24 f_X12_60_11 rfl rfl (by decide) hG.k214 (by decide) (hG.lt (by decide)) hG.r214_25 ?_
  refine g_aload_n dX12_happens_27 rfl rfl ?_
  refine h_getI (j := 4) dX12_happens_28 f_X12_189_11 rfl rfl (by decide) hG.k214 (by decide) (hG.lt (by decide)) ?_
  refine g_iload_n dX12_happens_31 rfl rfl ?_
  refine g_iast dX12_happens_32 hG.k230 (by decide) (hG.lt (by decide)) (by decide) ⟨h.1, ?_⟩
  generalize hD_D3 : up2 D2 230 (D2 214 4) x2 = D3
  replace h := h.2 _ hD_D3.symm
  refine g_aload_n dX12_happens_33 rfl rfl ?_
  refine h_getR (j := 26) dX12_happens_34 f_X12_63_11 rfl rfl (by decide) hG.k214 (by decide) (hG.lt (by decide)) hG.r214_26 ?_
  refine g_aload_n dX12_happens_37 rfl rfl ?_
  refine h_getI (j := 4) dX12_happens_38 f_X12_189_11 rfl rfl (by decide) hG.k214 (by decide) (hG.lt (by decide)) ?_
  refine g_iload_n dX12_happens_41 rfl rfl ?_
  refine g_iast dX12_happens_42 hG.k231 (by decide) (hG.lt (by decide)) (by decide) ⟨h.1, ?_⟩
  generalize hD_D4 : up2 D3 231 (D3 214 4) x3 = D4
  replace h := h.2 _ hD_D4.symm
  refine g_aload_n dX12_happens_43 rfl rfl ?_
  refine h_getR (j := 27) dX12_happens_44 f_X12_66_11 rfl rfl (by decide) hG.k214 (by decide) (hG.lt (by decide)) hG.r214_27 ?_
  refine g_aload_n dX12_happens_47 rfl rfl ?_
  refine h_getI (j := 4) dX12_happens_48 f_X12_189_11 rfl rfl (by decide) hG.k214 (by decide) (hG.lt (by decide)) ?_
  refine g_iload dX12_happens_51 rfl ?_
  refine g_iast dX12_happens_53 hG.k232 (by decide) (hG.lt (by decide)) (by decide) ⟨h.1, ?_⟩
  generalize hD_D5 : up2 D4 232 (D4 214 4) x4 = D5
  replace h := h.2 _ hD_D5.symm
  refine g_aload_n dX12_happens_54 rfl rfl ?_
  refine g_dup dX12_happens_55 (fun _ h9 => by cases h9) ?_
  refine h_getI (j := 4) dX12_happens_56 f_X12_189_11 rfl rfl (by decide) hG.k214 (by decide) (hG.lt (by decide)) ?_
  refine g_iconst dX12_happens_59 ?_
  refine g_iadd dX12_happens_60 ?_
  refine h_putI (j := 4) dX12_happens_61 f_X12_189_11 (Or.inl (mm_finI (by decide +kernel))) rfl rfl (by decide) hG.k214 (by decide) (hG.lt (by decide)) ?_
  generalize hD_D6 : up2 D5 214 4 ((D5 214 4) + 1) = D6
  replace h := h _ hD_D6.symm
  exact g_vret dX12_happens_64 rfl h
set_option maxRecDepth 20000 in
theorem w_X12_coin {E : mmE} {d kc ks : Nat} {G : mmG} {D : mmD} {Q : mmQ} {x1 x2 : Int} (hG : Sh G)  (h : Call E d 0 0 mX12_isTongue [vR 214, vI x1] G D (retI G (fun z2 D1 => ((iv z2 = iv 0 → Q (some (vI (-1))) G D1) ∧ (¬ iv z2 = iv 0 → Call E d 0 0 mX12_isMeaning [vI x2] G D1 (retI G (fun z4 D3 => ((¬ iv z4 = iv 0 → ((¬ iv (D3 214 4) = iv 80 → (∀ D5 : mmD, D5 = up2 D3 214 7 0 → Go E (d + 1) kc ks mX12_coin 42 [some (vR 214), some (vI x1), some (vI x2), some (vI (D3 214 7)), some (vI 0)] [] G D5 Q)) ∧ (iv (D3 214 4) = iv 80 → Q (some (vI (-4))) G D3))) ∧ (iv z4 = iv 0 → Q (some (vI (-1))) G D3))))))))) : Call E (d + 1) kc ks mX12_coin [vR 214, vI x1, vI x2] G D Q := by
  show Go E (d + 1) kc ks mX12_coin 0 [some (vR 214), some (vI x1), some (vI x2), none, none] [] G D Q
  refine g_aload_n dX12_coin_0 rfl rfl ?_
  refine g_iload_n dX12_coin_1 rfl rfl ?_
  refine g_callV (kc := kc) (kc' := 0) (ks := ks) (ks' := 0) (as := [vI x1]) (st := []) (ci := 11) dX12_coin_2 cB_X12_isTongue lk_X12_130 in_X12_isTongue se_X12_isTongue (by decide) rfl rfl (Nat.le_of_ble_eq_true rfl) (Nat.le_of_ble_eq_true rfl) (by decide) (hG.lt (by decide)) (congrArg Prod.fst hG.k214) ?_
  refine Go.to (fun r G' D1 hr => ?_) h
  obtain ⟨rfl, z2, rfl, h⟩ := hr
  show Go E (d + 1) kc ks mX12_coin 5 [some (vR 214), some (vI x1), some (vI x2), none, none] [vI z2] G D1 Q
  refine g_if_eq 15 dX12_coin_5 (by decide) ⟨fun hc => ?_, fun hc => ?_⟩
  · replace h := h.1 hc
    refine g_iconst dX12_coin_15 ?_
    exact g_iret dX12_coin_16 rfl h
  · replace h := h.2 hc
    refine g_iload_n dX12_coin_8 rfl rfl ?_
    refine g_callS (kc := kc) (kc' := 0) (ks := ks) (ks' := 0) (as := [vI x2]) (st := []) dX12_coin_9 cB_X12_isMeaning lk_X12_134 st_X12_isMeaning rfl (Nat.le_of_ble_eq_true rfl) (Nat.le_of_ble_eq_true rfl) ?_
    refine Go.to (fun r G' D3 hr => ?_) h
    obtain ⟨rfl, z4, rfl, h⟩ := hr
    show Go E (d + 1) kc ks mX12_coin 12 [some (vR 214), some (vI x1), some (vI x2), none, none] [vI z4] G D3 Q
    refine g_if_ne 17 dX12_coin_12 (by decide) ⟨fun hc => ?_, fun hc => ?_⟩
    · replace h := h.1 hc
      refine g_aload_n dX12_coin_17 rfl rfl ?_
      refine h_getI (j := 4) dX12_coin_18 f_X12_189_11 rfl rfl (by decide) hG.k214 (by decide) (hG.lt (by decide)) ?_
      refine g_bipush dX12_coin_21 bp_80 ?_
      refine g_icmp_ne 29 dX12_coin_23 (by decide) ⟨fun hc => ?_, fun hc => ?_⟩
      · replace h := h.1 hc
        refine g_aload_n dX12_coin_29 rfl rfl ?_
        refine h_getI (j := 7) dX12_coin_30 f_X12_140_11 rfl rfl (by decide) hG.k214 (by decide) (hG.lt (by decide)) ?_
        refine h_istore_n (L' := [some (vR 214), some (vI x1), some (vI x2), some (vI (D3 214 7)), none]) dX12_coin_33 rfl (Nat.le_of_ble_eq_true rfl) rfl rfl ?_
        refine g_aload_n dX12_coin_34 rfl rfl ?_
        refine g_iconst dX12_coin_35 ?_
        refine h_putI (j := 7) dX12_coin_36 f_X12_140_11 (Or.inl (mm_finI (by decide +kernel))) rfl rfl (by decide) hG.k214 (by decide) (hG.lt (by decide)) ?_
        generalize hD_D5 : up2 D3 214 7 0 = D5
        replace h := h _ hD_D5.symm
        refine g_iconst dX12_coin_39 ?_
        refine h_istore (L' := [some (vR 214), some (vI x1), some (vI x2), some (vI (D3 214 7)), some (vI 0)]) dX12_coin_40 (Nat.le_of_ble_eq_true rfl) rfl rfl ?_
        exact Go.drop (by simp only [mm_sub, and_self]) h
      · replace h := h.2 hc
        refine g_bipush dX12_coin_26 bp_m4 ?_
        exact g_iret dX12_coin_28 rfl h
    · replace h := h.2 hc
      refine g_iconst dX12_coin_15 ?_
      exact g_iret dX12_coin_16 rfl h
set_option maxRecDepth 20000 in
theorem w_X12_coin_42 {E : mmE} {d kc ks : Nat} {G : mmG} {D : mmD} {Q : mmQ} {x1 x2 x3 x4 : Int} (hG : Sh G)  (h : ((iv x3 ≤ iv x4 → ((¬ iv x3 = iv 0 → (∀ D1 : mmD, D1 = up2 D 214 35 x3 → Call E d 0 0 mX12_puts [vR 214, vI x1, vI x2] G D1 (retV G (fun D2 => ((0 ≤ ((10 * x1) + x2) ∧ ((10 * x1) + x2) < 60) ∧ (∀ D4 : mmD, D4 = up2 D2 218 ((10 * x1) + x2) (D2 214 5) → ((0 ≤ ((10 * x1) + x2) ∧ ((10 * x1) + x2) < 60) ∧ (∀ D5 : mmD, D5 = up2 D4 219 ((10 * x1) + x2) 0 → (∀ D6 : mmD, D6 = up2 D5 214 5 ((D5 214 5) + 1) → Call E d 0 0 mX12_happens [vR 214, vI 6, vI x1, vI (-5), vI x2] G D6 (retV G (fun D7 => Q (some (vI ((D7 214 5) - 1))) G D7))))))))))) ∧ (iv x3 = iv 0 → Q (some (vI (-10))) G D))) ∧ (¬ iv x3 ≤ iv x4 → ((iv x4 = iv 8 → Q (some (vI ((-10) - x4))) G D) ∧ (¬ iv x4 = iv 8 → ((0 ≤ x4 ∧ x4 < 80) ∧ Call E d 0 0 mX12_in [vI (D 215 x4), vI 97, vI 122] G D (retI G (fun z10 D9 => ((¬ iv z10 = iv 0 → ((0 ≤ x4 ∧ x4 < 80) ∧ ((0 ≤ x4 ∧ x4 < 8) ∧ (∀ D11 : mmD, D11 = up2 D9 235 x4 ((D9 215 x4) - 96) → Go E (d + 1) kc ks mX12_coin 42 [some (vR 214), some (vI x1), some (vI x2), some (vI x3), some (vI (x4 + 1))] [] G D11 Q)))) ∧ (iv z10 = iv 0 → Q (some (vI ((-10) - x4))) G D9)))))))))) : Go E (d + 1) kc ks mX12_coin 42 [some (vR 214), some (vI x1), some (vI x2), some (vI x3), some (vI x4)] [] G D Q := by
  refine g_iload dX12_coin_42 rfl ?_
  refine g_iload_n dX12_coin_44 rfl rfl ?_
  refine g_icmp_ge 101 dX12_coin_45 (by decide) ⟨fun hc => ?_, fun hc => ?_⟩
  · replace h := h.1 hc
    refine g_iload_n dX12_coin_101 rfl rfl ?_
    refine g_if_ne 108 dX12_coin_102 (by decide) ⟨fun hc => ?_, fun hc => ?_⟩
    · replace h := h.1 hc
      refine g_aload_n dX12_coin_108 rfl rfl ?_
      refine g_iload_n dX12_coin_109 rfl rfl ?_
      refine h_putI (j := 35) dX12_coin_110 f_X12_175_11 (Or.inl (mm_finI (by decide +kernel))) rfl rfl (by decide) hG.k214 (by decide) (hG.lt (by decide)) ?_
      generalize hD_D1 : up2 D 214 35 x3 = D1
      replace h := h _ hD_D1.symm
      refine g_aload_n dX12_coin_113 rfl rfl ?_
      refine g_iload_n dX12_coin_114 rfl rfl ?_
      refine g_iload_n dX12_coin_115 rfl rfl ?_
      refine g_callV (kc := kc) (kc' := 0) (ks := ks) (ks' := 0) (as := [vI x1, vI x2]) (st := []) (ci := 11) dX12_coin_116 cB_X12_puts lk_X12_192 in_X12_puts se_X12_puts (by decide) rfl rfl (Nat.le_of_ble_eq_true rfl) (Nat.le_of_ble_eq_true rfl) (by decide) (hG.lt (by decide)) (congrArg Prod.fst hG.k214) ?_
      refine Go.to (fun r G' D2 hr => ?_) h
      obtain ⟨rfl, rfl, h⟩ := hr
      show Go E (d + 1) kc ks mX12_coin 119 [some (vR 214), some (vI x1), some (vI x2), some (vI x3), some (vI x4)] [] G D2 Q
      refine g_aload_n dX12_coin_119 rfl rfl ?_
      refine h_getR (j := 13) dX12_coin_120 f_X12_23_11 rfl rfl (by decide) hG.k214 (by decide) (hG.lt (by decide)) hG.r214_13 ?_
      refine g_bipush dX12_coin_123 bp_10 ?_
      refine g_iload_n dX12_coin_125 rfl rfl ?_
      refine g_imul dX12_coin_126 ?_
      refine g_iload_n dX12_coin_127 rfl rfl ?_
      refine g_iadd dX12_coin_128 ?_
      refine g_aload_n dX12_coin_129 rfl rfl ?_
      refine h_getI (j := 5) dX12_coin_130 f_X12_196_11 rfl rfl (by decide) hG.k214 (by decide) (hG.lt (by decide)) ?_
      refine g_iast dX12_coin_133 hG.k218 (by decide) (hG.lt (by decide)) (by decide) ⟨h.1, ?_⟩
      generalize hD_D4 : up2 D2 218 ((10 * x1) + x2) (D2 214 5) = D4
      replace h := h.2 _ hD_D4.symm
      refine g_aload_n dX12_coin_134 rfl rfl ?_
      refine h_getR (j := 14) dX12_coin_135 f_X12_26_11 rfl rfl (by decide) hG.k214 (by decide) (hG.lt (by decide)) hG.r214_14 ?_
      refine g_bipush dX12_coin_138 bp_10 ?_
      refine g_iload_n dX12_coin_140 rfl rfl ?_
      refine g_imul dX12_coin_141 ?_
      refine g_iload_n dX12_coin_142 rfl rfl ?_
      refine g_iadd dX12_coin_143 ?_
      refine g_iconst dX12_coin_144 ?_
      refine g_bast dX12_coin_145 hG.k219 (by decide) (hG.lt (by decide)) (by decide) ⟨h.1, Or.inl rfl, ?_⟩
      generalize hD_D5 : up2 D4 219 ((10 * x1) + x2) 0 = D5
      replace h := h.2 _ hD_D5.symm
      refine g_aload_n dX12_coin_146 rfl rfl ?_
      refine g_dup dX12_coin_147 (fun _ h9 => by cases h9) ?_
      refine h_getI (j := 5) dX12_coin_148 f_X12_196_11 rfl rfl (by decide) hG.k214 (by decide) (hG.lt (by decide)) ?_
      refine g_iconst dX12_coin_151 ?_
      refine g_iadd dX12_coin_152 ?_
      refine h_putI (j := 5) dX12_coin_153 f_X12_196_11 (Or.inl (mm_finI (by decide +kernel))) rfl rfl (by decide) hG.k214 (by decide) (hG.lt (by decide)) ?_
      generalize hD_D6 : up2 D5 214 5 ((D5 214 5) + 1) = D6
      replace h := h _ hD_D6.symm
      refine g_aload_n dX12_coin_156 rfl rfl ?_
      refine g_bipush dX12_coin_157 bp_6 ?_
      refine g_iload_n dX12_coin_159 rfl rfl ?_
      refine g_bipush dX12_coin_160 bp_m5 ?_
      refine g_iload_n dX12_coin_162 rfl rfl ?_
      refine g_callV (kc := kc) (kc' := 0) (ks := ks) (ks' := 0) (as := [vI 6, vI x1, vI (-5), vI x2]) (st := []) (ci := 11) dX12_coin_163 cB_X12_happens lk_X12_199 in_X12_happens se_X12_happens (by decide) rfl rfl (Nat.le_of_ble_eq_true rfl) (Nat.le_of_ble_eq_true rfl) (by decide) (hG.lt (by decide)) (congrArg Prod.fst hG.k214) ?_
      refine Go.to (fun r G' D7 hr => ?_) h
      obtain ⟨rfl, rfl, h⟩ := hr
      show Go E (d + 1) kc ks mX12_coin 166 [some (vR 214), some (vI x1), some (vI x2), some (vI x3), some (vI x4)] [] G D7 Q
      refine g_aload_n dX12_coin_166 rfl rfl ?_
      refine h_getI (j := 5) dX12_coin_167 f_X12_196_11 rfl rfl (by decide) hG.k214 (by decide) (hG.lt (by decide)) ?_
      refine g_iconst dX12_coin_170 ?_
      refine g_isub dX12_coin_171 ?_
      exact g_iret dX12_coin_172 rfl h
    · replace h := h.2 hc
      refine g_bipush dX12_coin_105 bp_m10 ?_
      exact g_iret dX12_coin_107 rfl h
  · replace h := h.2 hc
    refine g_iload dX12_coin_48 rfl ?_
    refine g_bipush dX12_coin_50 bp_8 ?_
    refine g_icmp_eq 72 dX12_coin_52 (by decide) ⟨fun hc => ?_, fun hc => ?_⟩
    · replace h := h.1 hc
      refine g_bipush dX12_coin_72 bp_m10 ?_
      refine g_iload dX12_coin_74 rfl ?_
      refine g_isub dX12_coin_76 ?_
      exact g_iret dX12_coin_77 rfl h
    · replace h := h.2 hc
      refine g_aload_n dX12_coin_55 rfl rfl ?_
      refine h_getR (j := 10) dX12_coin_56 f_X12_13_11 rfl rfl (by decide) hG.k214 (by decide) (hG.lt (by decide)) hG.r214_10 ?_
      refine g_iload dX12_coin_59 rfl ?_
      refine g_iald dX12_coin_61 hG.k215 (by decide) (hG.lt (by decide)) (by decide) ⟨h.1, ?_⟩
      replace h := h.2
      refine g_bipush dX12_coin_62 bp_97 ?_
      refine g_bipush dX12_coin_64 bp_122 ?_
      refine g_callS (kc := kc) (kc' := 0) (ks := ks) (ks' := 0) (as := [vI (D 215 x4), vI 97, vI 122]) (st := []) dX12_coin_66 cB_X12_in lk_X12_123 st_X12_in rfl (Nat.le_of_ble_eq_true rfl) (Nat.le_of_ble_eq_true rfl) ?_
      refine Go.to (fun r G' D9 hr => ?_) h
      obtain ⟨rfl, z10, rfl, h⟩ := hr
      show Go E (d + 1) kc ks mX12_coin 69 [some (vR 214), some (vI x1), some (vI x2), some (vI x3), some (vI x4)] [vI z10] G D9 Q
      refine g_if_ne 78 dX12_coin_69 (by decide) ⟨fun hc => ?_, fun hc => ?_⟩
      · replace h := h.1 hc
        refine g_aload_n dX12_coin_78 rfl rfl ?_
        refine h_getR (j := 33) dX12_coin_79 f_X12_75_11 rfl rfl (by decide) hG.k214 (by decide) (hG.lt (by decide)) hG.r214_33 ?_
        refine g_iload dX12_coin_82 rfl ?_
        refine g_aload_n dX12_coin_84 rfl rfl ?_
        refine h_getR (j := 10) dX12_coin_85 f_X12_13_11 rfl rfl (by decide) hG.k214 (by decide) (hG.lt (by decide)) hG.r214_10 ?_
        refine g_iload dX12_coin_88 rfl ?_
        refine g_iald dX12_coin_90 hG.k215 (by decide) (hG.lt (by decide)) (by decide) ⟨h.1, ?_⟩
        replace h := h.2
        refine g_bipush dX12_coin_91 bp_96 ?_
        refine g_isub dX12_coin_93 ?_
        refine g_iast dX12_coin_94 hG.k235 (by decide) (hG.lt (by decide)) (by decide) ⟨h.1, ?_⟩
        generalize hD_D11 : up2 D9 235 x4 ((D9 215 x4) - 96) = D11
        replace h := h.2 _ hD_D11.symm
        refine h_iinc (L' := [some (vR 214), some (vI x1), some (vI x2), some (vI x3), some (vI (x4 + 1))]) dX12_coin_95 (Nat.le_of_ble_eq_true rfl) rfl rfl rfl ?_
        refine g_goto 42 dX12_coin_98 (by decide) ?_
        exact Go.drop (by simp only [mm_sub, and_self]) h
      · replace h := h.2 hc
        refine g_bipush dX12_coin_72 bp_m10 ?_
        refine g_iload dX12_coin_74 rfl ?_
        refine g_isub dX12_coin_76 ?_
        exact g_iret dX12_coin_77 rfl h
set_option maxRecDepth 20000 in
theorem w_X12_sound {E : mmE} {d kc ks : Nat} {G : mmG} {D : mmD} {Q : mmQ} {x1 x2 : Int} (hG : Sh G)  (h : Call E d 0 0 mX12_isTongue [vR 214, vI x1] G D (retI G (fun z2 D1 => ((iv z2 = iv 0 → Q (some (vI (-1))) G D1) ∧ (¬ iv z2 = iv 0 → Call E d 0 0 mX12_isLaw [vR 214, vI x2] G D1 (retI G (fun z4 D3 => ((¬ iv z4 = iv 0 → ((¬ iv (D3 214 4) = iv 80 → Go E (d + 1) kc ks mX12_sound 35 [some (vR 214), some (vI x1), some (vI x2), some (vI 0), some (vI 0)] [] G D3 Q) ∧ (iv (D3 214 4) = iv 80 → Q (some (vI (-4))) G D3))) ∧ (iv z4 = iv 0 → Q (some (vI (-1))) G D3))))))))) : Call E (d + 1) kc ks mX12_sound [vR 214, vI x1, vI x2] G D Q := by
  show Go E (d + 1) kc ks mX12_sound 0 [some (vR 214), some (vI x1), some (vI x2), none, none] [] G D Q
  refine g_aload_n dX12_sound_0 rfl rfl ?_
  refine g_iload_n dX12_sound_1 rfl rfl ?_
  refine g_callV (kc := kc) (kc' := 0) (ks := ks) (ks' := 0) (as := [vI x1]) (st := []) (ci := 11) dX12_sound_2 cB_X12_isTongue lk_X12_130 in_X12_isTongue se_X12_isTongue (by decide) rfl rfl (Nat.le_of_ble_eq_true rfl) (Nat.le_of_ble_eq_true rfl) (by decide) (hG.lt (by decide)) (congrArg Prod.fst hG.k214) ?_
  refine Go.to (fun r G' D1 hr => ?_) h
  obtain ⟨rfl, z2, rfl, h⟩ := hr
  show Go E (d + 1) kc ks mX12_sound 5 [some (vR 214), some (vI x1), some (vI x2), none, none] [vI z2] G D1 Q
  refine g_if_eq 16 dX12_sound_5 (by decide) ⟨fun hc => ?_, fun hc => ?_⟩
  · replace h := h.1 hc
    refine g_iconst dX12_sound_16 ?_
    exact g_iret dX12_sound_17 rfl h
  · replace h := h.2 hc
    refine g_aload_n dX12_sound_8 rfl rfl ?_
    refine g_iload_n dX12_sound_9 rfl rfl ?_
    refine g_callV (kc := kc) (kc' := 0) (ks := ks) (ks' := 0) (as := [vI x2]) (st := []) (ci := 11) dX12_sound_10 cB_X12_isLaw lk_X12_203 in_X12_isLaw se_X12_isLaw (by decide) rfl rfl (Nat.le_of_ble_eq_true rfl) (Nat.le_of_ble_eq_true rfl) (by decide) (hG.lt (by decide)) (congrArg Prod.fst hG.k214) ?_
    refine Go.to (fun r G' D3 hr => ?_) h
    obtain ⟨rfl, z4, rfl, h⟩ := hr
    show Go E (d + 1) kc ks mX12_sound 13 [some (vR 214), some (vI x1), some (vI x2), none, none] [vI z4] G D3 Q
    refine g_if_ne 18 dX12_sound_13 (by decide) ⟨fun hc => ?_, fun hc => ?_⟩
    · replace h := h.1 hc
      refine g_aload_n dX12_sound_18 rfl rfl ?_
      refine h_getI (j := 4) dX12_sound_19 f_X12_189_11 rfl rfl (by decide) hG.k214 (by decide) (hG.lt (by decide)) ?_
      refine g_bipush dX12_sound_22 bp_80 ?_
      refine g_icmp_ne 30 dX12_sound_24 (by decide) ⟨fun hc => ?_, fun hc => ?_⟩
      · replace h := h.1 hc
        refine g_iconst dX12_sound_30 ?_
        refine h_istore_n (L' := [some (vR 214), some (vI x1), some (vI x2), some (vI 0), none]) dX12_sound_31 rfl (Nat.le_of_ble_eq_true rfl) rfl rfl ?_
        refine g_iconst dX12_sound_32 ?_
        refine h_istore (L' := [some (vR 214), some (vI x1), some (vI x2), some (vI 0), some (vI 0)]) dX12_sound_33 (Nat.le_of_ble_eq_true rfl) rfl rfl ?_
        exact Go.drop (by simp only [mm_sub, and_self]) h
      · replace h := h.2 hc
        refine g_bipush dX12_sound_27 bp_m4 ?_
        exact g_iret dX12_sound_29 rfl h
    · replace h := h.2 hc
      refine g_iconst dX12_sound_16 ?_
      exact g_iret dX12_sound_17 rfl h
set_option maxRecDepth 20000 in
theorem w_X12_sound_35 {E : mmE} {d kc ks : Nat} {G : mmG} {D : mmD} {Q : mmQ} {x1 x2 x3 x4 : Int} (hG : Sh G)  (h : ((iv 10 ≤ iv x4 → Call E d 0 0 mX12_happens [vR 214, vI 1, vI x1, vI x2, vI (-5)] G D (retV G (fun D1 => Q (some (vI x3)) G D1))) ∧ (¬ iv 10 ≤ iv x4 → Call E d 0 0 mX12_hasWord [vR 214, vI x1, vI x4] G D (retI G (fun z4 D3 => ((iv z4 = iv 0 → Go E (d + 1) kc ks mX12_sound 35 [some (vR 214), some (vI x1), some (vI x2), some (vI x3), some (vI (x4 + 1))] [] G D3 Q) ∧ (¬ iv z4 = iv 0 → Call E d 0 0 mX12_takes [vR 214, vI x1, vI x4] G D3 (retV G (fun D5 => Call E d 0 0 mX12_applies [vR 214, vI x2] G D5 (retV G (fun D7 => Call E d 0 0 mX12_isWord [vR 214, vI x1, vI x4] G D7 (retI G (fun z10 D9 => ((iv z10 = iv 0 → Call E d 0 0 mX12_puts [vR 214, vI x1, vI x4] G D9 (retV G (fun D11 => Go E (d + 1) kc ks mX12_sound 35 [some (vR 214), some (vI x1), some (vI x2), some (vI (x3 + 1)), some (vI (x4 + 1))] [] G D11 Q))) ∧ (¬ iv z10 = iv 0 → Call E d 0 0 mX12_puts [vR 214, vI x1, vI x4] G D9 (retV G (fun D13 => Go E (d + 1) kc ks mX12_sound 35 [some (vR 214), some (vI x1), some (vI x2), some (vI (x3 + 0)), some (vI (x4 + 1))] [] G D13 Q))))))))))))))))) : Go E (d + 1) kc ks mX12_sound 35 [some (vR 214), some (vI x1), some (vI x2), some (vI x3), some (vI x4)] [] G D Q := by
  refine g_iload dX12_sound_35 rfl ?_
  refine g_bipush dX12_sound_37 bp_10 ?_
  refine g_icmp_ge 95 dX12_sound_39 (by decide) ⟨fun hc => ?_, fun hc => ?_⟩
  · replace h := h.1 hc
    refine g_aload_n dX12_sound_95 rfl rfl ?_
    refine g_iconst dX12_sound_96 ?_
    refine g_iload_n dX12_sound_97 rfl rfl ?_
    refine g_iload_n dX12_sound_98 rfl rfl ?_
    refine g_bipush dX12_sound_99 bp_m5 ?_
    refine g_callV (kc := kc) (kc' := 0) (ks := ks) (ks' := 0) (as := [vI 1, vI x1, vI x2, vI (-5)]) (st := []) (ci := 11) dX12_sound_101 cB_X12_happens lk_X12_199 in_X12_happens se_X12_happens (by decide) rfl rfl (Nat.le_of_ble_eq_true rfl) (Nat.le_of_ble_eq_true rfl) (by decide) (hG.lt (by decide)) (congrArg Prod.fst hG.k214) ?_
    refine Go.to (fun r G' D1 hr => ?_) h
    obtain ⟨rfl, rfl, h⟩ := hr
    show Go E (d + 1) kc ks mX12_sound 104 [some (vR 214), some (vI x1), some (vI x2), some (vI x3), some (vI x4)] [] G D1 Q
    refine g_iload_n dX12_sound_104 rfl rfl ?_
    exact g_iret dX12_sound_105 rfl h
  · replace h := h.2 hc
    refine g_aload_n dX12_sound_42 rfl rfl ?_
    refine g_iload_n dX12_sound_43 rfl rfl ?_
    refine g_iload dX12_sound_44 rfl ?_
    refine g_callV (kc := kc) (kc' := 0) (ks := ks) (ks' := 0) (as := [vI x1, vI x4]) (st := []) (ci := 11) dX12_sound_46 cB_X12_hasWord lk_X12_206 in_X12_hasWord se_X12_hasWord (by decide) rfl rfl (Nat.le_of_ble_eq_true rfl) (Nat.le_of_ble_eq_true rfl) (by decide) (hG.lt (by decide)) (congrArg Prod.fst hG.k214) ?_
    refine Go.to (fun r G' D3 hr => ?_) h
    obtain ⟨rfl, z4, rfl, h⟩ := hr
    show Go E (d + 1) kc ks mX12_sound 49 [some (vR 214), some (vI x1), some (vI x2), some (vI x3), some (vI x4)] [vI z4] G D3 Q
    refine g_if_eq 89 dX12_sound_49 (by decide) ⟨fun hc => ?_, fun hc => ?_⟩
    · replace h := h.1 hc
      refine h_iinc (L' := [some (vR 214), some (vI x1), some (vI x2), some (vI x3), some (vI (x4 + 1))]) dX12_sound_89 (Nat.le_of_ble_eq_true rfl) rfl rfl rfl ?_
      refine g_goto 35 dX12_sound_92 (by decide) ?_
      exact Go.drop (by simp only [mm_sub, and_self]) h
    · replace h := h.2 hc
      refine g_aload_n dX12_sound_52 rfl rfl ?_
      refine g_iload_n dX12_sound_53 rfl rfl ?_
      refine g_iload dX12_sound_54 rfl ?_
      refine g_callV (kc := kc) (kc' := 0) (ks := ks) (ks' := 0) (as := [vI x1, vI x4]) (st := []) (ci := 11) dX12_sound_56 cB_X12_takes lk_X12_209 in_X12_takes se_X12_takes (by decide) rfl rfl (Nat.le_of_ble_eq_true rfl) (Nat.le_of_ble_eq_true rfl) (by decide) (hG.lt (by decide)) (congrArg Prod.fst hG.k214) ?_
      refine Go.to (fun r G' D5 hr => ?_) h
      obtain ⟨rfl, rfl, h⟩ := hr
      show Go E (d + 1) kc ks mX12_sound 59 [some (vR 214), some (vI x1), some (vI x2), some (vI x3), some (vI x4)] [] G D5 Q
      refine g_aload_n dX12_sound_59 rfl rfl ?_
      refine g_iload_n dX12_sound_60 rfl rfl ?_
      refine g_callV (kc := kc) (kc' := 0) (ks := ks) (ks' := 0) (as := [vI x2]) (st := []) (ci := 11) dX12_sound_61 cB_X12_applies lk_X12_212 in_X12_applies se_X12_applies (by decide) rfl rfl (Nat.le_of_ble_eq_true rfl) (Nat.le_of_ble_eq_true rfl) (by decide) (hG.lt (by decide)) (congrArg Prod.fst hG.k214) ?_
      refine Go.to (fun r G' D7 hr => ?_) h
      obtain ⟨rfl, rfl, h⟩ := hr
      show Go E (d + 1) kc ks mX12_sound 64 [some (vR 214), some (vI x1), some (vI x2), some (vI x3), some (vI x4)] [] G D7 Q
      refine g_iload_n dX12_sound_64 rfl rfl ?_
      refine g_aload_n dX12_sound_65 rfl rfl ?_
      refine g_iload_n dX12_sound_66 rfl rfl ?_
      refine g_iload dX12_sound_67 rfl ?_
      refine g_callV (kc := kc) (kc' := 0) (ks := ks) (ks' := 0) (as := [vI x1, vI x4]) (st := [vI x3]) (ci := 11) dX12_sound_69 cB_X12_isWord lk_X12_215 in_X12_isWord se_X12_isWord (by decide) rfl rfl (Nat.le_of_ble_eq_true rfl) (Nat.le_of_ble_eq_true rfl) (by decide) (hG.lt (by decide)) (congrArg Prod.fst hG.k214) ?_
      refine Go.to (fun r G' D9 hr => ?_) h
      obtain ⟨rfl, z10, rfl, h⟩ := hr
      show Go E (d + 1) kc ks mX12_sound 72 [some (vR 214), some (vI x1), some (vI x2), some (vI x3), some (vI x4)] [vI z10, vI x3] G D9 Q
      refine g_if_eq 79 dX12_sound_72 (by decide) ⟨fun hc => ?_, fun hc => ?_⟩
      · replace h := h.1 hc
        refine g_iconst dX12_sound_79 ?_
        refine g_iadd dX12_sound_80 ?_
        refine h_istore_n (L' := [some (vR 214), some (vI x1), some (vI x2), some (vI (x3 + 1)), some (vI x4)]) dX12_sound_81 rfl (Nat.le_of_ble_eq_true rfl) rfl rfl ?_
        refine g_aload_n dX12_sound_82 rfl rfl ?_
        refine g_iload_n dX12_sound_83 rfl rfl ?_
        refine g_iload dX12_sound_84 rfl ?_
        refine g_callV (kc := kc) (kc' := 0) (ks := ks) (ks' := 0) (as := [vI x1, vI x4]) (st := []) (ci := 11) dX12_sound_86 cB_X12_puts lk_X12_192 in_X12_puts se_X12_puts (by decide) rfl rfl (Nat.le_of_ble_eq_true rfl) (Nat.le_of_ble_eq_true rfl) (by decide) (hG.lt (by decide)) (congrArg Prod.fst hG.k214) ?_
        refine Go.to (fun r G' D11 hr => ?_) h
        obtain ⟨rfl, rfl, h⟩ := hr
        show Go E (d + 1) kc ks mX12_sound 89 [some (vR 214), some (vI x1), some (vI x2), some (vI (x3 + 1)), some (vI x4)] [] G D11 Q
        refine h_iinc (L' := [some (vR 214), some (vI x1), some (vI x2), some (vI (x3 + 1)), some (vI (x4 + 1))]) dX12_sound_89 (Nat.le_of_ble_eq_true rfl) rfl rfl rfl ?_
        refine g_goto 35 dX12_sound_92 (by decide) ?_
        exact Go.drop (by simp only [mm_sub, and_self]) h
      · replace h := h.2 hc
        refine g_iconst dX12_sound_75 ?_
        refine g_goto 80 dX12_sound_76 (by decide) ?_
        refine g_iadd dX12_sound_80 ?_
        refine h_istore_n (L' := [some (vR 214), some (vI x1), some (vI x2), some (vI (x3 + 0)), some (vI x4)]) dX12_sound_81 rfl (Nat.le_of_ble_eq_true rfl) rfl rfl ?_
        refine g_aload_n dX12_sound_82 rfl rfl ?_
        refine g_iload_n dX12_sound_83 rfl rfl ?_
        refine g_iload dX12_sound_84 rfl ?_
        refine g_callV (kc := kc) (kc' := 0) (ks := ks) (ks' := 0) (as := [vI x1, vI x4]) (st := []) (ci := 11) dX12_sound_86 cB_X12_puts lk_X12_192 in_X12_puts se_X12_puts (by decide) rfl rfl (Nat.le_of_ble_eq_true rfl) (Nat.le_of_ble_eq_true rfl) (by decide) (hG.lt (by decide)) (congrArg Prod.fst hG.k214) ?_
        refine Go.to (fun r G' D13 hr => ?_) h
        obtain ⟨rfl, rfl, h⟩ := hr
        show Go E (d + 1) kc ks mX12_sound 89 [some (vR 214), some (vI x1), some (vI x2), some (vI (x3 + 0)), some (vI x4)] [] G D13 Q
        refine h_iinc (L' := [some (vR 214), some (vI x1), some (vI x2), some (vI (x3 + 0)), some (vI (x4 + 1))]) dX12_sound_89 (Nat.le_of_ble_eq_true rfl) rfl rfl rfl ?_
        refine g_goto 35 dX12_sound_92 (by decide) ?_
        exact Go.drop (by simp only [mm_sub, and_self]) h
set_option maxRecDepth 20000 in
theorem w_X12_shorten {E : mmE} {d kc ks : Nat} {G : mmG} {D : mmD} {Q : mmQ} {x1 x2 : Int} (hG : Sh G)  (h : Call E d 0 0 mX12_hasWord [vR 214, vI x1, vI x2] G D (retI G (fun z2 D1 => ((¬ iv z2 = iv 0 → ((0 ≤ ((10 * x1) + x2) ∧ ((10 * x1) + x2) < 60) ∧ ((¬ iv (D1 216 ((10 * x1) + x2)) = iv 1 → ((¬ iv (D1 214 4) = iv 80 → ((0 ≤ ((10 * x1) + x2) ∧ ((10 * x1) + x2) < 60) ∧ ((0 ≤ ((10 * x1) + x2) ∧ ((10 * x1) + x2) < 60) ∧ (∀ D3 : mmD, D3 = up2 D1 216 ((10 * x1) + x2) ((D1 216 ((10 * x1) + x2)) - 1) → Call E d 0 0 mX12_happens [vR 214, vI 4, vI x1, vI (-5), vI x2] G D3 (retV G (fun D4 => ((0 ≤ ((10 * x1) + x2) ∧ ((10 * x1) + x2) < 60) ∧ Q (some (vI (D4 216 ((10 * x1) + x2)))) G D4))))))) ∧ (iv (D1 214 4) = iv 80 → Q (some (vI (-4))) G D1))) ∧ (iv (D1 216 ((10 * x1) + x2)) = iv 1 → Q (some (vI (-3))) G D1)))) ∧ (iv z2 = iv 0 → Q (some (vI (-1))) G D1))))) : Call E (d + 1) kc ks mX12_shorten [vR 214, vI x1, vI x2] G D Q := by
  show Go E (d + 1) kc ks mX12_shorten 0 [some (vR 214), some (vI x1), some (vI x2)] [] G D Q
  refine g_aload_n dX12_shorten_0 rfl rfl ?_
  refine g_iload_n dX12_shorten_1 rfl rfl ?_
  refine g_iload_n dX12_shorten_2 rfl rfl ?_
  refine g_callV (kc := kc) (kc' := 0) (ks := ks) (ks' := 0) (as := [vI x1, vI x2]) (st := []) (ci := 11) dX12_shorten_3 cB_X12_hasWord lk_X12_206 in_X12_hasWord se_X12_hasWord (by decide) rfl rfl (Nat.le_of_ble_eq_true rfl) (Nat.le_of_ble_eq_true rfl) (by decide) (hG.lt (by decide)) (congrArg Prod.fst hG.k214) ?_
  refine Go.to (fun r G' D1 hr => ?_) h
  obtain ⟨rfl, z2, rfl, h⟩ := hr
  show Go E (d + 1) kc ks mX12_shorten 6 [some (vR 214), some (vI x1), some (vI x2)] [vI z2] G D1 Q
  refine g_if_ne 11 dX12_shorten_6 (by decide) ⟨fun hc => ?_, fun hc => ?_⟩
  · replace h := h.1 hc
    refine g_aload_n dX12_shorten_11 rfl rfl ?_
    refine h_getR (j := 11) dX12_shorten_12 f_X12_17_11 rfl rfl (by decide) hG.k214 (by decide) (hG.lt (by decide)) hG.r214_11 ?_
    refine g_bipush dX12_shorten_15 bp_10 ?_
    refine g_iload_n dX12_shorten_17 rfl rfl ?_
    refine g_imul dX12_shorten_18 ?_
    refine g_iload_n dX12_shorten_19 rfl rfl ?_
    refine g_iadd dX12_shorten_20 ?_
    refine g_iald dX12_shorten_21 hG.k216 (by decide) (hG.lt (by decide)) (by decide) ⟨h.1, ?_⟩
    replace h := h.2
    refine g_iconst dX12_shorten_22 ?_
    refine g_icmp_ne 29 dX12_shorten_23 (by decide) ⟨fun hc => ?_, fun hc => ?_⟩
    · replace h := h.1 hc
      refine g_aload_n dX12_shorten_29 rfl rfl ?_
      refine h_getI (j := 4) dX12_shorten_30 f_X12_189_11 rfl rfl (by decide) hG.k214 (by decide) (hG.lt (by decide)) ?_
      refine g_bipush dX12_shorten_33 bp_80 ?_
      refine g_icmp_ne 41 dX12_shorten_35 (by decide) ⟨fun hc => ?_, fun hc => ?_⟩
      · replace h := h.1 hc
        refine g_aload_n dX12_shorten_41 rfl rfl ?_
        refine h_getR (j := 11) dX12_shorten_42 f_X12_17_11 rfl rfl (by decide) hG.k214 (by decide) (hG.lt (by decide)) hG.r214_11 ?_
        refine g_bipush dX12_shorten_45 bp_10 ?_
        refine g_iload_n dX12_shorten_47 rfl rfl ?_
        refine g_imul dX12_shorten_48 ?_
        refine g_iload_n dX12_shorten_49 rfl rfl ?_
        refine g_iadd dX12_shorten_50 ?_
        refine g_dup2 dX12_shorten_51 (fun _ h9 => by cases h9) (fun _ h9 => by cases h9) ?_
        refine g_iald dX12_shorten_52 hG.k216 (by decide) (hG.lt (by decide)) (by decide) ⟨h.1, ?_⟩
        replace h := h.2
        refine g_iconst dX12_shorten_53 ?_
        refine g_isub dX12_shorten_54 ?_
        refine g_iast dX12_shorten_55 hG.k216 (by decide) (hG.lt (by decide)) (by decide) ⟨h.1, ?_⟩
        generalize hD_D3 : up2 D1 216 ((10 * x1) + x2) ((D1 216 ((10 * x1) + x2)) - 1) = D3
        replace h := h.2 _ hD_D3.symm
        refine g_aload_n dX12_shorten_56 rfl rfl ?_
        refine g_iconst dX12_shorten_57 ?_
        refine g_iload_n dX12_shorten_58 rfl rfl ?_
        refine g_bipush dX12_shorten_59 bp_m5 ?_
        refine g_iload_n dX12_shorten_61 rfl rfl ?_
        refine g_callV (kc := kc) (kc' := 0) (ks := ks) (ks' := 0) (as := [vI 4, vI x1, vI (-5), vI x2]) (st := []) (ci := 11) dX12_shorten_62 cB_X12_happens lk_X12_199 in_X12_happens se_X12_happens (by decide) rfl rfl (Nat.le_of_ble_eq_true rfl) (Nat.le_of_ble_eq_true rfl) (by decide) (hG.lt (by decide)) (congrArg Prod.fst hG.k214) ?_
        refine Go.to (fun r G' D4 hr => ?_) h
        obtain ⟨rfl, rfl, h⟩ := hr
        show Go E (d + 1) kc ks mX12_shorten 65 [some (vR 214), some (vI x1), some (vI x2)] [] G D4 Q
        refine g_aload_n dX12_shorten_65 rfl rfl ?_
        refine h_getR (j := 11) dX12_shorten_66 f_X12_17_11 rfl rfl (by decide) hG.k214 (by decide) (hG.lt (by decide)) hG.r214_11 ?_
        refine g_bipush dX12_shorten_69 bp_10 ?_
        refine g_iload_n dX12_shorten_71 rfl rfl ?_
        refine g_imul dX12_shorten_72 ?_
        refine g_iload_n dX12_shorten_73 rfl rfl ?_
        refine g_iadd dX12_shorten_74 ?_
        refine g_iald dX12_shorten_75 hG.k216 (by decide) (hG.lt (by decide)) (by decide) ⟨h.1, ?_⟩
        replace h := h.2
        exact g_iret dX12_shorten_76 rfl h
      · replace h := h.2 hc
        refine g_bipush dX12_shorten_38 bp_m4 ?_
        exact g_iret dX12_shorten_40 rfl h
    · replace h := h.2 hc
      refine g_bipush dX12_shorten_26 bp_m3 ?_
      exact g_iret dX12_shorten_28 rfl h
  · replace h := h.2 hc
    refine g_iconst dX12_shorten_9 ?_
    exact g_iret dX12_shorten_10 rfl h
set_option maxRecDepth 20000 in
theorem w_X12_loan {E : mmE} {d kc ks : Nat} {G : mmG} {D : mmD} {Q : mmQ} {x1 x2 x3 : Int} (hG : Sh G)  (h : Call E d 0 0 mX12_hasWord [vR 214, vI x2, vI x1] G D (retI G (fun z2 D1 => ((iv z2 = iv 0 → Q (some (vI (-1))) G D1) ∧ (¬ iv z2 = iv 0 → Call E d 0 0 mX12_isTongue [vR 214, vI x3] G D1 (retI G (fun z4 D3 => ((¬ iv z4 = iv 0 → ((¬ iv x2 = iv x3 → ((¬ iv (D3 214 4) = iv 80 → Call E d 0 0 mX12_takes [vR 214, vI x2, vI x1] G D3 (retV G (fun D5 => Call E d 0 0 mX12_puts [vR 214, vI x3, vI x1] G D5 (retV G (fun D7 => ((0 ≤ ((10 * x2) + x1) ∧ ((10 * x2) + x1) < 60) ∧ ((0 ≤ ((10 * x3) + x1) ∧ ((10 * x3) + x1) < 60) ∧ (∀ D9 : mmD, D9 = up2 D7 218 ((10 * x3) + x1) (D7 218 ((10 * x2) + x1)) → ((0 ≤ ((10 * x3) + x1) ∧ ((10 * x3) + x1) < 60) ∧ (∀ D10 : mmD, D10 = up2 D9 219 ((10 * x3) + x1) 1 → Call E d 0 0 mX12_happens [vR 214, vI 2, vI x3, vI (-5), vI x1] G D10 (retV G (fun D11 => ((0 ≤ ((10 * x3) + x1) ∧ ((10 * x3) + x1) < 60) ∧ Q (some (vI (D11 218 ((10 * x3) + x1)))) G D11))))))))))))) ∧ (iv (D3 214 4) = iv 80 → Q (some (vI (-4))) G D3))) ∧ (iv x2 = iv x3 → Q (some (vI (-2))) G D3))) ∧ (iv z4 = iv 0 → Q (some (vI (-1))) G D3))))))))) : Call E (d + 1) kc ks mX12_loan [vR 214, vI x1, vI x2, vI x3] G D Q := by
  show Go E (d + 1) kc ks mX12_loan 0 [some (vR 214), some (vI x1), some (vI x2), some (vI x3)] [] G D Q
  refine g_aload_n dX12_loan_0 rfl rfl ?_
  refine g_iload_n dX12_loan_1 rfl rfl ?_
  refine g_iload_n dX12_loan_2 rfl rfl ?_
  refine g_callV (kc := kc) (kc' := 0) (ks := ks) (ks' := 0) (as := [vI x2, vI x1]) (st := []) (ci := 11) dX12_loan_3 cB_X12_hasWord lk_X12_206 in_X12_hasWord se_X12_hasWord (by decide) rfl rfl (Nat.le_of_ble_eq_true rfl) (Nat.le_of_ble_eq_true rfl) (by decide) (hG.lt (by decide)) (congrArg Prod.fst hG.k214) ?_
  refine Go.to (fun r G' D1 hr => ?_) h
  obtain ⟨rfl, z2, rfl, h⟩ := hr
  show Go E (d + 1) kc ks mX12_loan 6 [some (vR 214), some (vI x1), some (vI x2), some (vI x3)] [vI z2] G D1 Q
  refine g_if_eq 17 dX12_loan_6 (by decide) ⟨fun hc => ?_, fun hc => ?_⟩
  · replace h := h.1 hc
    refine g_iconst dX12_loan_17 ?_
    exact g_iret dX12_loan_18 rfl h
  · replace h := h.2 hc
    refine g_aload_n dX12_loan_9 rfl rfl ?_
    refine g_iload_n dX12_loan_10 rfl rfl ?_
    refine g_callV (kc := kc) (kc' := 0) (ks := ks) (ks' := 0) (as := [vI x3]) (st := []) (ci := 11) dX12_loan_11 cB_X12_isTongue lk_X12_130 in_X12_isTongue se_X12_isTongue (by decide) rfl rfl (Nat.le_of_ble_eq_true rfl) (Nat.le_of_ble_eq_true rfl) (by decide) (hG.lt (by decide)) (congrArg Prod.fst hG.k214) ?_
    refine Go.to (fun r G' D3 hr => ?_) h
    obtain ⟨rfl, z4, rfl, h⟩ := hr
    show Go E (d + 1) kc ks mX12_loan 14 [some (vR 214), some (vI x1), some (vI x2), some (vI x3)] [vI z4] G D3 Q
    refine g_if_ne 19 dX12_loan_14 (by decide) ⟨fun hc => ?_, fun hc => ?_⟩
    · replace h := h.1 hc
      refine g_iload_n dX12_loan_19 rfl rfl ?_
      refine g_iload_n dX12_loan_20 rfl rfl ?_
      refine g_icmp_ne 27 dX12_loan_21 (by decide) ⟨fun hc => ?_, fun hc => ?_⟩
      · replace h := h.1 hc
        refine g_aload_n dX12_loan_27 rfl rfl ?_
        refine h_getI (j := 4) dX12_loan_28 f_X12_189_11 rfl rfl (by decide) hG.k214 (by decide) (hG.lt (by decide)) ?_
        refine g_bipush dX12_loan_31 bp_80 ?_
        refine g_icmp_ne 39 dX12_loan_33 (by decide) ⟨fun hc => ?_, fun hc => ?_⟩
        · replace h := h.1 hc
          refine g_aload_n dX12_loan_39 rfl rfl ?_
          refine g_iload_n dX12_loan_40 rfl rfl ?_
          refine g_iload_n dX12_loan_41 rfl rfl ?_
          refine g_callV (kc := kc) (kc' := 0) (ks := ks) (ks' := 0) (as := [vI x2, vI x1]) (st := []) (ci := 11) dX12_loan_42 cB_X12_takes lk_X12_209 in_X12_takes se_X12_takes (by decide) rfl rfl (Nat.le_of_ble_eq_true rfl) (Nat.le_of_ble_eq_true rfl) (by decide) (hG.lt (by decide)) (congrArg Prod.fst hG.k214) ?_
          refine Go.to (fun r G' D5 hr => ?_) h
          obtain ⟨rfl, rfl, h⟩ := hr
          show Go E (d + 1) kc ks mX12_loan 45 [some (vR 214), some (vI x1), some (vI x2), some (vI x3)] [] G D5 Q
          refine g_aload_n dX12_loan_45 rfl rfl ?_
          refine g_iload_n dX12_loan_46 rfl rfl ?_
          refine g_iload_n dX12_loan_47 rfl rfl ?_
          refine g_callV (kc := kc) (kc' := 0) (ks := ks) (ks' := 0) (as := [vI x3, vI x1]) (st := []) (ci := 11) dX12_loan_48 cB_X12_puts lk_X12_192 in_X12_puts se_X12_puts (by decide) rfl rfl (Nat.le_of_ble_eq_true rfl) (Nat.le_of_ble_eq_true rfl) (by decide) (hG.lt (by decide)) (congrArg Prod.fst hG.k214) ?_
          refine Go.to (fun r G' D7 hr => ?_) h
          obtain ⟨rfl, rfl, h⟩ := hr
          show Go E (d + 1) kc ks mX12_loan 51 [some (vR 214), some (vI x1), some (vI x2), some (vI x3)] [] G D7 Q
          refine g_aload_n dX12_loan_51 rfl rfl ?_
          refine h_getR (j := 13) dX12_loan_52 f_X12_23_11 rfl rfl (by decide) hG.k214 (by decide) (hG.lt (by decide)) hG.r214_13 ?_
          refine g_bipush dX12_loan_55 bp_10 ?_
          refine g_iload_n dX12_loan_57 rfl rfl ?_
          refine g_imul dX12_loan_58 ?_
          refine g_iload_n dX12_loan_59 rfl rfl ?_
          refine g_iadd dX12_loan_60 ?_
          refine g_aload_n dX12_loan_61 rfl rfl ?_
          refine h_getR (j := 13) dX12_loan_62 f_X12_23_11 rfl rfl (by decide) hG.k214 (by decide) (hG.lt (by decide)) hG.r214_13 ?_
          refine g_bipush dX12_loan_65 bp_10 ?_
          refine g_iload_n dX12_loan_67 rfl rfl ?_
          refine g_imul dX12_loan_68 ?_
          refine g_iload_n dX12_loan_69 rfl rfl ?_
          refine g_iadd dX12_loan_70 ?_
          refine g_iald dX12_loan_71 hG.k218 (by decide) (hG.lt (by decide)) (by decide) ⟨h.1, ?_⟩
          replace h := h.2
          refine g_iast dX12_loan_72 hG.k218 (by decide) (hG.lt (by decide)) (by decide) ⟨h.1, ?_⟩
          generalize hD_D9 : up2 D7 218 ((10 * x3) + x1) (D7 218 ((10 * x2) + x1)) = D9
          replace h := h.2 _ hD_D9.symm
          refine g_aload_n dX12_loan_73 rfl rfl ?_
          refine h_getR (j := 14) dX12_loan_74 f_X12_26_11 rfl rfl (by decide) hG.k214 (by decide) (hG.lt (by decide)) hG.r214_14 ?_
          refine g_bipush dX12_loan_77 bp_10 ?_
          refine g_iload_n dX12_loan_79 rfl rfl ?_
          refine g_imul dX12_loan_80 ?_
          refine g_iload_n dX12_loan_81 rfl rfl ?_
          refine g_iadd dX12_loan_82 ?_
          refine g_iconst dX12_loan_83 ?_
          refine g_bast dX12_loan_84 hG.k219 (by decide) (hG.lt (by decide)) (by decide) ⟨h.1, Or.inr rfl, ?_⟩
          generalize hD_D10 : up2 D9 219 ((10 * x3) + x1) 1 = D10
          replace h := h.2 _ hD_D10.symm
          refine g_aload_n dX12_loan_85 rfl rfl ?_
          refine g_iconst dX12_loan_86 ?_
          refine g_iload_n dX12_loan_87 rfl rfl ?_
          refine g_bipush dX12_loan_88 bp_m5 ?_
          refine g_iload_n dX12_loan_90 rfl rfl ?_
          refine g_callV (kc := kc) (kc' := 0) (ks := ks) (ks' := 0) (as := [vI 2, vI x3, vI (-5), vI x1]) (st := []) (ci := 11) dX12_loan_91 cB_X12_happens lk_X12_199 in_X12_happens se_X12_happens (by decide) rfl rfl (Nat.le_of_ble_eq_true rfl) (Nat.le_of_ble_eq_true rfl) (by decide) (hG.lt (by decide)) (congrArg Prod.fst hG.k214) ?_
          refine Go.to (fun r G' D11 hr => ?_) h
          obtain ⟨rfl, rfl, h⟩ := hr
          show Go E (d + 1) kc ks mX12_loan 94 [some (vR 214), some (vI x1), some (vI x2), some (vI x3)] [] G D11 Q
          refine g_aload_n dX12_loan_94 rfl rfl ?_
          refine h_getR (j := 13) dX12_loan_95 f_X12_23_11 rfl rfl (by decide) hG.k214 (by decide) (hG.lt (by decide)) hG.r214_13 ?_
          refine g_bipush dX12_loan_98 bp_10 ?_
          refine g_iload_n dX12_loan_100 rfl rfl ?_
          refine g_imul dX12_loan_101 ?_
          refine g_iload_n dX12_loan_102 rfl rfl ?_
          refine g_iadd dX12_loan_103 ?_
          refine g_iald dX12_loan_104 hG.k218 (by decide) (hG.lt (by decide)) (by decide) ⟨h.1, ?_⟩
          replace h := h.2
          exact g_iret dX12_loan_105 rfl h
        · replace h := h.2 hc
          refine g_bipush dX12_loan_36 bp_m4 ?_
          exact g_iret dX12_loan_38 rfl h
      · replace h := h.2 hc
        refine g_bipush dX12_loan_24 bp_m2 ?_
        exact g_iret dX12_loan_26 rfl h
    · replace h := h.2 hc
      refine g_iconst dX12_loan_17 ?_
      exact g_iret dX12_loan_18 rfl h
set_option maxRecDepth 20000 in
theorem w_X12_forget {E : mmE} {d kc ks : Nat} {G : mmG} {D : mmD} {Q : mmQ} {x1 x2 : Int} (hG : Sh G)  (h : Call E d 0 0 mX12_hasWord [vR 214, vI x1, vI x2] G D (retI G (fun z2 D1 => ((¬ iv z2 = iv 0 → ((¬ iv (D1 214 4) = iv 80 → ((0 ≤ ((10 * x1) + x2) ∧ ((10 * x1) + x2) < 60) ∧ (∀ D3 : mmD, D3 = up2 D1 216 ((10 * x1) + x2) 0 → Call E d 0 0 mX12_happens [vR 214, vI 5, vI x1, vI (-5), vI x2] G D3 (retV G (fun D4 => ((0 ≤ ((10 * x1) + x2) ∧ ((10 * x1) + x2) < 60) ∧ Q (some (vI (D4 218 ((10 * x1) + x2)))) G D4)))))) ∧ (iv (D1 214 4) = iv 80 → Q (some (vI (-4))) G D1))) ∧ (iv z2 = iv 0 → Q (some (vI (-1))) G D1))))) : Call E (d + 1) kc ks mX12_forget [vR 214, vI x1, vI x2] G D Q := by
  show Go E (d + 1) kc ks mX12_forget 0 [some (vR 214), some (vI x1), some (vI x2)] [] G D Q
  refine g_aload_n dX12_forget_0 rfl rfl ?_
  refine g_iload_n dX12_forget_1 rfl rfl ?_
  refine g_iload_n dX12_forget_2 rfl rfl ?_
  refine g_callV (kc := kc) (kc' := 0) (ks := ks) (ks' := 0) (as := [vI x1, vI x2]) (st := []) (ci := 11) dX12_forget_3 cB_X12_hasWord lk_X12_206 in_X12_hasWord se_X12_hasWord (by decide) rfl rfl (Nat.le_of_ble_eq_true rfl) (Nat.le_of_ble_eq_true rfl) (by decide) (hG.lt (by decide)) (congrArg Prod.fst hG.k214) ?_
  refine Go.to (fun r G' D1 hr => ?_) h
  obtain ⟨rfl, z2, rfl, h⟩ := hr
  show Go E (d + 1) kc ks mX12_forget 6 [some (vR 214), some (vI x1), some (vI x2)] [vI z2] G D1 Q
  refine g_if_ne 11 dX12_forget_6 (by decide) ⟨fun hc => ?_, fun hc => ?_⟩
  · replace h := h.1 hc
    refine g_aload_n dX12_forget_11 rfl rfl ?_
    refine h_getI (j := 4) dX12_forget_12 f_X12_189_11 rfl rfl (by decide) hG.k214 (by decide) (hG.lt (by decide)) ?_
    refine g_bipush dX12_forget_15 bp_80 ?_
    refine g_icmp_ne 23 dX12_forget_17 (by decide) ⟨fun hc => ?_, fun hc => ?_⟩
    · replace h := h.1 hc
      refine g_aload_n dX12_forget_23 rfl rfl ?_
      refine h_getR (j := 11) dX12_forget_24 f_X12_17_11 rfl rfl (by decide) hG.k214 (by decide) (hG.lt (by decide)) hG.r214_11 ?_
      refine g_bipush dX12_forget_27 bp_10 ?_
      refine g_iload_n dX12_forget_29 rfl rfl ?_
      refine g_imul dX12_forget_30 ?_
      refine g_iload_n dX12_forget_31 rfl rfl ?_
      refine g_iadd dX12_forget_32 ?_
      refine g_iconst dX12_forget_33 ?_
      refine g_iast dX12_forget_34 hG.k216 (by decide) (hG.lt (by decide)) (by decide) ⟨h.1, ?_⟩
      generalize hD_D3 : up2 D1 216 ((10 * x1) + x2) 0 = D3
      replace h := h.2 _ hD_D3.symm
      refine g_aload_n dX12_forget_35 rfl rfl ?_
      refine g_iconst dX12_forget_36 ?_
      refine g_iload_n dX12_forget_37 rfl rfl ?_
      refine g_bipush dX12_forget_38 bp_m5 ?_
      refine g_iload_n dX12_forget_40 rfl rfl ?_
      refine g_callV (kc := kc) (kc' := 0) (ks := ks) (ks' := 0) (as := [vI 5, vI x1, vI (-5), vI x2]) (st := []) (ci := 11) dX12_forget_41 cB_X12_happens lk_X12_199 in_X12_happens se_X12_happens (by decide) rfl rfl (Nat.le_of_ble_eq_true rfl) (Nat.le_of_ble_eq_true rfl) (by decide) (hG.lt (by decide)) (congrArg Prod.fst hG.k214) ?_
      refine Go.to (fun r G' D4 hr => ?_) h
      obtain ⟨rfl, rfl, h⟩ := hr
      show Go E (d + 1) kc ks mX12_forget 44 [some (vR 214), some (vI x1), some (vI x2)] [] G D4 Q
      refine g_aload_n dX12_forget_44 rfl rfl ?_
      refine h_getR (j := 13) dX12_forget_45 f_X12_23_11 rfl rfl (by decide) hG.k214 (by decide) (hG.lt (by decide)) hG.r214_13 ?_
      refine g_bipush dX12_forget_48 bp_10 ?_
      refine g_iload_n dX12_forget_50 rfl rfl ?_
      refine g_imul dX12_forget_51 ?_
      refine g_iload_n dX12_forget_52 rfl rfl ?_
      refine g_iadd dX12_forget_53 ?_
      refine g_iald dX12_forget_54 hG.k218 (by decide) (hG.lt (by decide)) (by decide) ⟨h.1, ?_⟩
      replace h := h.2
      exact g_iret dX12_forget_55 rfl h
    · replace h := h.2 hc
      refine g_bipush dX12_forget_20 bp_m4 ?_
      exact g_iret dX12_forget_22 rfl h
  · replace h := h.2 hc
    refine g_iconst dX12_forget_9 ?_
    exact g_iret dX12_forget_10 rfl h
set_option maxRecDepth 20000 in
theorem w_X12_split {E : mmE} {d kc ks : Nat} {G : mmG} {D : mmD} {Q : mmQ} {x1 : Int} (hG : Sh G)  (h : Call E d 0 0 mX12_isTongue [vR 214, vI x1] G D (retI G (fun z2 D1 => ((¬ iv z2 = iv 0 → ((iv (D1 214 1) = iv 6 → Q (some (vI (-4))) G D1) ∧ (¬ iv (D1 214 1) = iv 6 → ((¬ iv (D1 214 4) = iv 80 → Go E (d + 1) kc ks mX12_split 38 [some (vR 214), some (vI x1), some (vI (D1 214 1)), some (vI 0)] [] G D1 Q) ∧ (iv (D1 214 4) = iv 80 → Q (some (vI (-4))) G D1))))) ∧ (iv z2 = iv 0 → Q (some (vI (-1))) G D1))))) : Call E (d + 1) kc ks mX12_split [vR 214, vI x1] G D Q := by
  show Go E (d + 1) kc ks mX12_split 0 [some (vR 214), some (vI x1), none, none] [] G D Q
  refine g_aload_n dX12_split_0 rfl rfl ?_
  refine g_iload_n dX12_split_1 rfl rfl ?_
  refine g_callV (kc := kc) (kc' := 0) (ks := ks) (ks' := 0) (as := [vI x1]) (st := []) (ci := 11) dX12_split_2 cB_X12_isTongue lk_X12_130 in_X12_isTongue se_X12_isTongue (by decide) rfl rfl (Nat.le_of_ble_eq_true rfl) (Nat.le_of_ble_eq_true rfl) (by decide) (hG.lt (by decide)) (congrArg Prod.fst hG.k214) ?_
  refine Go.to (fun r G' D1 hr => ?_) h
  obtain ⟨rfl, z2, rfl, h⟩ := hr
  show Go E (d + 1) kc ks mX12_split 5 [some (vR 214), some (vI x1), none, none] [vI z2] G D1 Q
  refine g_if_ne 10 dX12_split_5 (by decide) ⟨fun hc => ?_, fun hc => ?_⟩
  · replace h := h.1 hc
    refine g_aload_n dX12_split_10 rfl rfl ?_
    refine h_getI (j := 1) dX12_split_11 f_X12_120_11 rfl rfl (by decide) hG.k214 (by decide) (hG.lt (by decide)) ?_
    refine g_bipush dX12_split_14 bp_6 ?_
    refine g_icmp_eq 28 dX12_split_16 (by decide) ⟨fun hc => ?_, fun hc => ?_⟩
    · replace h := h.1 hc
      refine g_bipush dX12_split_28 bp_m4 ?_
      exact g_iret dX12_split_30 rfl h
    · replace h := h.2 hc
      refine g_aload_n dX12_split_19 rfl rfl ?_
      refine h_getI (j := 4) dX12_split_20 f_X12_189_11 rfl rfl (by decide) hG.k214 (by decide) (hG.lt (by decide)) ?_
      refine g_bipush dX12_split_23 bp_80 ?_
      refine g_icmp_ne 31 dX12_split_25 (by decide) ⟨fun hc => ?_, fun hc => ?_⟩
      · replace h := h.1 hc
        refine g_aload_n dX12_split_31 rfl rfl ?_
        refine h_getI (j := 1) dX12_split_32 f_X12_120_11 rfl rfl (by decide) hG.k214 (by decide) (hG.lt (by decide)) ?_
        refine h_istore_n (L' := [some (vR 214), some (vI x1), some (vI (D1 214 1)), none]) dX12_split_35 rfl (Nat.le_of_ble_eq_true rfl) rfl rfl ?_
        refine g_iconst dX12_split_36 ?_
        refine h_istore_n (L' := [some (vR 214), some (vI x1), some (vI (D1 214 1)), some (vI 0)]) dX12_split_37 rfl (Nat.le_of_ble_eq_true rfl) rfl rfl ?_
        exact Go.drop (by simp only [mm_sub, and_self]) h
      · replace h := h.2 hc
        refine g_bipush dX12_split_28 bp_m4 ?_
        exact g_iret dX12_split_30 rfl h
  · replace h := h.2 hc
    refine g_iconst dX12_split_8 ?_
    exact g_iret dX12_split_9 rfl h
set_option maxRecDepth 20000 in
theorem w_X12_split_38 {E : mmE} {d kc ks : Nat} {G : mmG} {D : mmD} {Q : mmQ} {x1 x2 x3 : Int} (hG : Sh G)  (h : ((iv 10 ≤ iv x3 → ((0 ≤ x2 ∧ x2 < 6) ∧ (∀ D1 : mmD, D1 = up2 D 221 x2 x1 → ((0 ≤ x2 ∧ x2 < 6) ∧ (∀ D2 : mmD, D2 = up2 D1 222 x2 (D1 214 2) → (∀ D3 : mmD, D3 = up2 D2 214 1 ((D2 214 1) + 1) → Call E d 0 0 mX12_happens [vR 214, vI 3, vI x2, vI (-5), vI (-5)] G D3 (retV G (fun D4 => Q (some (vI x2)) G D4)))))))) ∧ (¬ iv 10 ≤ iv x3 → Call E d 0 0 mX12_takes [vR 214, vI x1, vI x3] G D (retV G (fun D6 => Call E d 0 0 mX12_puts [vR 214, vI x2, vI x3] G D6 (retV G (fun D8 => ((0 ≤ ((10 * x1) + x3) ∧ ((10 * x1) + x3) < 60) ∧ ((0 ≤ ((10 * x2) + x3) ∧ ((10 * x2) + x3) < 60) ∧ (∀ D10 : mmD, D10 = up2 D8 218 ((10 * x2) + x3) (D8 218 ((10 * x1) + x3)) → ((0 ≤ ((10 * x1) + x3) ∧ ((10 * x1) + x3) < 60) ∧ ((0 ≤ ((10 * x2) + x3) ∧ ((10 * x2) + x3) < 60) ∧ (((D10 219 ((10 * x1) + x3)) = 0 ∨ (D10 219 ((10 * x1) + x3)) = 1) ∧ (∀ D11 : mmD, D11 = up2 D10 219 ((10 * x2) + x3) (D10 219 ((10 * x1) + x3)) → Go E (d + 1) kc ks mX12_split 38 [some (vR 214), some (vI x1), some (vI x2), some (vI (x3 + 1))] [] G D11 Q)))))))))))))) : Go E (d + 1) kc ks mX12_split 38 [some (vR 214), some (vI x1), some (vI x2), some (vI x3)] [] G D Q := by
  refine g_iload_n dX12_split_38 rfl rfl ?_
  refine g_bipush dX12_split_39 bp_10 ?_
  refine g_icmp_ge 106 dX12_split_41 (by decide) ⟨fun hc => ?_, fun hc => ?_⟩
  · replace h := h.1 hc
    refine g_aload_n dX12_split_106 rfl rfl ?_
    refine h_getR (j := 16) dX12_split_107 f_X12_33_11 rfl rfl (by decide) hG.k214 (by decide) (hG.lt (by decide)) hG.r214_16 ?_
    refine g_iload_n dX12_split_110 rfl rfl ?_
    refine g_iload_n dX12_split_111 rfl rfl ?_
    refine g_iast dX12_split_112 hG.k221 (by decide) (hG.lt (by decide)) (by decide) ⟨h.1, ?_⟩
    generalize hD_D1 : up2 D 221 x2 x1 = D1
    replace h := h.2 _ hD_D1.symm
    refine g_aload_n dX12_split_113 rfl rfl ?_
    refine h_getR (j := 17) dX12_split_114 f_X12_36_11 rfl rfl (by decide) hG.k214 (by decide) (hG.lt (by decide)) hG.r214_17 ?_
    refine g_iload_n dX12_split_117 rfl rfl ?_
    refine g_aload_n dX12_split_118 rfl rfl ?_
    refine h_getI (j := 2) dX12_split_119 f_X12_137_11 rfl rfl (by decide) hG.k214 (by decide) (hG.lt (by decide)) ?_
    refine g_iast dX12_split_122 hG.k222 (by decide) (hG.lt (by decide)) (by decide) ⟨h.1, ?_⟩
    generalize hD_D2 : up2 D1 222 x2 (D1 214 2) = D2
    replace h := h.2 _ hD_D2.symm
    refine g_aload_n dX12_split_123 rfl rfl ?_
    refine g_dup dX12_split_124 (fun _ h9 => by cases h9) ?_
    refine h_getI (j := 1) dX12_split_125 f_X12_120_11 rfl rfl (by decide) hG.k214 (by decide) (hG.lt (by decide)) ?_
    refine g_iconst dX12_split_128 ?_
    refine g_iadd dX12_split_129 ?_
    refine h_putI (j := 1) dX12_split_130 f_X12_120_11 (Or.inl (mm_finI (by decide +kernel))) rfl rfl (by decide) hG.k214 (by decide) (hG.lt (by decide)) ?_
    generalize hD_D3 : up2 D2 214 1 ((D2 214 1) + 1) = D3
    replace h := h _ hD_D3.symm
    refine g_aload_n dX12_split_133 rfl rfl ?_
    refine g_iconst dX12_split_134 ?_
    refine g_iload_n dX12_split_135 rfl rfl ?_
    refine g_bipush dX12_split_136 bp_m5 ?_
    refine g_bipush dX12_split_138 bp_m5 ?_
    refine g_callV (kc := kc) (kc' := 0) (ks := ks) (ks' := 0) (as := [vI 3, vI x2, vI (-5), vI (-5)]) (st := []) (ci := 11) dX12_split_140 cB_X12_happens lk_X12_199 in_X12_happens se_X12_happens (by decide) rfl rfl (Nat.le_of_ble_eq_true rfl) (Nat.le_of_ble_eq_true rfl) (by decide) (hG.lt (by decide)) (congrArg Prod.fst hG.k214) ?_
    refine Go.to (fun r G' D4 hr => ?_) h
    obtain ⟨rfl, rfl, h⟩ := hr
    show Go E (d + 1) kc ks mX12_split 143 [some (vR 214), some (vI x1), some (vI x2), some (vI x3)] [] G D4 Q
    refine g_iload_n dX12_split_143 rfl rfl ?_
    exact g_iret dX12_split_144 rfl h
  · replace h := h.2 hc
    refine g_aload_n dX12_split_44 rfl rfl ?_
    refine g_iload_n dX12_split_45 rfl rfl ?_
    refine g_iload_n dX12_split_46 rfl rfl ?_
    refine g_callV (kc := kc) (kc' := 0) (ks := ks) (ks' := 0) (as := [vI x1, vI x3]) (st := []) (ci := 11) dX12_split_47 cB_X12_takes lk_X12_209 in_X12_takes se_X12_takes (by decide) rfl rfl (Nat.le_of_ble_eq_true rfl) (Nat.le_of_ble_eq_true rfl) (by decide) (hG.lt (by decide)) (congrArg Prod.fst hG.k214) ?_
    refine Go.to (fun r G' D6 hr => ?_) h
    obtain ⟨rfl, rfl, h⟩ := hr
    show Go E (d + 1) kc ks mX12_split 50 [some (vR 214), some (vI x1), some (vI x2), some (vI x3)] [] G D6 Q
    refine g_aload_n dX12_split_50 rfl rfl ?_
    refine g_iload_n dX12_split_51 rfl rfl ?_
    refine g_iload_n dX12_split_52 rfl rfl ?_
    refine g_callV (kc := kc) (kc' := 0) (ks := ks) (ks' := 0) (as := [vI x2, vI x3]) (st := []) (ci := 11) dX12_split_53 cB_X12_puts lk_X12_192 in_X12_puts se_X12_puts (by decide) rfl rfl (Nat.le_of_ble_eq_true rfl) (Nat.le_of_ble_eq_true rfl) (by decide) (hG.lt (by decide)) (congrArg Prod.fst hG.k214) ?_
    refine Go.to (fun r G' D8 hr => ?_) h
    obtain ⟨rfl, rfl, h⟩ := hr
    show Go E (d + 1) kc ks mX12_split 56 [some (vR 214), some (vI x1), some (vI x2), some (vI x3)] [] G D8 Q
    refine g_aload_n dX12_split_56 rfl rfl ?_
    refine h_getR (j := 13) dX12_split_57 f_X12_23_11 rfl rfl (by decide) hG.k214 (by decide) (hG.lt (by decide)) hG.r214_13 ?_
    refine g_bipush dX12_split_60 bp_10 ?_
    refine g_iload_n dX12_split_62 rfl rfl ?_
    refine g_imul dX12_split_63 ?_
    refine g_iload_n dX12_split_64 rfl rfl ?_
    refine g_iadd dX12_split_65 ?_
    refine g_aload_n dX12_split_66 rfl rfl ?_
    refine h_getR (j := 13) dX12_split_67 f_X12_23_11 rfl rfl (by decide) hG.k214 (by decide) (hG.lt (by decide)) hG.r214_13 ?_
    refine g_bipush dX12_split_70 bp_10 ?_
    refine g_iload_n dX12_split_72 rfl rfl ?_
    refine g_imul dX12_split_73 ?_
    refine g_iload_n dX12_split_74 rfl rfl ?_
    refine g_iadd dX12_split_75 ?_
    refine g_iald dX12_split_76 hG.k218 (by decide) (hG.lt (by decide)) (by decide) ⟨h.1, ?_⟩
    replace h := h.2
    refine g_iast dX12_split_77 hG.k218 (by decide) (hG.lt (by decide)) (by decide) ⟨h.1, ?_⟩
    generalize hD_D10 : up2 D8 218 ((10 * x2) + x3) (D8 218 ((10 * x1) + x3)) = D10
    replace h := h.2 _ hD_D10.symm
    refine g_aload_n dX12_split_78 rfl rfl ?_
    refine h_getR (j := 14) dX12_split_79 f_X12_26_11 rfl rfl (by decide) hG.k214 (by decide) (hG.lt (by decide)) hG.r214_14 ?_
    refine g_bipush dX12_split_82 bp_10 ?_
    refine g_iload_n dX12_split_84 rfl rfl ?_
    refine g_imul dX12_split_85 ?_
    refine g_iload_n dX12_split_86 rfl rfl ?_
    refine g_iadd dX12_split_87 ?_
    refine g_aload_n dX12_split_88 rfl rfl ?_
    refine h_getR (j := 14) dX12_split_89 f_X12_26_11 rfl rfl (by decide) hG.k214 (by decide) (hG.lt (by decide)) hG.r214_14 ?_
    refine g_bipush dX12_split_92 bp_10 ?_
    refine g_iload_n dX12_split_94 rfl rfl ?_
    refine g_imul dX12_split_95 ?_
    refine g_iload_n dX12_split_96 rfl rfl ?_
    refine g_iadd dX12_split_97 ?_
    refine g_bald dX12_split_98 hG.k219 (by decide) (hG.lt (by decide)) (by decide) ⟨h.1, ?_⟩
    replace h := h.2
    refine g_bast dX12_split_99 hG.k219 (by decide) (hG.lt (by decide)) (by decide) ⟨h.1, h.2.1, ?_⟩
    generalize hD_D11 : up2 D10 219 ((10 * x2) + x3) (D10 219 ((10 * x1) + x3)) = D11
    replace h := h.2.2 _ hD_D11.symm
    refine h_iinc (L' := [some (vR 214), some (vI x1), some (vI x2), some (vI (x3 + 1))]) dX12_split_100 (Nat.le_of_ble_eq_true rfl) rfl rfl rfl ?_
    refine g_goto 38 dX12_split_103 (by decide) ?_
    exact Go.drop (by simp only [mm_sub, and_self]) h
set_option maxRecDepth 20000 in
theorem w_X12_word {E : mmE} {d kc ks : Nat} {G : mmG} {D : mmD} {Q : mmQ} {x1 x2 x3 : Int} (hG : Sh G)  (h : Call E d 0 0 mX12_hasWord [vR 214, vI x1, vI x2] G D (retI G (fun z2 D1 => ((iv z2 = iv 0 → Q (some (vI (-1))) G D1) ∧ (¬ iv z2 = iv 0 → ((0 ≤ ((10 * x1) + x2) ∧ ((10 * x1) + x2) < 60) ∧ Call E d 0 0 mX12_in [vI x3, vI (-1), vI ((D1 216 ((10 * x1) + x2)) - 1)] G D1 (retI G (fun z4 D3 => ((¬ iv z4 = iv 0 → ((¬ iv x3 = iv (-1) → ((0 ≤ (((80 * x1) + (8 * x2)) + x3) ∧ (((80 * x1) + (8 * x2)) + x3) < 480) ∧ Q (some (vI ((D3 217 (((80 * x1) + (8 * x2)) + x3)) - 1))) G D3)) ∧ (iv x3 = iv (-1) → ((0 ≤ ((10 * x1) + x2) ∧ ((10 * x1) + x2) < 60) ∧ Q (some (vI (D3 216 ((10 * x1) + x2)))) G D3)))) ∧ (iv z4 = iv 0 → Q (some (vI (-1))) G D3)))))))))) : Call E (d + 1) kc ks mX12_word [vR 214, vI x1, vI x2, vI x3] G D Q := by
  show Go E (d + 1) kc ks mX12_word 0 [some (vR 214), some (vI x1), some (vI x2), some (vI x3)] [] G D Q
  refine g_aload_n dX12_word_0 rfl rfl ?_
  refine g_iload_n dX12_word_1 rfl rfl ?_
  refine g_iload_n dX12_word_2 rfl rfl ?_
  refine g_callV (kc := kc) (kc' := 0) (ks := ks) (ks' := 0) (as := [vI x1, vI x2]) (st := []) (ci := 11) dX12_word_3 cB_X12_hasWord lk_X12_206 in_X12_hasWord se_X12_hasWord (by decide) rfl rfl (Nat.le_of_ble_eq_true rfl) (Nat.le_of_ble_eq_true rfl) (by decide) (hG.lt (by decide)) (congrArg Prod.fst hG.k214) ?_
  refine Go.to (fun r G' D1 hr => ?_) h
  obtain ⟨rfl, z2, rfl, h⟩ := hr
  show Go E (d + 1) kc ks mX12_word 6 [some (vR 214), some (vI x1), some (vI x2), some (vI x3)] [vI z2] G D1 Q
  refine g_if_eq 30 dX12_word_6 (by decide) ⟨fun hc => ?_, fun hc => ?_⟩
  · replace h := h.1 hc
    refine g_iconst dX12_word_30 ?_
    exact g_iret dX12_word_31 rfl h
  · replace h := h.2 hc
    refine g_iload_n dX12_word_9 rfl rfl ?_
    refine g_iconst dX12_word_10 ?_
    refine g_aload_n dX12_word_11 rfl rfl ?_
    refine h_getR (j := 11) dX12_word_12 f_X12_17_11 rfl rfl (by decide) hG.k214 (by decide) (hG.lt (by decide)) hG.r214_11 ?_
    refine g_bipush dX12_word_15 bp_10 ?_
    refine g_iload_n dX12_word_17 rfl rfl ?_
    refine g_imul dX12_word_18 ?_
    refine g_iload_n dX12_word_19 rfl rfl ?_
    refine g_iadd dX12_word_20 ?_
    refine g_iald dX12_word_21 hG.k216 (by decide) (hG.lt (by decide)) (by decide) ⟨h.1, ?_⟩
    replace h := h.2
    refine g_iconst dX12_word_22 ?_
    refine g_isub dX12_word_23 ?_
    refine g_callS (kc := kc) (kc' := 0) (ks := ks) (ks' := 0) (as := [vI x3, vI (-1), vI ((D1 216 ((10 * x1) + x2)) - 1)]) (st := []) dX12_word_24 cB_X12_in lk_X12_123 st_X12_in rfl (Nat.le_of_ble_eq_true rfl) (Nat.le_of_ble_eq_true rfl) ?_
    refine Go.to (fun r G' D3 hr => ?_) h
    obtain ⟨rfl, z4, rfl, h⟩ := hr
    show Go E (d + 1) kc ks mX12_word 27 [some (vR 214), some (vI x1), some (vI x2), some (vI x3)] [vI z4] G D3 Q
    refine g_if_ne 32 dX12_word_27 (by decide) ⟨fun hc => ?_, fun hc => ?_⟩
    · replace h := h.1 hc
      refine g_iload_n dX12_word_32 rfl rfl ?_
      refine g_iconst dX12_word_33 ?_
      refine g_icmp_ne 51 dX12_word_34 (by decide) ⟨fun hc => ?_, fun hc => ?_⟩
      · replace h := h.1 hc
        refine g_aload_n dX12_word_51 rfl rfl ?_
        refine h_getR (j := 12) dX12_word_52 f_X12_20_11 rfl rfl (by decide) hG.k214 (by decide) (hG.lt (by decide)) hG.r214_12 ?_
        refine g_bipush dX12_word_55 bp_80 ?_
        refine g_iload_n dX12_word_57 rfl rfl ?_
        refine g_imul dX12_word_58 ?_
        refine g_bipush dX12_word_59 bp_8 ?_
        refine g_iload_n dX12_word_61 rfl rfl ?_
        refine g_imul dX12_word_62 ?_
        refine g_iadd dX12_word_63 ?_
        refine g_iload_n dX12_word_64 rfl rfl ?_
        refine g_iadd dX12_word_65 ?_
        refine g_iald dX12_word_66 hG.k217 (by decide) (hG.lt (by decide)) (by decide) ⟨h.1, ?_⟩
        replace h := h.2
        refine g_iconst dX12_word_67 ?_
        refine g_isub dX12_word_68 ?_
        exact g_iret dX12_word_69 rfl h
      · replace h := h.2 hc
        refine g_aload_n dX12_word_37 rfl rfl ?_
        refine h_getR (j := 11) dX12_word_38 f_X12_17_11 rfl rfl (by decide) hG.k214 (by decide) (hG.lt (by decide)) hG.r214_11 ?_
        refine g_bipush dX12_word_41 bp_10 ?_
        refine g_iload_n dX12_word_43 rfl rfl ?_
        refine g_imul dX12_word_44 ?_
        refine g_iload_n dX12_word_45 rfl rfl ?_
        refine g_iadd dX12_word_46 ?_
        refine g_iald dX12_word_47 hG.k216 (by decide) (hG.lt (by decide)) (by decide) ⟨h.1, ?_⟩
        replace h := h.2
        refine g_goto 69 dX12_word_48 (by decide) ?_
        exact g_iret dX12_word_69 rfl h
    · replace h := h.2 hc
      refine g_iconst dX12_word_30 ?_
      exact g_iret dX12_word_31 rfl h
set_option maxRecDepth 20000 in
theorem w_X12_open {E : mmE} {d kc ks : Nat} {G : mmG} {D : mmD} {Q : mmQ} (hG : Sh G)  (h : ((iv (D 214 9) = iv 0 → (∀ D1 : mmD, D1 = up2 D 214 9 1 → Q (some (vI (D1 214 6))) G D1)) ∧ (¬ iv (D 214 9) = iv 0 → Q (some (vI (-3))) G D))) : Call E d kc ks mX12_open [vR 214] G D Q := by
  show Go E d kc ks mX12_open 0 [some (vR 214)] [] G D Q
  refine g_aload_n dX12_open_0 rfl rfl ?_
  refine h_getI (j := 9) dX12_open_1 f_X12_218_11 rfl rfl (by decide) hG.k214 (by decide) (hG.lt (by decide)) ?_
  refine g_if_eq 10 dX12_open_4 (by decide) ⟨fun hc => ?_, fun hc => ?_⟩
  · replace h := h.1 hc
    refine g_aload_n dX12_open_10 rfl rfl ?_
    refine g_iconst dX12_open_11 ?_
    refine h_putZ (j := 9) dX12_open_12 f_X12_218_11 (Or.inl (mm_finI (by decide +kernel))) rfl rfl (by decide) hG.k214 (by decide) (hG.lt (by decide)) ⟨Or.inr rfl, ?_⟩
    generalize hD_D1 : up2 D 214 9 1 = D1
    replace h := h _ hD_D1.symm
    refine g_aload_n dX12_open_15 rfl rfl ?_
    refine h_getI (j := 6) dX12_open_16 f_X12_221_11 rfl rfl (by decide) hG.k214 (by decide) (hG.lt (by decide)) ?_
    exact g_iret dX12_open_19 rfl h
  · replace h := h.2 hc
    refine g_bipush dX12_open_7 bp_m3 ?_
    exact g_iret dX12_open_9 rfl h
set_option maxRecDepth 20000 in
theorem w_X12_truth {E : mmE} {d kc ks : Nat} {G : mmG} {D : mmD} {Q : mmQ} {x1 x2 x3 : Int} (hG : Sh G)  (h : Call E d 0 0 mX12_hasWord [vR 214, vI x1, vI x2] G D (retI G (fun z2 D1 => ((iv z2 = iv 0 → Q (some (vI (-1))) G D1) ∧ (¬ iv z2 = iv 0 → Call E d 0 0 mX12_in [vI x3, vI 0, vI 1] G D1 (retI G (fun z4 D3 => ((¬ iv z4 = iv 0 → ((¬ iv (D3 214 9) = iv 0 → ((¬ iv x3 = iv 0 → ((0 ≤ ((10 * x1) + x2) ∧ ((10 * x1) + x2) < 60) ∧ ((iv (D3 219 ((10 * x1) + x2)) = iv 0 → Q (some (vI 0)) G D3) ∧ (¬ iv (D3 219 ((10 * x1) + x2)) = iv 0 → Q (some (vI 1)) G D3)))) ∧ (iv x3 = iv 0 → ((0 ≤ ((10 * x1) + x2) ∧ ((10 * x1) + x2) < 60) ∧ Q (some (vI (D3 218 ((10 * x1) + x2)))) G D3)))) ∧ (iv (D3 214 9) = iv 0 → Q (some (vI (-3))) G D3))) ∧ (iv z4 = iv 0 → Q (some (vI (-1))) G D3))))))))) : Call E (d + 1) kc ks mX12_truth [vR 214, vI x1, vI x2, vI x3] G D Q := by
  show Go E (d + 1) kc ks mX12_truth 0 [some (vR 214), some (vI x1), some (vI x2), some (vI x3)] [] G D Q
  refine g_aload_n dX12_truth_0 rfl rfl ?_
  refine g_iload_n dX12_truth_1 rfl rfl ?_
  refine g_iload_n dX12_truth_2 rfl rfl ?_
  refine g_callV (kc := kc) (kc' := 0) (ks := ks) (ks' := 0) (as := [vI x1, vI x2]) (st := []) (ci := 11) dX12_truth_3 cB_X12_hasWord lk_X12_206 in_X12_hasWord se_X12_hasWord (by decide) rfl rfl (Nat.le_of_ble_eq_true rfl) (Nat.le_of_ble_eq_true rfl) (by decide) (hG.lt (by decide)) (congrArg Prod.fst hG.k214) ?_
  refine Go.to (fun r G' D1 hr => ?_) h
  obtain ⟨rfl, z2, rfl, h⟩ := hr
  show Go E (d + 1) kc ks mX12_truth 6 [some (vR 214), some (vI x1), some (vI x2), some (vI x3)] [vI z2] G D1 Q
  refine g_if_eq 18 dX12_truth_6 (by decide) ⟨fun hc => ?_, fun hc => ?_⟩
  · replace h := h.1 hc
    refine g_iconst dX12_truth_18 ?_
    exact g_iret dX12_truth_19 rfl h
  · replace h := h.2 hc
    refine g_iload_n dX12_truth_9 rfl rfl ?_
    refine g_iconst dX12_truth_10 ?_
    refine g_iconst dX12_truth_11 ?_
    refine g_callS (kc := kc) (kc' := 0) (ks := ks) (ks' := 0) (as := [vI x3, vI 0, vI 1]) (st := []) dX12_truth_12 cB_X12_in lk_X12_123 st_X12_in rfl (Nat.le_of_ble_eq_true rfl) (Nat.le_of_ble_eq_true rfl) ?_
    refine Go.to (fun r G' D3 hr => ?_) h
    obtain ⟨rfl, z4, rfl, h⟩ := hr
    show Go E (d + 1) kc ks mX12_truth 15 [some (vR 214), some (vI x1), some (vI x2), some (vI x3)] [vI z4] G D3 Q
    refine g_if_ne 20 dX12_truth_15 (by decide) ⟨fun hc => ?_, fun hc => ?_⟩
    · replace h := h.1 hc
      refine g_aload_n dX12_truth_20 rfl rfl ?_
      refine h_getI (j := 9) dX12_truth_21 f_X12_218_11 rfl rfl (by decide) hG.k214 (by decide) (hG.lt (by decide)) ?_
      refine g_if_ne 30 dX12_truth_24 (by decide) ⟨fun hc => ?_, fun hc => ?_⟩
      · replace h := h.1 hc
        refine g_iload_n dX12_truth_30 rfl rfl ?_
        refine g_if_ne 48 dX12_truth_31 (by decide) ⟨fun hc => ?_, fun hc => ?_⟩
        · replace h := h.1 hc
          refine g_aload_n dX12_truth_48 rfl rfl ?_
          refine h_getR (j := 14) dX12_truth_49 f_X12_26_11 rfl rfl (by decide) hG.k214 (by decide) (hG.lt (by decide)) hG.r214_14 ?_
          refine g_bipush dX12_truth_52 bp_10 ?_
          refine g_iload_n dX12_truth_54 rfl rfl ?_
          refine g_imul dX12_truth_55 ?_
          refine g_iload_n dX12_truth_56 rfl rfl ?_
          refine g_iadd dX12_truth_57 ?_
          refine g_bald dX12_truth_58 hG.k219 (by decide) (hG.lt (by decide)) (by decide) ⟨h.1, ?_⟩
          replace h := h.2
          refine g_if_eq 66 dX12_truth_59 (by decide) ⟨fun hc => ?_, fun hc => ?_⟩
          · replace h := h.1 hc
            refine g_iconst dX12_truth_66 ?_
            exact g_iret dX12_truth_67 rfl h
          · replace h := h.2 hc
            refine g_iconst dX12_truth_62 ?_
            refine g_goto 67 dX12_truth_63 (by decide) ?_
            exact g_iret dX12_truth_67 rfl h
        · replace h := h.2 hc
          refine g_aload_n dX12_truth_34 rfl rfl ?_
          refine h_getR (j := 13) dX12_truth_35 f_X12_23_11 rfl rfl (by decide) hG.k214 (by decide) (hG.lt (by decide)) hG.r214_13 ?_
          refine g_bipush dX12_truth_38 bp_10 ?_
          refine g_iload_n dX12_truth_40 rfl rfl ?_
          refine g_imul dX12_truth_41 ?_
          refine g_iload_n dX12_truth_42 rfl rfl ?_
          refine g_iadd dX12_truth_43 ?_
          refine g_iald dX12_truth_44 hG.k218 (by decide) (hG.lt (by decide)) (by decide) ⟨h.1, ?_⟩
          replace h := h.2
          refine g_goto 67 dX12_truth_45 (by decide) ?_
          exact g_iret dX12_truth_67 rfl h
      · replace h := h.2 hc
        refine g_bipush dX12_truth_27 bp_m3 ?_
        exact g_iret dX12_truth_29 rfl h
    · replace h := h.2 hc
      refine g_iconst dX12_truth_18 ?_
      exact g_iret dX12_truth_19 rfl h
set_option maxRecDepth 20000 in
theorem w_X12_from {E : mmE} {d kc ks : Nat} {G : mmG} {D : mmD} {Q : mmQ} {x1 x2 : Int} (hG : Sh G)  (h : Call E d 0 0 mX12_isTongue [vR 214, vI x1] G D (retI G (fun z2 D1 => ((iv z2 = iv 0 → Q (some (vI (-1))) G D1) ∧ (¬ iv z2 = iv 0 → Call E d 0 0 mX12_in [vI x2, vI 0, vI 1] G D1 (retI G (fun z4 D3 => ((¬ iv z4 = iv 0 → ((¬ iv (D3 214 9) = iv 0 → ((0 ≤ x1 ∧ x1 < 6) ∧ ((¬ iv (D3 221 x1) = iv (-1) → ((¬ iv x2 = iv 0 → ((0 ≤ x1 ∧ x1 < 6) ∧ Q (some (vI (D3 222 x1))) G D3)) ∧ (iv x2 = iv 0 → ((0 ≤ x1 ∧ x1 < 6) ∧ Q (some (vI (D3 221 x1))) G D3)))) ∧ (iv (D3 221 x1) = iv (-1) → Q (some (vI (-5))) G D3)))) ∧ (iv (D3 214 9) = iv 0 → Q (some (vI (-3))) G D3))) ∧ (iv z4 = iv 0 → Q (some (vI (-1))) G D3))))))))) : Call E (d + 1) kc ks mX12_from [vR 214, vI x1, vI x2] G D Q := by
  show Go E (d + 1) kc ks mX12_from 0 [some (vR 214), some (vI x1), some (vI x2)] [] G D Q
  refine g_aload_n dX12_from_0 rfl rfl ?_
  refine g_iload_n dX12_from_1 rfl rfl ?_
  refine g_callV (kc := kc) (kc' := 0) (ks := ks) (ks' := 0) (as := [vI x1]) (st := []) (ci := 11) dX12_from_2 cB_X12_isTongue lk_X12_130 in_X12_isTongue se_X12_isTongue (by decide) rfl rfl (Nat.le_of_ble_eq_true rfl) (Nat.le_of_ble_eq_true rfl) (by decide) (hG.lt (by decide)) (congrArg Prod.fst hG.k214) ?_
  refine Go.to (fun r G' D1 hr => ?_) h
  obtain ⟨rfl, z2, rfl, h⟩ := hr
  show Go E (d + 1) kc ks mX12_from 5 [some (vR 214), some (vI x1), some (vI x2)] [vI z2] G D1 Q
  refine g_if_eq 17 dX12_from_5 (by decide) ⟨fun hc => ?_, fun hc => ?_⟩
  · replace h := h.1 hc
    refine g_iconst dX12_from_17 ?_
    exact g_iret dX12_from_18 rfl h
  · replace h := h.2 hc
    refine g_iload_n dX12_from_8 rfl rfl ?_
    refine g_iconst dX12_from_9 ?_
    refine g_iconst dX12_from_10 ?_
    refine g_callS (kc := kc) (kc' := 0) (ks := ks) (ks' := 0) (as := [vI x2, vI 0, vI 1]) (st := []) dX12_from_11 cB_X12_in lk_X12_123 st_X12_in rfl (Nat.le_of_ble_eq_true rfl) (Nat.le_of_ble_eq_true rfl) ?_
    refine Go.to (fun r G' D3 hr => ?_) h
    obtain ⟨rfl, z4, rfl, h⟩ := hr
    show Go E (d + 1) kc ks mX12_from 14 [some (vR 214), some (vI x1), some (vI x2)] [vI z4] G D3 Q
    refine g_if_ne 19 dX12_from_14 (by decide) ⟨fun hc => ?_, fun hc => ?_⟩
    · replace h := h.1 hc
      refine g_aload_n dX12_from_19 rfl rfl ?_
      refine h_getI (j := 9) dX12_from_20 f_X12_218_11 rfl rfl (by decide) hG.k214 (by decide) (hG.lt (by decide)) ?_
      refine g_if_ne 29 dX12_from_23 (by decide) ⟨fun hc => ?_, fun hc => ?_⟩
      · replace h := h.1 hc
        refine g_aload_n dX12_from_29 rfl rfl ?_
        refine h_getR (j := 16) dX12_from_30 f_X12_33_11 rfl rfl (by decide) hG.k214 (by decide) (hG.lt (by decide)) hG.r214_16 ?_
        refine g_iload_n dX12_from_33 rfl rfl ?_
        refine g_iald dX12_from_34 hG.k221 (by decide) (hG.lt (by decide)) (by decide) ⟨h.1, ?_⟩
        replace h := h.2
        refine g_iconst dX12_from_35 ?_
        refine g_icmp_ne 44 dX12_from_36 (by decide) ⟨fun hc => ?_, fun hc => ?_⟩
        · replace h := h.1 hc
          refine g_iload_n dX12_from_44 rfl rfl ?_
          refine g_if_ne 57 dX12_from_45 (by decide) ⟨fun hc => ?_, fun hc => ?_⟩
          · replace h := h.1 hc
            refine g_aload_n dX12_from_57 rfl rfl ?_
            refine h_getR (j := 17) dX12_from_58 f_X12_36_11 rfl rfl (by decide) hG.k214 (by decide) (hG.lt (by decide)) hG.r214_17 ?_
            refine g_iload_n dX12_from_61 rfl rfl ?_
            refine g_iald dX12_from_62 hG.k222 (by decide) (hG.lt (by decide)) (by decide) ⟨h.1, ?_⟩
            replace h := h.2
            exact g_iret dX12_from_63 rfl h
          · replace h := h.2 hc
            refine g_aload_n dX12_from_48 rfl rfl ?_
            refine h_getR (j := 16) dX12_from_49 f_X12_33_11 rfl rfl (by decide) hG.k214 (by decide) (hG.lt (by decide)) hG.r214_16 ?_
            refine g_iload_n dX12_from_52 rfl rfl ?_
            refine g_iald dX12_from_53 hG.k221 (by decide) (hG.lt (by decide)) (by decide) ⟨h.1, ?_⟩
            replace h := h.2
            refine g_goto 63 dX12_from_54 (by decide) ?_
            exact g_iret dX12_from_63 rfl h
        · replace h := h.2 hc
          refine g_bipush dX12_from_39 bp_m5 ?_
          refine g_goto 63 dX12_from_41 (by decide) ?_
          exact g_iret dX12_from_63 rfl h
      · replace h := h.2 hc
        refine g_bipush dX12_from_26 bp_m3 ?_
        exact g_iret dX12_from_28 rfl h
    · replace h := h.2 hc
      refine g_iconst dX12_from_17 ?_
      exact g_iret dX12_from_18 rfl h
set_option maxRecDepth 20000 in
theorem w_X12_event {E : mmE} {d kc ks : Nat} {G : mmG} {D : mmD} {Q : mmQ} {x1 x2 : Int} (hG : Sh G)  (h : Call E d 0 0 mX12_in [vI x1, vI 0, vI ((D 214 4) - 1)] G D (retI G (fun z2 D1 => ((iv z2 = iv 0 → Q (some (vI (-1))) G D1) ∧ (¬ iv z2 = iv 0 → Call E d 0 0 mX12_in [vI x2, vI 0, vI 4] G D1 (retI G (fun z4 D3 => ((¬ iv z4 = iv 0 → ((¬ iv (D3 214 9) = iv 0 → (((iv x2).toInt = 0 → ((0 ≤ x1 ∧ x1 < 80) ∧ Q (some (vI (D3 228 x1))) G D3)) ∧ ((iv x2).toInt = 1 → ((0 ≤ x1 ∧ x1 < 80) ∧ Q (some (vI (D3 229 x1))) G D3)) ∧ ((iv x2).toInt = 2 → ((0 ≤ x1 ∧ x1 < 80) ∧ Q (some (vI (D3 230 x1))) G D3)) ∧ ((iv x2).toInt = 3 → ((0 ≤ x1 ∧ x1 < 80) ∧ Q (some (vI (D3 231 x1))) G D3)) ∧ (((iv x2).toInt < 0 ∨ 3 < (iv x2).toInt) → ((0 ≤ x1 ∧ x1 < 80) ∧ Q (some (vI (D3 232 x1))) G D3)))) ∧ (iv (D3 214 9) = iv 0 → Q (some (vI (-3))) G D3))) ∧ (iv z4 = iv 0 → Q (some (vI (-1))) G D3))))))))) : Call E (d + 1) kc ks mX12_event [vR 214, vI x1, vI x2] G D Q := by
  show Go E (d + 1) kc ks mX12_event 0 [some (vR 214), some (vI x1), some (vI x2)] [] G D Q
  refine g_iload_n dX12_event_0 rfl rfl ?_
  refine g_iconst dX12_event_1 ?_
  refine g_aload_n dX12_event_2 rfl rfl ?_
  refine h_getI (j := 4) dX12_event_3 f_X12_189_11 rfl rfl (by decide) hG.k214 (by decide) (hG.lt (by decide)) ?_
  refine g_iconst dX12_event_6 ?_
  refine g_isub dX12_event_7 ?_
  refine g_callS (kc := kc) (kc' := 0) (ks := ks) (ks' := 0) (as := [vI x1, vI 0, vI ((D 214 4) - 1)]) (st := []) dX12_event_8 cB_X12_in lk_X12_123 st_X12_in rfl (Nat.le_of_ble_eq_true rfl) (Nat.le_of_ble_eq_true rfl) ?_
  refine Go.to (fun r G' D1 hr => ?_) h
  obtain ⟨rfl, z2, rfl, h⟩ := hr
  show Go E (d + 1) kc ks mX12_event 11 [some (vR 214), some (vI x1), some (vI x2)] [vI z2] G D1 Q
  refine g_if_eq 23 dX12_event_11 (by decide) ⟨fun hc => ?_, fun hc => ?_⟩
  · replace h := h.1 hc
    refine g_iconst dX12_event_23 ?_
    exact g_iret dX12_event_24 rfl h
  · replace h := h.2 hc
    refine g_iload_n dX12_event_14 rfl rfl ?_
    refine g_iconst dX12_event_15 ?_
    refine g_iconst dX12_event_16 ?_
    refine g_callS (kc := kc) (kc' := 0) (ks := ks) (ks' := 0) (as := [vI x2, vI 0, vI 4]) (st := []) dX12_event_17 cB_X12_in lk_X12_123 st_X12_in rfl (Nat.le_of_ble_eq_true rfl) (Nat.le_of_ble_eq_true rfl) ?_
    refine Go.to (fun r G' D3 hr => ?_) h
    obtain ⟨rfl, z4, rfl, h⟩ := hr
    show Go E (d + 1) kc ks mX12_event 20 [some (vR 214), some (vI x1), some (vI x2)] [vI z4] G D3 Q
    refine g_if_ne 25 dX12_event_20 (by decide) ⟨fun hc => ?_, fun hc => ?_⟩
    · replace h := h.1 hc
      refine g_aload_n dX12_event_25 rfl rfl ?_
      refine h_getI (j := 9) dX12_event_26 f_X12_218_11 rfl rfl (by decide) hG.k214 (by decide) (hG.lt (by decide)) ?_
      refine g_if_ne 35 dX12_event_29 (by decide) ⟨fun hc => ?_, fun hc => ?_⟩
      · replace h := h.1 hc
        refine g_iload_n dX12_event_35 rfl rfl ?_
        refine g_tswitch 96 [68, 75, 82, 89] dX12_event_36 (by decide) (by decide) (by decide) (fun j hj t ht => ?_) (fun hc => ?_)
        · match j, hj, ht with
          | 0, hj, ht =>
            cases ht
            replace h := h.1 (hj.trans (by decide))
            refine g_aload_n dX12_event_68 rfl rfl ?_
            refine h_getR (j := 23) dX12_event_69 f_X12_54_11 rfl rfl (by decide) hG.k214 (by decide) (hG.lt (by decide)) hG.r214_23 ?_
            refine g_iload_n dX12_event_72 rfl rfl ?_
            refine g_iald dX12_event_73 hG.k228 (by decide) (hG.lt (by decide)) (by decide) ⟨h.1, ?_⟩
            replace h := h.2
            exact g_iret dX12_event_74 rfl h
          | 1, hj, ht =>
            cases ht
            replace h := h.2.1 (hj.trans (by decide))
            refine g_aload_n dX12_event_75 rfl rfl ?_
            refine h_getR (j := 24) dX12_event_76 f_X12_57_11 rfl rfl (by decide) hG.k214 (by decide) (hG.lt (by decide)) hG.r214_24 ?_
            refine g_iload_n dX12_event_79 rfl rfl ?_
            refine g_iald dX12_event_80 hG.k229 (by decide) (hG.lt (by decide)) (by decide) ⟨h.1, ?_⟩
            replace h := h.2
            exact g_iret dX12_event_81 rfl h
          | 2, hj, ht =>
            cases ht
            replace h := h.2.2.1 (hj.trans (by decide))
            refine g_aload_n dX12_event_82 rfl rfl ?_
            refine h_getR (j := 25) dX12_event_83 f_X12_60_11 rfl rfl (by decide) hG.k214 (by decide) (hG.lt (by decide)) hG.r214_25 ?_
            refine g_iload_n dX12_event_86 rfl rfl ?_
            refine g_iald dX12_event_87 hG.k230 (by decide) (hG.lt (by decide)) (by decide) ⟨h.1, ?_⟩
            replace h := h.2
            exact g_iret dX12_event_88 rfl h
          | 3, hj, ht =>
            cases ht
            replace h := h.2.2.2.1 (hj.trans (by decide))
            refine g_aload_n dX12_event_89 rfl rfl ?_
            refine h_getR (j := 26) dX12_event_90 f_X12_63_11 rfl rfl (by decide) hG.k214 (by decide) (hG.lt (by decide)) hG.r214_26 ?_
            refine g_iload_n dX12_event_93 rfl rfl ?_
            refine g_iald dX12_event_94 hG.k231 (by decide) (hG.lt (by decide)) (by decide) ⟨h.1, ?_⟩
            replace h := h.2
            exact g_iret dX12_event_95 rfl h
          | j + 4, hj, ht => simp at ht
        · replace h := h.2.2.2.2 hc
          refine g_aload_n dX12_event_96 rfl rfl ?_
          refine h_getR (j := 27) dX12_event_97 f_X12_66_11 rfl rfl (by decide) hG.k214 (by decide) (hG.lt (by decide)) hG.r214_27 ?_
          refine g_iload_n dX12_event_100 rfl rfl ?_
          refine g_iald dX12_event_101 hG.k232 (by decide) (hG.lt (by decide)) (by decide) ⟨h.1, ?_⟩
          replace h := h.2
          exact g_iret dX12_event_102 rfl h
      · replace h := h.2 hc
        refine g_bipush dX12_event_32 bp_m3 ?_
        exact g_iret dX12_event_34 rfl h
    · replace h := h.2 hc
      refine g_iconst dX12_event_23 ?_
      exact g_iret dX12_event_24 rfl h
set_option maxRecDepth 20000 in
theorem w_X12_limit {E : mmE} {d kc ks : Nat} {G : mmG} {D : mmD} {Q : mmQ} {x1 : Int} (hG : Sh G)  (h : Call E d 0 0 mX12_in [vI x1, vI 0, vI 60] G D (retI G (fun z2 D1 => ((¬ iv z2 = iv 0 → (∀ D3 : mmD, D3 = up2 D1 214 8 x1 → Q (some (vI (D1 214 8))) G D3)) ∧ (iv z2 = iv 0 → Q (some (vI (-2))) G D1))))) : Call E (d + 1) kc ks mX12_limit [vR 214, vI x1] G D Q := by
  show Go E (d + 1) kc ks mX12_limit 0 [some (vR 214), some (vI x1), none] [] G D Q
  refine g_iload_n dX12_limit_0 rfl rfl ?_
  refine g_iconst dX12_limit_1 ?_
  refine g_bipush dX12_limit_2 bp_60 ?_
  refine g_callS (kc := kc) (kc' := 0) (ks := ks) (ks' := 0) (as := [vI x1, vI 0, vI 60]) (st := []) dX12_limit_4 cB_X12_in lk_X12_123 st_X12_in rfl (Nat.le_of_ble_eq_true rfl) (Nat.le_of_ble_eq_true rfl) ?_
  refine Go.to (fun r G' D1 hr => ?_) h
  obtain ⟨rfl, z2, rfl, h⟩ := hr
  show Go E (d + 1) kc ks mX12_limit 7 [some (vR 214), some (vI x1), none] [vI z2] G D1 Q
  refine g_if_ne 13 dX12_limit_7 (by decide) ⟨fun hc => ?_, fun hc => ?_⟩
  · replace h := h.1 hc
    refine g_aload_n dX12_limit_13 rfl rfl ?_
    refine h_getI (j := 8) dX12_limit_14 f_X12_7_11 rfl rfl (by decide) hG.k214 (by decide) (hG.lt (by decide)) ?_
    refine h_istore_n (L' := [some (vR 214), some (vI x1), some (vI (D1 214 8))]) dX12_limit_17 rfl (Nat.le_of_ble_eq_true rfl) rfl rfl ?_
    refine g_aload_n dX12_limit_18 rfl rfl ?_
    refine g_iload_n dX12_limit_19 rfl rfl ?_
    refine h_putI (j := 8) dX12_limit_20 f_X12_7_11 (Or.inl (mm_finI (by decide +kernel))) rfl rfl (by decide) hG.k214 (by decide) (hG.lt (by decide)) ?_
    generalize hD_D3 : up2 D1 214 8 x1 = D3
    replace h := h _ hD_D3.symm
    refine g_iload_n dX12_limit_23 rfl rfl ?_
    exact g_iret dX12_limit_24 rfl h
  · replace h := h.2 hc
    refine g_bipush dX12_limit_10 bp_m2 ?_
    exact g_iret dX12_limit_12 rfl h
set_option maxRecDepth 20000 in
theorem w_X12_hole {E : mmE} {d kc ks : Nat} {G : mmG} {D : mmD} {Q : mmQ} {x1 x2 x3 : Int} (hG : Sh G)  (h : Call E d 0 0 mX12_isTongue [vR 214, vI x1] G D (retI G (fun z2 D1 => ((iv z2 = iv 0 → Q (some (vI (-1))) G D1) ∧ (¬ iv z2 = iv 0 → Call E d 0 0 mX12_isMeaning [vI x2] G D1 (retI G (fun z4 D3 => ((¬ iv z4 = iv 0 → ((0 ≤ ((10 * x1) + x2) ∧ ((10 * x1) + x2) < 60) ∧ ((iv (D3 220 ((10 * x1) + x2)) = iv 0 → ((0 ≤ ((10 * x1) + x2) ∧ ((10 * x1) + x2) < 60) ∧ ((x3 = 0 ∨ x3 = 1) ∧ (∀ D5 : mmD, D5 = up2 D3 220 ((10 * x1) + x2) x3 → Q (some (vI 0)) G D5)))) ∧ (¬ iv (D3 220 ((10 * x1) + x2)) = iv 0 → ((0 ≤ ((10 * x1) + x2) ∧ ((10 * x1) + x2) < 60) ∧ ((x3 = 0 ∨ x3 = 1) ∧ (∀ D6 : mmD, D6 = up2 D3 220 ((10 * x1) + x2) x3 → Q (some (vI 1)) G D6))))))) ∧ (iv z4 = iv 0 → Q (some (vI (-1))) G D3))))))))) : Call E (d + 1) kc ks mX12_hole [vR 214, vI x1, vI x2, vI x3] G D Q := by
  show Go E (d + 1) kc ks mX12_hole 0 [some (vR 214), some (vI x1), some (vI x2), some (vI x3), none] [] G D Q
  refine g_aload_n dX12_hole_0 rfl rfl ?_
  refine g_iload_n dX12_hole_1 rfl rfl ?_
  refine g_callV (kc := kc) (kc' := 0) (ks := ks) (ks' := 0) (as := [vI x1]) (st := []) (ci := 11) dX12_hole_2 cB_X12_isTongue lk_X12_130 in_X12_isTongue se_X12_isTongue (by decide) rfl rfl (Nat.le_of_ble_eq_true rfl) (Nat.le_of_ble_eq_true rfl) (by decide) (hG.lt (by decide)) (congrArg Prod.fst hG.k214) ?_
  refine Go.to (fun r G' D1 hr => ?_) h
  obtain ⟨rfl, z2, rfl, h⟩ := hr
  show Go E (d + 1) kc ks mX12_hole 5 [some (vR 214), some (vI x1), some (vI x2), some (vI x3), none] [vI z2] G D1 Q
  refine g_if_eq 15 dX12_hole_5 (by decide) ⟨fun hc => ?_, fun hc => ?_⟩
  · replace h := h.1 hc
    refine g_iconst dX12_hole_15 ?_
    exact g_iret dX12_hole_16 rfl h
  · replace h := h.2 hc
    refine g_iload_n dX12_hole_8 rfl rfl ?_
    refine g_callS (kc := kc) (kc' := 0) (ks := ks) (ks' := 0) (as := [vI x2]) (st := []) dX12_hole_9 cB_X12_isMeaning lk_X12_134 st_X12_isMeaning rfl (Nat.le_of_ble_eq_true rfl) (Nat.le_of_ble_eq_true rfl) ?_
    refine Go.to (fun r G' D3 hr => ?_) h
    obtain ⟨rfl, z4, rfl, h⟩ := hr
    show Go E (d + 1) kc ks mX12_hole 12 [some (vR 214), some (vI x1), some (vI x2), some (vI x3), none] [vI z4] G D3 Q
    refine g_if_ne 17 dX12_hole_12 (by decide) ⟨fun hc => ?_, fun hc => ?_⟩
    · replace h := h.1 hc
      refine g_aload_n dX12_hole_17 rfl rfl ?_
      refine h_getR (j := 15) dX12_hole_18 f_X12_30_11 rfl rfl (by decide) hG.k214 (by decide) (hG.lt (by decide)) hG.r214_15 ?_
      refine g_bipush dX12_hole_21 bp_10 ?_
      refine g_iload_n dX12_hole_23 rfl rfl ?_
      refine g_imul dX12_hole_24 ?_
      refine g_iload_n dX12_hole_25 rfl rfl ?_
      refine g_iadd dX12_hole_26 ?_
      refine g_bald dX12_hole_27 hG.k220 (by decide) (hG.lt (by decide)) (by decide) ⟨h.1, ?_⟩
      replace h := h.2
      refine g_if_eq 35 dX12_hole_28 (by decide) ⟨fun hc => ?_, fun hc => ?_⟩
      · replace h := h.1 hc
        refine g_iconst dX12_hole_35 ?_
        refine h_istore (L' := [some (vR 214), some (vI x1), some (vI x2), some (vI x3), some (vI 0)]) dX12_hole_36 (Nat.le_of_ble_eq_true rfl) rfl rfl ?_
        refine g_aload_n dX12_hole_38 rfl rfl ?_
        refine h_getR (j := 15) dX12_hole_39 f_X12_30_11 rfl rfl (by decide) hG.k214 (by decide) (hG.lt (by decide)) hG.r214_15 ?_
        refine g_bipush dX12_hole_42 bp_10 ?_
        refine g_iload_n dX12_hole_44 rfl rfl ?_
        refine g_imul dX12_hole_45 ?_
        refine g_iload_n dX12_hole_46 rfl rfl ?_
        refine g_iadd dX12_hole_47 ?_
        refine g_iload_n dX12_hole_48 rfl rfl ?_
        refine g_bast dX12_hole_49 hG.k220 (by decide) (hG.lt (by decide)) (by decide) ⟨h.1, h.2.1, ?_⟩
        generalize hD_D5 : up2 D3 220 ((10 * x1) + x2) x3 = D5
        replace h := h.2.2 _ hD_D5.symm
        refine g_iload dX12_hole_50 rfl ?_
        exact g_iret dX12_hole_52 rfl h
      · replace h := h.2 hc
        refine g_iconst dX12_hole_31 ?_
        refine g_goto 36 dX12_hole_32 (by decide) ?_
        refine h_istore (L' := [some (vR 214), some (vI x1), some (vI x2), some (vI x3), some (vI 1)]) dX12_hole_36 (Nat.le_of_ble_eq_true rfl) rfl rfl ?_
        refine g_aload_n dX12_hole_38 rfl rfl ?_
        refine h_getR (j := 15) dX12_hole_39 f_X12_30_11 rfl rfl (by decide) hG.k214 (by decide) (hG.lt (by decide)) hG.r214_15 ?_
        refine g_bipush dX12_hole_42 bp_10 ?_
        refine g_iload_n dX12_hole_44 rfl rfl ?_
        refine g_imul dX12_hole_45 ?_
        refine g_iload_n dX12_hole_46 rfl rfl ?_
        refine g_iadd dX12_hole_47 ?_
        refine g_iload_n dX12_hole_48 rfl rfl ?_
        refine g_bast dX12_hole_49 hG.k220 (by decide) (hG.lt (by decide)) (by decide) ⟨h.1, h.2.1, ?_⟩
        generalize hD_D6 : up2 D3 220 ((10 * x1) + x2) x3 = D6
        replace h := h.2.2 _ hD_D6.symm
        refine g_iload dX12_hole_50 rfl ?_
        exact g_iret dX12_hole_52 rfl h
    · replace h := h.2 hc
      refine g_iconst dX12_hole_15 ?_
      exact g_iret dX12_hole_16 rfl h
set_option maxRecDepth 20000 in
theorem w_X12_has {E : mmE} {d kc ks : Nat} {G : mmG} {D : mmD} {Q : mmQ} {x1 x2 : Int} (hG : Sh G)  (h : Call E d 0 0 mX12_hasWord [vR 214, vI x1, vI x2] G D (retI G (fun z2 D1 => ((iv z2 = iv 0 → Q (some (vI 0)) G D1) ∧ (¬ iv z2 = iv 0 → ((0 ≤ ((10 * x1) + x2) ∧ ((10 * x1) + x2) < 60) ∧ ((¬ iv (D1 220 ((10 * x1) + x2)) = iv 0 → Q (some (vI 0)) G D1) ∧ (iv (D1 220 ((10 * x1) + x2)) = iv 0 → Q (some (vI 1)) G D1)))))))) : Call E (d + 1) kc ks mX12_has [vR 214, vI x1, vI x2] G D Q := by
  show Go E (d + 1) kc ks mX12_has 0 [some (vR 214), some (vI x1), some (vI x2)] [] G D Q
  refine g_aload_n dX12_has_0 rfl rfl ?_
  refine g_iload_n dX12_has_1 rfl rfl ?_
  refine g_iload_n dX12_has_2 rfl rfl ?_
  refine g_callV (kc := kc) (kc' := 0) (ks := ks) (ks' := 0) (as := [vI x1, vI x2]) (st := []) (ci := 11) dX12_has_3 cB_X12_hasWord lk_X12_206 in_X12_hasWord se_X12_hasWord (by decide) rfl rfl (Nat.le_of_ble_eq_true rfl) (Nat.le_of_ble_eq_true rfl) (by decide) (hG.lt (by decide)) (congrArg Prod.fst hG.k214) ?_
  refine Go.to (fun r G' D1 hr => ?_) h
  obtain ⟨rfl, z2, rfl, h⟩ := hr
  show Go E (d + 1) kc ks mX12_has 6 [some (vR 214), some (vI x1), some (vI x2)] [vI z2] G D1 Q
  refine g_if_eq 27 dX12_has_6 (by decide) ⟨fun hc => ?_, fun hc => ?_⟩
  · replace h := h.1 hc
    refine g_iconst dX12_has_27 ?_
    exact g_zret dX12_has_28 rfl ⟨Or.inl rfl, h⟩
  · replace h := h.2 hc
    refine g_aload_n dX12_has_9 rfl rfl ?_
    refine h_getR (j := 15) dX12_has_10 f_X12_30_11 rfl rfl (by decide) hG.k214 (by decide) (hG.lt (by decide)) hG.r214_15 ?_
    refine g_bipush dX12_has_13 bp_10 ?_
    refine g_iload_n dX12_has_15 rfl rfl ?_
    refine g_imul dX12_has_16 ?_
    refine g_iload_n dX12_has_17 rfl rfl ?_
    refine g_iadd dX12_has_18 ?_
    refine g_bald dX12_has_19 hG.k220 (by decide) (hG.lt (by decide)) (by decide) ⟨h.1, ?_⟩
    replace h := h.2
    refine g_if_ne 27 dX12_has_20 (by decide) ⟨fun hc => ?_, fun hc => ?_⟩
    · replace h := h.1 hc
      refine g_iconst dX12_has_27 ?_
      exact g_zret dX12_has_28 rfl ⟨Or.inl rfl, h⟩
    · replace h := h.2 hc
      refine g_iconst dX12_has_23 ?_
      refine g_goto 28 dX12_has_24 (by decide) ?_
      exact g_zret dX12_has_28 rfl ⟨Or.inr rfl, h⟩
set_option maxRecDepth 20000 in
theorem w_X12_apart {E : mmE} {d kc ks : Nat} {G : mmG} {D : mmD} {Q : mmQ} {x0 x1 : Int} (hG : Sh G)  (h : ((¬ iv x0 = iv x1 → Call E d 0 0 mX12_isVowel [vI x0] G D (retI G (fun z2 D1 => Call E d 0 0 mX12_isVowel [vI x1] G D1 (retI G (fun z4 D3 => ((¬ iv z2 = iv z4 → Q (some (vI 3)) G D3) ∧ (iv z2 = iv z4 → Q (some (vI 1)) G D3))))))) ∧ (iv x0 = iv x1 → Q (some (vI 0)) G D))) : Call E (d + 1) kc ks mX12_apart [vI x0, vI x1] G D Q := by
  show Go E (d + 1) kc ks mX12_apart 0 [some (vI x0), some (vI x1)] [] G D Q
  refine g_iload_n dX12_apart_0 rfl rfl ?_
  refine g_iload_n dX12_apart_1 rfl rfl ?_
  refine g_icmp_ne 9 dX12_apart_2 (by decide) ⟨fun hc => ?_, fun hc => ?_⟩
  · replace h := h.1 hc
    refine g_iload_n dX12_apart_9 rfl rfl ?_
    refine g_callS (kc := kc) (kc' := 0) (ks := ks) (ks' := 0) (as := [vI x0]) (st := []) dX12_apart_10 cB_X12_isVowel lk_X12_172 st_X12_isVowel rfl (Nat.le_of_ble_eq_true rfl) (Nat.le_of_ble_eq_true rfl) ?_
    refine Go.to (fun r G' D1 hr => ?_) h
    obtain ⟨rfl, z2, rfl, h⟩ := hr
    show Go E (d + 1) kc ks mX12_apart 13 [some (vI x0), some (vI x1)] [vI z2] G D1 Q
    refine g_iload_n dX12_apart_13 rfl rfl ?_
    refine g_callS (kc := kc) (kc' := 0) (ks := ks) (ks' := 0) (as := [vI x1]) (st := [vI z2]) dX12_apart_14 cB_X12_isVowel lk_X12_172 st_X12_isVowel rfl (Nat.le_of_ble_eq_true rfl) (Nat.le_of_ble_eq_true rfl) ?_
    refine Go.to (fun r G' D3 hr => ?_) h
    obtain ⟨rfl, z4, rfl, h⟩ := hr
    show Go E (d + 1) kc ks mX12_apart 17 [some (vI x0), some (vI x1)] [vI z4, vI z2] G D3 Q
    refine g_icmp_ne 24 dX12_apart_17 (by decide) ⟨fun hc => ?_, fun hc => ?_⟩
    · replace h := h.1 hc
      refine g_iconst dX12_apart_24 ?_
      exact g_iret dX12_apart_25 rfl h
    · replace h := h.2 hc
      refine g_iconst dX12_apart_20 ?_
      refine g_goto 25 dX12_apart_21 (by decide) ?_
      exact g_iret dX12_apart_25 rfl h
  · replace h := h.2 hc
    refine g_iconst dX12_apart_5 ?_
    refine g_goto 25 dX12_apart_6 (by decide) ?_
    exact g_iret dX12_apart_25 rfl h
set_option maxRecDepth 20000 in
theorem w_X12_costOf {E : mmE} {d kc ks : Nat} {G : mmG} {D : mmD} {Q : mmQ} {x1 x2 x3 x4 : Int} (hG : Sh G)  (h : ((0 ≤ ((10 * x1) + x2) ∧ ((10 * x1) + x2) < 60) ∧ ((0 ≤ ((10 * x3) + x4) ∧ ((10 * x3) + x4) < 60) ∧ Go E (d + 1) kc ks mX12_costOf 31 [some (vR 214), some (vI x1), some (vI x2), some (vI x3), some (vI x4), some (vI (D 216 ((10 * x1) + x2))), some (vI (D 216 ((10 * x3) + x4))), some (vI (D 216 ((10 * x1) + x2))), none, none] [] G D Q))) : Call E (d + 1) kc ks mX12_costOf [vR 214, vI x1, vI x2, vI x3, vI x4] G D Q := by
  show Go E (d + 1) kc ks mX12_costOf 0 [some (vR 214), some (vI x1), some (vI x2), some (vI x3), some (vI x4), none, none, none, none, none] [] G D Q
  refine g_aload_n dX12_costOf_0 rfl rfl ?_
  refine h_getR (j := 11) dX12_costOf_1 f_X12_17_11 rfl rfl (by decide) hG.k214 (by decide) (hG.lt (by decide)) hG.r214_11 ?_
  refine g_bipush dX12_costOf_4 bp_10 ?_
  refine g_iload_n dX12_costOf_6 rfl rfl ?_
  refine g_imul dX12_costOf_7 ?_
  refine g_iload_n dX12_costOf_8 rfl rfl ?_
  refine g_iadd dX12_costOf_9 ?_
  refine g_iald dX12_costOf_10 hG.k216 (by decide) (hG.lt (by decide)) (by decide) ⟨h.1, ?_⟩
  replace h := h.2
  refine h_istore (L' := [some (vR 214), some (vI x1), some (vI x2), some (vI x3), some (vI x4), some (vI (D 216 ((10 * x1) + x2))), none, none, none, none]) dX12_costOf_11 (Nat.le_of_ble_eq_true rfl) rfl rfl ?_
  refine g_aload_n dX12_costOf_13 rfl rfl ?_
  refine h_getR (j := 11) dX12_costOf_14 f_X12_17_11 rfl rfl (by decide) hG.k214 (by decide) (hG.lt (by decide)) hG.r214_11 ?_
  refine g_bipush dX12_costOf_17 bp_10 ?_
  refine g_iload_n dX12_costOf_19 rfl rfl ?_
  refine g_imul dX12_costOf_20 ?_
  refine g_iload dX12_costOf_21 rfl ?_
  refine g_iadd dX12_costOf_23 ?_
  refine g_iald dX12_costOf_24 hG.k216 (by decide) (hG.lt (by decide)) (by decide) ⟨h.1, ?_⟩
  replace h := h.2
  refine h_istore (L' := [some (vR 214), some (vI x1), some (vI x2), some (vI x3), some (vI x4), some (vI (D 216 ((10 * x1) + x2))), some (vI (D 216 ((10 * x3) + x4))), none, none, none]) dX12_costOf_25 (Nat.le_of_ble_eq_true rfl) rfl rfl ?_
  refine g_iload dX12_costOf_27 rfl ?_
  refine h_istore (L' := [some (vR 214), some (vI x1), some (vI x2), some (vI x3), some (vI x4), some (vI (D 216 ((10 * x1) + x2))), some (vI (D 216 ((10 * x3) + x4))), some (vI (D 216 ((10 * x1) + x2))), none, none]) dX12_costOf_29 (Nat.le_of_ble_eq_true rfl) rfl rfl ?_
  exact Go.drop (by simp only [mm_sub, and_self]) h
set_option maxRecDepth 20000 in
theorem w_X12_costOf_31 {E : mmE} {d kc ks : Nat} {G : mmG} {D : mmD} {Q : mmQ} {x1 x2 x3 x4 x5 x6 x7 : Int} (hG : Sh G)  (h : ((iv x7 < iv 0 → Q (some (vI (D 237 0))) G D) ∧ (¬ iv x7 < iv 0 → Go E (d + 1) kc ks mX12_costOf 40 [some (vR 214), some (vI x1), some (vI x2), some (vI x3), some (vI x4), some (vI x5), some (vI x6), some (vI x7), some (vI x6), none] [] G D Q))) : Go E (d + 1) kc ks mX12_costOf 31 [some (vR 214), some (vI x1), some (vI x2), some (vI x3), some (vI x4), some (vI x5), some (vI x6), some (vI x7), none, none] [] G D Q := by
  refine g_iload dX12_costOf_31 rfl ?_
  refine g_if_lt 263 dX12_costOf_33 (by decide) ⟨fun hc => ?_, fun hc => ?_⟩
  · replace h := h.1 hc
    refine g_aload_n dX12_costOf_263 rfl rfl ?_
    refine h_getR (j := 36) dX12_costOf_264 f_X12_81_11 rfl rfl (by decide) hG.k214 (by decide) (hG.lt (by decide)) hG.r214_36 ?_
    refine g_iconst dX12_costOf_267 ?_
    refine g_iald dX12_costOf_268 hG.k237 (by decide) (hG.lt (by decide)) (by decide) ⟨⟨by decide, by decide⟩, ?_⟩
    exact g_iret dX12_costOf_269 rfl h
  · replace h := h.2 hc
    refine g_iload dX12_costOf_36 rfl ?_
    refine h_istore (L' := [some (vR 214), some (vI x1), some (vI x2), some (vI x3), some (vI x4), some (vI x5), some (vI x6), some (vI x7), some (vI x6), none]) dX12_costOf_38 (Nat.le_of_ble_eq_true rfl) rfl rfl ?_
    exact Go.drop (by simp only [mm_sub, and_self]) h
set_option maxRecDepth 20000 in
theorem w_X12_costOf_40 {E : mmE} {d kc ks : Nat} {G : mmG} {D : mmD} {Q : mmQ} {x1 x2 x3 x4 x5 x6 x7 x8 : Int} (hG : Sh G)  (h : ((iv x8 < iv 0 → Go E (d + 1) kc ks mX12_costOf 31 [some (vR 214), some (vI x1), some (vI x2), some (vI x3), some (vI x4), some (vI x5), some (vI x6), some (vI (x7 + (-1))), none, none] [] G D Q) ∧ (¬ iv x8 < iv 0 → ((¬ iv x7 = iv x5 → Go E (d + 1) kc ks mX12_costOf 65 [some (vR 214), some (vI x1), some (vI x2), some (vI x3), some (vI x4), some (vI x5), some (vI x6), some (vI x7), some (vI x8), none] [vI 1000000] G D Q) ∧ (iv x7 = iv x5 → ((¬ iv x8 = iv x6 → Go E (d + 1) kc ks mX12_costOf 65 [some (vR 214), some (vI x1), some (vI x2), some (vI x3), some (vI x4), some (vI x5), some (vI x6), some (vI x7), some (vI x8), none] [vI 1000000] G D Q) ∧ (iv x8 = iv x6 → Go E (d + 1) kc ks mX12_costOf 65 [some (vR 214), some (vI x1), some (vI x2), some (vI x3), some (vI x4), some (vI x5), some (vI x6), some (vI x7), some (vI x8), none] [vI 0] G D Q))))))) : Go E (d + 1) kc ks mX12_costOf 40 [some (vR 214), some (vI x1), some (vI x2), some (vI x3), some (vI x4), some (vI x5), some (vI x6), some (vI x7), some (vI x8), none] [] G D Q := by
  refine g_iload dX12_costOf_40 rfl ?_
  refine g_if_lt 257 dX12_costOf_42 (by decide) ⟨fun hc => ?_, fun hc => ?_⟩
  · replace h := h.1 hc
    refine h_iinc (L' := [some (vR 214), some (vI x1), some (vI x2), some (vI x3), some (vI x4), some (vI x5), some (vI x6), some (vI (x7 + (-1))), some (vI x8), none]) dX12_costOf_257 (Nat.le_of_ble_eq_true rfl) rfl rfl rfl ?_
    refine g_goto 31 dX12_costOf_260 (by decide) ?_
    exact Go.drop (by simp only [mm_sub, and_self]) h
  · replace h := h.2 hc
    refine g_iload dX12_costOf_45 rfl ?_
    refine g_iload dX12_costOf_47 rfl ?_
    refine g_icmp_ne 63 dX12_costOf_49 (by decide) ⟨fun hc => ?_, fun hc => ?_⟩
    · replace h := h.1 hc
      refine g_ldc (n := 1000000) dX12_costOf_63 kc_X12_224 (by decide +kernel) ?_
      exact Go.drop (by simp only [mm_sub, and_self]) h
    · replace h := h.2 hc
      refine g_iload dX12_costOf_52 rfl ?_
      refine g_iload dX12_costOf_54 rfl ?_
      refine g_icmp_ne 63 dX12_costOf_56 (by decide) ⟨fun hc => ?_, fun hc => ?_⟩
      · replace h := h.1 hc
        refine g_ldc (n := 1000000) dX12_costOf_63 kc_X12_224 (by decide +kernel) ?_
        exact Go.drop (by simp only [mm_sub, and_self]) h
      · replace h := h.2 hc
        refine g_iconst dX12_costOf_59 ?_
        refine g_goto 65 dX12_costOf_60 (by decide) ?_
        exact Go.drop (by simp only [mm_sub, and_self]) h
set_option maxRecDepth 20000 in
theorem w_X12_costOf_65 {E : mmE} {d kc ks : Nat} {G : mmG} {D : mmD} {Q : mmQ} {x1 x2 x3 x4 x5 x6 x7 x8 y0 : Int} (hG : Sh G)  (h : ((iv x5 ≤ iv x7 → Go E (d + 1) kc ks mX12_costOf 138 [some (vR 214), some (vI x1), some (vI x2), some (vI x3), some (vI x4), some (vI x5), some (vI x6), some (vI x7), some (vI x8), some (vI y0)] [] G D Q) ∧ (¬ iv x5 ≤ iv x7 → ((iv x6 ≤ iv x8 → Go E (d + 1) kc ks mX12_costOf 138 [some (vR 214), some (vI x1), some (vI x2), some (vI x3), some (vI x4), some (vI x5), some (vI x6), some (vI x7), some (vI x8), some (vI y0)] [] G D Q) ∧ (¬ iv x6 ≤ iv x8 → ((0 ≤ (((80 * x1) + (8 * x2)) + x7) ∧ (((80 * x1) + (8 * x2)) + x7) < 480) ∧ ((0 ≤ (((80 * x3) + (8 * x4)) + x8) ∧ (((80 * x3) + (8 * x4)) + x8) < 480) ∧ Call E d 0 0 mX12_apart [vI (D 217 (((80 * x1) + (8 * x2)) + x7)), vI (D 217 (((80 * x3) + (8 * x4)) + x8))] G D (retI G (fun z2 D1 => ((0 ≤ (((9 * x7) + x8) + 10) ∧ (((9 * x7) + x8) + 10) < 81) ∧ Go E (d + 1) kc ks mX12_costOf 138 [some (vR 214), some (vI x1), some (vI x2), some (vI x3), some (vI x4), some (vI x5), some (vI x6), some (vI x7), some (vI x8), some (vI (z2 + (D1 237 (((9 * x7) + x8) + 10))))] [] G D1 Q)))))))))) : Go E (d + 1) kc ks mX12_costOf 65 [some (vR 214), some (vI x1), some (vI x2), some (vI x3), some (vI x4), some (vI x5), some (vI x6), some (vI x7), some (vI x8), none] [vI y0] G D Q := by
  refine h_istore (L' := [some (vR 214), some (vI x1), some (vI x2), some (vI x3), some (vI x4), some (vI x5), some (vI x6), some (vI x7), some (vI x8), some (vI y0)]) dX12_costOf_65 (Nat.le_of_ble_eq_true rfl) rfl rfl ?_
  refine g_iload dX12_costOf_67 rfl ?_
  refine g_iload dX12_costOf_69 rfl ?_
  refine g_icmp_ge 138 dX12_costOf_71 (by decide) ⟨fun hc => ?_, fun hc => ?_⟩
  · replace h := h.1 hc
    exact Go.drop (by simp only [mm_sub, and_self]) h
  · replace h := h.2 hc
    refine g_iload dX12_costOf_74 rfl ?_
    refine g_iload dX12_costOf_76 rfl ?_
    refine g_icmp_ge 138 dX12_costOf_78 (by decide) ⟨fun hc => ?_, fun hc => ?_⟩
    · replace h := h.1 hc
      exact Go.drop (by simp only [mm_sub, and_self]) h
    · replace h := h.2 hc
      refine g_aload_n dX12_costOf_81 rfl rfl ?_
      refine h_getR (j := 12) dX12_costOf_82 f_X12_20_11 rfl rfl (by decide) hG.k214 (by decide) (hG.lt (by decide)) hG.r214_12 ?_
      refine g_bipush dX12_costOf_85 bp_80 ?_
      refine g_iload_n dX12_costOf_87 rfl rfl ?_
      refine g_imul dX12_costOf_88 ?_
      refine g_bipush dX12_costOf_89 bp_8 ?_
      refine g_iload_n dX12_costOf_91 rfl rfl ?_
      refine g_imul dX12_costOf_92 ?_
      refine g_iadd dX12_costOf_93 ?_
      refine g_iload dX12_costOf_94 rfl ?_
      refine g_iadd dX12_costOf_96 ?_
      refine g_iald dX12_costOf_97 hG.k217 (by decide) (hG.lt (by decide)) (by decide) ⟨h.1, ?_⟩
      replace h := h.2
      refine g_aload_n dX12_costOf_98 rfl rfl ?_
      refine h_getR (j := 12) dX12_costOf_99 f_X12_20_11 rfl rfl (by decide) hG.k214 (by decide) (hG.lt (by decide)) hG.r214_12 ?_
      refine g_bipush dX12_costOf_102 bp_80 ?_
      refine g_iload_n dX12_costOf_104 rfl rfl ?_
      refine g_imul dX12_costOf_105 ?_
      refine g_bipush dX12_costOf_106 bp_8 ?_
      refine g_iload dX12_costOf_108 rfl ?_
      refine g_imul dX12_costOf_110 ?_
      refine g_iadd dX12_costOf_111 ?_
      refine g_iload dX12_costOf_112 rfl ?_
      refine g_iadd dX12_costOf_114 ?_
      refine g_iald dX12_costOf_115 hG.k217 (by decide) (hG.lt (by decide)) (by decide) ⟨h.1, ?_⟩
      replace h := h.2
      refine g_callS (kc := kc) (kc' := 0) (ks := ks) (ks' := 0) (as := [vI (D 217 (((80 * x1) + (8 * x2)) + x7)), vI (D 217 (((80 * x3) + (8 * x4)) + x8))]) (st := []) dX12_costOf_116 cB_X12_apart lk_X12_225 st_X12_apart rfl (Nat.le_of_ble_eq_true rfl) (Nat.le_of_ble_eq_true rfl) ?_
      refine Go.to (fun r G' D1 hr => ?_) h
      obtain ⟨rfl, z2, rfl, h⟩ := hr
      show Go E (d + 1) kc ks mX12_costOf 119 [some (vR 214), some (vI x1), some (vI x2), some (vI x3), some (vI x4), some (vI x5), some (vI x6), some (vI x7), some (vI x8), some (vI y0)] [vI z2] G D1 Q
      refine g_aload_n dX12_costOf_119 rfl rfl ?_
      refine h_getR (j := 36) dX12_costOf_120 f_X12_81_11 rfl rfl (by decide) hG.k214 (by decide) (hG.lt (by decide)) hG.r214_36 ?_
      refine g_bipush dX12_costOf_123 bp_9 ?_
      refine g_iload dX12_costOf_125 rfl ?_
      refine g_imul dX12_costOf_127 ?_
      refine g_iload dX12_costOf_128 rfl ?_
      refine g_iadd dX12_costOf_130 ?_
      refine g_bipush dX12_costOf_131 bp_10 ?_
      refine g_iadd dX12_costOf_133 ?_
      refine g_iald dX12_costOf_134 hG.k237 (by decide) (hG.lt (by decide)) (by decide) ⟨h.1, ?_⟩
      replace h := h.2
      refine g_iadd dX12_costOf_135 ?_
      refine h_istore (L' := [some (vR 214), some (vI x1), some (vI x2), some (vI x3), some (vI x4), some (vI x5), some (vI x6), some (vI x7), some (vI x8), some (vI (z2 + (D1 237 (((9 * x7) + x8) + 10))))]) dX12_costOf_136 (Nat.le_of_ble_eq_true rfl) rfl rfl ?_
      exact Go.drop (by simp only [mm_sub, and_self]) h
set_option maxRecDepth 20000 in
theorem w_X12_costOf_138 {E : mmE} {d kc ks : Nat} {G : mmG} {D : mmD} {Q : mmQ} {x1 x2 x3 x4 x5 x6 x7 x8 x9 : Int} (hG : Sh G)  (h : ((iv x5 ≤ iv x7 → Go E (d + 1) kc ks mX12_costOf 188 [some (vR 214), some (vI x1), some (vI x2), some (vI x3), some (vI x4), some (vI x5), some (vI x6), some (vI x7), some (vI x8), some (vI x9)] [] G D Q) ∧ (¬ iv x5 ≤ iv x7 → ((0 ≤ (((9 * x7) + x8) + 9) ∧ (((9 * x7) + x8) + 9) < 81) ∧ ((iv x9 ≤ iv ((D 237 (((9 * x7) + x8) + 9)) + 2) → Go E (d + 1) kc ks mX12_costOf 188 [some (vR 214), some (vI x1), some (vI x2), some (vI x3), some (vI x4), some (vI x5), some (vI x6), some (vI x7), some (vI x8), some (vI x9)] [] G D Q) ∧ (¬ iv x9 ≤ iv ((D 237 (((9 * x7) + x8) + 9)) + 2) → ((0 ≤ (((9 * x7) + x8) + 9) ∧ (((9 * x7) + x8) + 9) < 81) ∧ Go E (d + 1) kc ks mX12_costOf 188 [some (vR 214), some (vI x1), some (vI x2), some (vI x3), some (vI x4), some (vI x5), some (vI x6), some (vI x7), some (vI x8), some (vI ((D 237 (((9 * x7) + x8) + 9)) + 2))] [] G D Q))))))) : Go E (d + 1) kc ks mX12_costOf 138 [some (vR 214), some (vI x1), some (vI x2), some (vI x3), some (vI x4), some (vI x5), some (vI x6), some (vI x7), some (vI x8), some (vI x9)] [] G D Q := by
  refine g_iload dX12_costOf_138 rfl ?_
  refine g_iload dX12_costOf_140 rfl ?_
  refine g_icmp_ge 188 dX12_costOf_142 (by decide) ⟨fun hc => ?_, fun hc => ?_⟩
  · replace h := h.1 hc
    exact Go.drop (by simp only [mm_sub, and_self]) h
  · replace h := h.2 hc
    refine g_aload_n dX12_costOf_145 rfl rfl ?_
    refine h_getR (j := 36) dX12_costOf_146 f_X12_81_11 rfl rfl (by decide) hG.k214 (by decide) (hG.lt (by decide)) hG.r214_36 ?_
    refine g_bipush dX12_costOf_149 bp_9 ?_
    refine g_iload dX12_costOf_151 rfl ?_
    refine g_imul dX12_costOf_153 ?_
    refine g_iload dX12_costOf_154 rfl ?_
    refine g_iadd dX12_costOf_156 ?_
    refine g_bipush dX12_costOf_157 bp_9 ?_
    refine g_iadd dX12_costOf_159 ?_
    refine g_iald dX12_costOf_160 hG.k237 (by decide) (hG.lt (by decide)) (by decide) ⟨h.1, ?_⟩
    replace h := h.2
    refine g_iconst dX12_costOf_161 ?_
    refine g_iadd dX12_costOf_162 ?_
    refine g_iload dX12_costOf_163 rfl ?_
    refine g_icmp_ge 188 dX12_costOf_165 (by decide) ⟨fun hc => ?_, fun hc => ?_⟩
    · replace h := h.1 hc
      exact Go.drop (by simp only [mm_sub, and_self]) h
    · replace h := h.2 hc
      refine g_aload_n dX12_costOf_168 rfl rfl ?_
      refine h_getR (j := 36) dX12_costOf_169 f_X12_81_11 rfl rfl (by decide) hG.k214 (by decide) (hG.lt (by decide)) hG.r214_36 ?_
      refine g_bipush dX12_costOf_172 bp_9 ?_
      refine g_iload dX12_costOf_174 rfl ?_
      refine g_imul dX12_costOf_176 ?_
      refine g_iload dX12_costOf_177 rfl ?_
      refine g_iadd dX12_costOf_179 ?_
      refine g_bipush dX12_costOf_180 bp_9 ?_
      refine g_iadd dX12_costOf_182 ?_
      refine g_iald dX12_costOf_183 hG.k237 (by decide) (hG.lt (by decide)) (by decide) ⟨h.1, ?_⟩
      replace h := h.2
      refine g_iconst dX12_costOf_184 ?_
      refine g_iadd dX12_costOf_185 ?_
      refine h_istore (L' := [some (vR 214), some (vI x1), some (vI x2), some (vI x3), some (vI x4), some (vI x5), some (vI x6), some (vI x7), some (vI x8), some (vI ((D 237 (((9 * x7) + x8) + 9)) + 2))]) dX12_costOf_186 (Nat.le_of_ble_eq_true rfl) rfl rfl ?_
      exact Go.drop (by simp only [mm_sub, and_self]) h
set_option maxRecDepth 20000 in
theorem w_X12_costOf_188 {E : mmE} {d kc ks : Nat} {G : mmG} {D : mmD} {Q : mmQ} {x1 x2 x3 x4 x5 x6 x7 x8 x9 : Int} (hG : Sh G)  (h : ((iv x6 ≤ iv x8 → ((0 ≤ ((9 * x7) + x8) ∧ ((9 * x7) + x8) < 81) ∧ (∀ D1 : mmD, D1 = up2 D 237 ((9 * x7) + x8) x9 → Go E (d + 1) kc ks mX12_costOf 40 [some (vR 214), some (vI x1), some (vI x2), some (vI x3), some (vI x4), some (vI x5), some (vI x6), some (vI x7), some (vI (x8 + (-1))), none] [] G D1 Q))) ∧ (¬ iv x6 ≤ iv x8 → ((0 ≤ (((9 * x7) + x8) + 1) ∧ (((9 * x7) + x8) + 1) < 81) ∧ ((iv x9 ≤ iv ((D 237 (((9 * x7) + x8) + 1)) + 2) → ((0 ≤ ((9 * x7) + x8) ∧ ((9 * x7) + x8) < 81) ∧ (∀ D2 : mmD, D2 = up2 D 237 ((9 * x7) + x8) x9 → Go E (d + 1) kc ks mX12_costOf 40 [some (vR 214), some (vI x1), some (vI x2), some (vI x3), some (vI x4), some (vI x5), some (vI x6), some (vI x7), some (vI (x8 + (-1))), none] [] G D2 Q))) ∧ (¬ iv x9 ≤ iv ((D 237 (((9 * x7) + x8) + 1)) + 2) → ((0 ≤ (((9 * x7) + x8) + 1) ∧ (((9 * x7) + x8) + 1) < 81) ∧ ((0 ≤ ((9 * x7) + x8) ∧ ((9 * x7) + x8) < 81) ∧ (∀ D3 : mmD, D3 = up2 D 237 ((9 * x7) + x8) ((D 237 (((9 * x7) + x8) + 1)) + 2) → Go E (d + 1) kc ks mX12_costOf 40 [some (vR 214), some (vI x1), some (vI x2), some (vI x3), some (vI x4), some (vI x5), some (vI x6), some (vI x7), some (vI (x8 + (-1))), none] [] G D3 Q))))))))) : Go E (d + 1) kc ks mX12_costOf 188 [some (vR 214), some (vI x1), some (vI x2), some (vI x3), some (vI x4), some (vI x5), some (vI x6), some (vI x7), some (vI x8), some (vI x9)] [] G D Q := by
  refine g_iload dX12_costOf_188 rfl ?_
  refine g_iload dX12_costOf_190 rfl ?_
  refine g_icmp_ge 236 dX12_costOf_192 (by decide) ⟨fun hc => ?_, fun hc => ?_⟩
  · replace h := h.1 hc
    refine g_aload_n dX12_costOf_236 rfl rfl ?_
    refine h_getR (j := 36) dX12_costOf_237 f_X12_81_11 rfl rfl (by decide) hG.k214 (by decide) (hG.lt (by decide)) hG.r214_36 ?_
    refine g_bipush dX12_costOf_240 bp_9 ?_
    refine g_iload dX12_costOf_242 rfl ?_
    refine g_imul dX12_costOf_244 ?_
    refine g_iload dX12_costOf_245 rfl ?_
    refine g_iadd dX12_costOf_247 ?_
    refine g_iload dX12_costOf_248 rfl ?_
    refine g_iast dX12_costOf_250 hG.k237 (by decide) (hG.lt (by decide)) (by decide) ⟨h.1, ?_⟩
    generalize hD_D1 : up2 D 237 ((9 * x7) + x8) x9 = D1
    replace h := h.2 _ hD_D1.symm
    refine h_iinc (L' := [some (vR 214), some (vI x1), some (vI x2), some (vI x3), some (vI x4), some (vI x5), some (vI x6), some (vI x7), some (vI (x8 + (-1))), some (vI x9)]) dX12_costOf_251 (Nat.le_of_ble_eq_true rfl) rfl rfl rfl ?_
    refine g_goto 40 dX12_costOf_254 (by decide) ?_
    exact Go.drop (by simp only [mm_sub, and_self]) h
  · replace h := h.2 hc
    refine g_aload_n dX12_costOf_195 rfl rfl ?_
    refine h_getR (j := 36) dX12_costOf_196 f_X12_81_11 rfl rfl (by decide) hG.k214 (by decide) (hG.lt (by decide)) hG.r214_36 ?_
    refine g_bipush dX12_costOf_199 bp_9 ?_
    refine g_iload dX12_costOf_201 rfl ?_
    refine g_imul dX12_costOf_203 ?_
    refine g_iload dX12_costOf_204 rfl ?_
    refine g_iadd dX12_costOf_206 ?_
    refine g_iconst dX12_costOf_207 ?_
    refine g_iadd dX12_costOf_208 ?_
    refine g_iald dX12_costOf_209 hG.k237 (by decide) (hG.lt (by decide)) (by decide) ⟨h.1, ?_⟩
    replace h := h.2
    refine g_iconst dX12_costOf_210 ?_
    refine g_iadd dX12_costOf_211 ?_
    refine g_iload dX12_costOf_212 rfl ?_
    refine g_icmp_ge 236 dX12_costOf_214 (by decide) ⟨fun hc => ?_, fun hc => ?_⟩
    · replace h := h.1 hc
      refine g_aload_n dX12_costOf_236 rfl rfl ?_
      refine h_getR (j := 36) dX12_costOf_237 f_X12_81_11 rfl rfl (by decide) hG.k214 (by decide) (hG.lt (by decide)) hG.r214_36 ?_
      refine g_bipush dX12_costOf_240 bp_9 ?_
      refine g_iload dX12_costOf_242 rfl ?_
      refine g_imul dX12_costOf_244 ?_
      refine g_iload dX12_costOf_245 rfl ?_
      refine g_iadd dX12_costOf_247 ?_
      refine g_iload dX12_costOf_248 rfl ?_
      refine g_iast dX12_costOf_250 hG.k237 (by decide) (hG.lt (by decide)) (by decide) ⟨h.1, ?_⟩
      generalize hD_D2 : up2 D 237 ((9 * x7) + x8) x9 = D2
      replace h := h.2 _ hD_D2.symm
      refine h_iinc (L' := [some (vR 214), some (vI x1), some (vI x2), some (vI x3), some (vI x4), some (vI x5), some (vI x6), some (vI x7), some (vI (x8 + (-1))), some (vI x9)]) dX12_costOf_251 (Nat.le_of_ble_eq_true rfl) rfl rfl rfl ?_
      refine g_goto 40 dX12_costOf_254 (by decide) ?_
      exact Go.drop (by simp only [mm_sub, and_self]) h
    · replace h := h.2 hc
      refine g_aload_n dX12_costOf_217 rfl rfl ?_
      refine h_getR (j := 36) dX12_costOf_218 f_X12_81_11 rfl rfl (by decide) hG.k214 (by decide) (hG.lt (by decide)) hG.r214_36 ?_
      refine g_bipush dX12_costOf_221 bp_9 ?_
      refine g_iload dX12_costOf_223 rfl ?_
      refine g_imul dX12_costOf_225 ?_
      refine g_iload dX12_costOf_226 rfl ?_
      refine g_iadd dX12_costOf_228 ?_
      refine g_iconst dX12_costOf_229 ?_
      refine g_iadd dX12_costOf_230 ?_
      refine g_iald dX12_costOf_231 hG.k237 (by decide) (hG.lt (by decide)) (by decide) ⟨h.1, ?_⟩
      replace h := h.2
      refine g_iconst dX12_costOf_232 ?_
      refine g_iadd dX12_costOf_233 ?_
      refine h_istore (L' := [some (vR 214), some (vI x1), some (vI x2), some (vI x3), some (vI x4), some (vI x5), some (vI x6), some (vI x7), some (vI x8), some (vI ((D 237 (((9 * x7) + x8) + 1)) + 2))]) dX12_costOf_234 (Nat.le_of_ble_eq_true rfl) rfl rfl ?_
      refine g_aload_n dX12_costOf_236 rfl rfl ?_
      refine h_getR (j := 36) dX12_costOf_237 f_X12_81_11 rfl rfl (by decide) hG.k214 (by decide) (hG.lt (by decide)) hG.r214_36 ?_
      refine g_bipush dX12_costOf_240 bp_9 ?_
      refine g_iload dX12_costOf_242 rfl ?_
      refine g_imul dX12_costOf_244 ?_
      refine g_iload dX12_costOf_245 rfl ?_
      refine g_iadd dX12_costOf_247 ?_
      refine g_iload dX12_costOf_248 rfl ?_
      refine g_iast dX12_costOf_250 hG.k237 (by decide) (hG.lt (by decide)) (by decide) ⟨h.1, ?_⟩
      generalize hD_D3 : up2 D 237 ((9 * x7) + x8) ((D 237 (((9 * x7) + x8) + 1)) + 2) = D3
      replace h := h.2 _ hD_D3.symm
      refine h_iinc (L' := [some (vR 214), some (vI x1), some (vI x2), some (vI x3), some (vI x4), some (vI x5), some (vI x6), some (vI x7), some (vI (x8 + (-1))), some (vI ((D 237 (((9 * x7) + x8) + 1)) + 2))]) dX12_costOf_251 (Nat.le_of_ble_eq_true rfl) rfl rfl rfl ?_
      refine g_goto 40 dX12_costOf_254 (by decide) ?_
      exact Go.drop (by simp only [mm_sub, and_self]) h
set_option maxRecDepth 20000 in
theorem w_X12_cost {E : mmE} {d kc ks : Nat} {G : mmG} {D : mmD} {Q : mmQ} {x1 x2 x3 : Int} (hG : Sh G)  (h : Call E d 0 0 mX12_has [vR 214, vI x2, vI x1] G D (retI G (fun z2 D1 => ((iv z2 = iv 0 → Q (some (vI (-1))) G D1) ∧ (¬ iv z2 = iv 0 → Call E d 0 0 mX12_has [vR 214, vI x3, vI x1] G D1 (retI G (fun z4 D3 => ((iv z4 = iv 0 → Q (some (vI (-1))) G D3) ∧ (¬ iv z4 = iv 0 → Call E d 0 0 mX12_costOf [vR 214, vI x2, vI x1, vI x3, vI x1] G D3 (retI G (fun z6 D5 => Q (some (vI z6)) G D5))))))))))) : Call E (d + 1) kc ks mX12_cost [vR 214, vI x1, vI x2, vI x3] G D Q := by
  show Go E (d + 1) kc ks mX12_cost 0 [some (vR 214), some (vI x1), some (vI x2), some (vI x3)] [] G D Q
  refine g_aload_n dX12_cost_0 rfl rfl ?_
  refine g_iload_n dX12_cost_1 rfl rfl ?_
  refine g_iload_n dX12_cost_2 rfl rfl ?_
  refine g_callV (kc := kc) (kc' := 0) (ks := ks) (ks' := 0) (as := [vI x2, vI x1]) (st := []) (ci := 11) dX12_cost_3 cB_X12_has lk_X12_228 in_X12_has se_X12_has (by decide) rfl rfl (Nat.le_of_ble_eq_true rfl) (Nat.le_of_ble_eq_true rfl) (by decide) (hG.lt (by decide)) (congrArg Prod.fst hG.k214) ?_
  refine Go.to (fun r G' D1 hr => ?_) h
  obtain ⟨rfl, z2, rfl, h⟩ := hr
  show Go E (d + 1) kc ks mX12_cost 6 [some (vR 214), some (vI x1), some (vI x2), some (vI x3)] [vI z2] G D1 Q
  refine g_if_eq 29 dX12_cost_6 (by decide) ⟨fun hc => ?_, fun hc => ?_⟩
  · replace h := h.1 hc
    refine g_iconst dX12_cost_29 ?_
    exact g_iret dX12_cost_30 rfl h
  · replace h := h.2 hc
    refine g_aload_n dX12_cost_9 rfl rfl ?_
    refine g_iload_n dX12_cost_10 rfl rfl ?_
    refine g_iload_n dX12_cost_11 rfl rfl ?_
    refine g_callV (kc := kc) (kc' := 0) (ks := ks) (ks' := 0) (as := [vI x3, vI x1]) (st := []) (ci := 11) dX12_cost_12 cB_X12_has lk_X12_228 in_X12_has se_X12_has (by decide) rfl rfl (Nat.le_of_ble_eq_true rfl) (Nat.le_of_ble_eq_true rfl) (by decide) (hG.lt (by decide)) (congrArg Prod.fst hG.k214) ?_
    refine Go.to (fun r G' D3 hr => ?_) h
    obtain ⟨rfl, z4, rfl, h⟩ := hr
    show Go E (d + 1) kc ks mX12_cost 15 [some (vR 214), some (vI x1), some (vI x2), some (vI x3)] [vI z4] G D3 Q
    refine g_if_eq 29 dX12_cost_15 (by decide) ⟨fun hc => ?_, fun hc => ?_⟩
    · replace h := h.1 hc
      refine g_iconst dX12_cost_29 ?_
      exact g_iret dX12_cost_30 rfl h
    · replace h := h.2 hc
      refine g_aload_n dX12_cost_18 rfl rfl ?_
      refine g_iload_n dX12_cost_19 rfl rfl ?_
      refine g_iload_n dX12_cost_20 rfl rfl ?_
      refine g_iload_n dX12_cost_21 rfl rfl ?_
      refine g_iload_n dX12_cost_22 rfl rfl ?_
      refine g_callV (kc := kc) (kc' := 0) (ks := ks) (ks' := 0) (as := [vI x2, vI x1, vI x3, vI x1]) (st := []) (ci := 11) dX12_cost_23 cB_X12_costOf lk_X12_231 in_X12_costOf se_X12_costOf (by decide) rfl rfl (Nat.le_of_ble_eq_true rfl) (Nat.le_of_ble_eq_true rfl) (by decide) (hG.lt (by decide)) (congrArg Prod.fst hG.k214) ?_
      refine Go.to (fun r G' D5 hr => ?_) h
      obtain ⟨rfl, z6, rfl, h⟩ := hr
      show Go E (d + 1) kc ks mX12_cost 26 [some (vR 214), some (vI x1), some (vI x2), some (vI x3)] [vI z6] G D5 Q
      refine g_goto 30 dX12_cost_26 (by decide) ?_
      exact g_iret dX12_cost_30 rfl h
set_option maxRecDepth 20000 in
theorem w_X12_walks {E : mmE} {d kc ks : Nat} {G : mmG} {D : mmD} {Q : mmQ} {x1 x2 x3 : Int} (hG : Sh G)  (h : Call E d 0 0 mX12_costOf [vR 214, vI x2, vI x1, vI x3, vI x1] G D (retI G (fun z2 D1 => ((0 ≤ ((10 * x2) + x1) ∧ ((10 * x2) + x1) < 60) ∧ ((0 ≤ ((10 * x3) + x1) ∧ ((10 * x3) + x1) < 60) ∧ (∀ D3 : mmD, D3 = up2 D1 214 38 0 → Go E (d + 1) kc ks mX12_walks 47 [some (vR 214), some (vI x1), some (vI x2), some (vI x3), none, some (vI (D1 216 ((10 * x2) + x1))), some (vI (D1 216 ((10 * x3) + x1))), some (vI 0), some (vI 0), none, none, none] [] G D3 Q)))))) : Call E (d + 1) kc ks mX12_walks [vR 214, vI x1, vI x2, vI x3] G D Q := by
  show Go E (d + 1) kc ks mX12_walks 0 [some (vR 214), some (vI x1), some (vI x2), some (vI x3), none, none, none, none, none, none, none, none] [] G D Q
  refine g_aload_n dX12_walks_0 rfl rfl ?_
  refine g_iload_n dX12_walks_1 rfl rfl ?_
  refine g_iload_n dX12_walks_2 rfl rfl ?_
  refine g_iload_n dX12_walks_3 rfl rfl ?_
  refine g_iload_n dX12_walks_4 rfl rfl ?_
  refine g_callV (kc := kc) (kc' := 0) (ks := ks) (ks' := 0) (as := [vI x2, vI x1, vI x3, vI x1]) (st := []) (ci := 11) dX12_walks_5 cB_X12_costOf lk_X12_231 in_X12_costOf se_X12_costOf (by decide) rfl rfl (Nat.le_of_ble_eq_true rfl) (Nat.le_of_ble_eq_true rfl) (by decide) (hG.lt (by decide)) (congrArg Prod.fst hG.k214) ?_
  refine Go.to (fun r G' D1 hr => ?_) h
  obtain ⟨rfl, z2, rfl, h⟩ := hr
  show Go E (d + 1) kc ks mX12_walks 8 [some (vR 214), some (vI x1), some (vI x2), some (vI x3), none, none, none, none, none, none, none, none] [vI z2] G D1 Q
  refine h_istore (L' := [some (vR 214), some (vI x1), some (vI x2), some (vI x3), some (vI z2), none, none, none, none, none, none, none]) dX12_walks_8 (Nat.le_of_ble_eq_true rfl) rfl rfl ?_
  refine g_aload_n dX12_walks_10 rfl rfl ?_
  refine h_getR (j := 11) dX12_walks_11 f_X12_17_11 rfl rfl (by decide) hG.k214 (by decide) (hG.lt (by decide)) hG.r214_11 ?_
  refine g_bipush dX12_walks_14 bp_10 ?_
  refine g_iload_n dX12_walks_16 rfl rfl ?_
  refine g_imul dX12_walks_17 ?_
  refine g_iload_n dX12_walks_18 rfl rfl ?_
  refine g_iadd dX12_walks_19 ?_
  refine g_iald dX12_walks_20 hG.k216 (by decide) (hG.lt (by decide)) (by decide) ⟨h.1, ?_⟩
  replace h := h.2
  refine h_istore (L' := [some (vR 214), some (vI x1), some (vI x2), some (vI x3), some (vI z2), some (vI (D1 216 ((10 * x2) + x1))), none, none, none, none, none, none]) dX12_walks_21 (Nat.le_of_ble_eq_true rfl) rfl rfl ?_
  refine g_aload_n dX12_walks_23 rfl rfl ?_
  refine h_getR (j := 11) dX12_walks_24 f_X12_17_11 rfl rfl (by decide) hG.k214 (by decide) (hG.lt (by decide)) hG.r214_11 ?_
  refine g_bipush dX12_walks_27 bp_10 ?_
  refine g_iload_n dX12_walks_29 rfl rfl ?_
  refine g_imul dX12_walks_30 ?_
  refine g_iload_n dX12_walks_31 rfl rfl ?_
  refine g_iadd dX12_walks_32 ?_
  refine g_iald dX12_walks_33 hG.k216 (by decide) (hG.lt (by decide)) (by decide) ⟨h.1, ?_⟩
  replace h := h.2
  refine h_istore (L' := [some (vR 214), some (vI x1), some (vI x2), some (vI x3), some (vI z2), some (vI (D1 216 ((10 * x2) + x1))), some (vI (D1 216 ((10 * x3) + x1))), none, none, none, none, none]) dX12_walks_34 (Nat.le_of_ble_eq_true rfl) rfl rfl ?_
  refine g_aload_n dX12_walks_36 rfl rfl ?_
  refine g_iconst dX12_walks_37 ?_
  refine h_putI (j := 38) dX12_walks_38 f_X12_235_11 (Or.inl (mm_finI (by decide +kernel))) rfl rfl (by decide) hG.k214 (by decide) (hG.lt (by decide)) ?_
  generalize hD_D3 : up2 D1 214 38 0 = D3
  replace h := h _ hD_D3.symm
  refine g_iconst dX12_walks_41 ?_
  refine h_istore (L' := [some (vR 214), some (vI x1), some (vI x2), some (vI x3), some (vI z2), some (vI (D1 216 ((10 * x2) + x1))), some (vI (D1 216 ((10 * x3) + x1))), some (vI 0), none, none, none, none]) dX12_walks_42 (Nat.le_of_ble_eq_true rfl) rfl rfl ?_
  refine g_iconst dX12_walks_44 ?_
  refine h_istore (L' := [some (vR 214), some (vI x1), some (vI x2), some (vI x3), some (vI z2), some (vI (D1 216 ((10 * x2) + x1))), some (vI (D1 216 ((10 * x3) + x1))), some (vI 0), some (vI 0), none, none, none]) dX12_walks_45 (Nat.le_of_ble_eq_true rfl) rfl rfl ?_
  exact Go.drop (by simp only [mm_sub, and_self]) h
set_option maxRecDepth 20000 in
theorem w_X12_walks_47 {E : mmE} {d kc ks : Nat} {G : mmG} {D : mmD} {Q : mmQ} {x1 x2 x3 x5 x6 x7 x8 : Int} (hG : Sh G)  (h : ((iv x7 < iv x5 → Go E (d + 1) kc ks mX12_walks 61 [some (vR 214), some (vI x1), some (vI x2), some (vI x3), none, some (vI x5), some (vI x6), some (vI x7), some (vI x8), none, none, none] [] G D Q) ∧ (¬ iv x7 < iv x5 → ((iv x6 ≤ iv x8 → Q none G D) ∧ (¬ iv x6 ≤ iv x8 → Go E (d + 1) kc ks mX12_walks 61 [some (vR 214), some (vI x1), some (vI x2), some (vI x3), none, some (vI x5), some (vI x6), some (vI x7), some (vI x8), none, none, none] [] G D Q))))) : Go E (d + 1) kc ks mX12_walks 47 [some (vR 214), some (vI x1), some (vI x2), some (vI x3), none, some (vI x5), some (vI x6), some (vI x7), some (vI x8), none, none, none] [] G D Q := by
  refine g_iload dX12_walks_47 rfl ?_
  refine g_iload dX12_walks_49 rfl ?_
  refine g_icmp_lt 61 dX12_walks_51 (by decide) ⟨fun hc => ?_, fun hc => ?_⟩
  · replace h := h.1 hc
    exact Go.drop (by simp only [mm_sub, and_self]) h
  · replace h := h.2 hc
    refine g_iload dX12_walks_54 rfl ?_
    refine g_iload dX12_walks_56 rfl ?_
    refine g_icmp_ge 282 dX12_walks_58 (by decide) ⟨fun hc => ?_, fun hc => ?_⟩
    · replace h := h.1 hc
      exact g_vret dX12_walks_282 rfl h
    · replace h := h.2 hc
      exact Go.drop (by simp only [mm_sub, and_self]) h
set_option maxRecDepth 20000 in
theorem w_X12_walks_61 {E : mmE} {d kc ks : Nat} {G : mmG} {D : mmD} {Q : mmQ} {x1 x2 x3 x5 x6 x7 x8 : Int} (hG : Sh G)  (h : ((0 ≤ ((9 * x7) + x8) ∧ ((9 * x7) + x8) < 81) ∧ ((iv x5 ≤ iv x7 → ((iv x6 ≤ iv x8 → Go E (d + 1) kc ks mX12_walks 134 [some (vR 214), some (vI x1), some (vI x2), some (vI x3), none, some (vI x5), some (vI x6), some (vI x7), some (vI x8), some (vI (D 237 ((9 * x7) + x8))), some (vI 0), none] [vI 0] G D Q) ∧ (¬ iv x6 ≤ iv x8 → ((0 ≤ (((80 * x3) + (8 * x1)) + x8) ∧ (((80 * x3) + (8 * x1)) + x8) < 480) ∧ Go E (d + 1) kc ks mX12_walks 134 [some (vR 214), some (vI x1), some (vI x2), some (vI x3), none, some (vI x5), some (vI x6), some (vI x7), some (vI x8), some (vI (D 237 ((9 * x7) + x8))), some (vI 0), none] [vI (D 217 (((80 * x3) + (8 * x1)) + x8))] G D Q)))) ∧ (¬ iv x5 ≤ iv x7 → ((0 ≤ (((80 * x2) + (8 * x1)) + x7) ∧ (((80 * x2) + (8 * x1)) + x7) < 480) ∧ ((iv x6 ≤ iv x8 → Go E (d + 1) kc ks mX12_walks 134 [some (vR 214), some (vI x1), some (vI x2), some (vI x3), none, some (vI x5), some (vI x6), some (vI x7), some (vI x8), some (vI (D 237 ((9 * x7) + x8))), some (vI (D 217 (((80 * x2) + (8 * x1)) + x7))), none] [vI 0] G D Q) ∧ (¬ iv x6 ≤ iv x8 → ((0 ≤ (((80 * x3) + (8 * x1)) + x8) ∧ (((80 * x3) + (8 * x1)) + x8) < 480) ∧ Go E (d + 1) kc ks mX12_walks 134 [some (vR 214), some (vI x1), some (vI x2), some (vI x3), none, some (vI x5), some (vI x6), some (vI x7), some (vI x8), some (vI (D 237 ((9 * x7) + x8))), some (vI (D 217 (((80 * x2) + (8 * x1)) + x7))), none] [vI (D 217 (((80 * x3) + (8 * x1)) + x8))] G D Q)))))))) : Go E (d + 1) kc ks mX12_walks 61 [some (vR 214), some (vI x1), some (vI x2), some (vI x3), none, some (vI x5), some (vI x6), some (vI x7), some (vI x8), none, none, none] [] G D Q := by
  refine g_aload_n dX12_walks_61 rfl rfl ?_
  refine h_getR (j := 36) dX12_walks_62 f_X12_81_11 rfl rfl (by decide) hG.k214 (by decide) (hG.lt (by decide)) hG.r214_36 ?_
  refine g_bipush dX12_walks_65 bp_9 ?_
  refine g_iload dX12_walks_67 rfl ?_
  refine g_imul dX12_walks_69 ?_
  refine g_iload dX12_walks_70 rfl ?_
  refine g_iadd dX12_walks_72 ?_
  refine g_iald dX12_walks_73 hG.k237 (by decide) (hG.lt (by decide)) (by decide) ⟨h.1, ?_⟩
  replace h := h.2
  refine h_istore (L' := [some (vR 214), some (vI x1), some (vI x2), some (vI x3), none, some (vI x5), some (vI x6), some (vI x7), some (vI x8), some (vI (D 237 ((9 * x7) + x8))), none, none]) dX12_walks_74 (Nat.le_of_ble_eq_true rfl) rfl rfl ?_
  refine g_iload dX12_walks_76 rfl ?_
  refine g_iload dX12_walks_78 rfl ?_
  refine g_icmp_ge 103 dX12_walks_80 (by decide) ⟨fun hc => ?_, fun hc => ?_⟩
  · replace h := h.1 hc
    refine g_iconst dX12_walks_103 ?_
    refine h_istore (L' := [some (vR 214), some (vI x1), some (vI x2), some (vI x3), none, some (vI x5), some (vI x6), some (vI x7), some (vI x8), some (vI (D 237 ((9 * x7) + x8))), some (vI 0), none]) dX12_walks_104 (Nat.le_of_ble_eq_true rfl) rfl rfl ?_
    refine g_iload dX12_walks_106 rfl ?_
    refine g_iload dX12_walks_108 rfl ?_
    refine g_icmp_ge 133 dX12_walks_110 (by decide) ⟨fun hc => ?_, fun hc => ?_⟩
    · replace h := h.1 hc
      refine g_iconst dX12_walks_133 ?_
      exact Go.drop (by simp only [mm_sub, and_self]) h
    · replace h := h.2 hc
      refine g_aload_n dX12_walks_113 rfl rfl ?_
      refine h_getR (j := 12) dX12_walks_114 f_X12_20_11 rfl rfl (by decide) hG.k214 (by decide) (hG.lt (by decide)) hG.r214_12 ?_
      refine g_bipush dX12_walks_117 bp_80 ?_
      refine g_iload_n dX12_walks_119 rfl rfl ?_
      refine g_imul dX12_walks_120 ?_
      refine g_bipush dX12_walks_121 bp_8 ?_
      refine g_iload_n dX12_walks_123 rfl rfl ?_
      refine g_imul dX12_walks_124 ?_
      refine g_iadd dX12_walks_125 ?_
      refine g_iload dX12_walks_126 rfl ?_
      refine g_iadd dX12_walks_128 ?_
      refine g_iald dX12_walks_129 hG.k217 (by decide) (hG.lt (by decide)) (by decide) ⟨h.1, ?_⟩
      replace h := h.2
      refine g_goto 134 dX12_walks_130 (by decide) ?_
      exact Go.drop (by simp only [mm_sub, and_self]) h
  · replace h := h.2 hc
    refine g_aload_n dX12_walks_83 rfl rfl ?_
    refine h_getR (j := 12) dX12_walks_84 f_X12_20_11 rfl rfl (by decide) hG.k214 (by decide) (hG.lt (by decide)) hG.r214_12 ?_
    refine g_bipush dX12_walks_87 bp_80 ?_
    refine g_iload_n dX12_walks_89 rfl rfl ?_
    refine g_imul dX12_walks_90 ?_
    refine g_bipush dX12_walks_91 bp_8 ?_
    refine g_iload_n dX12_walks_93 rfl rfl ?_
    refine g_imul dX12_walks_94 ?_
    refine g_iadd dX12_walks_95 ?_
    refine g_iload dX12_walks_96 rfl ?_
    refine g_iadd dX12_walks_98 ?_
    refine g_iald dX12_walks_99 hG.k217 (by decide) (hG.lt (by decide)) (by decide) ⟨h.1, ?_⟩
    replace h := h.2
    refine g_goto 104 dX12_walks_100 (by decide) ?_
    refine h_istore (L' := [some (vR 214), some (vI x1), some (vI x2), some (vI x3), none, some (vI x5), some (vI x6), some (vI x7), some (vI x8), some (vI (D 237 ((9 * x7) + x8))), some (vI (D 217 (((80 * x2) + (8 * x1)) + x7))), none]) dX12_walks_104 (Nat.le_of_ble_eq_true rfl) rfl rfl ?_
    refine g_iload dX12_walks_106 rfl ?_
    refine g_iload dX12_walks_108 rfl ?_
    refine g_icmp_ge 133 dX12_walks_110 (by decide) ⟨fun hc => ?_, fun hc => ?_⟩
    · replace h := h.1 hc
      refine g_iconst dX12_walks_133 ?_
      exact Go.drop (by simp only [mm_sub, and_self]) h
    · replace h := h.2 hc
      refine g_aload_n dX12_walks_113 rfl rfl ?_
      refine h_getR (j := 12) dX12_walks_114 f_X12_20_11 rfl rfl (by decide) hG.k214 (by decide) (hG.lt (by decide)) hG.r214_12 ?_
      refine g_bipush dX12_walks_117 bp_80 ?_
      refine g_iload_n dX12_walks_119 rfl rfl ?_
      refine g_imul dX12_walks_120 ?_
      refine g_bipush dX12_walks_121 bp_8 ?_
      refine g_iload_n dX12_walks_123 rfl rfl ?_
      refine g_imul dX12_walks_124 ?_
      refine g_iadd dX12_walks_125 ?_
      refine g_iload dX12_walks_126 rfl ?_
      refine g_iadd dX12_walks_128 ?_
      refine g_iald dX12_walks_129 hG.k217 (by decide) (hG.lt (by decide)) (by decide) ⟨h.1, ?_⟩
      replace h := h.2
      refine g_goto 134 dX12_walks_130 (by decide) ?_
      exact Go.drop (by simp only [mm_sub, and_self]) h
set_option maxRecDepth 20000 in
theorem w_X12_walks_134 {E : mmE} {d kc ks : Nat} {G : mmG} {D : mmD} {Q : mmQ} {x1 x2 x3 x5 x6 x7 x8 x9 x10 y0 : Int} (hG : Sh G)  (h : ((iv x5 ≤ iv x7 → Go E (d + 1) kc ks mX12_walks 205 [some (vR 214), some (vI x1), some (vI x2), some (vI x3), none, some (vI x5), some (vI x6), some (vI x7), some (vI x8), some (vI x9), some (vI x10), some (vI y0)] [] G D Q) ∧ (¬ iv x5 ≤ iv x7 → ((iv x6 ≤ iv x8 → Go E (d + 1) kc ks mX12_walks 205 [some (vR 214), some (vI x1), some (vI x2), some (vI x3), none, some (vI x5), some (vI x6), some (vI x7), some (vI x8), some (vI x9), some (vI x10), some (vI y0)] [] G D Q) ∧ (¬ iv x6 ≤ iv x8 → Call E d 0 0 mX12_apart [vI x10, vI y0] G D (retI G (fun z2 D1 => ((0 ≤ (((9 * x7) + x8) + 10) ∧ (((9 * x7) + x8) + 10) < 81) ∧ ((¬ iv (z2 + (D1 237 (((9 * x7) + x8) + 10))) = iv x9 → Go E (d + 1) kc ks mX12_walks 205 [some (vR 214), some (vI x1), some (vI x2), some (vI x3), none, some (vI x5), some (vI x6), some (vI x7), some (vI x8), some (vI x9), some (vI x10), some (vI y0)] [] G D1 Q) ∧ (iv (z2 + (D1 237 (((9 * x7) + x8) + 10))) = iv x9 → ((0 ≤ (D1 214 38) ∧ (D1 214 38) < 16) ∧ (∀ D3 : mmD, D3 = up2 D1 238 (D1 214 38) ((100 * x10) + y0) → (∀ D4 : mmD, D4 = up2 D3 214 38 ((D3 214 38) + 1) → Go E (d + 1) kc ks mX12_walks 47 [some (vR 214), some (vI x1), some (vI x2), some (vI x3), none, some (vI x5), some (vI x6), some (vI (x7 + 1)), some (vI (x8 + 1)), none, none, none] [] G D4 Q))))))))))))) : Go E (d + 1) kc ks mX12_walks 134 [some (vR 214), some (vI x1), some (vI x2), some (vI x3), none, some (vI x5), some (vI x6), some (vI x7), some (vI x8), some (vI x9), some (vI x10), none] [vI y0] G D Q := by
  refine h_istore (L' := [some (vR 214), some (vI x1), some (vI x2), some (vI x3), none, some (vI x5), some (vI x6), some (vI x7), some (vI x8), some (vI x9), some (vI x10), some (vI y0)]) dX12_walks_134 (Nat.le_of_ble_eq_true rfl) rfl rfl ?_
  refine g_iload dX12_walks_136 rfl ?_
  refine g_iload dX12_walks_138 rfl ?_
  refine g_icmp_ge 205 dX12_walks_140 (by decide) ⟨fun hc => ?_, fun hc => ?_⟩
  · replace h := h.1 hc
    exact Go.drop (by simp only [mm_sub, and_self]) h
  · replace h := h.2 hc
    refine g_iload dX12_walks_143 rfl ?_
    refine g_iload dX12_walks_145 rfl ?_
    refine g_icmp_ge 205 dX12_walks_147 (by decide) ⟨fun hc => ?_, fun hc => ?_⟩
    · replace h := h.1 hc
      exact Go.drop (by simp only [mm_sub, and_self]) h
    · replace h := h.2 hc
      refine g_iload dX12_walks_150 rfl ?_
      refine g_iload dX12_walks_152 rfl ?_
      refine g_callS (kc := kc) (kc' := 0) (ks := ks) (ks' := 0) (as := [vI x10, vI y0]) (st := []) dX12_walks_154 cB_X12_apart lk_X12_225 st_X12_apart rfl (Nat.le_of_ble_eq_true rfl) (Nat.le_of_ble_eq_true rfl) ?_
      refine Go.to (fun r G' D1 hr => ?_) h
      obtain ⟨rfl, z2, rfl, h⟩ := hr
      show Go E (d + 1) kc ks mX12_walks 157 [some (vR 214), some (vI x1), some (vI x2), some (vI x3), none, some (vI x5), some (vI x6), some (vI x7), some (vI x8), some (vI x9), some (vI x10), some (vI y0)] [vI z2] G D1 Q
      refine g_aload_n dX12_walks_157 rfl rfl ?_
      refine h_getR (j := 36) dX12_walks_158 f_X12_81_11 rfl rfl (by decide) hG.k214 (by decide) (hG.lt (by decide)) hG.r214_36 ?_
      refine g_bipush dX12_walks_161 bp_9 ?_
      refine g_iload dX12_walks_163 rfl ?_
      refine g_imul dX12_walks_165 ?_
      refine g_iload dX12_walks_166 rfl ?_
      refine g_iadd dX12_walks_168 ?_
      refine g_bipush dX12_walks_169 bp_10 ?_
      refine g_iadd dX12_walks_171 ?_
      refine g_iald dX12_walks_172 hG.k237 (by decide) (hG.lt (by decide)) (by decide) ⟨h.1, ?_⟩
      replace h := h.2
      refine g_iadd dX12_walks_173 ?_
      refine g_iload dX12_walks_174 rfl ?_
      refine g_icmp_ne 205 dX12_walks_176 (by decide) ⟨fun hc => ?_, fun hc => ?_⟩
      · replace h := h.1 hc
        exact Go.drop (by simp only [mm_sub, and_self]) h
      · replace h := h.2 hc
        refine g_aload_n dX12_walks_179 rfl rfl ?_
        refine h_getR (j := 37) dX12_walks_180 f_X12_84_11 rfl rfl (by decide) hG.k214 (by decide) (hG.lt (by decide)) hG.r214_37 ?_
        refine g_aload_n dX12_walks_183 rfl rfl ?_
        refine h_getI (j := 38) dX12_walks_184 f_X12_235_11 rfl rfl (by decide) hG.k214 (by decide) (hG.lt (by decide)) ?_
        refine g_bipush dX12_walks_187 bp_100 ?_
        refine g_iload dX12_walks_189 rfl ?_
        refine g_imul dX12_walks_191 ?_
        refine g_iload dX12_walks_192 rfl ?_
        refine g_iadd dX12_walks_194 ?_
        refine g_iast dX12_walks_195 hG.k238 (by decide) (hG.lt (by decide)) (by decide) ⟨h.1, ?_⟩
        generalize hD_D3 : up2 D1 238 (D1 214 38) ((100 * x10) + y0) = D3
        replace h := h.2 _ hD_D3.symm
        refine h_iinc (L' := [some (vR 214), some (vI x1), some (vI x2), some (vI x3), none, some (vI x5), some (vI x6), some (vI (x7 + 1)), some (vI x8), some (vI x9), some (vI x10), some (vI y0)]) dX12_walks_196 (Nat.le_of_ble_eq_true rfl) rfl rfl rfl ?_
        refine h_iinc (L' := [some (vR 214), some (vI x1), some (vI x2), some (vI x3), none, some (vI x5), some (vI x6), some (vI (x7 + 1)), some (vI (x8 + 1)), some (vI x9), some (vI x10), some (vI y0)]) dX12_walks_199 (Nat.le_of_ble_eq_true rfl) rfl rfl rfl ?_
        refine g_goto 269 dX12_walks_202 (by decide) ?_
        refine g_aload_n dX12_walks_269 rfl rfl ?_
        refine g_dup dX12_walks_270 (fun _ h9 => by cases h9) ?_
        refine h_getI (j := 38) dX12_walks_271 f_X12_235_11 rfl rfl (by decide) hG.k214 (by decide) (hG.lt (by decide)) ?_
        refine g_iconst dX12_walks_274 ?_
        refine g_iadd dX12_walks_275 ?_
        refine h_putI (j := 38) dX12_walks_276 f_X12_235_11 (Or.inl (mm_finI (by decide +kernel))) rfl rfl (by decide) hG.k214 (by decide) (hG.lt (by decide)) ?_
        generalize hD_D4 : up2 D3 214 38 ((D3 214 38) + 1) = D4
        replace h := h _ hD_D4.symm
        refine g_goto 47 dX12_walks_279 (by decide) ?_
        exact Go.drop (by simp only [mm_sub, and_self]) h
set_option maxRecDepth 20000 in
theorem w_X12_walks_205 {E : mmE} {d kc ks : Nat} {G : mmG} {D : mmD} {Q : mmQ} {x1 x2 x3 x5 x6 x7 x8 x9 x10 x11 : Int} (hG : Sh G)  (h : ((iv x5 ≤ iv x7 → ((0 ≤ (D 214 38) ∧ (D 214 38) < 16) ∧ (∀ D1 : mmD, D1 = up2 D 238 (D 214 38) x11 → (∀ D2 : mmD, D2 = up2 D1 214 38 ((D1 214 38) + 1) → Go E (d + 1) kc ks mX12_walks 47 [some (vR 214), some (vI x1), some (vI x2), some (vI x3), none, some (vI x5), some (vI x6), some (vI x7), some (vI (x8 + 1)), none, none, none] [] G D2 Q)))) ∧ (¬ iv x5 ≤ iv x7 → ((0 ≤ (((9 * x7) + x8) + 9) ∧ (((9 * x7) + x8) + 9) < 81) ∧ ((¬ iv ((D 237 (((9 * x7) + x8) + 9)) + 2) = iv x9 → ((0 ≤ (D 214 38) ∧ (D 214 38) < 16) ∧ (∀ D3 : mmD, D3 = up2 D 238 (D 214 38) x11 → (∀ D4 : mmD, D4 = up2 D3 214 38 ((D3 214 38) + 1) → Go E (d + 1) kc ks mX12_walks 47 [some (vR 214), some (vI x1), some (vI x2), some (vI x3), none, some (vI x5), some (vI x6), some (vI x7), some (vI (x8 + 1)), none, none, none] [] G D4 Q)))) ∧ (iv ((D 237 (((9 * x7) + x8) + 9)) + 2) = iv x9 → ((0 ≤ (D 214 38) ∧ (D 214 38) < 16) ∧ (∀ D5 : mmD, D5 = up2 D 238 (D 214 38) (100 * x10) → (∀ D6 : mmD, D6 = up2 D5 214 38 ((D5 214 38) + 1) → Go E (d + 1) kc ks mX12_walks 47 [some (vR 214), some (vI x1), some (vI x2), some (vI x3), none, some (vI x5), some (vI x6), some (vI (x7 + 1)), some (vI x8), none, none, none] [] G D6 Q))))))))) : Go E (d + 1) kc ks mX12_walks 205 [some (vR 214), some (vI x1), some (vI x2), some (vI x3), none, some (vI x5), some (vI x6), some (vI x7), some (vI x8), some (vI x9), some (vI x10), some (vI x11)] [] G D Q := by
  refine g_iload dX12_walks_205 rfl ?_
  refine g_iload dX12_walks_207 rfl ?_
  refine g_icmp_ge 255 dX12_walks_209 (by decide) ⟨fun hc => ?_, fun hc => ?_⟩
  · replace h := h.1 hc
    refine g_aload_n dX12_walks_255 rfl rfl ?_
    refine h_getR (j := 37) dX12_walks_256 f_X12_84_11 rfl rfl (by decide) hG.k214 (by decide) (hG.lt (by decide)) hG.r214_37 ?_
    refine g_aload_n dX12_walks_259 rfl rfl ?_
    refine h_getI (j := 38) dX12_walks_260 f_X12_235_11 rfl rfl (by decide) hG.k214 (by decide) (hG.lt (by decide)) ?_
    refine g_iload dX12_walks_263 rfl ?_
    refine g_iast dX12_walks_265 hG.k238 (by decide) (hG.lt (by decide)) (by decide) ⟨h.1, ?_⟩
    generalize hD_D1 : up2 D 238 (D 214 38) x11 = D1
    replace h := h.2 _ hD_D1.symm
    refine h_iinc (L' := [some (vR 214), some (vI x1), some (vI x2), some (vI x3), none, some (vI x5), some (vI x6), some (vI x7), some (vI (x8 + 1)), some (vI x9), some (vI x10), some (vI x11)]) dX12_walks_266 (Nat.le_of_ble_eq_true rfl) rfl rfl rfl ?_
    refine g_aload_n dX12_walks_269 rfl rfl ?_
    refine g_dup dX12_walks_270 (fun _ h9 => by cases h9) ?_
    refine h_getI (j := 38) dX12_walks_271 f_X12_235_11 rfl rfl (by decide) hG.k214 (by decide) (hG.lt (by decide)) ?_
    refine g_iconst dX12_walks_274 ?_
    refine g_iadd dX12_walks_275 ?_
    refine h_putI (j := 38) dX12_walks_276 f_X12_235_11 (Or.inl (mm_finI (by decide +kernel))) rfl rfl (by decide) hG.k214 (by decide) (hG.lt (by decide)) ?_
    generalize hD_D2 : up2 D1 214 38 ((D1 214 38) + 1) = D2
    replace h := h _ hD_D2.symm
    refine g_goto 47 dX12_walks_279 (by decide) ?_
    exact Go.drop (by simp only [mm_sub, and_self]) h
  · replace h := h.2 hc
    refine g_aload_n dX12_walks_212 rfl rfl ?_
    refine h_getR (j := 36) dX12_walks_213 f_X12_81_11 rfl rfl (by decide) hG.k214 (by decide) (hG.lt (by decide)) hG.r214_36 ?_
    refine g_bipush dX12_walks_216 bp_9 ?_
    refine g_iload dX12_walks_218 rfl ?_
    refine g_imul dX12_walks_220 ?_
    refine g_iload dX12_walks_221 rfl ?_
    refine g_iadd dX12_walks_223 ?_
    refine g_bipush dX12_walks_224 bp_9 ?_
    refine g_iadd dX12_walks_226 ?_
    refine g_iald dX12_walks_227 hG.k237 (by decide) (hG.lt (by decide)) (by decide) ⟨h.1, ?_⟩
    replace h := h.2
    refine g_iconst dX12_walks_228 ?_
    refine g_iadd dX12_walks_229 ?_
    refine g_iload dX12_walks_230 rfl ?_
    refine g_icmp_ne 255 dX12_walks_232 (by decide) ⟨fun hc => ?_, fun hc => ?_⟩
    · replace h := h.1 hc
      refine g_aload_n dX12_walks_255 rfl rfl ?_
      refine h_getR (j := 37) dX12_walks_256 f_X12_84_11 rfl rfl (by decide) hG.k214 (by decide) (hG.lt (by decide)) hG.r214_37 ?_
      refine g_aload_n dX12_walks_259 rfl rfl ?_
      refine h_getI (j := 38) dX12_walks_260 f_X12_235_11 rfl rfl (by decide) hG.k214 (by decide) (hG.lt (by decide)) ?_
      refine g_iload dX12_walks_263 rfl ?_
      refine g_iast dX12_walks_265 hG.k238 (by decide) (hG.lt (by decide)) (by decide) ⟨h.1, ?_⟩
      generalize hD_D3 : up2 D 238 (D 214 38) x11 = D3
      replace h := h.2 _ hD_D3.symm
      refine h_iinc (L' := [some (vR 214), some (vI x1), some (vI x2), some (vI x3), none, some (vI x5), some (vI x6), some (vI x7), some (vI (x8 + 1)), some (vI x9), some (vI x10), some (vI x11)]) dX12_walks_266 (Nat.le_of_ble_eq_true rfl) rfl rfl rfl ?_
      refine g_aload_n dX12_walks_269 rfl rfl ?_
      refine g_dup dX12_walks_270 (fun _ h9 => by cases h9) ?_
      refine h_getI (j := 38) dX12_walks_271 f_X12_235_11 rfl rfl (by decide) hG.k214 (by decide) (hG.lt (by decide)) ?_
      refine g_iconst dX12_walks_274 ?_
      refine g_iadd dX12_walks_275 ?_
      refine h_putI (j := 38) dX12_walks_276 f_X12_235_11 (Or.inl (mm_finI (by decide +kernel))) rfl rfl (by decide) hG.k214 (by decide) (hG.lt (by decide)) ?_
      generalize hD_D4 : up2 D3 214 38 ((D3 214 38) + 1) = D4
      replace h := h _ hD_D4.symm
      refine g_goto 47 dX12_walks_279 (by decide) ?_
      exact Go.drop (by simp only [mm_sub, and_self]) h
    · replace h := h.2 hc
      refine g_aload_n dX12_walks_235 rfl rfl ?_
      refine h_getR (j := 37) dX12_walks_236 f_X12_84_11 rfl rfl (by decide) hG.k214 (by decide) (hG.lt (by decide)) hG.r214_37 ?_
      refine g_aload_n dX12_walks_239 rfl rfl ?_
      refine h_getI (j := 38) dX12_walks_240 f_X12_235_11 rfl rfl (by decide) hG.k214 (by decide) (hG.lt (by decide)) ?_
      refine g_bipush dX12_walks_243 bp_100 ?_
      refine g_iload dX12_walks_245 rfl ?_
      refine g_imul dX12_walks_247 ?_
      refine g_iast dX12_walks_248 hG.k238 (by decide) (hG.lt (by decide)) (by decide) ⟨h.1, ?_⟩
      generalize hD_D5 : up2 D 238 (D 214 38) (100 * x10) = D5
      replace h := h.2 _ hD_D5.symm
      refine h_iinc (L' := [some (vR 214), some (vI x1), some (vI x2), some (vI x3), none, some (vI x5), some (vI x6), some (vI (x7 + 1)), some (vI x8), some (vI x9), some (vI x10), some (vI x11)]) dX12_walks_249 (Nat.le_of_ble_eq_true rfl) rfl rfl rfl ?_
      refine g_goto 269 dX12_walks_252 (by decide) ?_
      refine g_aload_n dX12_walks_269 rfl rfl ?_
      refine g_dup dX12_walks_270 (fun _ h9 => by cases h9) ?_
      refine h_getI (j := 38) dX12_walks_271 f_X12_235_11 rfl rfl (by decide) hG.k214 (by decide) (hG.lt (by decide)) ?_
      refine g_iconst dX12_walks_274 ?_
      refine g_iadd dX12_walks_275 ?_
      refine h_putI (j := 38) dX12_walks_276 f_X12_235_11 (Or.inl (mm_finI (by decide +kernel))) rfl rfl (by decide) hG.k214 (by decide) (hG.lt (by decide)) ?_
      generalize hD_D6 : up2 D5 214 38 ((D5 214 38) + 1) = D6
      replace h := h _ hD_D6.symm
      refine g_goto 47 dX12_walks_279 (by decide) ?_
      exact Go.drop (by simp only [mm_sub, and_self]) h
set_option maxRecDepth 20000 in
theorem w_X12_way {E : mmE} {d kc ks : Nat} {G : mmG} {D : mmD} {Q : mmQ} {x1 x2 x3 x4 : Int} (hG : Sh G)  (h : Call E d 0 0 mX12_has [vR 214, vI x2, vI x1] G D (retI G (fun z2 D1 => ((iv z2 = iv 0 → Q (some (vI (-1))) G D1) ∧ (¬ iv z2 = iv 0 → Call E d 0 0 mX12_has [vR 214, vI x3, vI x1] G D1 (retI G (fun z4 D3 => ((iv z4 = iv 0 → Q (some (vI (-1))) G D3) ∧ (¬ iv z4 = iv 0 → ((iv (-1) ≤ iv x4 → Call E d 0 0 mX12_walks [vR 214, vI x1, vI x2, vI x3] G D3 (retV G (fun D5 => ((¬ iv x4 = iv (-1) → ((iv (D5 214 38) ≤ iv x4 → Q (some (vI (-1))) G D5) ∧ (¬ iv (D5 214 38) ≤ iv x4 → ((0 ≤ x4 ∧ x4 < 16) ∧ Q (some (vI (D5 238 x4))) G D5)))) ∧ (iv x4 = iv (-1) → Q (some (vI (D5 214 38))) G D5))))) ∧ (¬ iv (-1) ≤ iv x4 → Q (some (vI (-1))) G D3))))))))))) : Call E (d + 1) kc ks mX12_way [vR 214, vI x1, vI x2, vI x3, vI x4] G D Q := by
  show Go E (d + 1) kc ks mX12_way 0 [some (vR 214), some (vI x1), some (vI x2), some (vI x3), some (vI x4)] [] G D Q
  refine g_aload_n dX12_way_0 rfl rfl ?_
  refine g_iload_n dX12_way_1 rfl rfl ?_
  refine g_iload_n dX12_way_2 rfl rfl ?_
  refine g_callV (kc := kc) (kc' := 0) (ks := ks) (ks' := 0) (as := [vI x2, vI x1]) (st := []) (ci := 11) dX12_way_3 cB_X12_has lk_X12_228 in_X12_has se_X12_has (by decide) rfl rfl (Nat.le_of_ble_eq_true rfl) (Nat.le_of_ble_eq_true rfl) (by decide) (hG.lt (by decide)) (congrArg Prod.fst hG.k214) ?_
  refine Go.to (fun r G' D1 hr => ?_) h
  obtain ⟨rfl, z2, rfl, h⟩ := hr
  show Go E (d + 1) kc ks mX12_way 6 [some (vR 214), some (vI x1), some (vI x2), some (vI x3), some (vI x4)] [vI z2] G D1 Q
  refine g_if_eq 24 dX12_way_6 (by decide) ⟨fun hc => ?_, fun hc => ?_⟩
  · replace h := h.1 hc
    refine g_iconst dX12_way_24 ?_
    exact g_iret dX12_way_25 rfl h
  · replace h := h.2 hc
    refine g_aload_n dX12_way_9 rfl rfl ?_
    refine g_iload_n dX12_way_10 rfl rfl ?_
    refine g_iload_n dX12_way_11 rfl rfl ?_
    refine g_callV (kc := kc) (kc' := 0) (ks := ks) (ks' := 0) (as := [vI x3, vI x1]) (st := []) (ci := 11) dX12_way_12 cB_X12_has lk_X12_228 in_X12_has se_X12_has (by decide) rfl rfl (Nat.le_of_ble_eq_true rfl) (Nat.le_of_ble_eq_true rfl) (by decide) (hG.lt (by decide)) (congrArg Prod.fst hG.k214) ?_
    refine Go.to (fun r G' D3 hr => ?_) h
    obtain ⟨rfl, z4, rfl, h⟩ := hr
    show Go E (d + 1) kc ks mX12_way 15 [some (vR 214), some (vI x1), some (vI x2), some (vI x3), some (vI x4)] [vI z4] G D3 Q
    refine g_if_eq 24 dX12_way_15 (by decide) ⟨fun hc => ?_, fun hc => ?_⟩
    · replace h := h.1 hc
      refine g_iconst dX12_way_24 ?_
      exact g_iret dX12_way_25 rfl h
    · replace h := h.2 hc
      refine g_iload dX12_way_18 rfl ?_
      refine g_iconst dX12_way_20 ?_
      refine g_icmp_ge 26 dX12_way_21 (by decide) ⟨fun hc => ?_, fun hc => ?_⟩
      · replace h := h.1 hc
        refine g_aload_n dX12_way_26 rfl rfl ?_
        refine g_iload_n dX12_way_27 rfl rfl ?_
        refine g_iload_n dX12_way_28 rfl rfl ?_
        refine g_iload_n dX12_way_29 rfl rfl ?_
        refine g_callV (kc := kc) (kc' := 0) (ks := ks) (ks' := 0) (as := [vI x1, vI x2, vI x3]) (st := []) (ci := 11) dX12_way_30 cB_X12_walks lk_X12_238 in_X12_walks se_X12_walks (by decide) rfl rfl (Nat.le_of_ble_eq_true rfl) (Nat.le_of_ble_eq_true rfl) (by decide) (hG.lt (by decide)) (congrArg Prod.fst hG.k214) ?_
        refine Go.to (fun r G' D5 hr => ?_) h
        obtain ⟨rfl, rfl, h⟩ := hr
        show Go E (d + 1) kc ks mX12_way 33 [some (vR 214), some (vI x1), some (vI x2), some (vI x3), some (vI x4)] [] G D5 Q
        refine g_iload dX12_way_33 rfl ?_
        refine g_iconst dX12_way_35 ?_
        refine g_icmp_ne 46 dX12_way_36 (by decide) ⟨fun hc => ?_, fun hc => ?_⟩
        · replace h := h.1 hc
          refine g_iload dX12_way_46 rfl ?_
          refine g_aload_n dX12_way_48 rfl rfl ?_
          refine h_getI (j := 38) dX12_way_49 f_X12_235_11 rfl rfl (by decide) hG.k214 (by decide) (hG.lt (by decide)) ?_
          refine g_icmp_ge 65 dX12_way_52 (by decide) ⟨fun hc => ?_, fun hc => ?_⟩
          · replace h := h.1 hc
            refine g_iconst dX12_way_65 ?_
            exact g_iret dX12_way_66 rfl h
          · replace h := h.2 hc
            refine g_aload_n dX12_way_55 rfl rfl ?_
            refine h_getR (j := 37) dX12_way_56 f_X12_84_11 rfl rfl (by decide) hG.k214 (by decide) (hG.lt (by decide)) hG.r214_37 ?_
            refine g_iload dX12_way_59 rfl ?_
            refine g_iald dX12_way_61 hG.k238 (by decide) (hG.lt (by decide)) (by decide) ⟨h.1, ?_⟩
            replace h := h.2
            refine g_goto 66 dX12_way_62 (by decide) ?_
            exact g_iret dX12_way_66 rfl h
        · replace h := h.2 hc
          refine g_aload_n dX12_way_39 rfl rfl ?_
          refine h_getI (j := 38) dX12_way_40 f_X12_235_11 rfl rfl (by decide) hG.k214 (by decide) (hG.lt (by decide)) ?_
          refine g_goto 66 dX12_way_43 (by decide) ?_
          exact g_iret dX12_way_66 rfl h
      · replace h := h.2 hc
        refine g_iconst dX12_way_24 ?_
        exact g_iret dX12_way_25 rfl h
set_option maxRecDepth 20000 in
theorem w_X12_areKin {E : mmE} {d kc ks : Nat} {G : mmG} {D : mmD} {Q : mmQ} {x1 x2 x3 x4 : Int} (hG : Sh G)  (h : ((0 ≤ ((10 * x1) + x2) ∧ ((10 * x1) + x2) < 60) ∧ ((0 ≤ ((10 * x3) + x4) ∧ ((10 * x3) + x4) < 60) ∧ Call E d 0 0 mX12_costOf [vR 214, vI x1, vI x2, vI x3, vI x4] G D (retI G (fun z2 D1 => ((iv (D 216 ((10 * x1) + x2)) ≤ iv (D 216 ((10 * x3) + x4)) → ((iv ((D1 214 8) * (D 216 ((10 * x3) + x4))) < iv (10 * z2) → Q (some (vI 0)) G D1) ∧ (¬ iv ((D1 214 8) * (D 216 ((10 * x3) + x4))) < iv (10 * z2) → Q (some (vI 1)) G D1))) ∧ (¬ iv (D 216 ((10 * x1) + x2)) ≤ iv (D 216 ((10 * x3) + x4)) → ((iv ((D1 214 8) * (D 216 ((10 * x1) + x2))) < iv (10 * z2) → Q (some (vI 0)) G D1) ∧ (¬ iv ((D1 214 8) * (D 216 ((10 * x1) + x2))) < iv (10 * z2) → Q (some (vI 1)) G D1))))))))) : Call E (d + 1) kc ks mX12_areKin [vR 214, vI x1, vI x2, vI x3, vI x4] G D Q := by
  show Go E (d + 1) kc ks mX12_areKin 0 [some (vR 214), some (vI x1), some (vI x2), some (vI x3), some (vI x4), none, none] [] G D Q
  refine g_aload_n dX12_areKin_0 rfl rfl ?_
  refine h_getR (j := 11) dX12_areKin_1 f_X12_17_11 rfl rfl (by decide) hG.k214 (by decide) (hG.lt (by decide)) hG.r214_11 ?_
  refine g_bipush dX12_areKin_4 bp_10 ?_
  refine g_iload_n dX12_areKin_6 rfl rfl ?_
  refine g_imul dX12_areKin_7 ?_
  refine g_iload_n dX12_areKin_8 rfl rfl ?_
  refine g_iadd dX12_areKin_9 ?_
  refine g_iald dX12_areKin_10 hG.k216 (by decide) (hG.lt (by decide)) (by decide) ⟨h.1, ?_⟩
  replace h := h.2
  refine h_istore (L' := [some (vR 214), some (vI x1), some (vI x2), some (vI x3), some (vI x4), some (vI (D 216 ((10 * x1) + x2))), none]) dX12_areKin_11 (Nat.le_of_ble_eq_true rfl) rfl rfl ?_
  refine g_aload_n dX12_areKin_13 rfl rfl ?_
  refine h_getR (j := 11) dX12_areKin_14 f_X12_17_11 rfl rfl (by decide) hG.k214 (by decide) (hG.lt (by decide)) hG.r214_11 ?_
  refine g_bipush dX12_areKin_17 bp_10 ?_
  refine g_iload_n dX12_areKin_19 rfl rfl ?_
  refine g_imul dX12_areKin_20 ?_
  refine g_iload dX12_areKin_21 rfl ?_
  refine g_iadd dX12_areKin_23 ?_
  refine g_iald dX12_areKin_24 hG.k216 (by decide) (hG.lt (by decide)) (by decide) ⟨h.1, ?_⟩
  replace h := h.2
  refine h_istore (L' := [some (vR 214), some (vI x1), some (vI x2), some (vI x3), some (vI x4), some (vI (D 216 ((10 * x1) + x2))), some (vI (D 216 ((10 * x3) + x4)))]) dX12_areKin_25 (Nat.le_of_ble_eq_true rfl) rfl rfl ?_
  refine g_bipush dX12_areKin_27 bp_10 ?_
  refine g_aload_n dX12_areKin_29 rfl rfl ?_
  refine g_iload_n dX12_areKin_30 rfl rfl ?_
  refine g_iload_n dX12_areKin_31 rfl rfl ?_
  refine g_iload_n dX12_areKin_32 rfl rfl ?_
  refine g_iload dX12_areKin_33 rfl ?_
  refine g_callV (kc := kc) (kc' := 0) (ks := ks) (ks' := 0) (as := [vI x1, vI x2, vI x3, vI x4]) (st := [vI 10]) (ci := 11) dX12_areKin_35 cB_X12_costOf lk_X12_231 in_X12_costOf se_X12_costOf (by decide) rfl rfl (Nat.le_of_ble_eq_true rfl) (Nat.le_of_ble_eq_true rfl) (by decide) (hG.lt (by decide)) (congrArg Prod.fst hG.k214) ?_
  refine Go.to (fun r G' D1 hr => ?_) h
  obtain ⟨rfl, z2, rfl, h⟩ := hr
  show Go E (d + 1) kc ks mX12_areKin 38 [some (vR 214), some (vI x1), some (vI x2), some (vI x3), some (vI x4), some (vI (D 216 ((10 * x1) + x2))), some (vI (D 216 ((10 * x3) + x4)))] [vI z2, vI 10] G D1 Q
  refine g_imul dX12_areKin_38 ?_
  refine g_aload_n dX12_areKin_39 rfl rfl ?_
  refine h_getI (j := 8) dX12_areKin_40 f_X12_7_11 rfl rfl (by decide) hG.k214 (by decide) (hG.lt (by decide)) ?_
  refine g_iload dX12_areKin_43 rfl ?_
  refine g_iload dX12_areKin_45 rfl ?_
  refine g_icmp_le 55 dX12_areKin_47 (by decide) ⟨fun hc => ?_, fun hc => ?_⟩
  · replace h := h.1 hc
    refine g_iload dX12_areKin_55 rfl ?_
    refine g_imul dX12_areKin_57 ?_
    refine g_icmp_gt 65 dX12_areKin_58 (by decide) ⟨fun hc => ?_, fun hc => ?_⟩
    · replace h := h.1 hc
      refine g_iconst dX12_areKin_65 ?_
      exact g_zret dX12_areKin_66 rfl ⟨Or.inl rfl, h⟩
    · replace h := h.2 hc
      refine g_iconst dX12_areKin_61 ?_
      refine g_goto 66 dX12_areKin_62 (by decide) ?_
      exact g_zret dX12_areKin_66 rfl ⟨Or.inr rfl, h⟩
  · replace h := h.2 hc
    refine g_iload dX12_areKin_50 rfl ?_
    refine g_goto 57 dX12_areKin_52 (by decide) ?_
    refine g_imul dX12_areKin_57 ?_
    refine g_icmp_gt 65 dX12_areKin_58 (by decide) ⟨fun hc => ?_, fun hc => ?_⟩
    · replace h := h.1 hc
      refine g_iconst dX12_areKin_65 ?_
      exact g_zret dX12_areKin_66 rfl ⟨Or.inl rfl, h⟩
    · replace h := h.2 hc
      refine g_iconst dX12_areKin_61 ?_
      refine g_goto 66 dX12_areKin_62 (by decide) ?_
      exact g_zret dX12_areKin_66 rfl ⟨Or.inr rfl, h⟩
set_option maxRecDepth 20000 in
theorem w_X12_kin {E : mmE} {d kc ks : Nat} {G : mmG} {D : mmD} {Q : mmQ} {x1 x2 x3 : Int} (hG : Sh G)  (h : Call E d 0 0 mX12_has [vR 214, vI x2, vI x1] G D (retI G (fun z2 D1 => ((iv z2 = iv 0 → Q (some (vI (-1))) G D1) ∧ (¬ iv z2 = iv 0 → Call E d 0 0 mX12_has [vR 214, vI x3, vI x1] G D1 (retI G (fun z4 D3 => ((¬ iv z4 = iv 0 → ((¬ iv x2 = iv x3 → Call E d 0 0 mX12_areKin [vR 214, vI x2, vI x1, vI x3, vI x1] G D3 (retI G (fun z6 D5 => ((iv z6 = iv 0 → Q (some (vI 0)) G D5) ∧ (¬ iv z6 = iv 0 → Q (some (vI 1)) G D5))))) ∧ (iv x2 = iv x3 → Q (some (vI (-2))) G D3))) ∧ (iv z4 = iv 0 → Q (some (vI (-1))) G D3))))))))) : Call E (d + 1) kc ks mX12_kin [vR 214, vI x1, vI x2, vI x3] G D Q := by
  show Go E (d + 1) kc ks mX12_kin 0 [some (vR 214), some (vI x1), some (vI x2), some (vI x3)] [] G D Q
  refine g_aload_n dX12_kin_0 rfl rfl ?_
  refine g_iload_n dX12_kin_1 rfl rfl ?_
  refine g_iload_n dX12_kin_2 rfl rfl ?_
  refine g_callV (kc := kc) (kc' := 0) (ks := ks) (ks' := 0) (as := [vI x2, vI x1]) (st := []) (ci := 11) dX12_kin_3 cB_X12_has lk_X12_228 in_X12_has se_X12_has (by decide) rfl rfl (Nat.le_of_ble_eq_true rfl) (Nat.le_of_ble_eq_true rfl) (by decide) (hG.lt (by decide)) (congrArg Prod.fst hG.k214) ?_
  refine Go.to (fun r G' D1 hr => ?_) h
  obtain ⟨rfl, z2, rfl, h⟩ := hr
  show Go E (d + 1) kc ks mX12_kin 6 [some (vR 214), some (vI x1), some (vI x2), some (vI x3)] [vI z2] G D1 Q
  refine g_if_eq 18 dX12_kin_6 (by decide) ⟨fun hc => ?_, fun hc => ?_⟩
  · replace h := h.1 hc
    refine g_iconst dX12_kin_18 ?_
    exact g_iret dX12_kin_19 rfl h
  · replace h := h.2 hc
    refine g_aload_n dX12_kin_9 rfl rfl ?_
    refine g_iload_n dX12_kin_10 rfl rfl ?_
    refine g_iload_n dX12_kin_11 rfl rfl ?_
    refine g_callV (kc := kc) (kc' := 0) (ks := ks) (ks' := 0) (as := [vI x3, vI x1]) (st := []) (ci := 11) dX12_kin_12 cB_X12_has lk_X12_228 in_X12_has se_X12_has (by decide) rfl rfl (Nat.le_of_ble_eq_true rfl) (Nat.le_of_ble_eq_true rfl) (by decide) (hG.lt (by decide)) (congrArg Prod.fst hG.k214) ?_
    refine Go.to (fun r G' D3 hr => ?_) h
    obtain ⟨rfl, z4, rfl, h⟩ := hr
    show Go E (d + 1) kc ks mX12_kin 15 [some (vR 214), some (vI x1), some (vI x2), some (vI x3)] [vI z4] G D3 Q
    refine g_if_ne 20 dX12_kin_15 (by decide) ⟨fun hc => ?_, fun hc => ?_⟩
    · replace h := h.1 hc
      refine g_iload_n dX12_kin_20 rfl rfl ?_
      refine g_iload_n dX12_kin_21 rfl rfl ?_
      refine g_icmp_ne 30 dX12_kin_22 (by decide) ⟨fun hc => ?_, fun hc => ?_⟩
      · replace h := h.1 hc
        refine g_aload_n dX12_kin_30 rfl rfl ?_
        refine g_iload_n dX12_kin_31 rfl rfl ?_
        refine g_iload_n dX12_kin_32 rfl rfl ?_
        refine g_iload_n dX12_kin_33 rfl rfl ?_
        refine g_iload_n dX12_kin_34 rfl rfl ?_
        refine g_callV (kc := kc) (kc' := 0) (ks := ks) (ks' := 0) (as := [vI x2, vI x1, vI x3, vI x1]) (st := []) (ci := 11) dX12_kin_35 cB_X12_areKin lk_X12_242 in_X12_areKin se_X12_areKin (by decide) rfl rfl (Nat.le_of_ble_eq_true rfl) (Nat.le_of_ble_eq_true rfl) (by decide) (hG.lt (by decide)) (congrArg Prod.fst hG.k214) ?_
        refine Go.to (fun r G' D5 hr => ?_) h
        obtain ⟨rfl, z6, rfl, h⟩ := hr
        show Go E (d + 1) kc ks mX12_kin 38 [some (vR 214), some (vI x1), some (vI x2), some (vI x3)] [vI z6] G D5 Q
        refine g_if_eq 45 dX12_kin_38 (by decide) ⟨fun hc => ?_, fun hc => ?_⟩
        · replace h := h.1 hc
          refine g_iconst dX12_kin_45 ?_
          exact g_iret dX12_kin_46 rfl h
        · replace h := h.2 hc
          refine g_iconst dX12_kin_41 ?_
          refine g_goto 46 dX12_kin_42 (by decide) ?_
          exact g_iret dX12_kin_46 rfl h
      · replace h := h.2 hc
        refine g_bipush dX12_kin_25 bp_m2 ?_
        refine g_goto 46 dX12_kin_27 (by decide) ?_
        exact g_iret dX12_kin_46 rfl h
    · replace h := h.2 hc
      refine g_iconst dX12_kin_18 ?_
      exact g_iret dX12_kin_19 rfl h
set_option maxRecDepth 20000 in
theorem w_X12_setOf {E : mmE} {d kc ks : Nat} {G : mmG} {D : mmD} {Q : mmQ} {x1 x2 : Int} (hG : Sh G)  (h : Go E (d + 1) kc ks mX12_setOf 7 [some (vR 214), some (vI x1), none, some (vI (ishl 1 x2)), some (vI 1), none, none, none] [] G D Q) : Call E (d + 1) kc ks mX12_setOf [vR 214, vI x1, vI x2] G D Q := by
  show Go E (d + 1) kc ks mX12_setOf 0 [some (vR 214), some (vI x1), some (vI x2), none, none, none, none, none] [] G D Q
  refine g_iconst dX12_setOf_0 ?_
  refine g_iload_n dX12_setOf_1 rfl rfl ?_
  refine g_ishl dX12_setOf_2 ?_
  refine h_istore_n (L' := [some (vR 214), some (vI x1), some (vI x2), some (vI (ishl 1 x2)), none, none, none, none]) dX12_setOf_3 rfl (Nat.le_of_ble_eq_true rfl) rfl rfl ?_
  refine g_iconst dX12_setOf_4 ?_
  refine h_istore (L' := [some (vR 214), some (vI x1), some (vI x2), some (vI (ishl 1 x2)), some (vI 1), none, none, none]) dX12_setOf_5 (Nat.le_of_ble_eq_true rfl) rfl rfl ?_
  exact Go.drop (by simp only [mm_sub, and_self]) h
set_option maxRecDepth 20000 in
theorem w_X12_setOf_7 {E : mmE} {d kc ks : Nat} {G : mmG} {D : mmD} {Q : mmQ} {x1 x3 x4 : Int} (hG : Sh G)  (h : ((iv x4 = iv 0 → Q (some (vI x3)) G D) ∧ (¬ iv x4 = iv 0 → Go E (d + 1) kc ks mX12_setOf 18 [some (vR 214), some (vI x1), none, some (vI x3), some (vI 0), some (vI 0), none, none] [] G D Q))) : Go E (d + 1) kc ks mX12_setOf 7 [some (vR 214), some (vI x1), none, some (vI x3), some (vI x4), none, none, none] [] G D Q := by
  refine g_iload dX12_setOf_7 rfl ?_
  refine g_if_eq 131 dX12_setOf_9 (by decide) ⟨fun hc => ?_, fun hc => ?_⟩
  · replace h := h.1 hc
    refine g_iload_n dX12_setOf_131 rfl rfl ?_
    exact g_iret dX12_setOf_132 rfl h
  · replace h := h.2 hc
    refine g_iconst dX12_setOf_12 ?_
    refine h_istore (L' := [some (vR 214), some (vI x1), none, some (vI x3), some (vI 0), none, none, none]) dX12_setOf_13 (Nat.le_of_ble_eq_true rfl) rfl rfl ?_
    refine g_iconst dX12_setOf_15 ?_
    refine h_istore (L' := [some (vR 214), some (vI x1), none, some (vI x3), some (vI 0), some (vI 0), none, none]) dX12_setOf_16 (Nat.le_of_ble_eq_true rfl) rfl rfl ?_
    exact Go.drop (by simp only [mm_sub, and_self]) h
set_option maxRecDepth 20000 in
theorem w_X12_setOf_18 {E : mmE} {d kc ks : Nat} {G : mmG} {D : mmD} {Q : mmQ} {x1 x3 x4 x5 : Int} (hG : Sh G)  (h : ((iv (D 214 1) ≤ iv x5 → Go E (d + 1) kc ks mX12_setOf 7 [some (vR 214), some (vI x1), none, some (vI x3), some (vI x4), none, none, none] [] G D Q) ∧ (¬ iv (D 214 1) ≤ iv x5 → Go E (d + 1) kc ks mX12_setOf 30 [some (vR 214), some (vI x1), none, some (vI x3), some (vI x4), some (vI x5), some (vI 0), none] [] G D Q))) : Go E (d + 1) kc ks mX12_setOf 18 [some (vR 214), some (vI x1), none, some (vI x3), some (vI x4), some (vI x5), none, none] [] G D Q := by
  refine g_iload dX12_setOf_18 rfl ?_
  refine g_aload_n dX12_setOf_20 rfl rfl ?_
  refine h_getI (j := 1) dX12_setOf_21 f_X12_120_11 rfl rfl (by decide) hG.k214 (by decide) (hG.lt (by decide)) ?_
  refine g_icmp_ge 128 dX12_setOf_24 (by decide) ⟨fun hc => ?_, fun hc => ?_⟩
  · replace h := h.1 hc
    refine g_goto 7 dX12_setOf_128 (by decide) ?_
    exact Go.drop (by simp only [mm_sub, and_self]) h
  · replace h := h.2 hc
    refine g_iconst dX12_setOf_27 ?_
    refine h_istore (L' := [some (vR 214), some (vI x1), none, some (vI x3), some (vI x4), some (vI x5), some (vI 0), none]) dX12_setOf_28 (Nat.le_of_ble_eq_true rfl) rfl rfl ?_
    exact Go.drop (by simp only [mm_sub, and_self]) h
set_option maxRecDepth 20000 in
theorem w_X12_setOf_30 {E : mmE} {d kc ks : Nat} {G : mmG} {D : mmD} {Q : mmQ} {x1 x3 x4 x5 x6 : Int} (hG : Sh G)  (h : ((iv (D 214 1) ≤ iv x6 → Go E (d + 1) kc ks mX12_setOf 18 [some (vR 214), some (vI x1), none, some (vI x3), some (vI x4), some (vI (x5 + 1)), none, none] [] G D Q) ∧ (¬ iv (D 214 1) ≤ iv x6 → ((¬ iv (iand (ishr x3 x5) 1) = iv 1 → Go E (d + 1) kc ks mX12_setOf 73 [some (vR 214), some (vI x1), none, some (vI x3), some (vI x4), some (vI x5), some (vI x6), none] [vI 0] G D Q) ∧ (iv (iand (ishr x3 x5) 1) = iv 1 → ((¬ iv (iand (ishr x3 x6) 1) = iv 0 → Go E (d + 1) kc ks mX12_setOf 73 [some (vR 214), some (vI x1), none, some (vI x3), some (vI x4), some (vI x5), some (vI x6), none] [vI 0] G D Q) ∧ (iv (iand (ishr x3 x6) 1) = iv 0 → Call E d 0 0 mX12_has [vR 214, vI x6, vI x1] G D (retI G (fun z2 D1 => ((iv z2 = iv 0 → Go E (d + 1) kc ks mX12_setOf 73 [some (vR 214), some (vI x1), none, some (vI x3), some (vI x4), some (vI x5), some (vI x6), none] [vI 0] G D1 Q) ∧ (¬ iv z2 = iv 0 → Go E (d + 1) kc ks mX12_setOf 73 [some (vR 214), some (vI x1), none, some (vI x3), some (vI x4), some (vI x5), some (vI x6), none] [vI 1] G D1 Q))))))))))) : Go E (d + 1) kc ks mX12_setOf 30 [some (vR 214), some (vI x1), none, some (vI x3), some (vI x4), some (vI x5), some (vI x6), none] [] G D Q := by
  refine g_iload dX12_setOf_30 rfl ?_
  refine g_aload_n dX12_setOf_32 rfl rfl ?_
  refine h_getI (j := 1) dX12_setOf_33 f_X12_120_11 rfl rfl (by decide) hG.k214 (by decide) (hG.lt (by decide)) ?_
  refine g_icmp_ge 122 dX12_setOf_36 (by decide) ⟨fun hc => ?_, fun hc => ?_⟩
  · replace h := h.1 hc
    refine h_iinc (L' := [some (vR 214), some (vI x1), none, some (vI x3), some (vI x4), some (vI (x5 + 1)), some (vI x6), none]) dX12_setOf_122 (Nat.le_of_ble_eq_true rfl) rfl rfl rfl ?_
    refine g_goto 18 dX12_setOf_125 (by decide) ?_
    exact Go.drop (by simp only [mm_sub, and_self]) h
  · replace h := h.2 hc
    refine g_iload_n dX12_setOf_39 rfl rfl ?_
    refine g_iload dX12_setOf_40 rfl ?_
    refine g_ishr dX12_setOf_42 ?_
    refine g_iconst dX12_setOf_43 ?_
    refine g_iand dX12_setOf_44 ?_
    refine g_iconst dX12_setOf_45 ?_
    refine g_icmp_ne 72 dX12_setOf_46 (by decide) ⟨fun hc => ?_, fun hc => ?_⟩
    · replace h := h.1 hc
      refine g_iconst dX12_setOf_72 ?_
      exact Go.drop (by simp only [mm_sub, and_self]) h
    · replace h := h.2 hc
      refine g_iload_n dX12_setOf_49 rfl rfl ?_
      refine g_iload dX12_setOf_50 rfl ?_
      refine g_ishr dX12_setOf_52 ?_
      refine g_iconst dX12_setOf_53 ?_
      refine g_iand dX12_setOf_54 ?_
      refine g_if_ne 72 dX12_setOf_55 (by decide) ⟨fun hc => ?_, fun hc => ?_⟩
      · replace h := h.1 hc
        refine g_iconst dX12_setOf_72 ?_
        exact Go.drop (by simp only [mm_sub, and_self]) h
      · replace h := h.2 hc
        refine g_aload_n dX12_setOf_58 rfl rfl ?_
        refine g_iload dX12_setOf_59 rfl ?_
        refine g_iload_n dX12_setOf_61 rfl rfl ?_
        refine g_callV (kc := kc) (kc' := 0) (ks := ks) (ks' := 0) (as := [vI x6, vI x1]) (st := []) (ci := 11) dX12_setOf_62 cB_X12_has lk_X12_228 in_X12_has se_X12_has (by decide) rfl rfl (Nat.le_of_ble_eq_true rfl) (Nat.le_of_ble_eq_true rfl) (by decide) (hG.lt (by decide)) (congrArg Prod.fst hG.k214) ?_
        refine Go.to (fun r G' D1 hr => ?_) h
        obtain ⟨rfl, z2, rfl, h⟩ := hr
        show Go E (d + 1) kc ks mX12_setOf 65 [some (vR 214), some (vI x1), none, some (vI x3), some (vI x4), some (vI x5), some (vI x6), none] [vI z2] G D1 Q
        refine g_if_eq 72 dX12_setOf_65 (by decide) ⟨fun hc => ?_, fun hc => ?_⟩
        · replace h := h.1 hc
          refine g_iconst dX12_setOf_72 ?_
          exact Go.drop (by simp only [mm_sub, and_self]) h
        · replace h := h.2 hc
          refine g_iconst dX12_setOf_68 ?_
          refine g_goto 73 dX12_setOf_69 (by decide) ?_
          exact Go.drop (by simp only [mm_sub, and_self]) h
set_option maxRecDepth 20000 in
theorem w_X12_setOf_73 {E : mmE} {d kc ks : Nat} {G : mmG} {D : mmD} {Q : mmQ} {x1 x3 x4 x5 x6 y0 : Int} (hG : Sh G)  (h : ((iv y0 = iv 0 → Go E (d + 1) kc ks mX12_setOf 30 [some (vR 214), some (vI x1), none, some (vI x3), some (vI x4), some (vI x5), some (vI (x6 + 1)), none] [] G D Q) ∧ (¬ iv y0 = iv 0 → Call E d 0 0 mX12_areKin [vR 214, vI x5, vI x1, vI x6, vI x1] G D (retI G (fun z2 D1 => ((¬ iv z2 = iv 0 → Go E (d + 1) kc ks mX12_setOf 30 [some (vR 214), some (vI x1), none, some (vI (ior x3 (ishl 1 x6))), some (vI 1), some (vI x5), some (vI (x6 + 1)), none] [] G D1 Q) ∧ (iv z2 = iv 0 → Call E d 0 0 mX12_areKin [vR 214, vI x6, vI x1, vI x5, vI x1] G D1 (retI G (fun z4 D3 => ((iv z4 = iv 0 → Go E (d + 1) kc ks mX12_setOf 30 [some (vR 214), some (vI x1), none, some (vI x3), some (vI x4), some (vI x5), some (vI (x6 + 1)), none] [] G D3 Q) ∧ (¬ iv z4 = iv 0 → Go E (d + 1) kc ks mX12_setOf 30 [some (vR 214), some (vI x1), none, some (vI (ior x3 (ishl 1 x6))), some (vI 1), some (vI x5), some (vI (x6 + 1)), none] [] G D3 Q))))))))))) : Go E (d + 1) kc ks mX12_setOf 73 [some (vR 214), some (vI x1), none, some (vI x3), some (vI x4), some (vI x5), some (vI x6), none] [vI y0] G D Q := by
  refine h_istore (L' := [some (vR 214), some (vI x1), none, some (vI x3), some (vI x4), some (vI x5), some (vI x6), some (vI y0)]) dX12_setOf_73 (Nat.le_of_ble_eq_true rfl) rfl rfl ?_
  refine g_iload dX12_setOf_75 rfl ?_
  refine g_if_eq 116 dX12_setOf_77 (by decide) ⟨fun hc => ?_, fun hc => ?_⟩
  · replace h := h.1 hc
    refine h_iinc (L' := [some (vR 214), some (vI x1), none, some (vI x3), some (vI x4), some (vI x5), some (vI (x6 + 1)), some (vI y0)]) dX12_setOf_116 (Nat.le_of_ble_eq_true rfl) rfl rfl rfl ?_
    refine g_goto 30 dX12_setOf_119 (by decide) ?_
    exact Go.drop (by simp only [mm_sub, and_self]) h
  · replace h := h.2 hc
    refine g_aload_n dX12_setOf_80 rfl rfl ?_
    refine g_iload dX12_setOf_81 rfl ?_
    refine g_iload_n dX12_setOf_83 rfl rfl ?_
    refine g_iload dX12_setOf_84 rfl ?_
    refine g_iload_n dX12_setOf_86 rfl rfl ?_
    refine g_callV (kc := kc) (kc' := 0) (ks := ks) (ks' := 0) (as := [vI x5, vI x1, vI x6, vI x1]) (st := []) (ci := 11) dX12_setOf_87 cB_X12_areKin lk_X12_242 in_X12_areKin se_X12_areKin (by decide) rfl rfl (Nat.le_of_ble_eq_true rfl) (Nat.le_of_ble_eq_true rfl) (by decide) (hG.lt (by decide)) (congrArg Prod.fst hG.k214) ?_
    refine Go.to (fun r G' D1 hr => ?_) h
    obtain ⟨rfl, z2, rfl, h⟩ := hr
    show Go E (d + 1) kc ks mX12_setOf 90 [some (vR 214), some (vI x1), none, some (vI x3), some (vI x4), some (vI x5), some (vI x6), some (vI y0)] [vI z2] G D1 Q
    refine g_if_ne 106 dX12_setOf_90 (by decide) ⟨fun hc => ?_, fun hc => ?_⟩
    · replace h := h.1 hc
      refine g_iload_n dX12_setOf_106 rfl rfl ?_
      refine g_iconst dX12_setOf_107 ?_
      refine g_iload dX12_setOf_108 rfl ?_
      refine g_ishl dX12_setOf_110 ?_
      refine g_ior dX12_setOf_111 ?_
      refine h_istore_n (L' := [some (vR 214), some (vI x1), none, some (vI (ior x3 (ishl 1 x6))), some (vI x4), some (vI x5), some (vI x6), some (vI y0)]) dX12_setOf_112 rfl (Nat.le_of_ble_eq_true rfl) rfl rfl ?_
      refine g_iconst dX12_setOf_113 ?_
      refine h_istore (L' := [some (vR 214), some (vI x1), none, some (vI (ior x3 (ishl 1 x6))), some (vI 1), some (vI x5), some (vI x6), some (vI y0)]) dX12_setOf_114 (Nat.le_of_ble_eq_true rfl) rfl rfl ?_
      refine h_iinc (L' := [some (vR 214), some (vI x1), none, some (vI (ior x3 (ishl 1 x6))), some (vI 1), some (vI x5), some (vI (x6 + 1)), some (vI y0)]) dX12_setOf_116 (Nat.le_of_ble_eq_true rfl) rfl rfl rfl ?_
      refine g_goto 30 dX12_setOf_119 (by decide) ?_
      exact Go.drop (by simp only [mm_sub, and_self]) h
    · replace h := h.2 hc
      refine g_aload_n dX12_setOf_93 rfl rfl ?_
      refine g_iload dX12_setOf_94 rfl ?_
      refine g_iload_n dX12_setOf_96 rfl rfl ?_
      refine g_iload dX12_setOf_97 rfl ?_
      refine g_iload_n dX12_setOf_99 rfl rfl ?_
      refine g_callV (kc := kc) (kc' := 0) (ks := ks) (ks' := 0) (as := [vI x6, vI x1, vI x5, vI x1]) (st := []) (ci := 11) dX12_setOf_100 cB_X12_areKin lk_X12_242 in_X12_areKin se_X12_areKin (by decide) rfl rfl (Nat.le_of_ble_eq_true rfl) (Nat.le_of_ble_eq_true rfl) (by decide) (hG.lt (by decide)) (congrArg Prod.fst hG.k214) ?_
      refine Go.to (fun r G' D3 hr => ?_) h
      obtain ⟨rfl, z4, rfl, h⟩ := hr
      show Go E (d + 1) kc ks mX12_setOf 103 [some (vR 214), some (vI x1), none, some (vI x3), some (vI x4), some (vI x5), some (vI x6), some (vI y0)] [vI z4] G D3 Q
      refine g_if_eq 116 dX12_setOf_103 (by decide) ⟨fun hc => ?_, fun hc => ?_⟩
      · replace h := h.1 hc
        refine h_iinc (L' := [some (vR 214), some (vI x1), none, some (vI x3), some (vI x4), some (vI x5), some (vI (x6 + 1)), some (vI y0)]) dX12_setOf_116 (Nat.le_of_ble_eq_true rfl) rfl rfl rfl ?_
        refine g_goto 30 dX12_setOf_119 (by decide) ?_
        exact Go.drop (by simp only [mm_sub, and_self]) h
      · replace h := h.2 hc
        refine g_iload_n dX12_setOf_106 rfl rfl ?_
        refine g_iconst dX12_setOf_107 ?_
        refine g_iload dX12_setOf_108 rfl ?_
        refine g_ishl dX12_setOf_110 ?_
        refine g_ior dX12_setOf_111 ?_
        refine h_istore_n (L' := [some (vR 214), some (vI x1), none, some (vI (ior x3 (ishl 1 x6))), some (vI x4), some (vI x5), some (vI x6), some (vI y0)]) dX12_setOf_112 rfl (Nat.le_of_ble_eq_true rfl) rfl rfl ?_
        refine g_iconst dX12_setOf_113 ?_
        refine h_istore (L' := [some (vR 214), some (vI x1), none, some (vI (ior x3 (ishl 1 x6))), some (vI 1), some (vI x5), some (vI x6), some (vI y0)]) dX12_setOf_114 (Nat.le_of_ble_eq_true rfl) rfl rfl ?_
        refine h_iinc (L' := [some (vR 214), some (vI x1), none, some (vI (ior x3 (ishl 1 x6))), some (vI 1), some (vI x5), some (vI (x6 + 1)), some (vI y0)]) dX12_setOf_116 (Nat.le_of_ble_eq_true rfl) rfl rfl rfl ?_
        refine g_goto 30 dX12_setOf_119 (by decide) ?_
        exact Go.drop (by simp only [mm_sub, and_self]) h
set_option maxRecDepth 20000 in
theorem w_X12_set {E : mmE} {d kc ks : Nat} {G : mmG} {D : mmD} {Q : mmQ} {x1 x2 : Int} (hG : Sh G)  (h : Call E d 0 0 mX12_has [vR 214, vI x2, vI x1] G D (retI G (fun z2 D1 => ((iv z2 = iv 0 → Q (some (vI (-1))) G D1) ∧ (¬ iv z2 = iv 0 → Call E d 0 0 mX12_setOf [vR 214, vI x1, vI x2] G D1 (retI G (fun z4 D3 => Q (some (vI z4)) G D3))))))) : Call E (d + 1) kc ks mX12_set [vR 214, vI x1, vI x2] G D Q := by
  show Go E (d + 1) kc ks mX12_set 0 [some (vR 214), some (vI x1), some (vI x2)] [] G D Q
  refine g_aload_n dX12_set_0 rfl rfl ?_
  refine g_iload_n dX12_set_1 rfl rfl ?_
  refine g_iload_n dX12_set_2 rfl rfl ?_
  refine g_callV (kc := kc) (kc' := 0) (ks := ks) (ks' := 0) (as := [vI x2, vI x1]) (st := []) (ci := 11) dX12_set_3 cB_X12_has lk_X12_228 in_X12_has se_X12_has (by decide) rfl rfl (Nat.le_of_ble_eq_true rfl) (Nat.le_of_ble_eq_true rfl) (by decide) (hG.lt (by decide)) (congrArg Prod.fst hG.k214) ?_
  refine Go.to (fun r G' D1 hr => ?_) h
  obtain ⟨rfl, z2, rfl, h⟩ := hr
  show Go E (d + 1) kc ks mX12_set 6 [some (vR 214), some (vI x1), some (vI x2)] [vI z2] G D1 Q
  refine g_if_eq 18 dX12_set_6 (by decide) ⟨fun hc => ?_, fun hc => ?_⟩
  · replace h := h.1 hc
    refine g_iconst dX12_set_18 ?_
    exact g_iret dX12_set_19 rfl h
  · replace h := h.2 hc
    refine g_aload_n dX12_set_9 rfl rfl ?_
    refine g_iload_n dX12_set_10 rfl rfl ?_
    refine g_iload_n dX12_set_11 rfl rfl ?_
    refine g_callV (kc := kc) (kc' := 0) (ks := ks) (ks' := 0) (as := [vI x1, vI x2]) (st := []) (ci := 11) dX12_set_12 cB_X12_setOf lk_X12_246 in_X12_setOf se_X12_setOf (by decide) rfl rfl (Nat.le_of_ble_eq_true rfl) (Nat.le_of_ble_eq_true rfl) (by decide) (hG.lt (by decide)) (congrArg Prod.fst hG.k214) ?_
    refine Go.to (fun r G' D3 hr => ?_) h
    obtain ⟨rfl, z4, rfl, h⟩ := hr
    show Go E (d + 1) kc ks mX12_set 15 [some (vR 214), some (vI x1), some (vI x2)] [vI z4] G D3 Q
    refine g_goto 19 dX12_set_15 (by decide) ?_
    exact g_iret dX12_set_19 rfl h
set_option maxRecDepth 20000 in
theorem w_X12_odds {E : mmE} {d kc ks : Nat} {G : mmG} {D : mmD} {Q : mmQ} {x1 x2 x3 x4 : Int} (hG : Sh G)  (h : Call E d 0 0 mX12_has [vR 214, vI x2, vI x1] G D (retI G (fun z2 D1 => ((iv z2 = iv 0 → Q (some (vI (-1))) G D1) ∧ (¬ iv z2 = iv 0 → Call E d 0 0 mX12_isTongue [vR 214, vI x3] G D1 (retI G (fun z4 D3 => ((iv z4 = iv 0 → Q (some (vI (-1))) G D3) ∧ (¬ iv z4 = iv 0 → Call E d 0 0 mX12_in [vI x4, vI 0, vI 1] G D3 (retI G (fun z6 D5 => ((¬ iv z6 = iv 0 → Go E (d + 1) kc ks mX12_odds 38 [some (vR 214), some (vI x1), some (vI x2), some (vI x3), some (vI x4), some (vI 0), some (vI 0), some (vI 0)] [] G D5 Q) ∧ (iv z6 = iv 0 → Q (some (vI (-1))) G D5))))))))))))) : Call E (d + 1) kc ks mX12_odds [vR 214, vI x1, vI x2, vI x3, vI x4] G D Q := by
  show Go E (d + 1) kc ks mX12_odds 0 [some (vR 214), some (vI x1), some (vI x2), some (vI x3), some (vI x4), none, none, none] [] G D Q
  refine g_aload_n dX12_odds_0 rfl rfl ?_
  refine g_iload_n dX12_odds_1 rfl rfl ?_
  refine g_iload_n dX12_odds_2 rfl rfl ?_
  refine g_callV (kc := kc) (kc' := 0) (ks := ks) (ks' := 0) (as := [vI x2, vI x1]) (st := []) (ci := 11) dX12_odds_3 cB_X12_has lk_X12_228 in_X12_has se_X12_has (by decide) rfl rfl (Nat.le_of_ble_eq_true rfl) (Nat.le_of_ble_eq_true rfl) (by decide) (hG.lt (by decide)) (congrArg Prod.fst hG.k214) ?_
  refine Go.to (fun r G' D1 hr => ?_) h
  obtain ⟨rfl, z2, rfl, h⟩ := hr
  show Go E (d + 1) kc ks mX12_odds 6 [some (vR 214), some (vI x1), some (vI x2), some (vI x3), some (vI x4), none, none, none] [vI z2] G D1 Q
  refine g_if_eq 27 dX12_odds_6 (by decide) ⟨fun hc => ?_, fun hc => ?_⟩
  · replace h := h.1 hc
    refine g_iconst dX12_odds_27 ?_
    exact g_iret dX12_odds_28 rfl h
  · replace h := h.2 hc
    refine g_aload_n dX12_odds_9 rfl rfl ?_
    refine g_iload_n dX12_odds_10 rfl rfl ?_
    refine g_callV (kc := kc) (kc' := 0) (ks := ks) (ks' := 0) (as := [vI x3]) (st := []) (ci := 11) dX12_odds_11 cB_X12_isTongue lk_X12_130 in_X12_isTongue se_X12_isTongue (by decide) rfl rfl (Nat.le_of_ble_eq_true rfl) (Nat.le_of_ble_eq_true rfl) (by decide) (hG.lt (by decide)) (congrArg Prod.fst hG.k214) ?_
    refine Go.to (fun r G' D3 hr => ?_) h
    obtain ⟨rfl, z4, rfl, h⟩ := hr
    show Go E (d + 1) kc ks mX12_odds 14 [some (vR 214), some (vI x1), some (vI x2), some (vI x3), some (vI x4), none, none, none] [vI z4] G D3 Q
    refine g_if_eq 27 dX12_odds_14 (by decide) ⟨fun hc => ?_, fun hc => ?_⟩
    · replace h := h.1 hc
      refine g_iconst dX12_odds_27 ?_
      exact g_iret dX12_odds_28 rfl h
    · replace h := h.2 hc
      refine g_iload dX12_odds_17 rfl ?_
      refine g_iconst dX12_odds_19 ?_
      refine g_iconst dX12_odds_20 ?_
      refine g_callS (kc := kc) (kc' := 0) (ks := ks) (ks' := 0) (as := [vI x4, vI 0, vI 1]) (st := []) dX12_odds_21 cB_X12_in lk_X12_123 st_X12_in rfl (Nat.le_of_ble_eq_true rfl) (Nat.le_of_ble_eq_true rfl) ?_
      refine Go.to (fun r G' D5 hr => ?_) h
      obtain ⟨rfl, z6, rfl, h⟩ := hr
      show Go E (d + 1) kc ks mX12_odds 24 [some (vR 214), some (vI x1), some (vI x2), some (vI x3), some (vI x4), none, none, none] [vI z6] G D5 Q
      refine g_if_ne 29 dX12_odds_24 (by decide) ⟨fun hc => ?_, fun hc => ?_⟩
      · replace h := h.1 hc
        refine g_iconst dX12_odds_29 ?_
        refine h_istore (L' := [some (vR 214), some (vI x1), some (vI x2), some (vI x3), some (vI x4), some (vI 0), none, none]) dX12_odds_30 (Nat.le_of_ble_eq_true rfl) rfl rfl ?_
        refine g_iconst dX12_odds_32 ?_
        refine h_istore (L' := [some (vR 214), some (vI x1), some (vI x2), some (vI x3), some (vI x4), some (vI 0), some (vI 0), none]) dX12_odds_33 (Nat.le_of_ble_eq_true rfl) rfl rfl ?_
        refine g_iconst dX12_odds_35 ?_
        refine h_istore (L' := [some (vR 214), some (vI x1), some (vI x2), some (vI x3), some (vI x4), some (vI 0), some (vI 0), some (vI 0)]) dX12_odds_36 (Nat.le_of_ble_eq_true rfl) rfl rfl ?_
        exact Go.drop (by simp only [mm_sub, and_self]) h
      · replace h := h.2 hc
        refine g_iconst dX12_odds_27 ?_
        exact g_iret dX12_odds_28 rfl h
set_option maxRecDepth 20000 in
theorem w_X12_odds_38 {E : mmE} {d kc ks : Nat} {G : mmG} {D : mmD} {Q : mmQ} {x1 x2 x3 x4 x5 x6 x7 : Int} (hG : Sh G)  (h : ((iv 10 ≤ iv x7 → ((¬ iv x4 = iv 0 → Q (some (vI x6)) G D) ∧ (iv x4 = iv 0 → Q (some (vI x5)) G D))) ∧ (¬ iv 10 ≤ iv x7 → ((iv x7 = iv x1 → Go E (d + 1) kc ks mX12_odds 38 [some (vR 214), some (vI x1), some (vI x2), some (vI x3), some (vI x4), some (vI x5), some (vI x6), some (vI (x7 + 1))] [] G D Q) ∧ (¬ iv x7 = iv x1 → Call E d 0 0 mX12_has [vR 214, vI x3, vI x7] G D (retI G (fun z2 D1 => ((iv z2 = iv 0 → Go E (d + 1) kc ks mX12_odds 38 [some (vR 214), some (vI x1), some (vI x2), some (vI x3), some (vI x4), some (vI x5), some (vI x6), some (vI (x7 + 1))] [] G D1 Q) ∧ (¬ iv z2 = iv 0 → Call E d 0 0 mX12_areKin [vR 214, vI x2, vI x1, vI x3, vI x7] G D1 (retI G (fun z4 D3 => ((iv z4 = iv 0 → Go E (d + 1) kc ks mX12_odds 38 [some (vR 214), some (vI x1), some (vI x2), some (vI x3), some (vI x4), some (vI (x5 + 0)), some (vI (x6 + 1)), some (vI (x7 + 1))] [] G D3 Q) ∧ (¬ iv z4 = iv 0 → Go E (d + 1) kc ks mX12_odds 38 [some (vR 214), some (vI x1), some (vI x2), some (vI x3), some (vI x4), some (vI (x5 + 1)), some (vI (x6 + 1)), some (vI (x7 + 1))] [] G D3 Q))))))))))))) : Go E (d + 1) kc ks mX12_odds 38 [some (vR 214), some (vI x1), some (vI x2), some (vI x3), some (vI x4), some (vI x5), some (vI x6), some (vI x7)] [] G D Q := by
  refine g_iload dX12_odds_38 rfl ?_
  refine g_bipush dX12_odds_40 bp_10 ?_
  refine g_icmp_ge 92 dX12_odds_42 (by decide) ⟨fun hc => ?_, fun hc => ?_⟩
  · replace h := h.1 hc
    refine g_iload dX12_odds_92 rfl ?_
    refine g_if_ne 102 dX12_odds_94 (by decide) ⟨fun hc => ?_, fun hc => ?_⟩
    · replace h := h.1 hc
      refine g_iload dX12_odds_102 rfl ?_
      exact g_iret dX12_odds_104 rfl h
    · replace h := h.2 hc
      refine g_iload dX12_odds_97 rfl ?_
      refine g_goto 104 dX12_odds_99 (by decide) ?_
      exact g_iret dX12_odds_104 rfl h
  · replace h := h.2 hc
    refine g_iload dX12_odds_45 rfl ?_
    refine g_iload_n dX12_odds_47 rfl rfl ?_
    refine g_icmp_eq 86 dX12_odds_48 (by decide) ⟨fun hc => ?_, fun hc => ?_⟩
    · replace h := h.1 hc
      refine h_iinc (L' := [some (vR 214), some (vI x1), some (vI x2), some (vI x3), some (vI x4), some (vI x5), some (vI x6), some (vI (x7 + 1))]) dX12_odds_86 (Nat.le_of_ble_eq_true rfl) rfl rfl rfl ?_
      refine g_goto 38 dX12_odds_89 (by decide) ?_
      exact Go.drop (by simp only [mm_sub, and_self]) h
    · replace h := h.2 hc
      refine g_aload_n dX12_odds_51 rfl rfl ?_
      refine g_iload_n dX12_odds_52 rfl rfl ?_
      refine g_iload dX12_odds_53 rfl ?_
      refine g_callV (kc := kc) (kc' := 0) (ks := ks) (ks' := 0) (as := [vI x3, vI x7]) (st := []) (ci := 11) dX12_odds_55 cB_X12_has lk_X12_228 in_X12_has se_X12_has (by decide) rfl rfl (Nat.le_of_ble_eq_true rfl) (Nat.le_of_ble_eq_true rfl) (by decide) (hG.lt (by decide)) (congrArg Prod.fst hG.k214) ?_
      refine Go.to (fun r G' D1 hr => ?_) h
      obtain ⟨rfl, z2, rfl, h⟩ := hr
      show Go E (d + 1) kc ks mX12_odds 58 [some (vR 214), some (vI x1), some (vI x2), some (vI x3), some (vI x4), some (vI x5), some (vI x6), some (vI x7)] [vI z2] G D1 Q
      refine g_if_eq 86 dX12_odds_58 (by decide) ⟨fun hc => ?_, fun hc => ?_⟩
      · replace h := h.1 hc
        refine h_iinc (L' := [some (vR 214), some (vI x1), some (vI x2), some (vI x3), some (vI x4), some (vI x5), some (vI x6), some (vI (x7 + 1))]) dX12_odds_86 (Nat.le_of_ble_eq_true rfl) rfl rfl rfl ?_
        refine g_goto 38 dX12_odds_89 (by decide) ?_
        exact Go.drop (by simp only [mm_sub, and_self]) h
      · replace h := h.2 hc
        refine h_iinc (L' := [some (vR 214), some (vI x1), some (vI x2), some (vI x3), some (vI x4), some (vI x5), some (vI (x6 + 1)), some (vI x7)]) dX12_odds_61 (Nat.le_of_ble_eq_true rfl) rfl rfl rfl ?_
        refine g_iload dX12_odds_64 rfl ?_
        refine g_aload_n dX12_odds_66 rfl rfl ?_
        refine g_iload_n dX12_odds_67 rfl rfl ?_
        refine g_iload_n dX12_odds_68 rfl rfl ?_
        refine g_iload_n dX12_odds_69 rfl rfl ?_
        refine g_iload dX12_odds_70 rfl ?_
        refine g_callV (kc := kc) (kc' := 0) (ks := ks) (ks' := 0) (as := [vI x2, vI x1, vI x3, vI x7]) (st := [vI x5]) (ci := 11) dX12_odds_72 cB_X12_areKin lk_X12_242 in_X12_areKin se_X12_areKin (by decide) rfl rfl (Nat.le_of_ble_eq_true rfl) (Nat.le_of_ble_eq_true rfl) (by decide) (hG.lt (by decide)) (congrArg Prod.fst hG.k214) ?_
        refine Go.to (fun r G' D3 hr => ?_) h
        obtain ⟨rfl, z4, rfl, h⟩ := hr
        show Go E (d + 1) kc ks mX12_odds 75 [some (vR 214), some (vI x1), some (vI x2), some (vI x3), some (vI x4), some (vI x5), some (vI (x6 + 1)), some (vI x7)] [vI z4, vI x5] G D3 Q
        refine g_if_eq 82 dX12_odds_75 (by decide) ⟨fun hc => ?_, fun hc => ?_⟩
        · replace h := h.1 hc
          refine g_iconst dX12_odds_82 ?_
          refine g_iadd dX12_odds_83 ?_
          refine h_istore (L' := [some (vR 214), some (vI x1), some (vI x2), some (vI x3), some (vI x4), some (vI (x5 + 0)), some (vI (x6 + 1)), some (vI x7)]) dX12_odds_84 (Nat.le_of_ble_eq_true rfl) rfl rfl ?_
          refine h_iinc (L' := [some (vR 214), some (vI x1), some (vI x2), some (vI x3), some (vI x4), some (vI (x5 + 0)), some (vI (x6 + 1)), some (vI (x7 + 1))]) dX12_odds_86 (Nat.le_of_ble_eq_true rfl) rfl rfl rfl ?_
          refine g_goto 38 dX12_odds_89 (by decide) ?_
          exact Go.drop (by simp only [mm_sub, and_self]) h
        · replace h := h.2 hc
          refine g_iconst dX12_odds_78 ?_
          refine g_goto 83 dX12_odds_79 (by decide) ?_
          refine g_iadd dX12_odds_83 ?_
          refine h_istore (L' := [some (vR 214), some (vI x1), some (vI x2), some (vI x3), some (vI x4), some (vI (x5 + 1)), some (vI (x6 + 1)), some (vI x7)]) dX12_odds_84 (Nat.le_of_ble_eq_true rfl) rfl rfl ?_
          refine h_iinc (L' := [some (vR 214), some (vI x1), some (vI x2), some (vI x3), some (vI x4), some (vI (x5 + 1)), some (vI (x6 + 1)), some (vI (x7 + 1))]) dX12_odds_86 (Nat.le_of_ble_eq_true rfl) rfl rfl rfl ?_
          refine g_goto 38 dX12_odds_89 (by decide) ?_
          exact Go.drop (by simp only [mm_sub, and_self]) h
set_option maxRecDepth 20000 in
theorem w_X12_matches {E : mmE} {d kc ks : Nat} {G : mmG} {D : mmD} {Q : mmQ} {x1 x2 x3 x4 : Int} (hG : Sh G)  (h : Call E d 0 0 mX12_isTongue [vR 214, vI x1] G D (retI G (fun z2 D1 => ((iv z2 = iv 0 → Q (some (vI (-1))) G D1) ∧ (¬ iv z2 = iv 0 → Call E d 0 0 mX12_isTongue [vR 214, vI x2] G D1 (retI G (fun z4 D3 => ((¬ iv z4 = iv 0 → ((iv x1 = iv x2 → Q (some (vI (-2))) G D3) ∧ (¬ iv x1 = iv x2 → Call E d 0 0 mX12_in [vI x3, vI 0, vI 26] G D3 (retI G (fun z6 D5 => ((iv z6 = iv 0 → Q (some (vI (-2))) G D5) ∧ (¬ iv z6 = iv 0 → Call E d 0 0 mX12_in [vI x4, vI 0, vI 26] G D5 (retI G (fun z8 D7 => ((iv z8 = iv 0 → Q (some (vI (-2))) G D7) ∧ (¬ iv z8 = iv 0 → ((¬ iv x3 = iv 0 → Go E (d + 1) kc ks mX12_matches 62 [some (vR 214), some (vI x1), some (vI x2), some (vI x3), some (vI x4), some (vI 0), some (vI 0), none, none] [] G D7 Q) ∧ (iv x3 = iv 0 → ((¬ iv x4 = iv 0 → Go E (d + 1) kc ks mX12_matches 62 [some (vR 214), some (vI x1), some (vI x2), some (vI x3), some (vI x4), some (vI 0), some (vI 0), none, none] [] G D7 Q) ∧ (iv x4 = iv 0 → Q (some (vI (-2))) G D7))))))))))))))) ∧ (iv z4 = iv 0 → Q (some (vI (-1))) G D3))))))))) : Call E (d + 1) kc ks mX12_matches [vR 214, vI x1, vI x2, vI x3, vI x4] G D Q := by
  show Go E (d + 1) kc ks mX12_matches 0 [some (vR 214), some (vI x1), some (vI x2), some (vI x3), some (vI x4), none, none, none, none] [] G D Q
  refine g_aload_n dX12_matches_0 rfl rfl ?_
  refine g_iload_n dX12_matches_1 rfl rfl ?_
  refine g_callV (kc := kc) (kc' := 0) (ks := ks) (ks' := 0) (as := [vI x1]) (st := []) (ci := 11) dX12_matches_2 cB_X12_isTongue lk_X12_130 in_X12_isTongue se_X12_isTongue (by decide) rfl rfl (Nat.le_of_ble_eq_true rfl) (Nat.le_of_ble_eq_true rfl) (by decide) (hG.lt (by decide)) (congrArg Prod.fst hG.k214) ?_
  refine Go.to (fun r G' D1 hr => ?_) h
  obtain ⟨rfl, z2, rfl, h⟩ := hr
  show Go E (d + 1) kc ks mX12_matches 5 [some (vR 214), some (vI x1), some (vI x2), some (vI x3), some (vI x4), none, none, none, none] [vI z2] G D1 Q
  refine g_if_eq 16 dX12_matches_5 (by decide) ⟨fun hc => ?_, fun hc => ?_⟩
  · replace h := h.1 hc
    refine g_iconst dX12_matches_16 ?_
    exact g_iret dX12_matches_17 rfl h
  · replace h := h.2 hc
    refine g_aload_n dX12_matches_8 rfl rfl ?_
    refine g_iload_n dX12_matches_9 rfl rfl ?_
    refine g_callV (kc := kc) (kc' := 0) (ks := ks) (ks' := 0) (as := [vI x2]) (st := []) (ci := 11) dX12_matches_10 cB_X12_isTongue lk_X12_130 in_X12_isTongue se_X12_isTongue (by decide) rfl rfl (Nat.le_of_ble_eq_true rfl) (Nat.le_of_ble_eq_true rfl) (by decide) (hG.lt (by decide)) (congrArg Prod.fst hG.k214) ?_
    refine Go.to (fun r G' D3 hr => ?_) h
    obtain ⟨rfl, z4, rfl, h⟩ := hr
    show Go E (d + 1) kc ks mX12_matches 13 [some (vR 214), some (vI x1), some (vI x2), some (vI x3), some (vI x4), none, none, none, none] [vI z4] G D3 Q
    refine g_if_ne 18 dX12_matches_13 (by decide) ⟨fun hc => ?_, fun hc => ?_⟩
    · replace h := h.1 hc
      refine g_iload_n dX12_matches_18 rfl rfl ?_
      refine g_iload_n dX12_matches_19 rfl rfl ?_
      refine g_icmp_eq 53 dX12_matches_20 (by decide) ⟨fun hc => ?_, fun hc => ?_⟩
      · replace h := h.1 hc
        refine g_bipush dX12_matches_53 bp_m2 ?_
        exact g_iret dX12_matches_55 rfl h
      · replace h := h.2 hc
        refine g_iload_n dX12_matches_23 rfl rfl ?_
        refine g_iconst dX12_matches_24 ?_
        refine g_bipush dX12_matches_25 bp_26 ?_
        refine g_callS (kc := kc) (kc' := 0) (ks := ks) (ks' := 0) (as := [vI x3, vI 0, vI 26]) (st := []) dX12_matches_27 cB_X12_in lk_X12_123 st_X12_in rfl (Nat.le_of_ble_eq_true rfl) (Nat.le_of_ble_eq_true rfl) ?_
        refine Go.to (fun r G' D5 hr => ?_) h
        obtain ⟨rfl, z6, rfl, h⟩ := hr
        show Go E (d + 1) kc ks mX12_matches 30 [some (vR 214), some (vI x1), some (vI x2), some (vI x3), some (vI x4), none, none, none, none] [vI z6] G D5 Q
        refine g_if_eq 53 dX12_matches_30 (by decide) ⟨fun hc => ?_, fun hc => ?_⟩
        · replace h := h.1 hc
          refine g_bipush dX12_matches_53 bp_m2 ?_
          exact g_iret dX12_matches_55 rfl h
        · replace h := h.2 hc
          refine g_iload dX12_matches_33 rfl ?_
          refine g_iconst dX12_matches_35 ?_
          refine g_bipush dX12_matches_36 bp_26 ?_
          refine g_callS (kc := kc) (kc' := 0) (ks := ks) (ks' := 0) (as := [vI x4, vI 0, vI 26]) (st := []) dX12_matches_38 cB_X12_in lk_X12_123 st_X12_in rfl (Nat.le_of_ble_eq_true rfl) (Nat.le_of_ble_eq_true rfl) ?_
          refine Go.to (fun r G' D7 hr => ?_) h
          obtain ⟨rfl, z8, rfl, h⟩ := hr
          show Go E (d + 1) kc ks mX12_matches 41 [some (vR 214), some (vI x1), some (vI x2), some (vI x3), some (vI x4), none, none, none, none] [vI z8] G D7 Q
          refine g_if_eq 53 dX12_matches_41 (by decide) ⟨fun hc => ?_, fun hc => ?_⟩
          · replace h := h.1 hc
            refine g_bipush dX12_matches_53 bp_m2 ?_
            exact g_iret dX12_matches_55 rfl h
          · replace h := h.2 hc
            refine g_iload_n dX12_matches_44 rfl rfl ?_
            refine g_if_ne 56 dX12_matches_45 (by decide) ⟨fun hc => ?_, fun hc => ?_⟩
            · replace h := h.1 hc
              refine g_iconst dX12_matches_56 ?_
              refine h_istore (L' := [some (vR 214), some (vI x1), some (vI x2), some (vI x3), some (vI x4), some (vI 0), none, none, none]) dX12_matches_57 (Nat.le_of_ble_eq_true rfl) rfl rfl ?_
              refine g_iconst dX12_matches_59 ?_
              refine h_istore (L' := [some (vR 214), some (vI x1), some (vI x2), some (vI x3), some (vI x4), some (vI 0), some (vI 0), none, none]) dX12_matches_60 (Nat.le_of_ble_eq_true rfl) rfl rfl ?_
              exact Go.drop (by simp only [mm_sub, and_self]) h
            · replace h := h.2 hc
              refine g_iload dX12_matches_48 rfl ?_
              refine g_if_ne 56 dX12_matches_50 (by decide) ⟨fun hc => ?_, fun hc => ?_⟩
              · replace h := h.1 hc
                refine g_iconst dX12_matches_56 ?_
                refine h_istore (L' := [some (vR 214), some (vI x1), some (vI x2), some (vI x3), some (vI x4), some (vI 0), none, none, none]) dX12_matches_57 (Nat.le_of_ble_eq_true rfl) rfl rfl ?_
                refine g_iconst dX12_matches_59 ?_
                refine h_istore (L' := [some (vR 214), some (vI x1), some (vI x2), some (vI x3), some (vI x4), some (vI 0), some (vI 0), none, none]) dX12_matches_60 (Nat.le_of_ble_eq_true rfl) rfl rfl ?_
                exact Go.drop (by simp only [mm_sub, and_self]) h
              · replace h := h.2 hc
                refine g_bipush dX12_matches_53 bp_m2 ?_
                exact g_iret dX12_matches_55 rfl h
    · replace h := h.2 hc
      refine g_iconst dX12_matches_16 ?_
      exact g_iret dX12_matches_17 rfl h
set_option maxRecDepth 20000 in
theorem w_X12_matches_62 {E : mmE} {d kc ks : Nat} {G : mmG} {D : mmD} {Q : mmQ} {x1 x2 x3 x4 x5 x6 : Int} (hG : Sh G)  (h : ((iv 10 ≤ iv x6 → Q (some (vI x5)) G D) ∧ (¬ iv 10 ≤ iv x6 → Call E d 0 0 mX12_has [vR 214, vI x1, vI x6] G D (retI G (fun z2 D1 => ((iv z2 = iv 0 → Go E (d + 1) kc ks mX12_matches 62 [some (vR 214), some (vI x1), some (vI x2), some (vI x3), some (vI x4), some (vI x5), some (vI (x6 + 1)), none, none] [] G D1 Q) ∧ (¬ iv z2 = iv 0 → Call E d 0 0 mX12_has [vR 214, vI x2, vI x6] G D1 (retI G (fun z4 D3 => ((iv z4 = iv 0 → Go E (d + 1) kc ks mX12_matches 62 [some (vR 214), some (vI x1), some (vI x2), some (vI x3), some (vI x4), some (vI x5), some (vI (x6 + 1)), none, none] [] G D3 Q) ∧ (¬ iv z4 = iv 0 → Call E d 0 0 mX12_areKin [vR 214, vI x1, vI x6, vI x2, vI x6] G D3 (retI G (fun z6 D5 => ((iv z6 = iv 0 → Go E (d + 1) kc ks mX12_matches 62 [some (vR 214), some (vI x1), some (vI x2), some (vI x3), some (vI x4), some (vI x5), some (vI (x6 + 1)), none, none] [] G D5 Q) ∧ (¬ iv z6 = iv 0 → Call E d 0 0 mX12_walks [vR 214, vI x6, vI x1, vI x2] G D5 (retV G (fun D7 => Go E (d + 1) kc ks mX12_matches 116 [some (vR 214), some (vI x1), some (vI x2), some (vI x3), some (vI x4), some (vI x5), some (vI x6), some (vI 0), some (vI 0)] [] G D7 Q))))))))))))))))) : Go E (d + 1) kc ks mX12_matches 62 [some (vR 214), some (vI x1), some (vI x2), some (vI x3), some (vI x4), some (vI x5), some (vI x6), none, none] [] G D Q := by
  refine g_iload dX12_matches_62 rfl ?_
  refine g_bipush dX12_matches_64 bp_10 ?_
  refine g_icmp_ge 181 dX12_matches_66 (by decide) ⟨fun hc => ?_, fun hc => ?_⟩
  · replace h := h.1 hc
    refine g_iload dX12_matches_181 rfl ?_
    exact g_iret dX12_matches_183 rfl h
  · replace h := h.2 hc
    refine g_aload_n dX12_matches_69 rfl rfl ?_
    refine g_iload_n dX12_matches_70 rfl rfl ?_
    refine g_iload dX12_matches_71 rfl ?_
    refine g_callV (kc := kc) (kc' := 0) (ks := ks) (ks' := 0) (as := [vI x1, vI x6]) (st := []) (ci := 11) dX12_matches_73 cB_X12_has lk_X12_228 in_X12_has se_X12_has (by decide) rfl rfl (Nat.le_of_ble_eq_true rfl) (Nat.le_of_ble_eq_true rfl) (by decide) (hG.lt (by decide)) (congrArg Prod.fst hG.k214) ?_
    refine Go.to (fun r G' D1 hr => ?_) h
    obtain ⟨rfl, z2, rfl, h⟩ := hr
    show Go E (d + 1) kc ks mX12_matches 76 [some (vR 214), some (vI x1), some (vI x2), some (vI x3), some (vI x4), some (vI x5), some (vI x6), none, none] [vI z2] G D1 Q
    refine g_if_eq 175 dX12_matches_76 (by decide) ⟨fun hc => ?_, fun hc => ?_⟩
    · replace h := h.1 hc
      refine h_iinc (L' := [some (vR 214), some (vI x1), some (vI x2), some (vI x3), some (vI x4), some (vI x5), some (vI (x6 + 1)), none, none]) dX12_matches_175 (Nat.le_of_ble_eq_true rfl) rfl rfl rfl ?_
      refine g_goto 62 dX12_matches_178 (by decide) ?_
      exact Go.drop (by simp only [mm_sub, and_self]) h
    · replace h := h.2 hc
      refine g_aload_n dX12_matches_79 rfl rfl ?_
      refine g_iload_n dX12_matches_80 rfl rfl ?_
      refine g_iload dX12_matches_81 rfl ?_
      refine g_callV (kc := kc) (kc' := 0) (ks := ks) (ks' := 0) (as := [vI x2, vI x6]) (st := []) (ci := 11) dX12_matches_83 cB_X12_has lk_X12_228 in_X12_has se_X12_has (by decide) rfl rfl (Nat.le_of_ble_eq_true rfl) (Nat.le_of_ble_eq_true rfl) (by decide) (hG.lt (by decide)) (congrArg Prod.fst hG.k214) ?_
      refine Go.to (fun r G' D3 hr => ?_) h
      obtain ⟨rfl, z4, rfl, h⟩ := hr
      show Go E (d + 1) kc ks mX12_matches 86 [some (vR 214), some (vI x1), some (vI x2), some (vI x3), some (vI x4), some (vI x5), some (vI x6), none, none] [vI z4] G D3 Q
      refine g_if_eq 175 dX12_matches_86 (by decide) ⟨fun hc => ?_, fun hc => ?_⟩
      · replace h := h.1 hc
        refine h_iinc (L' := [some (vR 214), some (vI x1), some (vI x2), some (vI x3), some (vI x4), some (vI x5), some (vI (x6 + 1)), none, none]) dX12_matches_175 (Nat.le_of_ble_eq_true rfl) rfl rfl rfl ?_
        refine g_goto 62 dX12_matches_178 (by decide) ?_
        exact Go.drop (by simp only [mm_sub, and_self]) h
      · replace h := h.2 hc
        refine g_aload_n dX12_matches_89 rfl rfl ?_
        refine g_iload_n dX12_matches_90 rfl rfl ?_
        refine g_iload dX12_matches_91 rfl ?_
        refine g_iload_n dX12_matches_93 rfl rfl ?_
        refine g_iload dX12_matches_94 rfl ?_
        refine g_callV (kc := kc) (kc' := 0) (ks := ks) (ks' := 0) (as := [vI x1, vI x6, vI x2, vI x6]) (st := []) (ci := 11) dX12_matches_96 cB_X12_areKin lk_X12_242 in_X12_areKin se_X12_areKin (by decide) rfl rfl (Nat.le_of_ble_eq_true rfl) (Nat.le_of_ble_eq_true rfl) (by decide) (hG.lt (by decide)) (congrArg Prod.fst hG.k214) ?_
        refine Go.to (fun r G' D5 hr => ?_) h
        obtain ⟨rfl, z6, rfl, h⟩ := hr
        show Go E (d + 1) kc ks mX12_matches 99 [some (vR 214), some (vI x1), some (vI x2), some (vI x3), some (vI x4), some (vI x5), some (vI x6), none, none] [vI z6] G D5 Q
        refine g_if_eq 175 dX12_matches_99 (by decide) ⟨fun hc => ?_, fun hc => ?_⟩
        · replace h := h.1 hc
          refine h_iinc (L' := [some (vR 214), some (vI x1), some (vI x2), some (vI x3), some (vI x4), some (vI x5), some (vI (x6 + 1)), none, none]) dX12_matches_175 (Nat.le_of_ble_eq_true rfl) rfl rfl rfl ?_
          refine g_goto 62 dX12_matches_178 (by decide) ?_
          exact Go.drop (by simp only [mm_sub, and_self]) h
        · replace h := h.2 hc
          refine g_aload_n dX12_matches_102 rfl rfl ?_
          refine g_iload dX12_matches_103 rfl ?_
          refine g_iload_n dX12_matches_105 rfl rfl ?_
          refine g_iload_n dX12_matches_106 rfl rfl ?_
          refine g_callV (kc := kc) (kc' := 0) (ks := ks) (ks' := 0) (as := [vI x6, vI x1, vI x2]) (st := []) (ci := 11) dX12_matches_107 cB_X12_walks lk_X12_238 in_X12_walks se_X12_walks (by decide) rfl rfl (Nat.le_of_ble_eq_true rfl) (Nat.le_of_ble_eq_true rfl) (by decide) (hG.lt (by decide)) (congrArg Prod.fst hG.k214) ?_
          refine Go.to (fun r G' D7 hr => ?_) h
          obtain ⟨rfl, rfl, h⟩ := hr
          show Go E (d + 1) kc ks mX12_matches 110 [some (vR 214), some (vI x1), some (vI x2), some (vI x3), some (vI x4), some (vI x5), some (vI x6), none, none] [] G D7 Q
          refine g_iconst dX12_matches_110 ?_
          refine h_istore (L' := [some (vR 214), some (vI x1), some (vI x2), some (vI x3), some (vI x4), some (vI x5), some (vI x6), some (vI 0), none]) dX12_matches_111 (Nat.le_of_ble_eq_true rfl) rfl rfl ?_
          refine g_iconst dX12_matches_113 ?_
          refine h_istore (L' := [some (vR 214), some (vI x1), some (vI x2), some (vI x3), some (vI x4), some (vI x5), some (vI x6), some (vI 0), some (vI 0)]) dX12_matches_114 (Nat.le_of_ble_eq_true rfl) rfl rfl ?_
          exact Go.drop (by simp only [mm_sub, and_self]) h
set_option maxRecDepth 20000 in
theorem w_X12_matches_116 {E : mmE} {d kc ks : Nat} {G : mmG} {D : mmD} {Q : mmQ} {x1 x2 x3 x4 x5 x6 x7 x8 : Int} (hG : Sh G)  (h : ((iv (D 214 38) ≤ iv x8 → ((iv x7 = iv 0 → Go E (d + 1) kc ks mX12_matches 62 [some (vR 214), some (vI x1), some (vI x2), some (vI x3), some (vI x4), some (vI (x5 + 0)), some (vI (x6 + 1)), none, none] [] G D Q) ∧ (¬ iv x7 = iv 0 → Go E (d + 1) kc ks mX12_matches 62 [some (vR 214), some (vI x1), some (vI x2), some (vI x3), some (vI x4), some (vI (x5 + 1)), some (vI (x6 + 1)), none, none] [] G D Q))) ∧ (¬ iv (D 214 38) ≤ iv x8 → ((¬ iv x7 = iv 0 → Go E (d + 1) kc ks mX12_matches 116 [some (vR 214), some (vI x1), some (vI x2), some (vI x3), some (vI x4), some (vI x5), some (vI x6), some (vI 1), some (vI (x8 + 1))] [] G D Q) ∧ (iv x7 = iv 0 → ((0 ≤ x8 ∧ x8 < 16) ∧ ((¬ iv (D 238 x8) = iv ((100 * x3) + x4) → Go E (d + 1) kc ks mX12_matches 116 [some (vR 214), some (vI x1), some (vI x2), some (vI x3), some (vI x4), some (vI x5), some (vI x6), some (vI 0), some (vI (x8 + 1))] [] G D Q) ∧ (iv (D 238 x8) = iv ((100 * x3) + x4) → Go E (d + 1) kc ks mX12_matches 116 [some (vR 214), some (vI x1), some (vI x2), some (vI x3), some (vI x4), some (vI x5), some (vI x6), some (vI 1), some (vI (x8 + 1))] [] G D Q)))))))) : Go E (d + 1) kc ks mX12_matches 116 [some (vR 214), some (vI x1), some (vI x2), some (vI x3), some (vI x4), some (vI x5), some (vI x6), some (vI x7), some (vI x8)] [] G D Q := by
  refine g_iload dX12_matches_116 rfl ?_
  refine g_aload_n dX12_matches_118 rfl rfl ?_
  refine h_getI (j := 38) dX12_matches_119 f_X12_235_11 rfl rfl (by decide) hG.k214 (by decide) (hG.lt (by decide)) ?_
  refine g_icmp_ge 160 dX12_matches_122 (by decide) ⟨fun hc => ?_, fun hc => ?_⟩
  · replace h := h.1 hc
    refine g_iload dX12_matches_160 rfl ?_
    refine g_iload dX12_matches_162 rfl ?_
    refine g_if_eq 171 dX12_matches_164 (by decide) ⟨fun hc => ?_, fun hc => ?_⟩
    · replace h := h.1 hc
      refine g_iconst dX12_matches_171 ?_
      refine g_iadd dX12_matches_172 ?_
      refine h_istore (L' := [some (vR 214), some (vI x1), some (vI x2), some (vI x3), some (vI x4), some (vI (x5 + 0)), some (vI x6), some (vI x7), some (vI x8)]) dX12_matches_173 (Nat.le_of_ble_eq_true rfl) rfl rfl ?_
      refine h_iinc (L' := [some (vR 214), some (vI x1), some (vI x2), some (vI x3), some (vI x4), some (vI (x5 + 0)), some (vI (x6 + 1)), some (vI x7), some (vI x8)]) dX12_matches_175 (Nat.le_of_ble_eq_true rfl) rfl rfl rfl ?_
      refine g_goto 62 dX12_matches_178 (by decide) ?_
      exact Go.drop (by simp only [mm_sub, and_self]) h
    · replace h := h.2 hc
      refine g_iconst dX12_matches_167 ?_
      refine g_goto 172 dX12_matches_168 (by decide) ?_
      refine g_iadd dX12_matches_172 ?_
      refine h_istore (L' := [some (vR 214), some (vI x1), some (vI x2), some (vI x3), some (vI x4), some (vI (x5 + 1)), some (vI x6), some (vI x7), some (vI x8)]) dX12_matches_173 (Nat.le_of_ble_eq_true rfl) rfl rfl ?_
      refine h_iinc (L' := [some (vR 214), some (vI x1), some (vI x2), some (vI x3), some (vI x4), some (vI (x5 + 1)), some (vI (x6 + 1)), some (vI x7), some (vI x8)]) dX12_matches_175 (Nat.le_of_ble_eq_true rfl) rfl rfl rfl ?_
      refine g_goto 62 dX12_matches_178 (by decide) ?_
      exact Go.drop (by simp only [mm_sub, and_self]) h
  · replace h := h.2 hc
    refine g_iload dX12_matches_125 rfl ?_
    refine g_if_ne 147 dX12_matches_127 (by decide) ⟨fun hc => ?_, fun hc => ?_⟩
    · replace h := h.1 hc
      refine g_iconst dX12_matches_147 ?_
      refine g_goto 152 dX12_matches_148 (by decide) ?_
      refine h_istore (L' := [some (vR 214), some (vI x1), some (vI x2), some (vI x3), some (vI x4), some (vI x5), some (vI x6), some (vI 1), some (vI x8)]) dX12_matches_152 (Nat.le_of_ble_eq_true rfl) rfl rfl ?_
      refine h_iinc (L' := [some (vR 214), some (vI x1), some (vI x2), some (vI x3), some (vI x4), some (vI x5), some (vI x6), some (vI 1), some (vI (x8 + 1))]) dX12_matches_154 (Nat.le_of_ble_eq_true rfl) rfl rfl rfl ?_
      refine g_goto 116 dX12_matches_157 (by decide) ?_
      exact Go.drop (by simp only [mm_sub, and_self]) h
    · replace h := h.2 hc
      refine g_aload_n dX12_matches_130 rfl rfl ?_
      refine h_getR (j := 37) dX12_matches_131 f_X12_84_11 rfl rfl (by decide) hG.k214 (by decide) (hG.lt (by decide)) hG.r214_37 ?_
      refine g_iload dX12_matches_134 rfl ?_
      refine g_iald dX12_matches_136 hG.k238 (by decide) (hG.lt (by decide)) (by decide) ⟨h.1, ?_⟩
      replace h := h.2
      refine g_bipush dX12_matches_137 bp_100 ?_
      refine g_iload_n dX12_matches_139 rfl rfl ?_
      refine g_imul dX12_matches_140 ?_
      refine g_iload dX12_matches_141 rfl ?_
      refine g_iadd dX12_matches_143 ?_
      refine g_icmp_ne 151 dX12_matches_144 (by decide) ⟨fun hc => ?_, fun hc => ?_⟩
      · replace h := h.1 hc
        refine g_iconst dX12_matches_151 ?_
        refine h_istore (L' := [some (vR 214), some (vI x1), some (vI x2), some (vI x3), some (vI x4), some (vI x5), some (vI x6), some (vI 0), some (vI x8)]) dX12_matches_152 (Nat.le_of_ble_eq_true rfl) rfl rfl ?_
        refine h_iinc (L' := [some (vR 214), some (vI x1), some (vI x2), some (vI x3), some (vI x4), some (vI x5), some (vI x6), some (vI 0), some (vI (x8 + 1))]) dX12_matches_154 (Nat.le_of_ble_eq_true rfl) rfl rfl rfl ?_
        refine g_goto 116 dX12_matches_157 (by decide) ?_
        exact Go.drop (by simp only [mm_sub, and_self]) h
      · replace h := h.2 hc
        refine g_iconst dX12_matches_147 ?_
        refine g_goto 152 dX12_matches_148 (by decide) ?_
        refine h_istore (L' := [some (vR 214), some (vI x1), some (vI x2), some (vI x3), some (vI x4), some (vI x5), some (vI x6), some (vI 1), some (vI x8)]) dX12_matches_152 (Nat.le_of_ble_eq_true rfl) rfl rfl ?_
        refine h_iinc (L' := [some (vR 214), some (vI x1), some (vI x2), some (vI x3), some (vI x4), some (vI x5), some (vI x6), some (vI 1), some (vI (x8 + 1))]) dX12_matches_154 (Nat.le_of_ble_eq_true rfl) rfl rfl rfl ?_
        refine g_goto 116 dX12_matches_157 (by decide) ?_
        exact Go.drop (by simp only [mm_sub, and_self]) h
set_option maxRecDepth 20000 in
theorem w_X12_sums {E : mmE} {d kc ks : Nat} {G : mmG} {D : mmD} {Q : mmQ} {x1 x2 x3 : Int} (hG : Sh G)  (h : (∀ D1 : mmD, D1 = up2 D 214 39 0 → (∀ D2 : mmD, D2 = up2 D1 214 40 0 → Go E (d + 1) kc ks mX12_sums 13 [some (vR 214), some (vI x1), some (vI x2), some (vI x3), some (vI 0)] [] G D2 Q))) : Call E (d + 1) kc ks mX12_sums [vR 214, vI x1, vI x2, vI x3] G D Q := by
  show Go E (d + 1) kc ks mX12_sums 0 [some (vR 214), some (vI x1), some (vI x2), some (vI x3), none] [] G D Q
  refine g_aload_n dX12_sums_0 rfl rfl ?_
  refine g_iconst dX12_sums_1 ?_
  refine h_putI (j := 39) dX12_sums_2 f_X12_249_11 (Or.inl (mm_finI (by decide +kernel))) rfl rfl (by decide) hG.k214 (by decide) (hG.lt (by decide)) ?_
  generalize hD_D1 : up2 D 214 39 0 = D1
  replace h := h _ hD_D1.symm
  refine g_aload_n dX12_sums_5 rfl rfl ?_
  refine g_iconst dX12_sums_6 ?_
  refine h_putI (j := 40) dX12_sums_7 f_X12_252_11 (Or.inl (mm_finI (by decide +kernel))) rfl rfl (by decide) hG.k214 (by decide) (hG.lt (by decide)) ?_
  generalize hD_D2 : up2 D1 214 40 0 = D2
  replace h := h _ hD_D2.symm
  refine g_iconst dX12_sums_10 ?_
  refine h_istore (L' := [some (vR 214), some (vI x1), some (vI x2), some (vI x3), some (vI 0)]) dX12_sums_11 (Nat.le_of_ble_eq_true rfl) rfl rfl ?_
  exact Go.drop (by simp only [mm_sub, and_self]) h
set_option maxRecDepth 20000 in
theorem w_X12_sums_13 {E : mmE} {d kc ks : Nat} {G : mmG} {D : mmD} {Q : mmQ} {x1 x2 x3 x4 : Int} (hG : Sh G)  (h : ((iv 10 ≤ iv x4 → Q none G D) ∧ (¬ iv 10 ≤ iv x4 → ((iv x4 = iv x3 → Go E (d + 1) kc ks mX12_sums 13 [some (vR 214), some (vI x1), some (vI x2), some (vI x3), some (vI (x4 + 1))] [] G D Q) ∧ (¬ iv x4 = iv x3 → Call E d 0 0 mX12_has [vR 214, vI x1, vI x4] G D (retI G (fun z2 D1 => ((iv z2 = iv 0 → Go E (d + 1) kc ks mX12_sums 13 [some (vR 214), some (vI x1), some (vI x2), some (vI x3), some (vI (x4 + 1))] [] G D1 Q) ∧ (¬ iv z2 = iv 0 → Call E d 0 0 mX12_has [vR 214, vI x2, vI x4] G D1 (retI G (fun z4 D3 => ((iv z4 = iv 0 → Go E (d + 1) kc ks mX12_sums 13 [some (vR 214), some (vI x1), some (vI x2), some (vI x3), some (vI (x4 + 1))] [] G D3 Q) ∧ (¬ iv z4 = iv 0 → Call E d 0 0 mX12_costOf [vR 214, vI x1, vI x4, vI x2, vI x4] G D3 (retI G (fun z6 D5 => (∀ D7 : mmD, D7 = up2 D5 214 39 ((D3 214 39) + z6) → (∀ D8 : mmD, D8 = up2 D7 214 40 ((D7 214 40) + 1) → Go E (d + 1) kc ks mX12_sums 13 [some (vR 214), some (vI x1), some (vI x2), some (vI x3), some (vI (x4 + 1))] [] G D8 Q))))))))))))))))) : Go E (d + 1) kc ks mX12_sums 13 [some (vR 214), some (vI x1), some (vI x2), some (vI x3), some (vI x4)] [] G D Q := by
  refine g_iload dX12_sums_13 rfl ?_
  refine g_bipush dX12_sums_15 bp_10 ?_
  refine g_icmp_ge 81 dX12_sums_17 (by decide) ⟨fun hc => ?_, fun hc => ?_⟩
  · replace h := h.1 hc
    exact g_vret dX12_sums_81 rfl h
  · replace h := h.2 hc
    refine g_iload dX12_sums_20 rfl ?_
    refine g_iload_n dX12_sums_22 rfl rfl ?_
    refine g_icmp_eq 75 dX12_sums_23 (by decide) ⟨fun hc => ?_, fun hc => ?_⟩
    · replace h := h.1 hc
      refine h_iinc (L' := [some (vR 214), some (vI x1), some (vI x2), some (vI x3), some (vI (x4 + 1))]) dX12_sums_75 (Nat.le_of_ble_eq_true rfl) rfl rfl rfl ?_
      refine g_goto 13 dX12_sums_78 (by decide) ?_
      exact Go.drop (by simp only [mm_sub, and_self]) h
    · replace h := h.2 hc
      refine g_aload_n dX12_sums_26 rfl rfl ?_
      refine g_iload_n dX12_sums_27 rfl rfl ?_
      refine g_iload dX12_sums_28 rfl ?_
      refine g_callV (kc := kc) (kc' := 0) (ks := ks) (ks' := 0) (as := [vI x1, vI x4]) (st := []) (ci := 11) dX12_sums_30 cB_X12_has lk_X12_228 in_X12_has se_X12_has (by decide) rfl rfl (Nat.le_of_ble_eq_true rfl) (Nat.le_of_ble_eq_true rfl) (by decide) (hG.lt (by decide)) (congrArg Prod.fst hG.k214) ?_
      refine Go.to (fun r G' D1 hr => ?_) h
      obtain ⟨rfl, z2, rfl, h⟩ := hr
      show Go E (d + 1) kc ks mX12_sums 33 [some (vR 214), some (vI x1), some (vI x2), some (vI x3), some (vI x4)] [vI z2] G D1 Q
      refine g_if_eq 75 dX12_sums_33 (by decide) ⟨fun hc => ?_, fun hc => ?_⟩
      · replace h := h.1 hc
        refine h_iinc (L' := [some (vR 214), some (vI x1), some (vI x2), some (vI x3), some (vI (x4 + 1))]) dX12_sums_75 (Nat.le_of_ble_eq_true rfl) rfl rfl rfl ?_
        refine g_goto 13 dX12_sums_78 (by decide) ?_
        exact Go.drop (by simp only [mm_sub, and_self]) h
      · replace h := h.2 hc
        refine g_aload_n dX12_sums_36 rfl rfl ?_
        refine g_iload_n dX12_sums_37 rfl rfl ?_
        refine g_iload dX12_sums_38 rfl ?_
        refine g_callV (kc := kc) (kc' := 0) (ks := ks) (ks' := 0) (as := [vI x2, vI x4]) (st := []) (ci := 11) dX12_sums_40 cB_X12_has lk_X12_228 in_X12_has se_X12_has (by decide) rfl rfl (Nat.le_of_ble_eq_true rfl) (Nat.le_of_ble_eq_true rfl) (by decide) (hG.lt (by decide)) (congrArg Prod.fst hG.k214) ?_
        refine Go.to (fun r G' D3 hr => ?_) h
        obtain ⟨rfl, z4, rfl, h⟩ := hr
        show Go E (d + 1) kc ks mX12_sums 43 [some (vR 214), some (vI x1), some (vI x2), some (vI x3), some (vI x4)] [vI z4] G D3 Q
        refine g_if_eq 75 dX12_sums_43 (by decide) ⟨fun hc => ?_, fun hc => ?_⟩
        · replace h := h.1 hc
          refine h_iinc (L' := [some (vR 214), some (vI x1), some (vI x2), some (vI x3), some (vI (x4 + 1))]) dX12_sums_75 (Nat.le_of_ble_eq_true rfl) rfl rfl rfl ?_
          refine g_goto 13 dX12_sums_78 (by decide) ?_
          exact Go.drop (by simp only [mm_sub, and_self]) h
        · replace h := h.2 hc
          refine g_aload_n dX12_sums_46 rfl rfl ?_
          refine g_dup dX12_sums_47 (fun _ h9 => by cases h9) ?_
          refine h_getI (j := 39) dX12_sums_48 f_X12_249_11 rfl rfl (by decide) hG.k214 (by decide) (hG.lt (by decide)) ?_
          refine g_aload_n dX12_sums_51 rfl rfl ?_
          refine g_iload_n dX12_sums_52 rfl rfl ?_
          refine g_iload dX12_sums_53 rfl ?_
          refine g_iload_n dX12_sums_55 rfl rfl ?_
          refine g_iload dX12_sums_56 rfl ?_
          refine g_callV (kc := kc) (kc' := 0) (ks := ks) (ks' := 0) (as := [vI x1, vI x4, vI x2, vI x4]) (st := [vI (D3 214 39), vR 214]) (ci := 11) dX12_sums_58 cB_X12_costOf lk_X12_231 in_X12_costOf se_X12_costOf (by decide) rfl rfl (Nat.le_of_ble_eq_true rfl) (Nat.le_of_ble_eq_true rfl) (by decide) (hG.lt (by decide)) (congrArg Prod.fst hG.k214) ?_
          refine Go.to (fun r G' D5 hr => ?_) h
          obtain ⟨rfl, z6, rfl, h⟩ := hr
          show Go E (d + 1) kc ks mX12_sums 61 [some (vR 214), some (vI x1), some (vI x2), some (vI x3), some (vI x4)] [vI z6, vI (D3 214 39), vR 214] G D5 Q
          refine g_iadd dX12_sums_61 ?_
          refine h_putI (j := 39) dX12_sums_62 f_X12_249_11 (Or.inl (mm_finI (by decide +kernel))) rfl rfl (by decide) hG.k214 (by decide) (hG.lt (by decide)) ?_
          generalize hD_D7 : up2 D5 214 39 ((D3 214 39) + z6) = D7
          replace h := h _ hD_D7.symm
          refine g_aload_n dX12_sums_65 rfl rfl ?_
          refine g_dup dX12_sums_66 (fun _ h9 => by cases h9) ?_
          refine h_getI (j := 40) dX12_sums_67 f_X12_252_11 rfl rfl (by decide) hG.k214 (by decide) (hG.lt (by decide)) ?_
          refine g_iconst dX12_sums_70 ?_
          refine g_iadd dX12_sums_71 ?_
          refine h_putI (j := 40) dX12_sums_72 f_X12_252_11 (Or.inl (mm_finI (by decide +kernel))) rfl rfl (by decide) hG.k214 (by decide) (hG.lt (by decide)) ?_
          generalize hD_D8 : up2 D7 214 40 ((D7 214 40) + 1) = D8
          replace h := h _ hD_D8.symm
          refine h_iinc (L' := [some (vR 214), some (vI x1), some (vI x2), some (vI x3), some (vI (x4 + 1))]) dX12_sums_75 (Nat.le_of_ble_eq_true rfl) rfl rfl rfl ?_
          refine g_goto 13 dX12_sums_78 (by decide) ?_
          exact Go.drop (by simp only [mm_sub, and_self]) h
set_option maxRecDepth 20000 in
theorem w_X12_far {E : mmE} {d kc ks : Nat} {G : mmG} {D : mmD} {Q : mmQ} {x1 x2 x3 : Int} (hG : Sh G)  (h : Call E d 0 0 mX12_isTongue [vR 214, vI x1] G D (retI G (fun z2 D1 => ((iv z2 = iv 0 → Q (some (vI (-1))) G D1) ∧ (¬ iv z2 = iv 0 → Call E d 0 0 mX12_isTongue [vR 214, vI x2] G D1 (retI G (fun z4 D3 => ((iv z4 = iv 0 → Q (some (vI (-1))) G D3) ∧ (¬ iv z4 = iv 0 → Call E d 0 0 mX12_in [vI x3, vI 0, vI 1] G D3 (retI G (fun z6 D5 => ((¬ iv z6 = iv 0 → ((¬ iv x1 = iv x2 → Call E d 0 0 mX12_sums [vR 214, vI x1, vI x2, vI (-1)] G D5 (retV G (fun D7 => ((¬ iv x3 = iv 0 → Q (some (vI (D7 214 40))) G D7) ∧ (iv x3 = iv 0 → Q (some (vI (D7 214 39))) G D7))))) ∧ (iv x1 = iv x2 → Q (some (vI (-2))) G D5))) ∧ (iv z6 = iv 0 → Q (some (vI (-1))) G D5))))))))))))) : Call E (d + 1) kc ks mX12_far [vR 214, vI x1, vI x2, vI x3] G D Q := by
  show Go E (d + 1) kc ks mX12_far 0 [some (vR 214), some (vI x1), some (vI x2), some (vI x3)] [] G D Q
  refine g_aload_n dX12_far_0 rfl rfl ?_
  refine g_iload_n dX12_far_1 rfl rfl ?_
  refine g_callV (kc := kc) (kc' := 0) (ks := ks) (ks' := 0) (as := [vI x1]) (st := []) (ci := 11) dX12_far_2 cB_X12_isTongue lk_X12_130 in_X12_isTongue se_X12_isTongue (by decide) rfl rfl (Nat.le_of_ble_eq_true rfl) (Nat.le_of_ble_eq_true rfl) (by decide) (hG.lt (by decide)) (congrArg Prod.fst hG.k214) ?_
  refine Go.to (fun r G' D1 hr => ?_) h
  obtain ⟨rfl, z2, rfl, h⟩ := hr
  show Go E (d + 1) kc ks mX12_far 5 [some (vR 214), some (vI x1), some (vI x2), some (vI x3)] [vI z2] G D1 Q
  refine g_if_eq 25 dX12_far_5 (by decide) ⟨fun hc => ?_, fun hc => ?_⟩
  · replace h := h.1 hc
    refine g_iconst dX12_far_25 ?_
    exact g_iret dX12_far_26 rfl h
  · replace h := h.2 hc
    refine g_aload_n dX12_far_8 rfl rfl ?_
    refine g_iload_n dX12_far_9 rfl rfl ?_
    refine g_callV (kc := kc) (kc' := 0) (ks := ks) (ks' := 0) (as := [vI x2]) (st := []) (ci := 11) dX12_far_10 cB_X12_isTongue lk_X12_130 in_X12_isTongue se_X12_isTongue (by decide) rfl rfl (Nat.le_of_ble_eq_true rfl) (Nat.le_of_ble_eq_true rfl) (by decide) (hG.lt (by decide)) (congrArg Prod.fst hG.k214) ?_
    refine Go.to (fun r G' D3 hr => ?_) h
    obtain ⟨rfl, z4, rfl, h⟩ := hr
    show Go E (d + 1) kc ks mX12_far 13 [some (vR 214), some (vI x1), some (vI x2), some (vI x3)] [vI z4] G D3 Q
    refine g_if_eq 25 dX12_far_13 (by decide) ⟨fun hc => ?_, fun hc => ?_⟩
    · replace h := h.1 hc
      refine g_iconst dX12_far_25 ?_
      exact g_iret dX12_far_26 rfl h
    · replace h := h.2 hc
      refine g_iload_n dX12_far_16 rfl rfl ?_
      refine g_iconst dX12_far_17 ?_
      refine g_iconst dX12_far_18 ?_
      refine g_callS (kc := kc) (kc' := 0) (ks := ks) (ks' := 0) (as := [vI x3, vI 0, vI 1]) (st := []) dX12_far_19 cB_X12_in lk_X12_123 st_X12_in rfl (Nat.le_of_ble_eq_true rfl) (Nat.le_of_ble_eq_true rfl) ?_
      refine Go.to (fun r G' D5 hr => ?_) h
      obtain ⟨rfl, z6, rfl, h⟩ := hr
      show Go E (d + 1) kc ks mX12_far 22 [some (vR 214), some (vI x1), some (vI x2), some (vI x3)] [vI z6] G D5 Q
      refine g_if_ne 27 dX12_far_22 (by decide) ⟨fun hc => ?_, fun hc => ?_⟩
      · replace h := h.1 hc
        refine g_iload_n dX12_far_27 rfl rfl ?_
        refine g_iload_n dX12_far_28 rfl rfl ?_
        refine g_icmp_ne 35 dX12_far_29 (by decide) ⟨fun hc => ?_, fun hc => ?_⟩
        · replace h := h.1 hc
          refine g_aload_n dX12_far_35 rfl rfl ?_
          refine g_iload_n dX12_far_36 rfl rfl ?_
          refine g_iload_n dX12_far_37 rfl rfl ?_
          refine g_iconst dX12_far_38 ?_
          refine g_callV (kc := kc) (kc' := 0) (ks := ks) (ks' := 0) (as := [vI x1, vI x2, vI (-1)]) (st := []) (ci := 11) dX12_far_39 cB_X12_sums lk_X12_255 in_X12_sums se_X12_sums (by decide) rfl rfl (Nat.le_of_ble_eq_true rfl) (Nat.le_of_ble_eq_true rfl) (by decide) (hG.lt (by decide)) (congrArg Prod.fst hG.k214) ?_
          refine Go.to (fun r G' D7 hr => ?_) h
          obtain ⟨rfl, rfl, h⟩ := hr
          show Go E (d + 1) kc ks mX12_far 42 [some (vR 214), some (vI x1), some (vI x2), some (vI x3)] [] G D7 Q
          refine g_iload_n dX12_far_42 rfl rfl ?_
          refine g_if_ne 53 dX12_far_43 (by decide) ⟨fun hc => ?_, fun hc => ?_⟩
          · replace h := h.1 hc
            refine g_aload_n dX12_far_53 rfl rfl ?_
            refine h_getI (j := 40) dX12_far_54 f_X12_252_11 rfl rfl (by decide) hG.k214 (by decide) (hG.lt (by decide)) ?_
            exact g_iret dX12_far_57 rfl h
          · replace h := h.2 hc
            refine g_aload_n dX12_far_46 rfl rfl ?_
            refine h_getI (j := 39) dX12_far_47 f_X12_249_11 rfl rfl (by decide) hG.k214 (by decide) (hG.lt (by decide)) ?_
            refine g_goto 57 dX12_far_50 (by decide) ?_
            exact g_iret dX12_far_57 rfl h
        · replace h := h.2 hc
          refine g_bipush dX12_far_32 bp_m2 ?_
          exact g_iret dX12_far_34 rfl h
      · replace h := h.2 hc
        refine g_iconst dX12_far_25 ?_
        exact g_iret dX12_far_26 rfl h
set_option maxRecDepth 20000 in
theorem w_X12_borrowed {E : mmE} {d kc ks : Nat} {G : mmG} {D : mmD} {Q : mmQ} {x1 x2 x3 : Int} (hG : Sh G)  (h : Call E d 0 0 mX12_has [vR 214, vI x2, vI x1] G D (retI G (fun z2 D1 => ((iv z2 = iv 0 → Q (some (vI (-1))) G D1) ∧ (¬ iv z2 = iv 0 → Call E d 0 0 mX12_has [vR 214, vI x3, vI x1] G D1 (retI G (fun z4 D3 => ((¬ iv z4 = iv 0 → ((¬ iv x2 = iv x3 → Call E d 0 0 mX12_sums [vR 214, vI x2, vI x3, vI x1] G D3 (retV G (fun D5 => Call E d 0 0 mX12_costOf [vR 214, vI x2, vI x1, vI x3, vI x1] G D5 (retI G (fun z8 D7 => ((¬ iv z8 = iv 0 → Q (some (vI 0)) G D7) ∧ (iv z8 = iv 0 → ((iv (D7 214 40) < iv 2 → Q (some (vI 0)) G D7) ∧ (¬ iv (D7 214 40) < iv 2 → ((iv (D7 214 39) ≤ iv (2 * (D7 214 40)) → Q (some (vI 0)) G D7) ∧ (¬ iv (D7 214 39) ≤ iv (2 * (D7 214 40)) → Q (some (vI 1)) G D7))))))))))) ∧ (iv x2 = iv x3 → Q (some (vI (-2))) G D3))) ∧ (iv z4 = iv 0 → Q (some (vI (-1))) G D3))))))))) : Call E (d + 1) kc ks mX12_borrowed [vR 214, vI x1, vI x2, vI x3] G D Q := by
  show Go E (d + 1) kc ks mX12_borrowed 0 [some (vR 214), some (vI x1), some (vI x2), some (vI x3)] [] G D Q
  refine g_aload_n dX12_borrowed_0 rfl rfl ?_
  refine g_iload_n dX12_borrowed_1 rfl rfl ?_
  refine g_iload_n dX12_borrowed_2 rfl rfl ?_
  refine g_callV (kc := kc) (kc' := 0) (ks := ks) (ks' := 0) (as := [vI x2, vI x1]) (st := []) (ci := 11) dX12_borrowed_3 cB_X12_has lk_X12_228 in_X12_has se_X12_has (by decide) rfl rfl (Nat.le_of_ble_eq_true rfl) (Nat.le_of_ble_eq_true rfl) (by decide) (hG.lt (by decide)) (congrArg Prod.fst hG.k214) ?_
  refine Go.to (fun r G' D1 hr => ?_) h
  obtain ⟨rfl, z2, rfl, h⟩ := hr
  show Go E (d + 1) kc ks mX12_borrowed 6 [some (vR 214), some (vI x1), some (vI x2), some (vI x3)] [vI z2] G D1 Q
  refine g_if_eq 18 dX12_borrowed_6 (by decide) ⟨fun hc => ?_, fun hc => ?_⟩
  · replace h := h.1 hc
    refine g_iconst dX12_borrowed_18 ?_
    exact g_iret dX12_borrowed_19 rfl h
  · replace h := h.2 hc
    refine g_aload_n dX12_borrowed_9 rfl rfl ?_
    refine g_iload_n dX12_borrowed_10 rfl rfl ?_
    refine g_iload_n dX12_borrowed_11 rfl rfl ?_
    refine g_callV (kc := kc) (kc' := 0) (ks := ks) (ks' := 0) (as := [vI x3, vI x1]) (st := []) (ci := 11) dX12_borrowed_12 cB_X12_has lk_X12_228 in_X12_has se_X12_has (by decide) rfl rfl (Nat.le_of_ble_eq_true rfl) (Nat.le_of_ble_eq_true rfl) (by decide) (hG.lt (by decide)) (congrArg Prod.fst hG.k214) ?_
    refine Go.to (fun r G' D3 hr => ?_) h
    obtain ⟨rfl, z4, rfl, h⟩ := hr
    show Go E (d + 1) kc ks mX12_borrowed 15 [some (vR 214), some (vI x1), some (vI x2), some (vI x3)] [vI z4] G D3 Q
    refine g_if_ne 20 dX12_borrowed_15 (by decide) ⟨fun hc => ?_, fun hc => ?_⟩
    · replace h := h.1 hc
      refine g_iload_n dX12_borrowed_20 rfl rfl ?_
      refine g_iload_n dX12_borrowed_21 rfl rfl ?_
      refine g_icmp_ne 28 dX12_borrowed_22 (by decide) ⟨fun hc => ?_, fun hc => ?_⟩
      · replace h := h.1 hc
        refine g_aload_n dX12_borrowed_28 rfl rfl ?_
        refine g_iload_n dX12_borrowed_29 rfl rfl ?_
        refine g_iload_n dX12_borrowed_30 rfl rfl ?_
        refine g_iload_n dX12_borrowed_31 rfl rfl ?_
        refine g_callV (kc := kc) (kc' := 0) (ks := ks) (ks' := 0) (as := [vI x2, vI x3, vI x1]) (st := []) (ci := 11) dX12_borrowed_32 cB_X12_sums lk_X12_255 in_X12_sums se_X12_sums (by decide) rfl rfl (Nat.le_of_ble_eq_true rfl) (Nat.le_of_ble_eq_true rfl) (by decide) (hG.lt (by decide)) (congrArg Prod.fst hG.k214) ?_
        refine Go.to (fun r G' D5 hr => ?_) h
        obtain ⟨rfl, rfl, h⟩ := hr
        show Go E (d + 1) kc ks mX12_borrowed 35 [some (vR 214), some (vI x1), some (vI x2), some (vI x3)] [] G D5 Q
        refine g_aload_n dX12_borrowed_35 rfl rfl ?_
        refine g_iload_n dX12_borrowed_36 rfl rfl ?_
        refine g_iload_n dX12_borrowed_37 rfl rfl ?_
        refine g_iload_n dX12_borrowed_38 rfl rfl ?_
        refine g_iload_n dX12_borrowed_39 rfl rfl ?_
        refine g_callV (kc := kc) (kc' := 0) (ks := ks) (ks' := 0) (as := [vI x2, vI x1, vI x3, vI x1]) (st := []) (ci := 11) dX12_borrowed_40 cB_X12_costOf lk_X12_231 in_X12_costOf se_X12_costOf (by decide) rfl rfl (Nat.le_of_ble_eq_true rfl) (Nat.le_of_ble_eq_true rfl) (by decide) (hG.lt (by decide)) (congrArg Prod.fst hG.k214) ?_
        refine Go.to (fun r G' D7 hr => ?_) h
        obtain ⟨rfl, z8, rfl, h⟩ := hr
        show Go E (d + 1) kc ks mX12_borrowed 43 [some (vR 214), some (vI x1), some (vI x2), some (vI x3)] [vI z8] G D7 Q
        refine g_if_ne 71 dX12_borrowed_43 (by decide) ⟨fun hc => ?_, fun hc => ?_⟩
        · replace h := h.1 hc
          refine g_iconst dX12_borrowed_71 ?_
          exact g_iret dX12_borrowed_72 rfl h
        · replace h := h.2 hc
          refine g_aload_n dX12_borrowed_46 rfl rfl ?_
          refine h_getI (j := 40) dX12_borrowed_47 f_X12_252_11 rfl rfl (by decide) hG.k214 (by decide) (hG.lt (by decide)) ?_
          refine g_iconst dX12_borrowed_50 ?_
          refine g_icmp_lt 71 dX12_borrowed_51 (by decide) ⟨fun hc => ?_, fun hc => ?_⟩
          · replace h := h.1 hc
            refine g_iconst dX12_borrowed_71 ?_
            exact g_iret dX12_borrowed_72 rfl h
          · replace h := h.2 hc
            refine g_aload_n dX12_borrowed_54 rfl rfl ?_
            refine h_getI (j := 39) dX12_borrowed_55 f_X12_249_11 rfl rfl (by decide) hG.k214 (by decide) (hG.lt (by decide)) ?_
            refine g_iconst dX12_borrowed_58 ?_
            refine g_aload_n dX12_borrowed_59 rfl rfl ?_
            refine h_getI (j := 40) dX12_borrowed_60 f_X12_252_11 rfl rfl (by decide) hG.k214 (by decide) (hG.lt (by decide)) ?_
            refine g_imul dX12_borrowed_63 ?_
            refine g_icmp_le 71 dX12_borrowed_64 (by decide) ⟨fun hc => ?_, fun hc => ?_⟩
            · replace h := h.1 hc
              refine g_iconst dX12_borrowed_71 ?_
              exact g_iret dX12_borrowed_72 rfl h
            · replace h := h.2 hc
              refine g_iconst dX12_borrowed_67 ?_
              refine g_goto 72 dX12_borrowed_68 (by decide) ?_
              exact g_iret dX12_borrowed_72 rfl h
      · replace h := h.2 hc
        refine g_bipush dX12_borrowed_25 bp_m2 ?_
        exact g_iret dX12_borrowed_27 rfl h
    · replace h := h.2 hc
      refine g_iconst dX12_borrowed_18 ?_
      exact g_iret dX12_borrowed_19 rfl h
set_option maxRecDepth 20000 in
theorem w_X12_old {E : mmE} {d kc ks : Nat} {G : mmG} {D : mmD} {Q : mmQ} {x1 x2 : Int} (hG : Sh G)  (h : Call E d 0 0 mX12_isMeaning [vI x1] G D (retI G (fun z2 D1 => ((iv z2 = iv 0 → Q (some (vI (-1))) G D1) ∧ (¬ iv z2 = iv 0 → Call E d 0 0 mX12_in [vI x2, vI 0, vI 2] G D1 (retI G (fun z4 D3 => ((¬ iv z4 = iv 0 → Go E (d + 1) kc ks mX12_old 30 [some (vR 214), some (vI x1), some (vI x2), some (vI (-5)), some (vI 0), some (vI 0), some (vI 0), none, none] [] G D3 Q) ∧ (iv z4 = iv 0 → Q (some (vI (-1))) G D3))))))))) : Call E (d + 1) kc ks mX12_old [vR 214, vI x1, vI x2] G D Q := by
  show Go E (d + 1) kc ks mX12_old 0 [some (vR 214), some (vI x1), some (vI x2), none, none, none, none, none, none] [] G D Q
  refine g_iload_n dX12_old_0 rfl rfl ?_
  refine g_callS (kc := kc) (kc' := 0) (ks := ks) (ks' := 0) (as := [vI x1]) (st := []) dX12_old_1 cB_X12_isMeaning lk_X12_134 st_X12_isMeaning rfl (Nat.le_of_ble_eq_true rfl) (Nat.le_of_ble_eq_true rfl) ?_
  refine Go.to (fun r G' D1 hr => ?_) h
  obtain ⟨rfl, z2, rfl, h⟩ := hr
  show Go E (d + 1) kc ks mX12_old 4 [some (vR 214), some (vI x1), some (vI x2), none, none, none, none, none, none] [vI z2] G D1 Q
  refine g_if_eq 16 dX12_old_4 (by decide) ⟨fun hc => ?_, fun hc => ?_⟩
  · replace h := h.1 hc
    refine g_iconst dX12_old_16 ?_
    exact g_iret dX12_old_17 rfl h
  · replace h := h.2 hc
    refine g_iload_n dX12_old_7 rfl rfl ?_
    refine g_iconst dX12_old_8 ?_
    refine g_iconst dX12_old_9 ?_
    refine g_callS (kc := kc) (kc' := 0) (ks := ks) (ks' := 0) (as := [vI x2, vI 0, vI 2]) (st := []) dX12_old_10 cB_X12_in lk_X12_123 st_X12_in rfl (Nat.le_of_ble_eq_true rfl) (Nat.le_of_ble_eq_true rfl) ?_
    refine Go.to (fun r G' D3 hr => ?_) h
    obtain ⟨rfl, z4, rfl, h⟩ := hr
    show Go E (d + 1) kc ks mX12_old 13 [some (vR 214), some (vI x1), some (vI x2), none, none, none, none, none, none] [vI z4] G D3 Q
    refine g_if_ne 18 dX12_old_13 (by decide) ⟨fun hc => ?_, fun hc => ?_⟩
    · replace h := h.1 hc
      refine g_bipush dX12_old_18 bp_m5 ?_
      refine h_istore_n (L' := [some (vR 214), some (vI x1), some (vI x2), some (vI (-5)), none, none, none, none, none]) dX12_old_20 rfl (Nat.le_of_ble_eq_true rfl) rfl rfl ?_
      refine g_iconst dX12_old_21 ?_
      refine h_istore (L' := [some (vR 214), some (vI x1), some (vI x2), some (vI (-5)), some (vI 0), none, none, none, none]) dX12_old_22 (Nat.le_of_ble_eq_true rfl) rfl rfl ?_
      refine g_iconst dX12_old_24 ?_
      refine h_istore (L' := [some (vR 214), some (vI x1), some (vI x2), some (vI (-5)), some (vI 0), some (vI 0), none, none, none]) dX12_old_25 (Nat.le_of_ble_eq_true rfl) rfl rfl ?_
      refine g_iconst dX12_old_27 ?_
      refine h_istore (L' := [some (vR 214), some (vI x1), some (vI x2), some (vI (-5)), some (vI 0), some (vI 0), some (vI 0), none, none]) dX12_old_28 (Nat.le_of_ble_eq_true rfl) rfl rfl ?_
      exact Go.drop (by simp only [mm_sub, and_self]) h
    · replace h := h.2 hc
      refine g_iconst dX12_old_16 ?_
      exact g_iret dX12_old_17 rfl h
set_option maxRecDepth 20000 in
theorem w_X12_old_30 {E : mmE} {d kc ks : Nat} {G : mmG} {D : mmD} {Q : mmQ} {x1 x2 x3 x4 x5 x6 : Int} (hG : Sh G)  (h : ((iv (D 214 1) ≤ iv x6 → ((iv x3 = iv (-5) → Q (some (vI x3)) G D) ∧ (¬ iv x3 = iv (-5) → ((¬ iv x2 = iv 0 → ((¬ iv x2 = iv 1 → Q (some (vI x5)) G D) ∧ (iv x2 = iv 1 → Q (some (vI x4)) G D))) ∧ (iv x2 = iv 0 → Q (some (vI x3)) G D))))) ∧ (¬ iv (D 214 1) ≤ iv x6 → Go E (d + 1) kc ks mX12_old 45 [some (vR 214), some (vI x1), some (vI x2), some (vI x3), some (vI x4), some (vI x5), some (vI x6), some (vI 0), some (vI 0)] [] G D Q))) : Go E (d + 1) kc ks mX12_old 30 [some (vR 214), some (vI x1), some (vI x2), some (vI x3), some (vI x4), some (vI x5), some (vI x6), none, none] [] G D Q := by
  refine g_iload dX12_old_30 rfl ?_
  refine g_aload_n dX12_old_32 rfl rfl ?_
  refine h_getI (j := 1) dX12_old_33 f_X12_120_11 rfl rfl (by decide) hG.k214 (by decide) (hG.lt (by decide)) ?_
  refine g_icmp_ge 195 dX12_old_36 (by decide) ⟨fun hc => ?_, fun hc => ?_⟩
  · replace h := h.1 hc
    refine g_iload_n dX12_old_195 rfl rfl ?_
    refine g_bipush dX12_old_196 bp_m5 ?_
    refine g_icmp_eq 205 dX12_old_198 (by decide) ⟨fun hc => ?_, fun hc => ?_⟩
    · replace h := h.1 hc
      refine g_iload_n dX12_old_205 rfl rfl ?_
      refine g_goto 221 dX12_old_206 (by decide) ?_
      exact g_iret dX12_old_221 rfl h
    · replace h := h.2 hc
      refine g_iload_n dX12_old_201 rfl rfl ?_
      refine g_if_ne 209 dX12_old_202 (by decide) ⟨fun hc => ?_, fun hc => ?_⟩
      · replace h := h.1 hc
        refine g_iload_n dX12_old_209 rfl rfl ?_
        refine g_iconst dX12_old_210 ?_
        refine g_icmp_ne 219 dX12_old_211 (by decide) ⟨fun hc => ?_, fun hc => ?_⟩
        · replace h := h.1 hc
          refine g_iload dX12_old_219 rfl ?_
          exact g_iret dX12_old_221 rfl h
        · replace h := h.2 hc
          refine g_iload dX12_old_214 rfl ?_
          refine g_goto 221 dX12_old_216 (by decide) ?_
          exact g_iret dX12_old_221 rfl h
      · replace h := h.2 hc
        refine g_iload_n dX12_old_205 rfl rfl ?_
        refine g_goto 221 dX12_old_206 (by decide) ?_
        exact g_iret dX12_old_221 rfl h
  · replace h := h.2 hc
    refine g_iconst dX12_old_39 ?_
    refine h_istore (L' := [some (vR 214), some (vI x1), some (vI x2), some (vI x3), some (vI x4), some (vI x5), some (vI x6), some (vI 0), none]) dX12_old_40 (Nat.le_of_ble_eq_true rfl) rfl rfl ?_
    refine g_iconst dX12_old_42 ?_
    refine h_istore (L' := [some (vR 214), some (vI x1), some (vI x2), some (vI x3), some (vI x4), some (vI x5), some (vI x6), some (vI 0), some (vI 0)]) dX12_old_43 (Nat.le_of_ble_eq_true rfl) rfl rfl ?_
    exact Go.drop (by simp only [mm_sub, and_self]) h
set_option maxRecDepth 20000 in
theorem w_X12_old_45 {E : mmE} {d kc ks : Nat} {G : mmG} {D : mmD} {Q : mmQ} {x1 x2 x3 x4 x5 x6 x7 x8 : Int} (hG : Sh G)  (h : ((iv (D 214 1) ≤ iv x8 → Call E d 0 0 mX12_has [vR 214, vI x6, vI x1] G D (retI G (fun z2 D1 => ((iv z2 = iv 0 → Go E (d + 1) kc ks mX12_old 30 [some (vR 214), some (vI x1), some (vI x2), some (vI x3), some (vI x4), some (vI x5), some (vI (x6 + 1)), none, none] [] G D1 Q) ∧ (¬ iv z2 = iv 0 → ((iv x3 = iv (-5) → ((iv 1 = iv 0 → ((¬ iv x7 = iv x4 → Go E (d + 1) kc ks mX12_old 161 [some (vR 214), some (vI x1), some (vI x2), some (vI x3), some (vI x4), none, some (vI x6), some (vI x7), some (vI 1)] [vI x5] G D1 Q) ∧ (iv x7 = iv x4 → Go E (d + 1) kc ks mX12_old 161 [some (vR 214), some (vI x1), some (vI x2), some (vI x3), some (vI x4), none, some (vI x6), some (vI x7), some (vI 1)] [vI (x5 + 1)] G D1 Q))) ∧ (¬ iv 1 = iv 0 → Go E (d + 1) kc ks mX12_old 161 [some (vR 214), some (vI x1), some (vI x2), some (vI x3), some (vI x4), none, some (vI x6), some (vI x7), some (vI 1)] [vI 1] G D1 Q))) ∧ (¬ iv x3 = iv (-5) → ((iv x4 ≤ iv x7 → ((iv 0 = iv 0 → ((¬ iv x7 = iv x4 → Go E (d + 1) kc ks mX12_old 161 [some (vR 214), some (vI x1), some (vI x2), some (vI x3), some (vI x4), none, some (vI x6), some (vI x7), some (vI 0)] [vI x5] G D1 Q) ∧ (iv x7 = iv x4 → Go E (d + 1) kc ks mX12_old 161 [some (vR 214), some (vI x1), some (vI x2), some (vI x3), some (vI x4), none, some (vI x6), some (vI x7), some (vI 0)] [vI (x5 + 1)] G D1 Q))) ∧ (¬ iv 0 = iv 0 → Go E (d + 1) kc ks mX12_old 161 [some (vR 214), some (vI x1), some (vI x2), some (vI x3), some (vI x4), none, some (vI x6), some (vI x7), some (vI 0)] [vI 1] G D1 Q))) ∧ (¬ iv x4 ≤ iv x7 → ((iv 1 = iv 0 → ((¬ iv x7 = iv x4 → Go E (d + 1) kc ks mX12_old 161 [some (vR 214), some (vI x1), some (vI x2), some (vI x3), some (vI x4), none, some (vI x6), some (vI x7), some (vI 1)] [vI x5] G D1 Q) ∧ (iv x7 = iv x4 → Go E (d + 1) kc ks mX12_old 161 [some (vR 214), some (vI x1), some (vI x2), some (vI x3), some (vI x4), none, some (vI x6), some (vI x7), some (vI 1)] [vI (x5 + 1)] G D1 Q))) ∧ (¬ iv 1 = iv 0 → Go E (d + 1) kc ks mX12_old 161 [some (vR 214), some (vI x1), some (vI x2), some (vI x3), some (vI x4), none, some (vI x6), some (vI x7), some (vI 1)] [vI 1] G D1 Q))))))))))) ∧ (¬ iv (D 214 1) ≤ iv x8 → ((iv x8 = iv x6 → Go E (d + 1) kc ks mX12_old 45 [some (vR 214), some (vI x1), some (vI x2), some (vI x3), some (vI x4), some (vI x5), some (vI x6), some (vI (x7 + 0)), some (vI (x8 + 1))] [] G D Q) ∧ (¬ iv x8 = iv x6 → Call E d 0 0 mX12_has [vR 214, vI x6, vI x1] G D (retI G (fun z4 D3 => ((iv z4 = iv 0 → Go E (d + 1) kc ks mX12_old 45 [some (vR 214), some (vI x1), some (vI x2), some (vI x3), some (vI x4), some (vI x5), some (vI x6), some (vI (x7 + 0)), some (vI (x8 + 1))] [] G D3 Q) ∧ (¬ iv z4 = iv 0 → Call E d 0 0 mX12_has [vR 214, vI x8, vI x1] G D3 (retI G (fun z6 D5 => ((iv z6 = iv 0 → Go E (d + 1) kc ks mX12_old 45 [some (vR 214), some (vI x1), some (vI x2), some (vI x3), some (vI x4), some (vI x5), some (vI x6), some (vI (x7 + 0)), some (vI (x8 + 1))] [] G D5 Q) ∧ (¬ iv z6 = iv 0 → Call E d 0 0 mX12_costOf [vR 214, vI x6, vI x1, vI x8, vI x1] G D5 (retI G (fun z8 D7 => Go E (d + 1) kc ks mX12_old 45 [some (vR 214), some (vI x1), some (vI x2), some (vI x3), some (vI x4), some (vI x5), some (vI x6), some (vI (x7 + z8)), some (vI (x8 + 1))] [] G D7 Q))))))))))))))) : Go E (d + 1) kc ks mX12_old 45 [some (vR 214), some (vI x1), some (vI x2), some (vI x3), some (vI x4), some (vI x5), some (vI x6), some (vI x7), some (vI x8)] [] G D Q := by
  refine g_iload dX12_old_45 rfl ?_
  refine g_aload_n dX12_old_47 rfl rfl ?_
  refine h_getI (j := 1) dX12_old_48 f_X12_120_11 rfl rfl (by decide) hG.k214 (by decide) (hG.lt (by decide)) ?_
  refine g_icmp_ge 106 dX12_old_51 (by decide) ⟨fun hc => ?_, fun hc => ?_⟩
  · replace h := h.1 hc
    refine g_aload_n dX12_old_106 rfl rfl ?_
    refine g_iload dX12_old_107 rfl ?_
    refine g_iload_n dX12_old_109 rfl rfl ?_
    refine g_callV (kc := kc) (kc' := 0) (ks := ks) (ks' := 0) (as := [vI x6, vI x1]) (st := []) (ci := 11) dX12_old_110 cB_X12_has lk_X12_228 in_X12_has se_X12_has (by decide) rfl rfl (Nat.le_of_ble_eq_true rfl) (Nat.le_of_ble_eq_true rfl) (by decide) (hG.lt (by decide)) (congrArg Prod.fst hG.k214) ?_
    refine Go.to (fun r G' D1 hr => ?_) h
    obtain ⟨rfl, z2, rfl, h⟩ := hr
    show Go E (d + 1) kc ks mX12_old 113 [some (vR 214), some (vI x1), some (vI x2), some (vI x3), some (vI x4), some (vI x5), some (vI x6), some (vI x7), some (vI x8)] [vI z2] G D1 Q
    refine g_if_eq 189 dX12_old_113 (by decide) ⟨fun hc => ?_, fun hc => ?_⟩
    · replace h := h.1 hc
      refine h_iinc (L' := [some (vR 214), some (vI x1), some (vI x2), some (vI x3), some (vI x4), some (vI x5), some (vI (x6 + 1)), some (vI x7), some (vI x8)]) dX12_old_189 (Nat.le_of_ble_eq_true rfl) rfl rfl rfl ?_
      refine g_goto 30 dX12_old_192 (by decide) ?_
      exact Go.drop (by simp only [mm_sub, and_self]) h
    · replace h := h.2 hc
      refine g_iload_n dX12_old_116 rfl rfl ?_
      refine g_bipush dX12_old_117 bp_m5 ?_
      refine g_icmp_eq 129 dX12_old_119 (by decide) ⟨fun hc => ?_, fun hc => ?_⟩
      · replace h := h.1 hc
        refine g_iconst dX12_old_129 ?_
        refine g_goto 134 dX12_old_130 (by decide) ?_
        refine h_istore (L' := [some (vR 214), some (vI x1), some (vI x2), some (vI x3), some (vI x4), some (vI x5), some (vI x6), some (vI x7), some (vI 1)]) dX12_old_134 (Nat.le_of_ble_eq_true rfl) rfl rfl ?_
        refine g_iload dX12_old_136 rfl ?_
        refine g_if_eq 145 dX12_old_138 (by decide) ⟨fun hc => ?_, fun hc => ?_⟩
        · replace h := h.1 hc
          refine g_iload dX12_old_145 rfl ?_
          refine g_iload dX12_old_147 rfl ?_
          refine g_icmp_ne 159 dX12_old_149 (by decide) ⟨fun hc => ?_, fun hc => ?_⟩
          · replace h := h.1 hc
            refine g_iload dX12_old_159 rfl ?_
            exact Go.drop (by simp only [mm_sub, and_self]) h
          · replace h := h.2 hc
            refine g_iload dX12_old_152 rfl ?_
            refine g_iconst dX12_old_154 ?_
            refine g_iadd dX12_old_155 ?_
            refine g_goto 161 dX12_old_156 (by decide) ?_
            exact Go.drop (by simp only [mm_sub, and_self]) h
        · replace h := h.2 hc
          refine g_iconst dX12_old_141 ?_
          refine g_goto 161 dX12_old_142 (by decide) ?_
          exact Go.drop (by simp only [mm_sub, and_self]) h
      · replace h := h.2 hc
        refine g_iload dX12_old_122 rfl ?_
        refine g_iload dX12_old_124 rfl ?_
        refine g_icmp_ge 133 dX12_old_126 (by decide) ⟨fun hc => ?_, fun hc => ?_⟩
        · replace h := h.1 hc
          refine g_iconst dX12_old_133 ?_
          refine h_istore (L' := [some (vR 214), some (vI x1), some (vI x2), some (vI x3), some (vI x4), some (vI x5), some (vI x6), some (vI x7), some (vI 0)]) dX12_old_134 (Nat.le_of_ble_eq_true rfl) rfl rfl ?_
          refine g_iload dX12_old_136 rfl ?_
          refine g_if_eq 145 dX12_old_138 (by decide) ⟨fun hc => ?_, fun hc => ?_⟩
          · replace h := h.1 hc
            refine g_iload dX12_old_145 rfl ?_
            refine g_iload dX12_old_147 rfl ?_
            refine g_icmp_ne 159 dX12_old_149 (by decide) ⟨fun hc => ?_, fun hc => ?_⟩
            · replace h := h.1 hc
              refine g_iload dX12_old_159 rfl ?_
              exact Go.drop (by simp only [mm_sub, and_self]) h
            · replace h := h.2 hc
              refine g_iload dX12_old_152 rfl ?_
              refine g_iconst dX12_old_154 ?_
              refine g_iadd dX12_old_155 ?_
              refine g_goto 161 dX12_old_156 (by decide) ?_
              exact Go.drop (by simp only [mm_sub, and_self]) h
          · replace h := h.2 hc
            refine g_iconst dX12_old_141 ?_
            refine g_goto 161 dX12_old_142 (by decide) ?_
            exact Go.drop (by simp only [mm_sub, and_self]) h
        · replace h := h.2 hc
          refine g_iconst dX12_old_129 ?_
          refine g_goto 134 dX12_old_130 (by decide) ?_
          refine h_istore (L' := [some (vR 214), some (vI x1), some (vI x2), some (vI x3), some (vI x4), some (vI x5), some (vI x6), some (vI x7), some (vI 1)]) dX12_old_134 (Nat.le_of_ble_eq_true rfl) rfl rfl ?_
          refine g_iload dX12_old_136 rfl ?_
          refine g_if_eq 145 dX12_old_138 (by decide) ⟨fun hc => ?_, fun hc => ?_⟩
          · replace h := h.1 hc
            refine g_iload dX12_old_145 rfl ?_
            refine g_iload dX12_old_147 rfl ?_
            refine g_icmp_ne 159 dX12_old_149 (by decide) ⟨fun hc => ?_, fun hc => ?_⟩
            · replace h := h.1 hc
              refine g_iload dX12_old_159 rfl ?_
              exact Go.drop (by simp only [mm_sub, and_self]) h
            · replace h := h.2 hc
              refine g_iload dX12_old_152 rfl ?_
              refine g_iconst dX12_old_154 ?_
              refine g_iadd dX12_old_155 ?_
              refine g_goto 161 dX12_old_156 (by decide) ?_
              exact Go.drop (by simp only [mm_sub, and_self]) h
          · replace h := h.2 hc
            refine g_iconst dX12_old_141 ?_
            refine g_goto 161 dX12_old_142 (by decide) ?_
            exact Go.drop (by simp only [mm_sub, and_self]) h
  · replace h := h.2 hc
    refine g_iload dX12_old_54 rfl ?_
    refine g_iload dX12_old_56 rfl ?_
    refine g_iload dX12_old_58 rfl ?_
    refine g_icmp_eq 96 dX12_old_60 (by decide) ⟨fun hc => ?_, fun hc => ?_⟩
    · replace h := h.1 hc
      refine g_iconst dX12_old_96 ?_
      refine g_iadd dX12_old_97 ?_
      refine h_istore (L' := [some (vR 214), some (vI x1), some (vI x2), some (vI x3), some (vI x4), some (vI x5), some (vI x6), some (vI (x7 + 0)), some (vI x8)]) dX12_old_98 (Nat.le_of_ble_eq_true rfl) rfl rfl ?_
      refine h_iinc (L' := [some (vR 214), some (vI x1), some (vI x2), some (vI x3), some (vI x4), some (vI x5), some (vI x6), some (vI (x7 + 0)), some (vI (x8 + 1))]) dX12_old_100 (Nat.le_of_ble_eq_true rfl) rfl rfl rfl ?_
      refine g_goto 45 dX12_old_103 (by decide) ?_
      exact Go.drop (by simp only [mm_sub, and_self]) h
    · replace h := h.2 hc
      refine g_aload_n dX12_old_63 rfl rfl ?_
      refine g_iload dX12_old_64 rfl ?_
      refine g_iload_n dX12_old_66 rfl rfl ?_
      refine g_callV (kc := kc) (kc' := 0) (ks := ks) (ks' := 0) (as := [vI x6, vI x1]) (st := [vI x7]) (ci := 11) dX12_old_67 cB_X12_has lk_X12_228 in_X12_has se_X12_has (by decide) rfl rfl (Nat.le_of_ble_eq_true rfl) (Nat.le_of_ble_eq_true rfl) (by decide) (hG.lt (by decide)) (congrArg Prod.fst hG.k214) ?_
      refine Go.to (fun r G' D3 hr => ?_) h
      obtain ⟨rfl, z4, rfl, h⟩ := hr
      show Go E (d + 1) kc ks mX12_old 70 [some (vR 214), some (vI x1), some (vI x2), some (vI x3), some (vI x4), some (vI x5), some (vI x6), some (vI x7), some (vI x8)] [vI z4, vI x7] G D3 Q
      refine g_if_eq 96 dX12_old_70 (by decide) ⟨fun hc => ?_, fun hc => ?_⟩
      · replace h := h.1 hc
        refine g_iconst dX12_old_96 ?_
        refine g_iadd dX12_old_97 ?_
        refine h_istore (L' := [some (vR 214), some (vI x1), some (vI x2), some (vI x3), some (vI x4), some (vI x5), some (vI x6), some (vI (x7 + 0)), some (vI x8)]) dX12_old_98 (Nat.le_of_ble_eq_true rfl) rfl rfl ?_
        refine h_iinc (L' := [some (vR 214), some (vI x1), some (vI x2), some (vI x3), some (vI x4), some (vI x5), some (vI x6), some (vI (x7 + 0)), some (vI (x8 + 1))]) dX12_old_100 (Nat.le_of_ble_eq_true rfl) rfl rfl rfl ?_
        refine g_goto 45 dX12_old_103 (by decide) ?_
        exact Go.drop (by simp only [mm_sub, and_self]) h
      · replace h := h.2 hc
        refine g_aload_n dX12_old_73 rfl rfl ?_
        refine g_iload dX12_old_74 rfl ?_
        refine g_iload_n dX12_old_76 rfl rfl ?_
        refine g_callV (kc := kc) (kc' := 0) (ks := ks) (ks' := 0) (as := [vI x8, vI x1]) (st := [vI x7]) (ci := 11) dX12_old_77 cB_X12_has lk_X12_228 in_X12_has se_X12_has (by decide) rfl rfl (Nat.le_of_ble_eq_true rfl) (Nat.le_of_ble_eq_true rfl) (by decide) (hG.lt (by decide)) (congrArg Prod.fst hG.k214) ?_
        refine Go.to (fun r G' D5 hr => ?_) h
        obtain ⟨rfl, z6, rfl, h⟩ := hr
        show Go E (d + 1) kc ks mX12_old 80 [some (vR 214), some (vI x1), some (vI x2), some (vI x3), some (vI x4), some (vI x5), some (vI x6), some (vI x7), some (vI x8)] [vI z6, vI x7] G D5 Q
        refine g_if_eq 96 dX12_old_80 (by decide) ⟨fun hc => ?_, fun hc => ?_⟩
        · replace h := h.1 hc
          refine g_iconst dX12_old_96 ?_
          refine g_iadd dX12_old_97 ?_
          refine h_istore (L' := [some (vR 214), some (vI x1), some (vI x2), some (vI x3), some (vI x4), some (vI x5), some (vI x6), some (vI (x7 + 0)), some (vI x8)]) dX12_old_98 (Nat.le_of_ble_eq_true rfl) rfl rfl ?_
          refine h_iinc (L' := [some (vR 214), some (vI x1), some (vI x2), some (vI x3), some (vI x4), some (vI x5), some (vI x6), some (vI (x7 + 0)), some (vI (x8 + 1))]) dX12_old_100 (Nat.le_of_ble_eq_true rfl) rfl rfl rfl ?_
          refine g_goto 45 dX12_old_103 (by decide) ?_
          exact Go.drop (by simp only [mm_sub, and_self]) h
        · replace h := h.2 hc
          refine g_aload_n dX12_old_83 rfl rfl ?_
          refine g_iload dX12_old_84 rfl ?_
          refine g_iload_n dX12_old_86 rfl rfl ?_
          refine g_iload dX12_old_87 rfl ?_
          refine g_iload_n dX12_old_89 rfl rfl ?_
          refine g_callV (kc := kc) (kc' := 0) (ks := ks) (ks' := 0) (as := [vI x6, vI x1, vI x8, vI x1]) (st := [vI x7]) (ci := 11) dX12_old_90 cB_X12_costOf lk_X12_231 in_X12_costOf se_X12_costOf (by decide) rfl rfl (Nat.le_of_ble_eq_true rfl) (Nat.le_of_ble_eq_true rfl) (by decide) (hG.lt (by decide)) (congrArg Prod.fst hG.k214) ?_
          refine Go.to (fun r G' D7 hr => ?_) h
          obtain ⟨rfl, z8, rfl, h⟩ := hr
          show Go E (d + 1) kc ks mX12_old 93 [some (vR 214), some (vI x1), some (vI x2), some (vI x3), some (vI x4), some (vI x5), some (vI x6), some (vI x7), some (vI x8)] [vI z8, vI x7] G D7 Q
          refine g_goto 97 dX12_old_93 (by decide) ?_
          refine g_iadd dX12_old_97 ?_
          refine h_istore (L' := [some (vR 214), some (vI x1), some (vI x2), some (vI x3), some (vI x4), some (vI x5), some (vI x6), some (vI (x7 + z8)), some (vI x8)]) dX12_old_98 (Nat.le_of_ble_eq_true rfl) rfl rfl ?_
          refine h_iinc (L' := [some (vR 214), some (vI x1), some (vI x2), some (vI x3), some (vI x4), some (vI x5), some (vI x6), some (vI (x7 + z8)), some (vI (x8 + 1))]) dX12_old_100 (Nat.le_of_ble_eq_true rfl) rfl rfl rfl ?_
          refine g_goto 45 dX12_old_103 (by decide) ?_
          exact Go.drop (by simp only [mm_sub, and_self]) h
set_option maxRecDepth 20000 in
theorem w_X12_old_161 {E : mmE} {d kc ks : Nat} {G : mmG} {D : mmD} {Q : mmQ} {x1 x2 x3 x4 x6 x7 x8 y0 : Int} (hG : Sh G)  (h : ((iv x8 = iv 0 → ((iv x8 = iv 0 → Go E (d + 1) kc ks mX12_old 30 [some (vR 214), some (vI x1), some (vI x2), some (vI x3), some (vI x4), some (vI y0), some (vI (x6 + 1)), none, none] [] G D Q) ∧ (¬ iv x8 = iv 0 → Go E (d + 1) kc ks mX12_old 30 [some (vR 214), some (vI x1), some (vI x2), some (vI x3), some (vI x7), some (vI y0), some (vI (x6 + 1)), none, none] [] G D Q))) ∧ (¬ iv x8 = iv 0 → ((iv x8 = iv 0 → Go E (d + 1) kc ks mX12_old 30 [some (vR 214), some (vI x1), some (vI x2), some (vI x6), some (vI x4), some (vI y0), some (vI (x6 + 1)), none, none] [] G D Q) ∧ (¬ iv x8 = iv 0 → Go E (d + 1) kc ks mX12_old 30 [some (vR 214), some (vI x1), some (vI x2), some (vI x6), some (vI x7), some (vI y0), some (vI (x6 + 1)), none, none] [] G D Q))))) : Go E (d + 1) kc ks mX12_old 161 [some (vR 214), some (vI x1), some (vI x2), some (vI x3), some (vI x4), none, some (vI x6), some (vI x7), some (vI x8)] [vI y0] G D Q := by
  refine h_istore (L' := [some (vR 214), some (vI x1), some (vI x2), some (vI x3), some (vI x4), some (vI y0), some (vI x6), some (vI x7), some (vI x8)]) dX12_old_161 (Nat.le_of_ble_eq_true rfl) rfl rfl ?_
  refine g_iload dX12_old_163 rfl ?_
  refine g_if_eq 173 dX12_old_165 (by decide) ⟨fun hc => ?_, fun hc => ?_⟩
  · replace h := h.1 hc
    refine g_iload_n dX12_old_173 rfl rfl ?_
    refine h_istore_n (L' := [some (vR 214), some (vI x1), some (vI x2), some (vI x3), some (vI x4), some (vI y0), some (vI x6), some (vI x7), some (vI x8)]) dX12_old_174 rfl (Nat.le_of_ble_eq_true rfl) rfl rfl ?_
    refine g_iload dX12_old_175 rfl ?_
    refine g_if_eq 185 dX12_old_177 (by decide) ⟨fun hc => ?_, fun hc => ?_⟩
    · replace h := h.1 hc
      refine g_iload dX12_old_185 rfl ?_
      refine h_istore (L' := [some (vR 214), some (vI x1), some (vI x2), some (vI x3), some (vI x4), some (vI y0), some (vI x6), some (vI x7), some (vI x8)]) dX12_old_187 (Nat.le_of_ble_eq_true rfl) rfl rfl ?_
      refine h_iinc (L' := [some (vR 214), some (vI x1), some (vI x2), some (vI x3), some (vI x4), some (vI y0), some (vI (x6 + 1)), some (vI x7), some (vI x8)]) dX12_old_189 (Nat.le_of_ble_eq_true rfl) rfl rfl rfl ?_
      refine g_goto 30 dX12_old_192 (by decide) ?_
      exact Go.drop (by simp only [mm_sub, and_self]) h
    · replace h := h.2 hc
      refine g_iload dX12_old_180 rfl ?_
      refine g_goto 187 dX12_old_182 (by decide) ?_
      refine h_istore (L' := [some (vR 214), some (vI x1), some (vI x2), some (vI x3), some (vI x7), some (vI y0), some (vI x6), some (vI x7), some (vI x8)]) dX12_old_187 (Nat.le_of_ble_eq_true rfl) rfl rfl ?_
      refine h_iinc (L' := [some (vR 214), some (vI x1), some (vI x2), some (vI x3), some (vI x7), some (vI y0), some (vI (x6 + 1)), some (vI x7), some (vI x8)]) dX12_old_189 (Nat.le_of_ble_eq_true rfl) rfl rfl rfl ?_
      refine g_goto 30 dX12_old_192 (by decide) ?_
      exact Go.drop (by simp only [mm_sub, and_self]) h
  · replace h := h.2 hc
    refine g_iload dX12_old_168 rfl ?_
    refine g_goto 174 dX12_old_170 (by decide) ?_
    refine h_istore_n (L' := [some (vR 214), some (vI x1), some (vI x2), some (vI x6), some (vI x4), some (vI y0), some (vI x6), some (vI x7), some (vI x8)]) dX12_old_174 rfl (Nat.le_of_ble_eq_true rfl) rfl rfl ?_
    refine g_iload dX12_old_175 rfl ?_
    refine g_if_eq 185 dX12_old_177 (by decide) ⟨fun hc => ?_, fun hc => ?_⟩
    · replace h := h.1 hc
      refine g_iload dX12_old_185 rfl ?_
      refine h_istore (L' := [some (vR 214), some (vI x1), some (vI x2), some (vI x6), some (vI x4), some (vI y0), some (vI x6), some (vI x7), some (vI x8)]) dX12_old_187 (Nat.le_of_ble_eq_true rfl) rfl rfl ?_
      refine h_iinc (L' := [some (vR 214), some (vI x1), some (vI x2), some (vI x6), some (vI x4), some (vI y0), some (vI (x6 + 1)), some (vI x7), some (vI x8)]) dX12_old_189 (Nat.le_of_ble_eq_true rfl) rfl rfl rfl ?_
      refine g_goto 30 dX12_old_192 (by decide) ?_
      exact Go.drop (by simp only [mm_sub, and_self]) h
    · replace h := h.2 hc
      refine g_iload dX12_old_180 rfl ?_
      refine g_goto 187 dX12_old_182 (by decide) ?_
      refine h_istore (L' := [some (vR 214), some (vI x1), some (vI x2), some (vI x6), some (vI x7), some (vI y0), some (vI x6), some (vI x7), some (vI x8)]) dX12_old_187 (Nat.le_of_ble_eq_true rfl) rfl rfl ?_
      refine h_iinc (L' := [some (vR 214), some (vI x1), some (vI x2), some (vI x6), some (vI x7), some (vI y0), some (vI (x6 + 1)), some (vI x7), some (vI x8)]) dX12_old_189 (Nat.le_of_ble_eq_true rfl) rfl rfl rfl ?_
      refine g_goto 30 dX12_old_192 (by decide) ?_
      exact Go.drop (by simp only [mm_sub, and_self]) h
set_option maxRecDepth 20000 in
theorem w_X12_tries {E : mmE} {d kc ks : Nat} {G : mmG} {D : mmD} {Q : mmQ} {x1 x2 : Int} (hG : Sh G)  (h : Go E (d + 1) kc ks mX12_tries 8 [some (vR 214), some (vI x1), some (vI x2), some (vI 0), some (vI 0), some (vI 0), none] [] G D Q) : Call E (d + 1) kc ks mX12_tries [vR 214, vI x1, vI x2] G D Q := by
  show Go E (d + 1) kc ks mX12_tries 0 [some (vR 214), some (vI x1), some (vI x2), none, none, none, none] [] G D Q
  refine g_iconst dX12_tries_0 ?_
  refine h_istore_n (L' := [some (vR 214), some (vI x1), some (vI x2), some (vI 0), none, none, none]) dX12_tries_1 rfl (Nat.le_of_ble_eq_true rfl) rfl rfl ?_
  refine g_iconst dX12_tries_2 ?_
  refine h_istore (L' := [some (vR 214), some (vI x1), some (vI x2), some (vI 0), some (vI 0), none, none]) dX12_tries_3 (Nat.le_of_ble_eq_true rfl) rfl rfl ?_
  refine g_iconst dX12_tries_5 ?_
  refine h_istore (L' := [some (vR 214), some (vI x1), some (vI x2), some (vI 0), some (vI 0), some (vI 0), none]) dX12_tries_6 (Nat.le_of_ble_eq_true rfl) rfl rfl ?_
  exact Go.drop (by simp only [mm_sub, and_self]) h
set_option maxRecDepth 20000 in
theorem w_X12_tries_8 {E : mmE} {d kc ks : Nat} {G : mmG} {D : mmD} {Q : mmQ} {x1 x2 x3 x4 x5 : Int} (hG : Sh G)  (h : ((iv 10 ≤ iv x5 → ((iv x3 ≤ iv (D 214 45) → Q none G D) ∧ (¬ iv x3 ≤ iv (D 214 45) → (∀ D1 : mmD, D1 = up2 D 214 45 x3 → (∀ D2 : mmD, D2 = up2 D1 214 46 x4 → Go E (d + 1) kc ks mX12_tries 139 [some (vR 214), none, none, none, none, some (vI 0), none] [] G D2 Q))))) ∧ (¬ iv 10 ≤ iv x5 → Call E d 0 0 mX12_has [vR 214, vI x1, vI x5] G D (retI G (fun z4 D3 => ((iv z4 = iv 0 → Go E (d + 1) kc ks mX12_tries 8 [some (vR 214), some (vI x1), some (vI x2), some (vI x3), some (vI x4), some (vI (x5 + 1)), none] [] G D3 Q) ∧ (¬ iv z4 = iv 0 → Call E d 0 0 mX12_has [vR 214, vI x2, vI x5] G D3 (retI G (fun z6 D5 => ((iv z6 = iv 0 → Go E (d + 1) kc ks mX12_tries 8 [some (vR 214), some (vI x1), some (vI x2), some (vI x3), some (vI x4), some (vI (x5 + 1)), none] [] G D5 Q) ∧ (¬ iv z6 = iv 0 → Call E d 0 0 mX12_takes [vR 214, vI x1, vI x5] G D5 (retV G (fun D7 => Go E (d + 1) kc ks mX12_tries 45 [some (vR 214), some (vI x1), some (vI x2), some (vI x3), some (vI x4), some (vI x5), some (vI 0)] [] G D7 Q))))))))))))) : Go E (d + 1) kc ks mX12_tries 8 [some (vR 214), some (vI x1), some (vI x2), some (vI x3), some (vI x4), some (vI x5), none] [] G D Q := by
  refine g_iload dX12_tries_8 rfl ?_
  refine g_bipush dX12_tries_10 bp_10 ?_
  refine g_icmp_ge 117 dX12_tries_12 (by decide) ⟨fun hc => ?_, fun hc => ?_⟩
  · replace h := h.1 hc
    refine g_iload_n dX12_tries_117 rfl rfl ?_
    refine g_aload_n dX12_tries_118 rfl rfl ?_
    refine h_getI (j := 45) dX12_tries_119 f_X12_261_11 rfl rfl (by decide) hG.k214 (by decide) (hG.lt (by decide)) ?_
    refine g_icmp_le 168 dX12_tries_122 (by decide) ⟨fun hc => ?_, fun hc => ?_⟩
    · replace h := h.1 hc
      exact g_vret dX12_tries_168 rfl h
    · replace h := h.2 hc
      refine g_aload_n dX12_tries_125 rfl rfl ?_
      refine g_iload_n dX12_tries_126 rfl rfl ?_
      refine h_putI (j := 45) dX12_tries_127 f_X12_261_11 (Or.inl (mm_finI (by decide +kernel))) rfl rfl (by decide) hG.k214 (by decide) (hG.lt (by decide)) ?_
      generalize hD_D1 : up2 D 214 45 x3 = D1
      replace h := h _ hD_D1.symm
      refine g_aload_n dX12_tries_130 rfl rfl ?_
      refine g_iload dX12_tries_131 rfl ?_
      refine h_putI (j := 46) dX12_tries_133 f_X12_264_11 (Or.inl (mm_finI (by decide +kernel))) rfl rfl (by decide) hG.k214 (by decide) (hG.lt (by decide)) ?_
      generalize hD_D2 : up2 D1 214 46 x4 = D2
      replace h := h _ hD_D2.symm
      refine g_iconst dX12_tries_136 ?_
      refine h_istore (L' := [some (vR 214), some (vI x1), some (vI x2), some (vI x3), some (vI x4), some (vI 0), none]) dX12_tries_137 (Nat.le_of_ble_eq_true rfl) rfl rfl ?_
      exact Go.drop (by simp only [mm_sub, and_self]) h
  · replace h := h.2 hc
    refine g_aload_n dX12_tries_15 rfl rfl ?_
    refine g_iload_n dX12_tries_16 rfl rfl ?_
    refine g_iload dX12_tries_17 rfl ?_
    refine g_callV (kc := kc) (kc' := 0) (ks := ks) (ks' := 0) (as := [vI x1, vI x5]) (st := []) (ci := 11) dX12_tries_19 cB_X12_has lk_X12_228 in_X12_has se_X12_has (by decide) rfl rfl (Nat.le_of_ble_eq_true rfl) (Nat.le_of_ble_eq_true rfl) (by decide) (hG.lt (by decide)) (congrArg Prod.fst hG.k214) ?_
    refine Go.to (fun r G' D3 hr => ?_) h
    obtain ⟨rfl, z4, rfl, h⟩ := hr
    show Go E (d + 1) kc ks mX12_tries 22 [some (vR 214), some (vI x1), some (vI x2), some (vI x3), some (vI x4), some (vI x5), none] [vI z4] G D3 Q
    refine g_if_eq 111 dX12_tries_22 (by decide) ⟨fun hc => ?_, fun hc => ?_⟩
    · replace h := h.1 hc
      refine h_iinc (L' := [some (vR 214), some (vI x1), some (vI x2), some (vI x3), some (vI x4), some (vI (x5 + 1)), none]) dX12_tries_111 (Nat.le_of_ble_eq_true rfl) rfl rfl rfl ?_
      refine g_goto 8 dX12_tries_114 (by decide) ?_
      exact Go.drop (by simp only [mm_sub, and_self]) h
    · replace h := h.2 hc
      refine g_aload_n dX12_tries_25 rfl rfl ?_
      refine g_iload_n dX12_tries_26 rfl rfl ?_
      refine g_iload dX12_tries_27 rfl ?_
      refine g_callV (kc := kc) (kc' := 0) (ks := ks) (ks' := 0) (as := [vI x2, vI x5]) (st := []) (ci := 11) dX12_tries_29 cB_X12_has lk_X12_228 in_X12_has se_X12_has (by decide) rfl rfl (Nat.le_of_ble_eq_true rfl) (Nat.le_of_ble_eq_true rfl) (by decide) (hG.lt (by decide)) (congrArg Prod.fst hG.k214) ?_
      refine Go.to (fun r G' D5 hr => ?_) h
      obtain ⟨rfl, z6, rfl, h⟩ := hr
      show Go E (d + 1) kc ks mX12_tries 32 [some (vR 214), some (vI x1), some (vI x2), some (vI x3), some (vI x4), some (vI x5), none] [vI z6] G D5 Q
      refine g_if_eq 111 dX12_tries_32 (by decide) ⟨fun hc => ?_, fun hc => ?_⟩
      · replace h := h.1 hc
        refine h_iinc (L' := [some (vR 214), some (vI x1), some (vI x2), some (vI x3), some (vI x4), some (vI (x5 + 1)), none]) dX12_tries_111 (Nat.le_of_ble_eq_true rfl) rfl rfl rfl ?_
        refine g_goto 8 dX12_tries_114 (by decide) ?_
        exact Go.drop (by simp only [mm_sub, and_self]) h
      · replace h := h.2 hc
        refine g_aload_n dX12_tries_35 rfl rfl ?_
        refine g_iload_n dX12_tries_36 rfl rfl ?_
        refine g_iload dX12_tries_37 rfl ?_
        refine g_callV (kc := kc) (kc' := 0) (ks := ks) (ks' := 0) (as := [vI x1, vI x5]) (st := []) (ci := 11) dX12_tries_39 cB_X12_takes lk_X12_209 in_X12_takes se_X12_takes (by decide) rfl rfl (Nat.le_of_ble_eq_true rfl) (Nat.le_of_ble_eq_true rfl) (by decide) (hG.lt (by decide)) (congrArg Prod.fst hG.k214) ?_
        refine Go.to (fun r G' D7 hr => ?_) h
        obtain ⟨rfl, rfl, h⟩ := hr
        show Go E (d + 1) kc ks mX12_tries 42 [some (vR 214), some (vI x1), some (vI x2), some (vI x3), some (vI x4), some (vI x5), none] [] G D7 Q
        refine g_iconst dX12_tries_42 ?_
        refine h_istore (L' := [some (vR 214), some (vI x1), some (vI x2), some (vI x3), some (vI x4), some (vI x5), some (vI 0)]) dX12_tries_43 (Nat.le_of_ble_eq_true rfl) rfl rfl ?_
        exact Go.drop (by simp only [mm_sub, and_self]) h
set_option maxRecDepth 20000 in
theorem w_X12_tries_45 {E : mmE} {d kc ks : Nat} {G : mmG} {D : mmD} {Q : mmQ} {x1 x2 x3 x4 x5 x6 : Int} (hG : Sh G)  (h : ((iv (D 214 44) ≤ iv x6 → Call E d 0 0 mX12_isWord [vR 214, vI x2, vI x5] G D (retI G (fun z2 D1 => ((iv z2 = iv 0 → ((iv z2 = iv 0 → Go E (d + 1) kc ks mX12_tries 8 [some (vR 214), some (vI x1), some (vI x2), some (vI (x3 + 0)), some (vI (ior x4 (ishl 1 x5))), some (vI (x5 + 1)), none] [] G D1 Q) ∧ (¬ iv z2 = iv 0 → Go E (d + 1) kc ks mX12_tries 8 [some (vR 214), some (vI x1), some (vI x2), some (vI (x3 + 0)), some (vI (ior x4 0)), some (vI (x5 + 1)), none] [] G D1 Q))) ∧ (¬ iv z2 = iv 0 → ((iv z2 = iv 0 → Go E (d + 1) kc ks mX12_tries 8 [some (vR 214), some (vI x1), some (vI x2), some (vI (x3 + 1)), some (vI (ior x4 (ishl 1 x5))), some (vI (x5 + 1)), none] [] G D1 Q) ∧ (¬ iv z2 = iv 0 → Go E (d + 1) kc ks mX12_tries 8 [some (vR 214), some (vI x1), some (vI x2), some (vI (x3 + 1)), some (vI (ior x4 0)), some (vI (x5 + 1)), none] [] G D1 Q))))))) ∧ (¬ iv (D 214 44) ≤ iv x6 → ((0 ≤ x6 ∧ x6 < 4) ∧ Call E d 0 0 mX12_applies [vR 214, vI (D 240 x6)] G D (retV G (fun D3 => Go E (d + 1) kc ks mX12_tries 45 [some (vR 214), some (vI x1), some (vI x2), some (vI x3), some (vI x4), some (vI x5), some (vI (x6 + 1))] [] G D3 Q)))))) : Go E (d + 1) kc ks mX12_tries 45 [some (vR 214), some (vI x1), some (vI x2), some (vI x3), some (vI x4), some (vI x5), some (vI x6)] [] G D Q := by
  refine g_iload dX12_tries_45 rfl ?_
  refine g_aload_n dX12_tries_47 rfl rfl ?_
  refine h_getI (j := 44) dX12_tries_48 f_X12_258_11 rfl rfl (by decide) hG.k214 (by decide) (hG.lt (by decide)) ?_
  refine g_icmp_ge 71 dX12_tries_51 (by decide) ⟨fun hc => ?_, fun hc => ?_⟩
  · replace h := h.1 hc
    refine g_aload_n dX12_tries_71 rfl rfl ?_
    refine g_iload_n dX12_tries_72 rfl rfl ?_
    refine g_iload dX12_tries_73 rfl ?_
    refine g_callV (kc := kc) (kc' := 0) (ks := ks) (ks' := 0) (as := [vI x2, vI x5]) (st := []) (ci := 11) dX12_tries_75 cB_X12_isWord lk_X12_215 in_X12_isWord se_X12_isWord (by decide) rfl rfl (Nat.le_of_ble_eq_true rfl) (Nat.le_of_ble_eq_true rfl) (by decide) (hG.lt (by decide)) (congrArg Prod.fst hG.k214) ?_
    refine Go.to (fun r G' D1 hr => ?_) h
    obtain ⟨rfl, z2, rfl, h⟩ := hr
    show Go E (d + 1) kc ks mX12_tries 78 [some (vR 214), some (vI x1), some (vI x2), some (vI x3), some (vI x4), some (vI x5), some (vI x6)] [vI z2] G D1 Q
    refine h_istore (L' := [some (vR 214), some (vI x1), some (vI x2), some (vI x3), some (vI x4), some (vI x5), some (vI z2)]) dX12_tries_78 (Nat.le_of_ble_eq_true rfl) rfl rfl ?_
    refine g_iload_n dX12_tries_80 rfl rfl ?_
    refine g_iload dX12_tries_81 rfl ?_
    refine g_if_eq 90 dX12_tries_83 (by decide) ⟨fun hc => ?_, fun hc => ?_⟩
    · replace h := h.1 hc
      refine g_iconst dX12_tries_90 ?_
      refine g_iadd dX12_tries_91 ?_
      refine h_istore_n (L' := [some (vR 214), some (vI x1), some (vI x2), some (vI (x3 + 0)), some (vI x4), some (vI x5), some (vI z2)]) dX12_tries_92 rfl (Nat.le_of_ble_eq_true rfl) rfl rfl ?_
      refine g_iload dX12_tries_93 rfl ?_
      refine g_iload dX12_tries_95 rfl ?_
      refine g_if_eq 104 dX12_tries_97 (by decide) ⟨fun hc => ?_, fun hc => ?_⟩
      · replace h := h.1 hc
        refine g_iconst dX12_tries_104 ?_
        refine g_iload dX12_tries_105 rfl ?_
        refine g_ishl dX12_tries_107 ?_
        refine g_ior dX12_tries_108 ?_
        refine h_istore (L' := [some (vR 214), some (vI x1), some (vI x2), some (vI (x3 + 0)), some (vI (ior x4 (ishl 1 x5))), some (vI x5), some (vI z2)]) dX12_tries_109 (Nat.le_of_ble_eq_true rfl) rfl rfl ?_
        refine h_iinc (L' := [some (vR 214), some (vI x1), some (vI x2), some (vI (x3 + 0)), some (vI (ior x4 (ishl 1 x5))), some (vI (x5 + 1)), some (vI z2)]) dX12_tries_111 (Nat.le_of_ble_eq_true rfl) rfl rfl rfl ?_
        refine g_goto 8 dX12_tries_114 (by decide) ?_
        exact Go.drop (by simp only [mm_sub, and_self]) h
      · replace h := h.2 hc
        refine g_iconst dX12_tries_100 ?_
        refine g_goto 108 dX12_tries_101 (by decide) ?_
        refine g_ior dX12_tries_108 ?_
        refine h_istore (L' := [some (vR 214), some (vI x1), some (vI x2), some (vI (x3 + 0)), some (vI (ior x4 0)), some (vI x5), some (vI z2)]) dX12_tries_109 (Nat.le_of_ble_eq_true rfl) rfl rfl ?_
        refine h_iinc (L' := [some (vR 214), some (vI x1), some (vI x2), some (vI (x3 + 0)), some (vI (ior x4 0)), some (vI (x5 + 1)), some (vI z2)]) dX12_tries_111 (Nat.le_of_ble_eq_true rfl) rfl rfl rfl ?_
        refine g_goto 8 dX12_tries_114 (by decide) ?_
        exact Go.drop (by simp only [mm_sub, and_self]) h
    · replace h := h.2 hc
      refine g_iconst dX12_tries_86 ?_
      refine g_goto 91 dX12_tries_87 (by decide) ?_
      refine g_iadd dX12_tries_91 ?_
      refine h_istore_n (L' := [some (vR 214), some (vI x1), some (vI x2), some (vI (x3 + 1)), some (vI x4), some (vI x5), some (vI z2)]) dX12_tries_92 rfl (Nat.le_of_ble_eq_true rfl) rfl rfl ?_
      refine g_iload dX12_tries_93 rfl ?_
      refine g_iload dX12_tries_95 rfl ?_
      refine g_if_eq 104 dX12_tries_97 (by decide) ⟨fun hc => ?_, fun hc => ?_⟩
      · replace h := h.1 hc
        refine g_iconst dX12_tries_104 ?_
        refine g_iload dX12_tries_105 rfl ?_
        refine g_ishl dX12_tries_107 ?_
        refine g_ior dX12_tries_108 ?_
        refine h_istore (L' := [some (vR 214), some (vI x1), some (vI x2), some (vI (x3 + 1)), some (vI (ior x4 (ishl 1 x5))), some (vI x5), some (vI z2)]) dX12_tries_109 (Nat.le_of_ble_eq_true rfl) rfl rfl ?_
        refine h_iinc (L' := [some (vR 214), some (vI x1), some (vI x2), some (vI (x3 + 1)), some (vI (ior x4 (ishl 1 x5))), some (vI (x5 + 1)), some (vI z2)]) dX12_tries_111 (Nat.le_of_ble_eq_true rfl) rfl rfl rfl ?_
        refine g_goto 8 dX12_tries_114 (by decide) ?_
        exact Go.drop (by simp only [mm_sub, and_self]) h
      · replace h := h.2 hc
        refine g_iconst dX12_tries_100 ?_
        refine g_goto 108 dX12_tries_101 (by decide) ?_
        refine g_ior dX12_tries_108 ?_
        refine h_istore (L' := [some (vR 214), some (vI x1), some (vI x2), some (vI (x3 + 1)), some (vI (ior x4 0)), some (vI x5), some (vI z2)]) dX12_tries_109 (Nat.le_of_ble_eq_true rfl) rfl rfl ?_
        refine h_iinc (L' := [some (vR 214), some (vI x1), some (vI x2), some (vI (x3 + 1)), some (vI (ior x4 0)), some (vI (x5 + 1)), some (vI z2)]) dX12_tries_111 (Nat.le_of_ble_eq_true rfl) rfl rfl rfl ?_
        refine g_goto 8 dX12_tries_114 (by decide) ?_
        exact Go.drop (by simp only [mm_sub, and_self]) h
  · replace h := h.2 hc
    refine g_aload_n dX12_tries_54 rfl rfl ?_
    refine g_aload_n dX12_tries_55 rfl rfl ?_
    refine h_getR (j := 42) dX12_tries_56 f_X12_90_11 rfl rfl (by decide) hG.k214 (by decide) (hG.lt (by decide)) hG.r214_42 ?_
    refine g_iload dX12_tries_59 rfl ?_
    refine g_iald dX12_tries_61 hG.k240 (by decide) (hG.lt (by decide)) (by decide) ⟨h.1, ?_⟩
    replace h := h.2
    refine g_callV (kc := kc) (kc' := 0) (ks := ks) (ks' := 0) (as := [vI (D 240 x6)]) (st := []) (ci := 11) dX12_tries_62 cB_X12_applies lk_X12_212 in_X12_applies se_X12_applies (by decide) rfl rfl (Nat.le_of_ble_eq_true rfl) (Nat.le_of_ble_eq_true rfl) (by decide) (hG.lt (by decide)) (congrArg Prod.fst hG.k214) ?_
    refine Go.to (fun r G' D3 hr => ?_) h
    obtain ⟨rfl, rfl, h⟩ := hr
    show Go E (d + 1) kc ks mX12_tries 65 [some (vR 214), some (vI x1), some (vI x2), some (vI x3), some (vI x4), some (vI x5), some (vI x6)] [] G D3 Q
    refine h_iinc (L' := [some (vR 214), some (vI x1), some (vI x2), some (vI x3), some (vI x4), some (vI x5), some (vI (x6 + 1))]) dX12_tries_65 (Nat.le_of_ble_eq_true rfl) rfl rfl rfl ?_
    refine g_goto 45 dX12_tries_68 (by decide) ?_
    exact Go.drop (by simp only [mm_sub, and_self]) h
set_option maxRecDepth 20000 in
theorem w_X12_tries_139 {E : mmE} {d kc ks : Nat} {G : mmG} {D : mmD} {Q : mmQ} {x5 : Int} (hG : Sh G)  (h : ((iv (D 214 44) ≤ iv x5 → Q none G D) ∧ (¬ iv (D 214 44) ≤ iv x5 → ((0 ≤ x5 ∧ x5 < 4) ∧ ((0 ≤ x5 ∧ x5 < 4) ∧ (∀ D1 : mmD, D1 = up2 D 241 x5 (D 240 x5) → Go E (d + 1) kc ks mX12_tries 139 [some (vR 214), none, none, none, none, some (vI (x5 + 1)), none] [] G D1 Q)))))) : Go E (d + 1) kc ks mX12_tries 139 [some (vR 214), none, none, none, none, some (vI x5), none] [] G D Q := by
  refine g_iload dX12_tries_139 rfl ?_
  refine g_aload_n dX12_tries_141 rfl rfl ?_
  refine h_getI (j := 44) dX12_tries_142 f_X12_258_11 rfl rfl (by decide) hG.k214 (by decide) (hG.lt (by decide)) ?_
  refine g_icmp_ge 168 dX12_tries_145 (by decide) ⟨fun hc => ?_, fun hc => ?_⟩
  · replace h := h.1 hc
    exact g_vret dX12_tries_168 rfl h
  · replace h := h.2 hc
    refine g_aload_n dX12_tries_148 rfl rfl ?_
    refine h_getR (j := 43) dX12_tries_149 f_X12_93_11 rfl rfl (by decide) hG.k214 (by decide) (hG.lt (by decide)) hG.r214_43 ?_
    refine g_iload dX12_tries_152 rfl ?_
    refine g_aload_n dX12_tries_154 rfl rfl ?_
    refine h_getR (j := 42) dX12_tries_155 f_X12_90_11 rfl rfl (by decide) hG.k214 (by decide) (hG.lt (by decide)) hG.r214_42 ?_
    refine g_iload dX12_tries_158 rfl ?_
    refine g_iald dX12_tries_160 hG.k240 (by decide) (hG.lt (by decide)) (by decide) ⟨h.1, ?_⟩
    replace h := h.2
    refine g_iast dX12_tries_161 hG.k241 (by decide) (hG.lt (by decide)) (by decide) ⟨h.1, ?_⟩
    generalize hD_D1 : up2 D 241 x5 (D 240 x5) = D1
    replace h := h.2 _ hD_D1.symm
    refine h_iinc (L' := [some (vR 214), none, none, none, none, some (vI (x5 + 1)), none]) dX12_tries_162 (Nat.le_of_ble_eq_true rfl) rfl rfl rfl ?_
    refine g_goto 139 dX12_tries_165 (by decide) ?_
    exact Go.drop (by simp only [mm_sub, and_self]) h
set_option maxRecDepth 20000 in
theorem w_X12_orders {E : mmE} {d kc ks : Nat} {G : mmG} {D : mmD} {Q : mmQ} {x1 x2 x3 x4 : Int} (hG : Sh G)  (h : ((¬ iv x3 = iv (D 214 44) → Go E (d + 1) kc ks mX12_orders 18 [some (vR 214), some (vI x1), some (vI x2), some (vI x3), some (vI x4), some (vI 0)] [] G D Q) ∧ (iv x3 = iv (D 214 44) → Call E d 0 0 mX12_tries [vR 214, vI x1, vI x2] G D (retV G (fun D1 => Q none G D1))))) : Call E (d + 1) kc ks mX12_orders [vR 214, vI x1, vI x2, vI x3, vI x4] G D Q := by
  show Go E (d + 1) kc ks mX12_orders 0 [some (vR 214), some (vI x1), some (vI x2), some (vI x3), some (vI x4), none] [] G D Q
  refine g_iload_n dX12_orders_0 rfl rfl ?_
  refine g_aload_n dX12_orders_1 rfl rfl ?_
  refine h_getI (j := 44) dX12_orders_2 f_X12_258_11 rfl rfl (by decide) hG.k214 (by decide) (hG.lt (by decide)) ?_
  refine g_icmp_ne 15 dX12_orders_5 (by decide) ⟨fun hc => ?_, fun hc => ?_⟩
  · replace h := h.1 hc
    refine g_iconst dX12_orders_15 ?_
    refine h_istore (L' := [some (vR 214), some (vI x1), some (vI x2), some (vI x3), some (vI x4), some (vI 0)]) dX12_orders_16 (Nat.le_of_ble_eq_true rfl) rfl rfl ?_
    exact Go.drop (by simp only [mm_sub, and_self]) h
  · replace h := h.2 hc
    refine g_aload_n dX12_orders_8 rfl rfl ?_
    refine g_iload_n dX12_orders_9 rfl rfl ?_
    refine g_iload_n dX12_orders_10 rfl rfl ?_
    refine g_callV (kc := kc) (kc' := 0) (ks := ks) (ks' := 0) (as := [vI x1, vI x2]) (st := []) (ci := 11) dX12_orders_11 cB_X12_tries lk_X12_267 in_X12_tries se_X12_tries (by decide) rfl rfl (Nat.le_of_ble_eq_true rfl) (Nat.le_of_ble_eq_true rfl) (by decide) (hG.lt (by decide)) (congrArg Prod.fst hG.k214) ?_
    refine Go.to (fun r G' D1 hr => ?_) h
    obtain ⟨rfl, rfl, h⟩ := hr
    show Go E (d + 1) kc ks mX12_orders 14 [some (vR 214), some (vI x1), some (vI x2), some (vI x3), some (vI x4), none] [] G D1 Q
    exact g_vret dX12_orders_14 rfl h
set_option maxRecDepth 20000 in
theorem w_X12_orders_18 {E : mmE} {d kc ks : Nat} {G : mmG} {D : mmD} {Q : mmQ} {x1 x2 x3 x4 x5 : Int} (hG : Sh G)  (h : ((iv (D 214 44) ≤ iv x5 → Q none G D) ∧ (¬ iv (D 214 44) ≤ iv x5 → ((¬ iv (iand (ishr x4 x5) 1) = iv 0 → Go E (d + 1) kc ks mX12_orders 18 [some (vR 214), some (vI x1), some (vI x2), some (vI x3), some (vI x4), some (vI (x5 + 1))] [] G D Q) ∧ (iv (iand (ishr x4 x5) 1) = iv 0 → ((0 ≤ x5 ∧ x5 < 4) ∧ ((0 ≤ x3 ∧ x3 < 4) ∧ (∀ D1 : mmD, D1 = up2 D 240 x3 (D 239 x5) → Call E d 0 0 mX12_orders [vR 214, vI x1, vI x2, vI (x3 + 1), vI (ior x4 (ishl 1 x5))] G D1 (retV G (fun D2 => Go E (d + 1) kc ks mX12_orders 18 [some (vR 214), some (vI x1), some (vI x2), some (vI x3), some (vI x4), some (vI (x5 + 1))] [] G D2 Q)))))))))) : Go E (d + 1) kc ks mX12_orders 18 [some (vR 214), some (vI x1), some (vI x2), some (vI x3), some (vI x4), some (vI x5)] [] G D Q := by
  refine g_iload dX12_orders_18 rfl ?_
  refine g_aload_n dX12_orders_20 rfl rfl ?_
  refine h_getI (j := 44) dX12_orders_21 f_X12_258_11 rfl rfl (by decide) hG.k214 (by decide) (hG.lt (by decide)) ?_
  refine g_icmp_ge 72 dX12_orders_24 (by decide) ⟨fun hc => ?_, fun hc => ?_⟩
  · replace h := h.1 hc
    exact g_vret dX12_orders_72 rfl h
  · replace h := h.2 hc
    refine g_iload dX12_orders_27 rfl ?_
    refine g_iload dX12_orders_29 rfl ?_
    refine g_ishr dX12_orders_31 ?_
    refine g_iconst dX12_orders_32 ?_
    refine g_iand dX12_orders_33 ?_
    refine g_if_ne 66 dX12_orders_34 (by decide) ⟨fun hc => ?_, fun hc => ?_⟩
    · replace h := h.1 hc
      refine h_iinc (L' := [some (vR 214), some (vI x1), some (vI x2), some (vI x3), some (vI x4), some (vI (x5 + 1))]) dX12_orders_66 (Nat.le_of_ble_eq_true rfl) rfl rfl rfl ?_
      refine g_goto 18 dX12_orders_69 (by decide) ?_
      exact Go.drop (by simp only [mm_sub, and_self]) h
    · replace h := h.2 hc
      refine g_aload_n dX12_orders_37 rfl rfl ?_
      refine h_getR (j := 42) dX12_orders_38 f_X12_90_11 rfl rfl (by decide) hG.k214 (by decide) (hG.lt (by decide)) hG.r214_42 ?_
      refine g_iload_n dX12_orders_41 rfl rfl ?_
      refine g_aload_n dX12_orders_42 rfl rfl ?_
      refine h_getR (j := 41) dX12_orders_43 f_X12_87_11 rfl rfl (by decide) hG.k214 (by decide) (hG.lt (by decide)) hG.r214_41 ?_
      refine g_iload dX12_orders_46 rfl ?_
      refine g_iald dX12_orders_48 hG.k239 (by decide) (hG.lt (by decide)) (by decide) ⟨h.1, ?_⟩
      replace h := h.2
      refine g_iast dX12_orders_49 hG.k240 (by decide) (hG.lt (by decide)) (by decide) ⟨h.1, ?_⟩
      generalize hD_D1 : up2 D 240 x3 (D 239 x5) = D1
      replace h := h.2 _ hD_D1.symm
      refine g_aload_n dX12_orders_50 rfl rfl ?_
      refine g_iload_n dX12_orders_51 rfl rfl ?_
      refine g_iload_n dX12_orders_52 rfl rfl ?_
      refine g_iload_n dX12_orders_53 rfl rfl ?_
      refine g_iconst dX12_orders_54 ?_
      refine g_iadd dX12_orders_55 ?_
      refine g_iload dX12_orders_56 rfl ?_
      refine g_iconst dX12_orders_58 ?_
      refine g_iload dX12_orders_59 rfl ?_
      refine g_ishl dX12_orders_61 ?_
      refine g_ior dX12_orders_62 ?_
      refine g_callV (kc := kc) (kc' := 0) (ks := ks) (ks' := 0) (as := [vI x1, vI x2, vI (x3 + 1), vI (ior x4 (ishl 1 x5))]) (st := []) (ci := 11) dX12_orders_63 cB_X12_orders lk_X12_270 in_X12_orders se_X12_orders (by decide) rfl rfl (Nat.le_of_ble_eq_true rfl) (Nat.le_of_ble_eq_true rfl) (by decide) (hG.lt (by decide)) (congrArg Prod.fst hG.k214) ?_
      refine Go.to (fun r G' D2 hr => ?_) h
      obtain ⟨rfl, rfl, h⟩ := hr
      show Go E (d + 1) kc ks mX12_orders 66 [some (vR 214), some (vI x1), some (vI x2), some (vI x3), some (vI x4), some (vI x5)] [] G D2 Q
      refine h_iinc (L' := [some (vR 214), some (vI x1), some (vI x2), some (vI x3), some (vI x4), some (vI (x5 + 1))]) dX12_orders_66 (Nat.le_of_ble_eq_true rfl) rfl rfl rfl ?_
      refine g_goto 18 dX12_orders_69 (by decide) ?_
      exact Go.drop (by simp only [mm_sub, and_self]) h
set_option maxRecDepth 20000 in
theorem w_X12_count1 {E : mmE} {d kc ks : Nat} {G : mmG} {D : mmD} {Q : mmQ} {x0 : Int} (hG : Sh G)  (h : Go E d kc ks mX12_count1 4 [some (vI x0), some (vI 0), some (vI 0)] [] G D Q) : Call E d kc ks mX12_count1 [vI x0] G D Q := by
  show Go E d kc ks mX12_count1 0 [some (vI x0), none, none] [] G D Q
  refine g_iconst dX12_count1_0 ?_
  refine h_istore_n (L' := [some (vI x0), some (vI 0), none]) dX12_count1_1 rfl (Nat.le_of_ble_eq_true rfl) rfl rfl ?_
  refine g_iconst dX12_count1_2 ?_
  refine h_istore_n (L' := [some (vI x0), some (vI 0), some (vI 0)]) dX12_count1_3 rfl (Nat.le_of_ble_eq_true rfl) rfl rfl ?_
  exact Go.drop (by simp only [mm_sub, and_self]) h
set_option maxRecDepth 20000 in
theorem w_X12_count1_4 {E : mmE} {d kc ks : Nat} {G : mmG} {D : mmD} {Q : mmQ} {x0 x1 x2 : Int} (hG : Sh G)  (h : ((iv 31 ≤ iv x2 → Q (some (vI x1)) G D) ∧ (¬ iv 31 ≤ iv x2 → Go E d kc ks mX12_count1 4 [some (vI x0), some (vI (x1 + (iand (ishr x0 x2) 1))), some (vI (x2 + 1))] [] G D Q))) : Go E d kc ks mX12_count1 4 [some (vI x0), some (vI x1), some (vI x2)] [] G D Q := by
  refine g_iload_n dX12_count1_4 rfl rfl ?_
  refine g_bipush dX12_count1_5 bp_31 ?_
  refine g_icmp_ge 24 dX12_count1_7 (by decide) ⟨fun hc => ?_, fun hc => ?_⟩
  · replace h := h.1 hc
    refine g_iload_n dX12_count1_24 rfl rfl ?_
    exact g_iret dX12_count1_25 rfl h
  · replace h := h.2 hc
    refine g_iload_n dX12_count1_10 rfl rfl ?_
    refine g_iload_n dX12_count1_11 rfl rfl ?_
    refine g_iload_n dX12_count1_12 rfl rfl ?_
    refine g_ishr dX12_count1_13 ?_
    refine g_iconst dX12_count1_14 ?_
    refine g_iand dX12_count1_15 ?_
    refine g_iadd dX12_count1_16 ?_
    refine h_istore_n (L' := [some (vI x0), some (vI (x1 + (iand (ishr x0 x2) 1))), some (vI x2)]) dX12_count1_17 rfl (Nat.le_of_ble_eq_true rfl) rfl rfl ?_
    refine h_iinc (L' := [some (vI x0), some (vI (x1 + (iand (ishr x0 x2) 1))), some (vI (x2 + 1))]) dX12_count1_18 (Nat.le_of_ble_eq_true rfl) rfl rfl rfl ?_
    refine g_goto 4 dX12_count1_21 (by decide) ?_
    exact Go.drop (by simp only [mm_sub, and_self]) h
set_option maxRecDepth 20000 in
theorem w_X12_best {E : mmE} {d kc ks : Nat} {G : mmG} {D : mmD} {Q : mmQ} {x1 x2 x3 x4 : Int} (hG : Sh G)  (h : Call E d 0 0 mX12_isTongue [vR 214, vI x1] G D (retI G (fun z2 D1 => ((iv z2 = iv 0 → Q (some (vI (-1))) G D1) ∧ (¬ iv z2 = iv 0 → Call E d 0 0 mX12_isTongue [vR 214, vI x2] G D1 (retI G (fun z4 D3 => ((iv z4 = iv 0 → Q (some (vI (-1))) G D3) ∧ (¬ iv z4 = iv 0 → ((iv (-2) ≤ iv x4 → ((iv x1 = iv x2 → Q (some (vI (-2))) G D3) ∧ (¬ iv x1 = iv x2 → Call E d 0 0 mX12_in [vI x3, vI 1, vI ((ishl 1 (D3 214 3)) - 1)] G D3 (retI G (fun z6 D5 => ((iv z6 = iv 0 → Q (some (vI (-2))) G D5) ∧ (¬ iv z6 = iv 0 → Call E d 0 0 mX12_count1 [vI x3] G D5 (retI G (fun z8 D7 => ((iv z8 ≤ iv 4 → (∀ D9 : mmD, D9 = up2 D7 214 44 0 → Go E (d + 1) kc ks mX12_best 65 [some (vR 214), some (vI x1), some (vI x2), some (vI x3), some (vI x4), some (vI 0)] [] G D9 Q)) ∧ (¬ iv z8 ≤ iv 4 → Q (some (vI (-2))) G D7))))))))))) ∧ (¬ iv (-2) ≤ iv x4 → Q (some (vI (-1))) G D3))))))))))) : Call E (d + 1) kc ks mX12_best [vR 214, vI x1, vI x2, vI x3, vI x4] G D Q := by
  show Go E (d + 1) kc ks mX12_best 0 [some (vR 214), some (vI x1), some (vI x2), some (vI x3), some (vI x4), none] [] G D Q
  refine g_aload_n dX12_best_0 rfl rfl ?_
  refine g_iload_n dX12_best_1 rfl rfl ?_
  refine g_callV (kc := kc) (kc' := 0) (ks := ks) (ks' := 0) (as := [vI x1]) (st := []) (ci := 11) dX12_best_2 cB_X12_isTongue lk_X12_130 in_X12_isTongue se_X12_isTongue (by decide) rfl rfl (Nat.le_of_ble_eq_true rfl) (Nat.le_of_ble_eq_true rfl) (by decide) (hG.lt (by decide)) (congrArg Prod.fst hG.k214) ?_
  refine Go.to (fun r G' D1 hr => ?_) h
  obtain ⟨rfl, z2, rfl, h⟩ := hr
  show Go E (d + 1) kc ks mX12_best 5 [some (vR 214), some (vI x1), some (vI x2), some (vI x3), some (vI x4), none] [vI z2] G D1 Q
  refine g_if_eq 23 dX12_best_5 (by decide) ⟨fun hc => ?_, fun hc => ?_⟩
  · replace h := h.1 hc
    refine g_iconst dX12_best_23 ?_
    exact g_iret dX12_best_24 rfl h
  · replace h := h.2 hc
    refine g_aload_n dX12_best_8 rfl rfl ?_
    refine g_iload_n dX12_best_9 rfl rfl ?_
    refine g_callV (kc := kc) (kc' := 0) (ks := ks) (ks' := 0) (as := [vI x2]) (st := []) (ci := 11) dX12_best_10 cB_X12_isTongue lk_X12_130 in_X12_isTongue se_X12_isTongue (by decide) rfl rfl (Nat.le_of_ble_eq_true rfl) (Nat.le_of_ble_eq_true rfl) (by decide) (hG.lt (by decide)) (congrArg Prod.fst hG.k214) ?_
    refine Go.to (fun r G' D3 hr => ?_) h
    obtain ⟨rfl, z4, rfl, h⟩ := hr
    show Go E (d + 1) kc ks mX12_best 13 [some (vR 214), some (vI x1), some (vI x2), some (vI x3), some (vI x4), none] [vI z4] G D3 Q
    refine g_if_eq 23 dX12_best_13 (by decide) ⟨fun hc => ?_, fun hc => ?_⟩
    · replace h := h.1 hc
      refine g_iconst dX12_best_23 ?_
      exact g_iret dX12_best_24 rfl h
    · replace h := h.2 hc
      refine g_iload dX12_best_16 rfl ?_
      refine g_bipush dX12_best_18 bp_m2 ?_
      refine g_icmp_ge 25 dX12_best_20 (by decide) ⟨fun hc => ?_, fun hc => ?_⟩
      · replace h := h.1 hc
        refine g_iload_n dX12_best_25 rfl rfl ?_
        refine g_iload_n dX12_best_26 rfl rfl ?_
        refine g_icmp_eq 54 dX12_best_27 (by decide) ⟨fun hc => ?_, fun hc => ?_⟩
        · replace h := h.1 hc
          refine g_bipush dX12_best_54 bp_m2 ?_
          exact g_iret dX12_best_56 rfl h
        · replace h := h.2 hc
          refine g_iload_n dX12_best_30 rfl rfl ?_
          refine g_iconst dX12_best_31 ?_
          refine g_iconst dX12_best_32 ?_
          refine g_aload_n dX12_best_33 rfl rfl ?_
          refine h_getI (j := 3) dX12_best_34 f_X12_127_11 rfl rfl (by decide) hG.k214 (by decide) (hG.lt (by decide)) ?_
          refine g_ishl dX12_best_37 ?_
          refine g_iconst dX12_best_38 ?_
          refine g_isub dX12_best_39 ?_
          refine g_callS (kc := kc) (kc' := 0) (ks := ks) (ks' := 0) (as := [vI x3, vI 1, vI ((ishl 1 (D3 214 3)) - 1)]) (st := []) dX12_best_40 cB_X12_in lk_X12_123 st_X12_in rfl (Nat.le_of_ble_eq_true rfl) (Nat.le_of_ble_eq_true rfl) ?_
          refine Go.to (fun r G' D5 hr => ?_) h
          obtain ⟨rfl, z6, rfl, h⟩ := hr
          show Go E (d + 1) kc ks mX12_best 43 [some (vR 214), some (vI x1), some (vI x2), some (vI x3), some (vI x4), none] [vI z6] G D5 Q
          refine g_if_eq 54 dX12_best_43 (by decide) ⟨fun hc => ?_, fun hc => ?_⟩
          · replace h := h.1 hc
            refine g_bipush dX12_best_54 bp_m2 ?_
            exact g_iret dX12_best_56 rfl h
          · replace h := h.2 hc
            refine g_iload_n dX12_best_46 rfl rfl ?_
            refine g_callS (kc := kc) (kc' := 0) (ks := ks) (ks' := 0) (as := [vI x3]) (st := []) dX12_best_47 cB_X12_count1 lk_X12_273 st_X12_count1 rfl (Nat.le_of_ble_eq_true rfl) (Nat.le_of_ble_eq_true rfl) ?_
            refine Go.to (fun r G' D7 hr => ?_) h
            obtain ⟨rfl, z8, rfl, h⟩ := hr
            show Go E (d + 1) kc ks mX12_best 50 [some (vR 214), some (vI x1), some (vI x2), some (vI x3), some (vI x4), none] [vI z8] G D7 Q
            refine g_iconst dX12_best_50 ?_
            refine g_icmp_le 57 dX12_best_51 (by decide) ⟨fun hc => ?_, fun hc => ?_⟩
            · replace h := h.1 hc
              refine g_aload_n dX12_best_57 rfl rfl ?_
              refine g_iconst dX12_best_58 ?_
              refine h_putI (j := 44) dX12_best_59 f_X12_258_11 (Or.inl (mm_finI (by decide +kernel))) rfl rfl (by decide) hG.k214 (by decide) (hG.lt (by decide)) ?_
              generalize hD_D9 : up2 D7 214 44 0 = D9
              replace h := h _ hD_D9.symm
              refine g_iconst dX12_best_62 ?_
              refine h_istore (L' := [some (vR 214), some (vI x1), some (vI x2), some (vI x3), some (vI x4), some (vI 0)]) dX12_best_63 (Nat.le_of_ble_eq_true rfl) rfl rfl ?_
              exact Go.drop (by simp only [mm_sub, and_self]) h
            · replace h := h.2 hc
              refine g_bipush dX12_best_54 bp_m2 ?_
              exact g_iret dX12_best_56 rfl h
      · replace h := h.2 hc
        refine g_iconst dX12_best_23 ?_
        exact g_iret dX12_best_24 rfl h
set_option maxRecDepth 20000 in
theorem w_X12_best_65 {E : mmE} {d kc ks : Nat} {G : mmG} {D : mmD} {Q : mmQ} {x1 x2 x3 x4 x5 : Int} (hG : Sh G)  (h : ((iv (D 214 3) ≤ iv x5 → (∀ D1 : mmD, D1 = up2 D 214 45 (-1) → Call E d 0 0 mX12_orders [vR 214, vI x1, vI x2, vI 0, vI 0] G D1 (retV G (fun D2 => ((iv 0 ≤ iv x4 → ((iv (D2 214 44) ≤ iv x4 → Q (some (vI (-1))) G D2) ∧ (¬ iv (D2 214 44) ≤ iv x4 → ((0 ≤ x4 ∧ x4 < 4) ∧ Q (some (vI (D2 241 x4))) G D2)))) ∧ (¬ iv 0 ≤ iv x4 → ((¬ iv x4 = iv (-1) → Q (some (vI (D2 214 46))) G D2) ∧ (iv x4 = iv (-1) → Q (some (vI (D2 214 45))) G D2)))))))) ∧ (¬ iv (D 214 3) ≤ iv x5 → ((¬ iv (iand (ishr x3 x5) 1) = iv 1 → Go E (d + 1) kc ks mX12_best 65 [some (vR 214), some (vI x1), some (vI x2), some (vI x3), some (vI x4), some (vI (x5 + 1))] [] G D Q) ∧ (iv (iand (ishr x3 x5) 1) = iv 1 → ((0 ≤ (D 214 44) ∧ (D 214 44) < 4) ∧ (∀ D4 : mmD, D4 = up2 D 239 (D 214 44) x5 → (∀ D5 : mmD, D5 = up2 D4 214 44 ((D4 214 44) + 1) → Go E (d + 1) kc ks mX12_best 65 [some (vR 214), some (vI x1), some (vI x2), some (vI x3), some (vI x4), some (vI (x5 + 1))] [] G D5 Q)))))))) : Go E (d + 1) kc ks mX12_best 65 [some (vR 214), some (vI x1), some (vI x2), some (vI x3), some (vI x4), some (vI x5)] [] G D Q := by
  refine g_iload dX12_best_65 rfl ?_
  refine g_aload_n dX12_best_67 rfl rfl ?_
  refine h_getI (j := 3) dX12_best_68 f_X12_127_11 rfl rfl (by decide) hG.k214 (by decide) (hG.lt (by decide)) ?_
  refine g_icmp_ge 111 dX12_best_71 (by decide) ⟨fun hc => ?_, fun hc => ?_⟩
  · replace h := h.1 hc
    refine g_aload_n dX12_best_111 rfl rfl ?_
    refine g_iconst dX12_best_112 ?_
    refine h_putI (j := 45) dX12_best_113 f_X12_261_11 (Or.inl (mm_finI (by decide +kernel))) rfl rfl (by decide) hG.k214 (by decide) (hG.lt (by decide)) ?_
    generalize hD_D1 : up2 D 214 45 (-1) = D1
    replace h := h _ hD_D1.symm
    refine g_aload_n dX12_best_116 rfl rfl ?_
    refine g_iload_n dX12_best_117 rfl rfl ?_
    refine g_iload_n dX12_best_118 rfl rfl ?_
    refine g_iconst dX12_best_119 ?_
    refine g_iconst dX12_best_120 ?_
    refine g_callV (kc := kc) (kc' := 0) (ks := ks) (ks' := 0) (as := [vI x1, vI x2, vI 0, vI 0]) (st := []) (ci := 11) dX12_best_121 cB_X12_orders lk_X12_270 in_X12_orders se_X12_orders (by decide) rfl rfl (Nat.le_of_ble_eq_true rfl) (Nat.le_of_ble_eq_true rfl) (by decide) (hG.lt (by decide)) (congrArg Prod.fst hG.k214) ?_
    refine Go.to (fun r G' D2 hr => ?_) h
    obtain ⟨rfl, rfl, h⟩ := hr
    show Go E (d + 1) kc ks mX12_best 124 [some (vR 214), some (vI x1), some (vI x2), some (vI x3), some (vI x4), some (vI x5)] [] G D2 Q
    refine g_iload dX12_best_124 rfl ?_
    refine g_if_ge 147 dX12_best_126 (by decide) ⟨fun hc => ?_, fun hc => ?_⟩
    · replace h := h.1 hc
      refine g_iload dX12_best_147 rfl ?_
      refine g_aload_n dX12_best_149 rfl rfl ?_
      refine h_getI (j := 44) dX12_best_150 f_X12_258_11 rfl rfl (by decide) hG.k214 (by decide) (hG.lt (by decide)) ?_
      refine g_icmp_ge 166 dX12_best_153 (by decide) ⟨fun hc => ?_, fun hc => ?_⟩
      · replace h := h.1 hc
        refine g_iconst dX12_best_166 ?_
        exact g_iret dX12_best_167 rfl h
      · replace h := h.2 hc
        refine g_aload_n dX12_best_156 rfl rfl ?_
        refine h_getR (j := 43) dX12_best_157 f_X12_93_11 rfl rfl (by decide) hG.k214 (by decide) (hG.lt (by decide)) hG.r214_43 ?_
        refine g_iload dX12_best_160 rfl ?_
        refine g_iald dX12_best_162 hG.k241 (by decide) (hG.lt (by decide)) (by decide) ⟨h.1, ?_⟩
        replace h := h.2
        refine g_goto 167 dX12_best_163 (by decide) ?_
        exact g_iret dX12_best_167 rfl h
    · replace h := h.2 hc
      refine g_iload dX12_best_129 rfl ?_
      refine g_iconst dX12_best_131 ?_
      refine g_icmp_ne 142 dX12_best_132 (by decide) ⟨fun hc => ?_, fun hc => ?_⟩
      · replace h := h.1 hc
        refine g_aload_n dX12_best_142 rfl rfl ?_
        refine h_getI (j := 46) dX12_best_143 f_X12_264_11 rfl rfl (by decide) hG.k214 (by decide) (hG.lt (by decide)) ?_
        exact g_iret dX12_best_146 rfl h
      · replace h := h.2 hc
        refine g_aload_n dX12_best_135 rfl rfl ?_
        refine h_getI (j := 45) dX12_best_136 f_X12_261_11 rfl rfl (by decide) hG.k214 (by decide) (hG.lt (by decide)) ?_
        refine g_goto 146 dX12_best_139 (by decide) ?_
        exact g_iret dX12_best_146 rfl h
  · replace h := h.2 hc
    refine g_iload_n dX12_best_74 rfl rfl ?_
    refine g_iload dX12_best_75 rfl ?_
    refine g_ishr dX12_best_77 ?_
    refine g_iconst dX12_best_78 ?_
    refine g_iand dX12_best_79 ?_
    refine g_iconst dX12_best_80 ?_
    refine g_icmp_ne 105 dX12_best_81 (by decide) ⟨fun hc => ?_, fun hc => ?_⟩
    · replace h := h.1 hc
      refine h_iinc (L' := [some (vR 214), some (vI x1), some (vI x2), some (vI x3), some (vI x4), some (vI (x5 + 1))]) dX12_best_105 (Nat.le_of_ble_eq_true rfl) rfl rfl rfl ?_
      refine g_goto 65 dX12_best_108 (by decide) ?_
      exact Go.drop (by simp only [mm_sub, and_self]) h
    · replace h := h.2 hc
      refine g_aload_n dX12_best_84 rfl rfl ?_
      refine h_getR (j := 41) dX12_best_85 f_X12_87_11 rfl rfl (by decide) hG.k214 (by decide) (hG.lt (by decide)) hG.r214_41 ?_
      refine g_aload_n dX12_best_88 rfl rfl ?_
      refine h_getI (j := 44) dX12_best_89 f_X12_258_11 rfl rfl (by decide) hG.k214 (by decide) (hG.lt (by decide)) ?_
      refine g_iload dX12_best_92 rfl ?_
      refine g_iast dX12_best_94 hG.k239 (by decide) (hG.lt (by decide)) (by decide) ⟨h.1, ?_⟩
      generalize hD_D4 : up2 D 239 (D 214 44) x5 = D4
      replace h := h.2 _ hD_D4.symm
      refine g_aload_n dX12_best_95 rfl rfl ?_
      refine g_dup dX12_best_96 (fun _ h9 => by cases h9) ?_
      refine h_getI (j := 44) dX12_best_97 f_X12_258_11 rfl rfl (by decide) hG.k214 (by decide) (hG.lt (by decide)) ?_
      refine g_iconst dX12_best_100 ?_
      refine g_iadd dX12_best_101 ?_
      refine h_putI (j := 44) dX12_best_102 f_X12_258_11 (Or.inl (mm_finI (by decide +kernel))) rfl rfl (by decide) hG.k214 (by decide) (hG.lt (by decide)) ?_
      generalize hD_D5 : up2 D4 214 44 ((D4 214 44) + 1) = D5
      replace h := h _ hD_D5.symm
      refine h_iinc (L' := [some (vR 214), some (vI x1), some (vI x2), some (vI x3), some (vI x4), some (vI (x5 + 1))]) dX12_best_105 (Nat.le_of_ble_eq_true rfl) rfl rfl rfl ?_
      refine g_goto 65 dX12_best_108 (by decide) ?_
      exact Go.drop (by simp only [mm_sub, and_self]) h
set_option maxRecDepth 20000 in
theorem w_X12_feeds {E : mmE} {d kc ks : Nat} {G : mmG} {D : mmD} {Q : mmQ} {x1 x2 x3 : Int} (hG : Sh G)  (h : Call E d 0 0 mX12_isTongue [vR 214, vI x1] G D (retI G (fun z2 D1 => ((iv z2 = iv 0 → Q (some (vI (-1))) G D1) ∧ (¬ iv z2 = iv 0 → Call E d 0 0 mX12_isLaw [vR 214, vI x2] G D1 (retI G (fun z4 D3 => ((iv z4 = iv 0 → Q (some (vI (-1))) G D3) ∧ (¬ iv z4 = iv 0 → Call E d 0 0 mX12_isLaw [vR 214, vI x3] G D3 (retI G (fun z6 D5 => ((¬ iv z6 = iv 0 → ((¬ iv x2 = iv x3 → Go E (d + 1) kc ks mX12_feeds 37 [some (vR 214), some (vI x1), some (vI x2), some (vI x3), some (vI 0), none, none, none] [] G D5 Q) ∧ (iv x2 = iv x3 → Q (some (vI (-2))) G D5))) ∧ (iv z6 = iv 0 → Q (some (vI (-1))) G D5))))))))))))) : Call E (d + 1) kc ks mX12_feeds [vR 214, vI x1, vI x2, vI x3] G D Q := by
  show Go E (d + 1) kc ks mX12_feeds 0 [some (vR 214), some (vI x1), some (vI x2), some (vI x3), none, none, none, none] [] G D Q
  refine g_aload_n dX12_feeds_0 rfl rfl ?_
  refine g_iload_n dX12_feeds_1 rfl rfl ?_
  refine g_callV (kc := kc) (kc' := 0) (ks := ks) (ks' := 0) (as := [vI x1]) (st := []) (ci := 11) dX12_feeds_2 cB_X12_isTongue lk_X12_130 in_X12_isTongue se_X12_isTongue (by decide) rfl rfl (Nat.le_of_ble_eq_true rfl) (Nat.le_of_ble_eq_true rfl) (by decide) (hG.lt (by decide)) (congrArg Prod.fst hG.k214) ?_
  refine Go.to (fun r G' D1 hr => ?_) h
  obtain ⟨rfl, z2, rfl, h⟩ := hr
  show Go E (d + 1) kc ks mX12_feeds 5 [some (vR 214), some (vI x1), some (vI x2), some (vI x3), none, none, none, none] [vI z2] G D1 Q
  refine g_if_eq 24 dX12_feeds_5 (by decide) ⟨fun hc => ?_, fun hc => ?_⟩
  · replace h := h.1 hc
    refine g_iconst dX12_feeds_24 ?_
    exact g_iret dX12_feeds_25 rfl h
  · replace h := h.2 hc
    refine g_aload_n dX12_feeds_8 rfl rfl ?_
    refine g_iload_n dX12_feeds_9 rfl rfl ?_
    refine g_callV (kc := kc) (kc' := 0) (ks := ks) (ks' := 0) (as := [vI x2]) (st := []) (ci := 11) dX12_feeds_10 cB_X12_isLaw lk_X12_203 in_X12_isLaw se_X12_isLaw (by decide) rfl rfl (Nat.le_of_ble_eq_true rfl) (Nat.le_of_ble_eq_true rfl) (by decide) (hG.lt (by decide)) (congrArg Prod.fst hG.k214) ?_
    refine Go.to (fun r G' D3 hr => ?_) h
    obtain ⟨rfl, z4, rfl, h⟩ := hr
    show Go E (d + 1) kc ks mX12_feeds 13 [some (vR 214), some (vI x1), some (vI x2), some (vI x3), none, none, none, none] [vI z4] G D3 Q
    refine g_if_eq 24 dX12_feeds_13 (by decide) ⟨fun hc => ?_, fun hc => ?_⟩
    · replace h := h.1 hc
      refine g_iconst dX12_feeds_24 ?_
      exact g_iret dX12_feeds_25 rfl h
    · replace h := h.2 hc
      refine g_aload_n dX12_feeds_16 rfl rfl ?_
      refine g_iload_n dX12_feeds_17 rfl rfl ?_
      refine g_callV (kc := kc) (kc' := 0) (ks := ks) (ks' := 0) (as := [vI x3]) (st := []) (ci := 11) dX12_feeds_18 cB_X12_isLaw lk_X12_203 in_X12_isLaw se_X12_isLaw (by decide) rfl rfl (Nat.le_of_ble_eq_true rfl) (Nat.le_of_ble_eq_true rfl) (by decide) (hG.lt (by decide)) (congrArg Prod.fst hG.k214) ?_
      refine Go.to (fun r G' D5 hr => ?_) h
      obtain ⟨rfl, z6, rfl, h⟩ := hr
      show Go E (d + 1) kc ks mX12_feeds 21 [some (vR 214), some (vI x1), some (vI x2), some (vI x3), none, none, none, none] [vI z6] G D5 Q
      refine g_if_ne 26 dX12_feeds_21 (by decide) ⟨fun hc => ?_, fun hc => ?_⟩
      · replace h := h.1 hc
        refine g_iload_n dX12_feeds_26 rfl rfl ?_
        refine g_iload_n dX12_feeds_27 rfl rfl ?_
        refine g_icmp_ne 34 dX12_feeds_28 (by decide) ⟨fun hc => ?_, fun hc => ?_⟩
        · replace h := h.1 hc
          refine g_iconst dX12_feeds_34 ?_
          refine h_istore (L' := [some (vR 214), some (vI x1), some (vI x2), some (vI x3), some (vI 0), none, none, none]) dX12_feeds_35 (Nat.le_of_ble_eq_true rfl) rfl rfl ?_
          exact Go.drop (by simp only [mm_sub, and_self]) h
        · replace h := h.2 hc
          refine g_bipush dX12_feeds_31 bp_m2 ?_
          exact g_iret dX12_feeds_33 rfl h
      · replace h := h.2 hc
        refine g_iconst dX12_feeds_24 ?_
        exact g_iret dX12_feeds_25 rfl h
set_option maxRecDepth 20000 in
theorem w_X12_feeds_37 {E : mmE} {d kc ks : Nat} {G : mmG} {D : mmD} {Q : mmQ} {x1 x2 x3 x4 : Int} (hG : Sh G)  (h : ((iv 10 ≤ iv x4 → Q (some (vI 0)) G D) ∧ (¬ iv 10 ≤ iv x4 → Call E d 0 0 mX12_has [vR 214, vI x1, vI x4] G D (retI G (fun z2 D1 => ((iv z2 = iv 0 → Go E (d + 1) kc ks mX12_feeds 37 [some (vR 214), some (vI x1), some (vI x2), some (vI x3), some (vI (x4 + 1)), none, none, none] [] G D1 Q) ∧ (¬ iv z2 = iv 0 → Call E d 0 0 mX12_takes [vR 214, vI x1, vI x4] G D1 (retV G (fun D3 => Call E d 0 0 mX12_applies [vR 214, vI x2] G D3 (retV G (fun D5 => Call E d 0 0 mX12_applies [vR 214, vI x3] G D5 (retV G (fun D7 => Go E (d + 1) kc ks mX12_feeds 80 [some (vR 214), some (vI x1), some (vI x2), some (vI x3), some (vI x4), some (vI (D7 214 35)), some (vI 0), none] [] G D7 Q))))))))))))) : Go E (d + 1) kc ks mX12_feeds 37 [some (vR 214), some (vI x1), some (vI x2), some (vI x3), some (vI x4), none, none, none] [] G D Q := by
  refine g_iload dX12_feeds_37 rfl ?_
  refine g_bipush dX12_feeds_39 bp_10 ?_
  refine g_icmp_ge 198 dX12_feeds_41 (by decide) ⟨fun hc => ?_, fun hc => ?_⟩
  · replace h := h.1 hc
    refine g_iconst dX12_feeds_198 ?_
    exact g_iret dX12_feeds_199 rfl h
  · replace h := h.2 hc
    refine g_aload_n dX12_feeds_44 rfl rfl ?_
    refine g_iload_n dX12_feeds_45 rfl rfl ?_
    refine g_iload dX12_feeds_46 rfl ?_
    refine g_callV (kc := kc) (kc' := 0) (ks := ks) (ks' := 0) (as := [vI x1, vI x4]) (st := []) (ci := 11) dX12_feeds_48 cB_X12_has lk_X12_228 in_X12_has se_X12_has (by decide) rfl rfl (Nat.le_of_ble_eq_true rfl) (Nat.le_of_ble_eq_true rfl) (by decide) (hG.lt (by decide)) (congrArg Prod.fst hG.k214) ?_
    refine Go.to (fun r G' D1 hr => ?_) h
    obtain ⟨rfl, z2, rfl, h⟩ := hr
    show Go E (d + 1) kc ks mX12_feeds 51 [some (vR 214), some (vI x1), some (vI x2), some (vI x3), some (vI x4), none, none, none] [vI z2] G D1 Q
    refine g_if_eq 192 dX12_feeds_51 (by decide) ⟨fun hc => ?_, fun hc => ?_⟩
    · replace h := h.1 hc
      refine h_iinc (L' := [some (vR 214), some (vI x1), some (vI x2), some (vI x3), some (vI (x4 + 1)), none, none, none]) dX12_feeds_192 (Nat.le_of_ble_eq_true rfl) rfl rfl rfl ?_
      refine g_goto 37 dX12_feeds_195 (by decide) ?_
      exact Go.drop (by simp only [mm_sub, and_self]) h
    · replace h := h.2 hc
      refine g_aload_n dX12_feeds_54 rfl rfl ?_
      refine g_iload_n dX12_feeds_55 rfl rfl ?_
      refine g_iload dX12_feeds_56 rfl ?_
      refine g_callV (kc := kc) (kc' := 0) (ks := ks) (ks' := 0) (as := [vI x1, vI x4]) (st := []) (ci := 11) dX12_feeds_58 cB_X12_takes lk_X12_209 in_X12_takes se_X12_takes (by decide) rfl rfl (Nat.le_of_ble_eq_true rfl) (Nat.le_of_ble_eq_true rfl) (by decide) (hG.lt (by decide)) (congrArg Prod.fst hG.k214) ?_
      refine Go.to (fun r G' D3 hr => ?_) h
      obtain ⟨rfl, rfl, h⟩ := hr
      show Go E (d + 1) kc ks mX12_feeds 61 [some (vR 214), some (vI x1), some (vI x2), some (vI x3), some (vI x4), none, none, none] [] G D3 Q
      refine g_aload_n dX12_feeds_61 rfl rfl ?_
      refine g_iload_n dX12_feeds_62 rfl rfl ?_
      refine g_callV (kc := kc) (kc' := 0) (ks := ks) (ks' := 0) (as := [vI x2]) (st := []) (ci := 11) dX12_feeds_63 cB_X12_applies lk_X12_212 in_X12_applies se_X12_applies (by decide) rfl rfl (Nat.le_of_ble_eq_true rfl) (Nat.le_of_ble_eq_true rfl) (by decide) (hG.lt (by decide)) (congrArg Prod.fst hG.k214) ?_
      refine Go.to (fun r G' D5 hr => ?_) h
      obtain ⟨rfl, rfl, h⟩ := hr
      show Go E (d + 1) kc ks mX12_feeds 66 [some (vR 214), some (vI x1), some (vI x2), some (vI x3), some (vI x4), none, none, none] [] G D5 Q
      refine g_aload_n dX12_feeds_66 rfl rfl ?_
      refine g_iload_n dX12_feeds_67 rfl rfl ?_
      refine g_callV (kc := kc) (kc' := 0) (ks := ks) (ks' := 0) (as := [vI x3]) (st := []) (ci := 11) dX12_feeds_68 cB_X12_applies lk_X12_212 in_X12_applies se_X12_applies (by decide) rfl rfl (Nat.le_of_ble_eq_true rfl) (Nat.le_of_ble_eq_true rfl) (by decide) (hG.lt (by decide)) (congrArg Prod.fst hG.k214) ?_
      refine Go.to (fun r G' D7 hr => ?_) h
      obtain ⟨rfl, rfl, h⟩ := hr
      show Go E (d + 1) kc ks mX12_feeds 71 [some (vR 214), some (vI x1), some (vI x2), some (vI x3), some (vI x4), none, none, none] [] G D7 Q
      refine g_aload_n dX12_feeds_71 rfl rfl ?_
      refine h_getI (j := 35) dX12_feeds_72 f_X12_175_11 rfl rfl (by decide) hG.k214 (by decide) (hG.lt (by decide)) ?_
      refine h_istore (L' := [some (vR 214), some (vI x1), some (vI x2), some (vI x3), some (vI x4), some (vI (D7 214 35)), none, none]) dX12_feeds_75 (Nat.le_of_ble_eq_true rfl) rfl rfl ?_
      refine g_iconst dX12_feeds_77 ?_
      refine h_istore (L' := [some (vR 214), some (vI x1), some (vI x2), some (vI x3), some (vI x4), some (vI (D7 214 35)), some (vI 0), none]) dX12_feeds_78 (Nat.le_of_ble_eq_true rfl) rfl rfl ?_
      exact Go.drop (by simp only [mm_sub, and_self]) h
set_option maxRecDepth 20000 in
theorem w_X12_feeds_80 {E : mmE} {d kc ks : Nat} {G : mmG} {D : mmD} {Q : mmQ} {x1 x2 x3 x4 x5 x6 : Int} (hG : Sh G)  (h : ((iv x5 ≤ iv x6 → Call E d 0 0 mX12_takes [vR 214, vI x1, vI x4] G D (retV G (fun D1 => Call E d 0 0 mX12_applies [vR 214, vI x3] G D1 (retV G (fun D3 => Call E d 0 0 mX12_applies [vR 214, vI x2] G D3 (retV G (fun D5 => ((¬ iv (D5 214 35) = iv x5 → Go E (d + 1) kc ks mX12_feeds 143 [some (vR 214), some (vI x1), some (vI x2), some (vI x3), some (vI x4), some (vI x5), some (vI 0), some (vI 0)] [] G D5 Q) ∧ (iv (D5 214 35) = iv x5 → Go E (d + 1) kc ks mX12_feeds 143 [some (vR 214), some (vI x1), some (vI x2), some (vI x3), some (vI x4), some (vI x5), some (vI 1), some (vI 0)] [] G D5 Q))))))))) ∧ (¬ iv x5 ≤ iv x6 → ((0 ≤ x6 ∧ x6 < 8) ∧ ((0 ≤ x6 ∧ x6 < 8) ∧ (∀ D7 : mmD, D7 = up2 D 242 x6 (D 235 x6) → Go E (d + 1) kc ks mX12_feeds 80 [some (vR 214), some (vI x1), some (vI x2), some (vI x3), some (vI x4), some (vI x5), some (vI (x6 + 1)), none] [] G D7 Q)))))) : Go E (d + 1) kc ks mX12_feeds 80 [some (vR 214), some (vI x1), some (vI x2), some (vI x3), some (vI x4), some (vI x5), some (vI x6), none] [] G D Q := by
  refine g_iload dX12_feeds_80 rfl ?_
  refine g_iload dX12_feeds_82 rfl ?_
  refine g_icmp_ge 107 dX12_feeds_84 (by decide) ⟨fun hc => ?_, fun hc => ?_⟩
  · replace h := h.1 hc
    refine g_aload_n dX12_feeds_107 rfl rfl ?_
    refine g_iload_n dX12_feeds_108 rfl rfl ?_
    refine g_iload dX12_feeds_109 rfl ?_
    refine g_callV (kc := kc) (kc' := 0) (ks := ks) (ks' := 0) (as := [vI x1, vI x4]) (st := []) (ci := 11) dX12_feeds_111 cB_X12_takes lk_X12_209 in_X12_takes se_X12_takes (by decide) rfl rfl (Nat.le_of_ble_eq_true rfl) (Nat.le_of_ble_eq_true rfl) (by decide) (hG.lt (by decide)) (congrArg Prod.fst hG.k214) ?_
    refine Go.to (fun r G' D1 hr => ?_) h
    obtain ⟨rfl, rfl, h⟩ := hr
    show Go E (d + 1) kc ks mX12_feeds 114 [some (vR 214), some (vI x1), some (vI x2), some (vI x3), some (vI x4), some (vI x5), some (vI x6), none] [] G D1 Q
    refine g_aload_n dX12_feeds_114 rfl rfl ?_
    refine g_iload_n dX12_feeds_115 rfl rfl ?_
    refine g_callV (kc := kc) (kc' := 0) (ks := ks) (ks' := 0) (as := [vI x3]) (st := []) (ci := 11) dX12_feeds_116 cB_X12_applies lk_X12_212 in_X12_applies se_X12_applies (by decide) rfl rfl (Nat.le_of_ble_eq_true rfl) (Nat.le_of_ble_eq_true rfl) (by decide) (hG.lt (by decide)) (congrArg Prod.fst hG.k214) ?_
    refine Go.to (fun r G' D3 hr => ?_) h
    obtain ⟨rfl, rfl, h⟩ := hr
    show Go E (d + 1) kc ks mX12_feeds 119 [some (vR 214), some (vI x1), some (vI x2), some (vI x3), some (vI x4), some (vI x5), some (vI x6), none] [] G D3 Q
    refine g_aload_n dX12_feeds_119 rfl rfl ?_
    refine g_iload_n dX12_feeds_120 rfl rfl ?_
    refine g_callV (kc := kc) (kc' := 0) (ks := ks) (ks' := 0) (as := [vI x2]) (st := []) (ci := 11) dX12_feeds_121 cB_X12_applies lk_X12_212 in_X12_applies se_X12_applies (by decide) rfl rfl (Nat.le_of_ble_eq_true rfl) (Nat.le_of_ble_eq_true rfl) (by decide) (hG.lt (by decide)) (congrArg Prod.fst hG.k214) ?_
    refine Go.to (fun r G' D5 hr => ?_) h
    obtain ⟨rfl, rfl, h⟩ := hr
    show Go E (d + 1) kc ks mX12_feeds 124 [some (vR 214), some (vI x1), some (vI x2), some (vI x3), some (vI x4), some (vI x5), some (vI x6), none] [] G D5 Q
    refine g_aload_n dX12_feeds_124 rfl rfl ?_
    refine h_getI (j := 35) dX12_feeds_125 f_X12_175_11 rfl rfl (by decide) hG.k214 (by decide) (hG.lt (by decide)) ?_
    refine g_iload dX12_feeds_128 rfl ?_
    refine g_icmp_ne 137 dX12_feeds_130 (by decide) ⟨fun hc => ?_, fun hc => ?_⟩
    · replace h := h.1 hc
      refine g_iconst dX12_feeds_137 ?_
      refine h_istore (L' := [some (vR 214), some (vI x1), some (vI x2), some (vI x3), some (vI x4), some (vI x5), some (vI 0), none]) dX12_feeds_138 (Nat.le_of_ble_eq_true rfl) rfl rfl ?_
      refine g_iconst dX12_feeds_140 ?_
      refine h_istore (L' := [some (vR 214), some (vI x1), some (vI x2), some (vI x3), some (vI x4), some (vI x5), some (vI 0), some (vI 0)]) dX12_feeds_141 (Nat.le_of_ble_eq_true rfl) rfl rfl ?_
      exact Go.drop (by simp only [mm_sub, and_self]) h
    · replace h := h.2 hc
      refine g_iconst dX12_feeds_133 ?_
      refine g_goto 138 dX12_feeds_134 (by decide) ?_
      refine h_istore (L' := [some (vR 214), some (vI x1), some (vI x2), some (vI x3), some (vI x4), some (vI x5), some (vI 1), none]) dX12_feeds_138 (Nat.le_of_ble_eq_true rfl) rfl rfl ?_
      refine g_iconst dX12_feeds_140 ?_
      refine h_istore (L' := [some (vR 214), some (vI x1), some (vI x2), some (vI x3), some (vI x4), some (vI x5), some (vI 1), some (vI 0)]) dX12_feeds_141 (Nat.le_of_ble_eq_true rfl) rfl rfl ?_
      exact Go.drop (by simp only [mm_sub, and_self]) h
  · replace h := h.2 hc
    refine g_aload_n dX12_feeds_87 rfl rfl ?_
    refine h_getR (j := 47) dX12_feeds_88 f_X12_96_11 rfl rfl (by decide) hG.k214 (by decide) (hG.lt (by decide)) hG.r214_47 ?_
    refine g_iload dX12_feeds_91 rfl ?_
    refine g_aload_n dX12_feeds_93 rfl rfl ?_
    refine h_getR (j := 33) dX12_feeds_94 f_X12_75_11 rfl rfl (by decide) hG.k214 (by decide) (hG.lt (by decide)) hG.r214_33 ?_
    refine g_iload dX12_feeds_97 rfl ?_
    refine g_iald dX12_feeds_99 hG.k235 (by decide) (hG.lt (by decide)) (by decide) ⟨h.1, ?_⟩
    replace h := h.2
    refine g_iast dX12_feeds_100 hG.k242 (by decide) (hG.lt (by decide)) (by decide) ⟨h.1, ?_⟩
    generalize hD_D7 : up2 D 242 x6 (D 235 x6) = D7
    replace h := h.2 _ hD_D7.symm
    refine h_iinc (L' := [some (vR 214), some (vI x1), some (vI x2), some (vI x3), some (vI x4), some (vI x5), some (vI (x6 + 1)), none]) dX12_feeds_101 (Nat.le_of_ble_eq_true rfl) rfl rfl rfl ?_
    refine g_goto 80 dX12_feeds_104 (by decide) ?_
    exact Go.drop (by simp only [mm_sub, and_self]) h
set_option maxRecDepth 20000 in
theorem w_X12_feeds_143 {E : mmE} {d kc ks : Nat} {G : mmG} {D : mmD} {Q : mmQ} {x1 x2 x3 x4 x5 x6 x7 : Int} (hG : Sh G)  (h : ((iv x5 ≤ iv x7 → ((¬ iv x6 = iv 0 → Go E (d + 1) kc ks mX12_feeds 37 [some (vR 214), some (vI x1), some (vI x2), some (vI x3), some (vI (x4 + 1)), none, none, none] [] G D Q) ∧ (iv x6 = iv 0 → Q (some (vI 1)) G D))) ∧ (¬ iv x5 ≤ iv x7 → ((iv x6 = iv 0 → ((¬ iv x6 = iv 0 → Go E (d + 1) kc ks mX12_feeds 37 [some (vR 214), some (vI x1), some (vI x2), some (vI x3), some (vI (x4 + 1)), none, none, none] [] G D Q) ∧ (iv x6 = iv 0 → Q (some (vI 1)) G D))) ∧ (¬ iv x6 = iv 0 → ((0 ≤ x7 ∧ x7 < 8) ∧ ((0 ≤ x7 ∧ x7 < 8) ∧ ((¬ iv (D 235 x7) = iv (D 242 x7) → Go E (d + 1) kc ks mX12_feeds 143 [some (vR 214), some (vI x1), some (vI x2), some (vI x3), some (vI x4), some (vI x5), some (vI 0), some (vI (x7 + 1))] [] G D Q) ∧ (iv (D 235 x7) = iv (D 242 x7) → Go E (d + 1) kc ks mX12_feeds 143 [some (vR 214), some (vI x1), some (vI x2), some (vI x3), some (vI x4), some (vI x5), some (vI 1), some (vI (x7 + 1))] [] G D Q))))))))) : Go E (d + 1) kc ks mX12_feeds 143 [some (vR 214), some (vI x1), some (vI x2), some (vI x3), some (vI x4), some (vI x5), some (vI x6), some (vI x7)] [] G D Q := by
  refine g_iload dX12_feeds_143 rfl ?_
  refine g_iload dX12_feeds_145 rfl ?_
  refine g_icmp_ge 185 dX12_feeds_147 (by decide) ⟨fun hc => ?_, fun hc => ?_⟩
  · replace h := h.1 hc
    refine g_iload dX12_feeds_185 rfl ?_
    refine g_if_ne 192 dX12_feeds_187 (by decide) ⟨fun hc => ?_, fun hc => ?_⟩
    · replace h := h.1 hc
      refine h_iinc (L' := [some (vR 214), some (vI x1), some (vI x2), some (vI x3), some (vI (x4 + 1)), some (vI x5), some (vI x6), some (vI x7)]) dX12_feeds_192 (Nat.le_of_ble_eq_true rfl) rfl rfl rfl ?_
      refine g_goto 37 dX12_feeds_195 (by decide) ?_
      exact Go.drop (by simp only [mm_sub, and_self]) h
    · replace h := h.2 hc
      refine g_iconst dX12_feeds_190 ?_
      exact g_iret dX12_feeds_191 rfl h
  · replace h := h.2 hc
    refine g_iload dX12_feeds_150 rfl ?_
    refine g_if_eq 185 dX12_feeds_152 (by decide) ⟨fun hc => ?_, fun hc => ?_⟩
    · replace h := h.1 hc
      refine g_iload dX12_feeds_185 rfl ?_
      refine g_if_ne 192 dX12_feeds_187 (by decide) ⟨fun hc => ?_, fun hc => ?_⟩
      · replace h := h.1 hc
        refine h_iinc (L' := [some (vR 214), some (vI x1), some (vI x2), some (vI x3), some (vI (x4 + 1)), some (vI x5), some (vI x6), some (vI x7)]) dX12_feeds_192 (Nat.le_of_ble_eq_true rfl) rfl rfl rfl ?_
        refine g_goto 37 dX12_feeds_195 (by decide) ?_
        exact Go.drop (by simp only [mm_sub, and_self]) h
      · replace h := h.2 hc
        refine g_iconst dX12_feeds_190 ?_
        exact g_iret dX12_feeds_191 rfl h
    · replace h := h.2 hc
      refine g_aload_n dX12_feeds_155 rfl rfl ?_
      refine h_getR (j := 33) dX12_feeds_156 f_X12_75_11 rfl rfl (by decide) hG.k214 (by decide) (hG.lt (by decide)) hG.r214_33 ?_
      refine g_iload dX12_feeds_159 rfl ?_
      refine g_iald dX12_feeds_161 hG.k235 (by decide) (hG.lt (by decide)) (by decide) ⟨h.1, ?_⟩
      replace h := h.2
      refine g_aload_n dX12_feeds_162 rfl rfl ?_
      refine h_getR (j := 47) dX12_feeds_163 f_X12_96_11 rfl rfl (by decide) hG.k214 (by decide) (hG.lt (by decide)) hG.r214_47 ?_
      refine g_iload dX12_feeds_166 rfl ?_
      refine g_iald dX12_feeds_168 hG.k242 (by decide) (hG.lt (by decide)) (by decide) ⟨h.1, ?_⟩
      replace h := h.2
      refine g_icmp_ne 176 dX12_feeds_169 (by decide) ⟨fun hc => ?_, fun hc => ?_⟩
      · replace h := h.1 hc
        refine g_iconst dX12_feeds_176 ?_
        refine h_istore (L' := [some (vR 214), some (vI x1), some (vI x2), some (vI x3), some (vI x4), some (vI x5), some (vI 0), some (vI x7)]) dX12_feeds_177 (Nat.le_of_ble_eq_true rfl) rfl rfl ?_
        refine h_iinc (L' := [some (vR 214), some (vI x1), some (vI x2), some (vI x3), some (vI x4), some (vI x5), some (vI 0), some (vI (x7 + 1))]) dX12_feeds_179 (Nat.le_of_ble_eq_true rfl) rfl rfl rfl ?_
        refine g_goto 143 dX12_feeds_182 (by decide) ?_
        exact Go.drop (by simp only [mm_sub, and_self]) h
      · replace h := h.2 hc
        refine g_iconst dX12_feeds_172 ?_
        refine g_goto 177 dX12_feeds_173 (by decide) ?_
        refine h_istore (L' := [some (vR 214), some (vI x1), some (vI x2), some (vI x3), some (vI x4), some (vI x5), some (vI 1), some (vI x7)]) dX12_feeds_177 (Nat.le_of_ble_eq_true rfl) rfl rfl ?_
        refine h_iinc (L' := [some (vR 214), some (vI x1), some (vI x2), some (vI x3), some (vI x4), some (vI x5), some (vI 1), some (vI (x7 + 1))]) dX12_feeds_179 (Nat.le_of_ble_eq_true rfl) rfl rfl rfl ?_
        refine g_goto 143 dX12_feeds_182 (by decide) ?_
        exact Go.drop (by simp only [mm_sub, and_self]) h
set_option maxRecDepth 20000 in
theorem w_X12_refuses {E : mmE} {d kc ks : Nat} {G : mmG} {D : mmD} {Q : mmQ} {x1 : Int} (hG : Sh G)  (h : Call E d 0 0 mX12_in [vI x1, vI 1, vI ((ishl 1 (D 214 1)) - 1)] G D (retI G (fun z2 D1 => ((iv z2 = iv 0 → Q (some (vI (-2))) G D1) ∧ (¬ iv z2 = iv 0 → Call E d 0 0 mX12_count1 [vI x1] G D1 (retI G (fun z4 D3 => ((iv 3 ≤ iv z4 → (∀ D5 : mmD, D5 = up2 D3 214 51 0 → Go E (d + 1) kc ks mX12_refuses 34 [some (vR 214), some (vI x1), some (vI 0), none, none, none, none] [] G D5 Q)) ∧ (¬ iv 3 ≤ iv z4 → Q (some (vI (-2))) G D3))))))))) : Call E (d + 1) kc ks mX12_refuses [vR 214, vI x1] G D Q := by
  show Go E (d + 1) kc ks mX12_refuses 0 [some (vR 214), some (vI x1), none, none, none, none, none] [] G D Q
  refine g_iload_n dX12_refuses_0 rfl rfl ?_
  refine g_iconst dX12_refuses_1 ?_
  refine g_iconst dX12_refuses_2 ?_
  refine g_aload_n dX12_refuses_3 rfl rfl ?_
  refine h_getI (j := 1) dX12_refuses_4 f_X12_120_11 rfl rfl (by decide) hG.k214 (by decide) (hG.lt (by decide)) ?_
  refine g_ishl dX12_refuses_7 ?_
  refine g_iconst dX12_refuses_8 ?_
  refine g_isub dX12_refuses_9 ?_
  refine g_callS (kc := kc) (kc' := 0) (ks := ks) (ks' := 0) (as := [vI x1, vI 1, vI ((ishl 1 (D 214 1)) - 1)]) (st := []) dX12_refuses_10 cB_X12_in lk_X12_123 st_X12_in rfl (Nat.le_of_ble_eq_true rfl) (Nat.le_of_ble_eq_true rfl) ?_
  refine Go.to (fun r G' D1 hr => ?_) h
  obtain ⟨rfl, z2, rfl, h⟩ := hr
  show Go E (d + 1) kc ks mX12_refuses 13 [some (vR 214), some (vI x1), none, none, none, none, none] [vI z2] G D1 Q
  refine g_if_eq 24 dX12_refuses_13 (by decide) ⟨fun hc => ?_, fun hc => ?_⟩
  · replace h := h.1 hc
    refine g_bipush dX12_refuses_24 bp_m2 ?_
    exact g_iret dX12_refuses_26 rfl h
  · replace h := h.2 hc
    refine g_iload_n dX12_refuses_16 rfl rfl ?_
    refine g_callS (kc := kc) (kc' := 0) (ks := ks) (ks' := 0) (as := [vI x1]) (st := []) dX12_refuses_17 cB_X12_count1 lk_X12_273 st_X12_count1 rfl (Nat.le_of_ble_eq_true rfl) (Nat.le_of_ble_eq_true rfl) ?_
    refine Go.to (fun r G' D3 hr => ?_) h
    obtain ⟨rfl, z4, rfl, h⟩ := hr
    show Go E (d + 1) kc ks mX12_refuses 20 [some (vR 214), some (vI x1), none, none, none, none, none] [vI z4] G D3 Q
    refine g_iconst dX12_refuses_20 ?_
    refine g_icmp_ge 27 dX12_refuses_21 (by decide) ⟨fun hc => ?_, fun hc => ?_⟩
    · replace h := h.1 hc
      refine g_aload_n dX12_refuses_27 rfl rfl ?_
      refine g_iconst dX12_refuses_28 ?_
      refine h_putI (j := 51) dX12_refuses_29 f_X12_277_11 (Or.inl (mm_finI (by decide +kernel))) rfl rfl (by decide) hG.k214 (by decide) (hG.lt (by decide)) ?_
      generalize hD_D5 : up2 D3 214 51 0 = D5
      replace h := h _ hD_D5.symm
      refine g_iconst dX12_refuses_32 ?_
      refine h_istore_n (L' := [some (vR 214), some (vI x1), some (vI 0), none, none, none, none]) dX12_refuses_33 rfl (Nat.le_of_ble_eq_true rfl) rfl rfl ?_
      exact Go.drop (by simp only [mm_sub, and_self]) h
    · replace h := h.2 hc
      refine g_bipush dX12_refuses_24 bp_m2 ?_
      exact g_iret dX12_refuses_26 rfl h
set_option maxRecDepth 20000 in
theorem w_X12_refuses_34 {E : mmE} {d kc ks : Nat} {G : mmG} {D : mmD} {Q : mmQ} {x1 x2 : Int} (hG : Sh G)  (h : ((iv (D 214 1) ≤ iv x2 → Go E (d + 1) kc ks mX12_refuses 79 [some (vR 214), none, some (vI 0), none, none, none, none] [] G D Q) ∧ (¬ iv (D 214 1) ≤ iv x2 → ((¬ iv (iand (ishr x1 x2) 1) = iv 1 → Go E (d + 1) kc ks mX12_refuses 34 [some (vR 214), some (vI x1), some (vI (x2 + 1)), none, none, none, none] [] G D Q) ∧ (iv (iand (ishr x1 x2) 1) = iv 1 → ((0 ≤ (D 214 51) ∧ (D 214 51) < 6) ∧ (∀ D1 : mmD, D1 = up2 D 243 (D 214 51) x2 → (∀ D2 : mmD, D2 = up2 D1 214 51 ((D1 214 51) + 1) → Go E (d + 1) kc ks mX12_refuses 34 [some (vR 214), some (vI x1), some (vI (x2 + 1)), none, none, none, none] [] G D2 Q)))))))) : Go E (d + 1) kc ks mX12_refuses 34 [some (vR 214), some (vI x1), some (vI x2), none, none, none, none] [] G D Q := by
  refine g_iload_n dX12_refuses_34 rfl rfl ?_
  refine g_aload_n dX12_refuses_35 rfl rfl ?_
  refine h_getI (j := 1) dX12_refuses_36 f_X12_120_11 rfl rfl (by decide) hG.k214 (by decide) (hG.lt (by decide)) ?_
  refine g_icmp_ge 77 dX12_refuses_39 (by decide) ⟨fun hc => ?_, fun hc => ?_⟩
  · replace h := h.1 hc
    refine g_iconst dX12_refuses_77 ?_
    refine h_istore_n (L' := [some (vR 214), some (vI x1), some (vI 0), none, none, none, none]) dX12_refuses_78 rfl (Nat.le_of_ble_eq_true rfl) rfl rfl ?_
    exact Go.drop (by simp only [mm_sub, and_self]) h
  · replace h := h.2 hc
    refine g_iload_n dX12_refuses_42 rfl rfl ?_
    refine g_iload_n dX12_refuses_43 rfl rfl ?_
    refine g_ishr dX12_refuses_44 ?_
    refine g_iconst dX12_refuses_45 ?_
    refine g_iand dX12_refuses_46 ?_
    refine g_iconst dX12_refuses_47 ?_
    refine g_icmp_ne 71 dX12_refuses_48 (by decide) ⟨fun hc => ?_, fun hc => ?_⟩
    · replace h := h.1 hc
      refine h_iinc (L' := [some (vR 214), some (vI x1), some (vI (x2 + 1)), none, none, none, none]) dX12_refuses_71 (Nat.le_of_ble_eq_true rfl) rfl rfl rfl ?_
      refine g_goto 34 dX12_refuses_74 (by decide) ?_
      exact Go.drop (by simp only [mm_sub, and_self]) h
    · replace h := h.2 hc
      refine g_aload_n dX12_refuses_51 rfl rfl ?_
      refine h_getR (j := 48) dX12_refuses_52 f_X12_99_11 rfl rfl (by decide) hG.k214 (by decide) (hG.lt (by decide)) hG.r214_48 ?_
      refine g_aload_n dX12_refuses_55 rfl rfl ?_
      refine h_getI (j := 51) dX12_refuses_56 f_X12_277_11 rfl rfl (by decide) hG.k214 (by decide) (hG.lt (by decide)) ?_
      refine g_iload_n dX12_refuses_59 rfl rfl ?_
      refine g_iast dX12_refuses_60 hG.k243 (by decide) (hG.lt (by decide)) (by decide) ⟨h.1, ?_⟩
      generalize hD_D1 : up2 D 243 (D 214 51) x2 = D1
      replace h := h.2 _ hD_D1.symm
      refine g_aload_n dX12_refuses_61 rfl rfl ?_
      refine g_dup dX12_refuses_62 (fun _ h9 => by cases h9) ?_
      refine h_getI (j := 51) dX12_refuses_63 f_X12_277_11 rfl rfl (by decide) hG.k214 (by decide) (hG.lt (by decide)) ?_
      refine g_iconst dX12_refuses_66 ?_
      refine g_iadd dX12_refuses_67 ?_
      refine h_putI (j := 51) dX12_refuses_68 f_X12_277_11 (Or.inl (mm_finI (by decide +kernel))) rfl rfl (by decide) hG.k214 (by decide) (hG.lt (by decide)) ?_
      generalize hD_D2 : up2 D1 214 51 ((D1 214 51) + 1) = D2
      replace h := h _ hD_D2.symm
      refine h_iinc (L' := [some (vR 214), some (vI x1), some (vI (x2 + 1)), none, none, none, none]) dX12_refuses_71 (Nat.le_of_ble_eq_true rfl) rfl rfl rfl ?_
      refine g_goto 34 dX12_refuses_74 (by decide) ?_
      exact Go.drop (by simp only [mm_sub, and_self]) h
set_option maxRecDepth 20000 in
theorem w_X12_refuses_79 {E : mmE} {d kc ks : Nat} {G : mmG} {D : mmD} {Q : mmQ} {x2 : Int} (hG : Sh G)  (h : ((iv 10 ≤ iv x2 → Q (some (vI 0)) G D) ∧ (¬ iv 10 ≤ iv x2 → Go E (d + 1) kc ks mX12_refuses 87 [some (vR 214), none, some (vI x2), some (vI 0), none, none, none] [] G D Q))) : Go E (d + 1) kc ks mX12_refuses 79 [some (vR 214), none, some (vI x2), none, none, none, none] [] G D Q := by
  refine g_iload_n dX12_refuses_79 rfl rfl ?_
  refine g_bipush dX12_refuses_80 bp_10 ?_
  refine g_icmp_ge 184 dX12_refuses_82 (by decide) ⟨fun hc => ?_, fun hc => ?_⟩
  · replace h := h.1 hc
    refine g_iconst dX12_refuses_184 ?_
    exact g_iret dX12_refuses_185 rfl h
  · replace h := h.2 hc
    refine g_iconst dX12_refuses_85 ?_
    refine h_istore_n (L' := [some (vR 214), none, some (vI x2), some (vI 0), none, none, none]) dX12_refuses_86 rfl (Nat.le_of_ble_eq_true rfl) rfl rfl ?_
    exact Go.drop (by simp only [mm_sub, and_self]) h
set_option maxRecDepth 20000 in
theorem w_X12_refuses_87 {E : mmE} {d kc ks : Nat} {G : mmG} {D : mmD} {Q : mmQ} {x2 x3 : Int} (hG : Sh G)  (h : ((iv (D 214 51) ≤ iv x3 → Go E (d + 1) kc ks mX12_refuses 79 [some (vR 214), none, some (vI (x2 + 1)), none, none, none, none] [] G D Q) ∧ (¬ iv (D 214 51) ≤ iv x3 → ((0 ≤ x3 ∧ x3 < 6) ∧ Call E d 0 0 mX12_has [vR 214, vI (D 243 x3), vI x2] G D (retI G (fun z2 D1 => ((iv z2 = iv 0 → Go E (d + 1) kc ks mX12_refuses 129 [some (vR 214), none, some (vI x2), some (vI x3), none, some (vI 0), some (vI 0)] [] G D1 Q) ∧ (¬ iv z2 = iv 0 → Call E d 0 0 mX12_setOf [vR 214, vI x2, vI (D 243 x3)] G D1 (retI G (fun z4 D3 => Go E (d + 1) kc ks mX12_refuses 129 [some (vR 214), none, some (vI x2), some (vI x3), none, some (vI z4), some (vI 0)] [] G D3 Q)))))))))) : Go E (d + 1) kc ks mX12_refuses 87 [some (vR 214), none, some (vI x2), some (vI x3), none, none, none] [] G D Q := by
  refine g_iload_n dX12_refuses_87 rfl rfl ?_
  refine g_aload_n dX12_refuses_88 rfl rfl ?_
  refine h_getI (j := 51) dX12_refuses_89 f_X12_277_11 rfl rfl (by decide) hG.k214 (by decide) (hG.lt (by decide)) ?_
  refine g_icmp_ge 178 dX12_refuses_92 (by decide) ⟨fun hc => ?_, fun hc => ?_⟩
  · replace h := h.1 hc
    refine h_iinc (L' := [some (vR 214), none, some (vI (x2 + 1)), some (vI x3), none, none, none]) dX12_refuses_178 (Nat.le_of_ble_eq_true rfl) rfl rfl rfl ?_
    refine g_goto 79 dX12_refuses_181 (by decide) ?_
    exact Go.drop (by simp only [mm_sub, and_self]) h
  · replace h := h.2 hc
    refine g_aload_n dX12_refuses_95 rfl rfl ?_
    refine h_getR (j := 48) dX12_refuses_96 f_X12_99_11 rfl rfl (by decide) hG.k214 (by decide) (hG.lt (by decide)) hG.r214_48 ?_
    refine g_iload_n dX12_refuses_99 rfl rfl ?_
    refine g_iald dX12_refuses_100 hG.k243 (by decide) (hG.lt (by decide)) (by decide) ⟨h.1, ?_⟩
    replace h := h.2
    refine h_istore (L' := [some (vR 214), none, some (vI x2), some (vI x3), some (vI (D 243 x3)), none, none]) dX12_refuses_101 (Nat.le_of_ble_eq_true rfl) rfl rfl ?_
    refine g_aload_n dX12_refuses_103 rfl rfl ?_
    refine g_iload dX12_refuses_104 rfl ?_
    refine g_iload_n dX12_refuses_106 rfl rfl ?_
    refine g_callV (kc := kc) (kc' := 0) (ks := ks) (ks' := 0) (as := [vI (D 243 x3), vI x2]) (st := []) (ci := 11) dX12_refuses_107 cB_X12_has lk_X12_228 in_X12_has se_X12_has (by decide) rfl rfl (Nat.le_of_ble_eq_true rfl) (Nat.le_of_ble_eq_true rfl) (by decide) (hG.lt (by decide)) (congrArg Prod.fst hG.k214) ?_
    refine Go.to (fun r G' D1 hr => ?_) h
    obtain ⟨rfl, z2, rfl, h⟩ := hr
    show Go E (d + 1) kc ks mX12_refuses 110 [some (vR 214), none, some (vI x2), some (vI x3), some (vI (D 243 x3)), none, none] [vI z2] G D1 Q
    refine g_if_eq 123 dX12_refuses_110 (by decide) ⟨fun hc => ?_, fun hc => ?_⟩
    · replace h := h.1 hc
      refine g_iconst dX12_refuses_123 ?_
      refine h_istore (L' := [some (vR 214), none, some (vI x2), some (vI x3), some (vI (D 243 x3)), some (vI 0), none]) dX12_refuses_124 (Nat.le_of_ble_eq_true rfl) rfl rfl ?_
      refine g_iconst dX12_refuses_126 ?_
      refine h_istore (L' := [some (vR 214), none, some (vI x2), some (vI x3), some (vI (D 243 x3)), some (vI 0), some (vI 0)]) dX12_refuses_127 (Nat.le_of_ble_eq_true rfl) rfl rfl ?_
      exact Go.drop (by simp only [mm_sub, and_self]) h
    · replace h := h.2 hc
      refine g_aload_n dX12_refuses_113 rfl rfl ?_
      refine g_iload_n dX12_refuses_114 rfl rfl ?_
      refine g_iload dX12_refuses_115 rfl ?_
      refine g_callV (kc := kc) (kc' := 0) (ks := ks) (ks' := 0) (as := [vI x2, vI (D 243 x3)]) (st := []) (ci := 11) dX12_refuses_117 cB_X12_setOf lk_X12_246 in_X12_setOf se_X12_setOf (by decide) rfl rfl (Nat.le_of_ble_eq_true rfl) (Nat.le_of_ble_eq_true rfl) (by decide) (hG.lt (by decide)) (congrArg Prod.fst hG.k214) ?_
      refine Go.to (fun r G' D3 hr => ?_) h
      obtain ⟨rfl, z4, rfl, h⟩ := hr
      show Go E (d + 1) kc ks mX12_refuses 120 [some (vR 214), none, some (vI x2), some (vI x3), some (vI (D 243 x3)), none, none] [vI z4] G D3 Q
      refine g_goto 124 dX12_refuses_120 (by decide) ?_
      refine h_istore (L' := [some (vR 214), none, some (vI x2), some (vI x3), some (vI (D 243 x3)), some (vI z4), none]) dX12_refuses_124 (Nat.le_of_ble_eq_true rfl) rfl rfl ?_
      refine g_iconst dX12_refuses_126 ?_
      refine h_istore (L' := [some (vR 214), none, some (vI x2), some (vI x3), some (vI (D 243 x3)), some (vI z4), some (vI 0)]) dX12_refuses_127 (Nat.le_of_ble_eq_true rfl) rfl rfl ?_
      exact Go.drop (by simp only [mm_sub, and_self]) h
set_option maxRecDepth 20000 in
theorem w_X12_refuses_129 {E : mmE} {d kc ks : Nat} {G : mmG} {D : mmD} {Q : mmQ} {x2 x3 x5 x6 : Int} (hG : Sh G)  (h : ((iv x5 ≤ iv 0 → ((¬ iv x5 = iv 0 → ((0 ≤ ((6 * x2) + x3) ∧ ((6 * x2) + x3) < 60) ∧ (∀ D1 : mmD, D1 = up2 D 246 ((6 * x2) + x3) x6 → Go E (d + 1) kc ks mX12_refuses 87 [some (vR 214), none, some (vI x2), some (vI (x3 + 1)), none, none, none] [] G D1 Q))) ∧ (iv x5 = iv 0 → ((0 ≤ ((6 * x2) + x3) ∧ ((6 * x2) + x3) < 60) ∧ (∀ D2 : mmD, D2 = up2 D 246 ((6 * x2) + x3) (-1) → Go E (d + 1) kc ks mX12_refuses 87 [some (vR 214), none, some (vI x2), some (vI (x3 + 1)), none, none, none] [] G D2 Q))))) ∧ (¬ iv x5 ≤ iv 0 → ((¬ iv (iand (ishr x5 x6) 1) = iv 0 → ((¬ iv x5 = iv 0 → ((0 ≤ ((6 * x2) + x3) ∧ ((6 * x2) + x3) < 60) ∧ (∀ D3 : mmD, D3 = up2 D 246 ((6 * x2) + x3) x6 → Go E (d + 1) kc ks mX12_refuses 87 [some (vR 214), none, some (vI x2), some (vI (x3 + 1)), none, none, none] [] G D3 Q))) ∧ (iv x5 = iv 0 → ((0 ≤ ((6 * x2) + x3) ∧ ((6 * x2) + x3) < 60) ∧ (∀ D4 : mmD, D4 = up2 D 246 ((6 * x2) + x3) (-1) → Go E (d + 1) kc ks mX12_refuses 87 [some (vR 214), none, some (vI x2), some (vI (x3 + 1)), none, none, none] [] G D4 Q))))) ∧ (iv (iand (ishr x5 x6) 1) = iv 0 → Go E (d + 1) kc ks mX12_refuses 129 [some (vR 214), none, some (vI x2), some (vI x3), none, some (vI x5), some (vI (x6 + 1))] [] G D Q))))) : Go E (d + 1) kc ks mX12_refuses 129 [some (vR 214), none, some (vI x2), some (vI x3), none, some (vI x5), some (vI x6)] [] G D Q := by
  refine g_iload dX12_refuses_129 rfl ?_
  refine g_if_le 150 dX12_refuses_131 (by decide) ⟨fun hc => ?_, fun hc => ?_⟩
  · replace h := h.1 hc
    refine g_aload_n dX12_refuses_150 rfl rfl ?_
    refine h_getR (j := 54) dX12_refuses_151 f_X12_108_11 rfl rfl (by decide) hG.k214 (by decide) (hG.lt (by decide)) hG.r214_54 ?_
    refine g_bipush dX12_refuses_154 bp_6 ?_
    refine g_iload_n dX12_refuses_156 rfl rfl ?_
    refine g_imul dX12_refuses_157 ?_
    refine g_iload_n dX12_refuses_158 rfl rfl ?_
    refine g_iadd dX12_refuses_159 ?_
    refine g_iload dX12_refuses_160 rfl ?_
    refine g_if_ne 169 dX12_refuses_162 (by decide) ⟨fun hc => ?_, fun hc => ?_⟩
    · replace h := h.1 hc
      refine g_iload dX12_refuses_169 rfl ?_
      refine g_iast dX12_refuses_171 hG.k246 (by decide) (hG.lt (by decide)) (by decide) ⟨h.1, ?_⟩
      generalize hD_D1 : up2 D 246 ((6 * x2) + x3) x6 = D1
      replace h := h.2 _ hD_D1.symm
      refine h_iinc (L' := [some (vR 214), none, some (vI x2), some (vI (x3 + 1)), none, some (vI x5), some (vI x6)]) dX12_refuses_172 (Nat.le_of_ble_eq_true rfl) rfl rfl rfl ?_
      refine g_goto 87 dX12_refuses_175 (by decide) ?_
      exact Go.drop (by simp only [mm_sub, and_self]) h
    · replace h := h.2 hc
      refine g_iconst dX12_refuses_165 ?_
      refine g_goto 171 dX12_refuses_166 (by decide) ?_
      refine g_iast dX12_refuses_171 hG.k246 (by decide) (hG.lt (by decide)) (by decide) ⟨h.1, ?_⟩
      generalize hD_D2 : up2 D 246 ((6 * x2) + x3) (-1) = D2
      replace h := h.2 _ hD_D2.symm
      refine h_iinc (L' := [some (vR 214), none, some (vI x2), some (vI (x3 + 1)), none, some (vI x5), some (vI x6)]) dX12_refuses_172 (Nat.le_of_ble_eq_true rfl) rfl rfl rfl ?_
      refine g_goto 87 dX12_refuses_175 (by decide) ?_
      exact Go.drop (by simp only [mm_sub, and_self]) h
  · replace h := h.2 hc
    refine g_iload dX12_refuses_134 rfl ?_
    refine g_iload dX12_refuses_136 rfl ?_
    refine g_ishr dX12_refuses_138 ?_
    refine g_iconst dX12_refuses_139 ?_
    refine g_iand dX12_refuses_140 ?_
    refine g_if_ne 150 dX12_refuses_141 (by decide) ⟨fun hc => ?_, fun hc => ?_⟩
    · replace h := h.1 hc
      refine g_aload_n dX12_refuses_150 rfl rfl ?_
      refine h_getR (j := 54) dX12_refuses_151 f_X12_108_11 rfl rfl (by decide) hG.k214 (by decide) (hG.lt (by decide)) hG.r214_54 ?_
      refine g_bipush dX12_refuses_154 bp_6 ?_
      refine g_iload_n dX12_refuses_156 rfl rfl ?_
      refine g_imul dX12_refuses_157 ?_
      refine g_iload_n dX12_refuses_158 rfl rfl ?_
      refine g_iadd dX12_refuses_159 ?_
      refine g_iload dX12_refuses_160 rfl ?_
      refine g_if_ne 169 dX12_refuses_162 (by decide) ⟨fun hc => ?_, fun hc => ?_⟩
      · replace h := h.1 hc
        refine g_iload dX12_refuses_169 rfl ?_
        refine g_iast dX12_refuses_171 hG.k246 (by decide) (hG.lt (by decide)) (by decide) ⟨h.1, ?_⟩
        generalize hD_D3 : up2 D 246 ((6 * x2) + x3) x6 = D3
        replace h := h.2 _ hD_D3.symm
        refine h_iinc (L' := [some (vR 214), none, some (vI x2), some (vI (x3 + 1)), none, some (vI x5), some (vI x6)]) dX12_refuses_172 (Nat.le_of_ble_eq_true rfl) rfl rfl rfl ?_
        refine g_goto 87 dX12_refuses_175 (by decide) ?_
        exact Go.drop (by simp only [mm_sub, and_self]) h
      · replace h := h.2 hc
        refine g_iconst dX12_refuses_165 ?_
        refine g_goto 171 dX12_refuses_166 (by decide) ?_
        refine g_iast dX12_refuses_171 hG.k246 (by decide) (hG.lt (by decide)) (by decide) ⟨h.1, ?_⟩
        generalize hD_D4 : up2 D 246 ((6 * x2) + x3) (-1) = D4
        replace h := h.2 _ hD_D4.symm
        refine h_iinc (L' := [some (vR 214), none, some (vI x2), some (vI (x3 + 1)), none, some (vI x5), some (vI x6)]) dX12_refuses_172 (Nat.le_of_ble_eq_true rfl) rfl rfl rfl ?_
        refine g_goto 87 dX12_refuses_175 (by decide) ?_
        exact Go.drop (by simp only [mm_sub, and_self]) h
    · replace h := h.2 hc
      refine h_iinc (L' := [some (vR 214), none, some (vI x2), some (vI x3), none, some (vI x5), some (vI (x6 + 1))]) dX12_refuses_144 (Nat.le_of_ble_eq_true rfl) rfl rfl rfl ?_
      refine g_goto 129 dX12_refuses_147 (by decide) ?_
      exact Go.drop (by simp only [mm_sub, and_self]) h
set_option maxRecDepth 20000 in
theorem w_X12_trees {E : mmE} {d kc ks : Nat} {G : mmG} {D : mmD} {Q : mmQ} (hG : Sh G)  (h : ((¬ iv (D 214 51) = iv 3 → ((¬ iv (D 214 51) = iv 4 → ((¬ iv (D 214 51) = iv 5 → Q (some (vI 105)) G D) ∧ (iv (D 214 51) = iv 5 → Q (some (vI 15)) G D))) ∧ (iv (D 214 51) = iv 4 → Q (some (vI 3)) G D))) ∧ (iv (D 214 51) = iv 3 → Q (some (vI 1)) G D))) : Call E d kc ks mX12_trees [vR 214] G D Q := by
  show Go E d kc ks mX12_trees 0 [some (vR 214)] [] G D Q
  refine g_aload_n dX12_trees_0 rfl rfl ?_
  refine h_getI (j := 51) dX12_trees_1 f_X12_277_11 rfl rfl (by decide) hG.k214 (by decide) (hG.lt (by decide)) ?_
  refine g_iconst dX12_trees_4 ?_
  refine g_icmp_ne 12 dX12_trees_5 (by decide) ⟨fun hc => ?_, fun hc => ?_⟩
  · replace h := h.1 hc
    refine g_aload_n dX12_trees_12 rfl rfl ?_
    refine h_getI (j := 51) dX12_trees_13 f_X12_277_11 rfl rfl (by decide) hG.k214 (by decide) (hG.lt (by decide)) ?_
    refine g_iconst dX12_trees_16 ?_
    refine g_icmp_ne 24 dX12_trees_17 (by decide) ⟨fun hc => ?_, fun hc => ?_⟩
    · replace h := h.1 hc
      refine g_aload_n dX12_trees_24 rfl rfl ?_
      refine h_getI (j := 51) dX12_trees_25 f_X12_277_11 rfl rfl (by decide) hG.k214 (by decide) (hG.lt (by decide)) ?_
      refine g_iconst dX12_trees_28 ?_
      refine g_icmp_ne 37 dX12_trees_29 (by decide) ⟨fun hc => ?_, fun hc => ?_⟩
      · replace h := h.1 hc
        refine g_bipush dX12_trees_37 bp_105 ?_
        exact g_iret dX12_trees_39 rfl h
      · replace h := h.2 hc
        refine g_bipush dX12_trees_32 bp_15 ?_
        refine g_goto 39 dX12_trees_34 (by decide) ?_
        exact g_iret dX12_trees_39 rfl h
    · replace h := h.2 hc
      refine g_iconst dX12_trees_20 ?_
      refine g_goto 39 dX12_trees_21 (by decide) ?_
      exact g_iret dX12_trees_39 rfl h
  · replace h := h.2 hc
    refine g_iconst dX12_trees_8 ?_
    refine g_goto 39 dX12_trees_9 (by decide) ?_
    exact g_iret dX12_trees_39 rfl h
set_option maxRecDepth 20000 in
theorem w_X12_grows {E : mmE} {d kc ks : Nat} {G : mmG} {D : mmD} {Q : mmQ} {x1 : Int} (hG : Sh G)  (h : (∀ D1 : mmD, D1 = up2 D 214 52 3 → (∀ D2 : mmD, D2 = up2 D1 214 53 7 → Go E (d + 1) kc ks mX12_grows 13 [some (vR 214), some (vI x1), some (vI 0), none, none, none, none] [] G D2 Q))) : Call E (d + 1) kc ks mX12_grows [vR 214, vI x1] G D Q := by
  show Go E (d + 1) kc ks mX12_grows 0 [some (vR 214), some (vI x1), none, none, none, none, none] [] G D Q
  refine g_aload_n dX12_grows_0 rfl rfl ?_
  refine g_iconst dX12_grows_1 ?_
  refine h_putI (j := 52) dX12_grows_2 f_X12_280_11 (Or.inl (mm_finI (by decide +kernel))) rfl rfl (by decide) hG.k214 (by decide) (hG.lt (by decide)) ?_
  generalize hD_D1 : up2 D 214 52 3 = D1
  replace h := h _ hD_D1.symm
  refine g_aload_n dX12_grows_5 rfl rfl ?_
  refine g_bipush dX12_grows_6 bp_7 ?_
  refine h_putI (j := 53) dX12_grows_8 f_X12_283_11 (Or.inl (mm_finI (by decide +kernel))) rfl rfl (by decide) hG.k214 (by decide) (hG.lt (by decide)) ?_
  generalize hD_D2 : up2 D1 214 53 7 = D2
  replace h := h _ hD_D2.symm
  refine g_iconst dX12_grows_11 ?_
  refine h_istore_n (L' := [some (vR 214), some (vI x1), some (vI 0), none, none, none, none]) dX12_grows_12 rfl (Nat.le_of_ble_eq_true rfl) rfl rfl ?_
  exact Go.drop (by simp only [mm_sub, and_self]) h
set_option maxRecDepth 20000 in
theorem w_X12_grows_13 {E : mmE} {d kc ks : Nat} {G : mmG} {D : mmD} {Q : mmQ} {x1 x2 : Int} (hG : Sh G)  (h : ((iv 3 ≤ iv x2 → Call E d 0 0 mX12_trees [vR 214] G D (retI G (fun z2 D1 => Go E (d + 1) kc ks mX12_grows 49 [some (vR 214), none, some (vI x1), some (vI z2), some (vI 3), none, none] [] G D1 Q))) ∧ (¬ iv 3 ≤ iv x2 → ((0 ≤ x2 ∧ x2 < 9) ∧ (∀ D3 : mmD, D3 = up2 D 244 x2 6 → ((0 ≤ x2 ∧ x2 < 9) ∧ (∀ D4 : mmD, D4 = up2 D3 245 x2 x2 → Go E (d + 1) kc ks mX12_grows 13 [some (vR 214), some (vI x1), some (vI (x2 + 1)), none, none, none, none] [] G D4 Q))))))) : Go E (d + 1) kc ks mX12_grows 13 [some (vR 214), some (vI x1), some (vI x2), none, none, none, none] [] G D Q := by
  refine g_iload_n dX12_grows_13 rfl rfl ?_
  refine g_iconst dX12_grows_14 ?_
  refine g_icmp_ge 39 dX12_grows_15 (by decide) ⟨fun hc => ?_, fun hc => ?_⟩
  · replace h := h.1 hc
    refine g_iload_n dX12_grows_39 rfl rfl ?_
    refine h_istore_n (L' := [some (vR 214), some (vI x1), some (vI x1), none, none, none, none]) dX12_grows_40 rfl (Nat.le_of_ble_eq_true rfl) rfl rfl ?_
    refine g_aload_n dX12_grows_41 rfl rfl ?_
    refine g_callV (kc := kc) (kc' := 0) (ks := ks) (ks' := 0) (as := []) (st := []) (ci := 11) dX12_grows_42 cB_X12_trees lk_X12_286 in_X12_trees se_X12_trees (by decide) rfl rfl (Nat.le_of_ble_eq_true rfl) (Nat.le_of_ble_eq_true rfl) (by decide) (hG.lt (by decide)) (congrArg Prod.fst hG.k214) ?_
    refine Go.to (fun r G' D1 hr => ?_) h
    obtain ⟨rfl, z2, rfl, h⟩ := hr
    show Go E (d + 1) kc ks mX12_grows 45 [some (vR 214), some (vI x1), some (vI x1), none, none, none, none] [vI z2] G D1 Q
    refine h_istore_n (L' := [some (vR 214), some (vI x1), some (vI x1), some (vI z2), none, none, none]) dX12_grows_45 rfl (Nat.le_of_ble_eq_true rfl) rfl rfl ?_
    refine g_iconst dX12_grows_46 ?_
    refine h_istore (L' := [some (vR 214), some (vI x1), some (vI x1), some (vI z2), some (vI 3), none, none]) dX12_grows_47 (Nat.le_of_ble_eq_true rfl) rfl rfl ?_
    exact Go.drop (by simp only [mm_sub, and_self]) h
  · replace h := h.2 hc
    refine g_aload_n dX12_grows_18 rfl rfl ?_
    refine h_getR (j := 49) dX12_grows_19 f_X12_102_11 rfl rfl (by decide) hG.k214 (by decide) (hG.lt (by decide)) hG.r214_49 ?_
    refine g_iload_n dX12_grows_22 rfl rfl ?_
    refine g_bipush dX12_grows_23 bp_6 ?_
    refine g_iast dX12_grows_25 hG.k244 (by decide) (hG.lt (by decide)) (by decide) ⟨h.1, ?_⟩
    generalize hD_D3 : up2 D 244 x2 6 = D3
    replace h := h.2 _ hD_D3.symm
    refine g_aload_n dX12_grows_26 rfl rfl ?_
    refine h_getR (j := 50) dX12_grows_27 f_X12_105_11 rfl rfl (by decide) hG.k214 (by decide) (hG.lt (by decide)) hG.r214_50 ?_
    refine g_iload_n dX12_grows_30 rfl rfl ?_
    refine g_iload_n dX12_grows_31 rfl rfl ?_
    refine g_iast dX12_grows_32 hG.k245 (by decide) (hG.lt (by decide)) (by decide) ⟨h.1, ?_⟩
    generalize hD_D4 : up2 D3 245 x2 x2 = D4
    replace h := h.2 _ hD_D4.symm
    refine h_iinc (L' := [some (vR 214), some (vI x1), some (vI (x2 + 1)), none, none, none, none]) dX12_grows_33 (Nat.le_of_ble_eq_true rfl) rfl rfl rfl ?_
    refine g_goto 13 dX12_grows_36 (by decide) ?_
    exact Go.drop (by simp only [mm_sub, and_self]) h
set_option maxRecDepth 20000 in
theorem w_X12_grows_49 {E : mmE} {d kc ks : Nat} {G : mmG} {D : mmD} {Q : mmQ} {x2 x3 x4 : Int} (hG : Sh G)  (h : ((iv (D 214 51) ≤ iv x4 → Q none G D) ∧ (¬ iv (D 214 51) ≤ iv x4 → (¬ iv ((2 * x4) - 3) = 0 ∧ (¬ iv (idiv x3 ((2 * x4) - 3)) = 0 ∧ (¬ iv (idiv x3 ((2 * x4) - 3)) = 0 ∧ ((0 ≤ (D 214 52) ∧ (D 214 52) < 9) ∧ (∀ D1 : mmD, D1 = up2 D 244 (D 214 52) (D 214 53) → ((0 ≤ (idiv x2 (idiv x3 ((2 * x4) - 3))) ∧ (idiv x2 (idiv x3 ((2 * x4) - 3))) < 9) ∧ ((0 ≤ (D1 214 52) ∧ (D1 214 52) < 9) ∧ (∀ D2 : mmD, D2 = up2 D1 245 (D1 214 52) (D1 245 (idiv x2 (idiv x3 ((2 * x4) - 3)))) → ((0 ≤ (idiv x2 (idiv x3 ((2 * x4) - 3))) ∧ (idiv x2 (idiv x3 ((2 * x4) - 3))) < 9) ∧ (∀ D3 : mmD, D3 = up2 D2 245 (idiv x2 (idiv x3 ((2 * x4) - 3))) (D2 214 53) → ((0 ≤ ((D3 214 52) + 1) ∧ ((D3 214 52) + 1) < 9) ∧ (∀ D4 : mmD, D4 = up2 D3 244 ((D3 214 52) + 1) (D3 214 53) → ((0 ≤ ((D4 214 52) + 1) ∧ ((D4 214 52) + 1) < 9) ∧ (∀ D5 : mmD, D5 = up2 D4 245 ((D4 214 52) + 1) x4 → (∀ D6 : mmD, D6 = up2 D5 214 52 ((D5 214 52) + 2) → (∀ D7 : mmD, D7 = up2 D6 214 53 ((D6 214 53) + 1) → Go E (d + 1) kc ks mX12_grows 49 [some (vR 214), none, some (vI (irem x2 (idiv x3 ((2 * x4) - 3)))), some (vI (idiv x3 ((2 * x4) - 3))), some (vI (x4 + 1)), none, none] [] G D7 Q))))))))))))))))))) : Go E (d + 1) kc ks mX12_grows 49 [some (vR 214), none, some (vI x2), some (vI x3), some (vI x4), none, none] [] G D Q := by
  refine g_iload dX12_grows_49 rfl ?_
  refine g_aload_n dX12_grows_51 rfl rfl ?_
  refine h_getI (j := 51) dX12_grows_52 f_X12_277_11 rfl rfl (by decide) hG.k214 (by decide) (hG.lt (by decide)) ?_
  refine g_icmp_ge 174 dX12_grows_55 (by decide) ⟨fun hc => ?_, fun hc => ?_⟩
  · replace h := h.1 hc
    exact g_vret dX12_grows_174 rfl h
  · replace h := h.2 hc
    refine g_iconst dX12_grows_58 ?_
    refine g_iload dX12_grows_59 rfl ?_
    refine g_imul dX12_grows_61 ?_
    refine g_iconst dX12_grows_62 ?_
    refine g_isub dX12_grows_63 ?_
    refine h_istore (L' := [some (vR 214), none, some (vI x2), some (vI x3), some (vI x4), some (vI ((2 * x4) - 3)), none]) dX12_grows_64 (Nat.le_of_ble_eq_true rfl) rfl rfl ?_
    refine g_iload_n dX12_grows_66 rfl rfl ?_
    refine g_iload dX12_grows_67 rfl ?_
    refine g_idiv dX12_grows_69 h.1 ?_
    replace h := h.2
    refine h_istore_n (L' := [some (vR 214), none, some (vI x2), some (vI (idiv x3 ((2 * x4) - 3))), some (vI x4), some (vI ((2 * x4) - 3)), none]) dX12_grows_70 rfl (Nat.le_of_ble_eq_true rfl) rfl rfl ?_
    refine g_iload_n dX12_grows_71 rfl rfl ?_
    refine g_iload_n dX12_grows_72 rfl rfl ?_
    refine g_idiv dX12_grows_73 h.1 ?_
    replace h := h.2
    refine h_istore (L' := [some (vR 214), none, some (vI x2), some (vI (idiv x3 ((2 * x4) - 3))), some (vI x4), some (vI ((2 * x4) - 3)), some (vI (idiv x2 (idiv x3 ((2 * x4) - 3))))]) dX12_grows_74 (Nat.le_of_ble_eq_true rfl) rfl rfl ?_
    refine g_iload_n dX12_grows_76 rfl rfl ?_
    refine g_iload_n dX12_grows_77 rfl rfl ?_
    refine g_irem dX12_grows_78 h.1 ?_
    replace h := h.2
    refine h_istore_n (L' := [some (vR 214), none, some (vI (irem x2 (idiv x3 ((2 * x4) - 3)))), some (vI (idiv x3 ((2 * x4) - 3))), some (vI x4), some (vI ((2 * x4) - 3)), some (vI (idiv x2 (idiv x3 ((2 * x4) - 3))))]) dX12_grows_79 rfl (Nat.le_of_ble_eq_true rfl) rfl rfl ?_
    refine g_aload_n dX12_grows_80 rfl rfl ?_
    refine h_getR (j := 49) dX12_grows_81 f_X12_102_11 rfl rfl (by decide) hG.k214 (by decide) (hG.lt (by decide)) hG.r214_49 ?_
    refine g_aload_n dX12_grows_84 rfl rfl ?_
    refine h_getI (j := 52) dX12_grows_85 f_X12_280_11 rfl rfl (by decide) hG.k214 (by decide) (hG.lt (by decide)) ?_
    refine g_aload_n dX12_grows_88 rfl rfl ?_
    refine h_getI (j := 53) dX12_grows_89 f_X12_283_11 rfl rfl (by decide) hG.k214 (by decide) (hG.lt (by decide)) ?_
    refine g_iast dX12_grows_92 hG.k244 (by decide) (hG.lt (by decide)) (by decide) ⟨h.1, ?_⟩
    generalize hD_D1 : up2 D 244 (D 214 52) (D 214 53) = D1
    replace h := h.2 _ hD_D1.symm
    refine g_aload_n dX12_grows_93 rfl rfl ?_
    refine h_getR (j := 50) dX12_grows_94 f_X12_105_11 rfl rfl (by decide) hG.k214 (by decide) (hG.lt (by decide)) hG.r214_50 ?_
    refine g_aload_n dX12_grows_97 rfl rfl ?_
    refine h_getI (j := 52) dX12_grows_98 f_X12_280_11 rfl rfl (by decide) hG.k214 (by decide) (hG.lt (by decide)) ?_
    refine g_aload_n dX12_grows_101 rfl rfl ?_
    refine h_getR (j := 50) dX12_grows_102 f_X12_105_11 rfl rfl (by decide) hG.k214 (by decide) (hG.lt (by decide)) hG.r214_50 ?_
    refine g_iload dX12_grows_105 rfl ?_
    refine g_iald dX12_grows_107 hG.k245 (by decide) (hG.lt (by decide)) (by decide) ⟨h.1, ?_⟩
    replace h := h.2
    refine g_iast dX12_grows_108 hG.k245 (by decide) (hG.lt (by decide)) (by decide) ⟨h.1, ?_⟩
    generalize hD_D2 : up2 D1 245 (D1 214 52) (D1 245 (idiv x2 (idiv x3 ((2 * x4) - 3)))) = D2
    replace h := h.2 _ hD_D2.symm
    refine g_aload_n dX12_grows_109 rfl rfl ?_
    refine h_getR (j := 50) dX12_grows_110 f_X12_105_11 rfl rfl (by decide) hG.k214 (by decide) (hG.lt (by decide)) hG.r214_50 ?_
    refine g_iload dX12_grows_113 rfl ?_
    refine g_aload_n dX12_grows_115 rfl rfl ?_
    refine h_getI (j := 53) dX12_grows_116 f_X12_283_11 rfl rfl (by decide) hG.k214 (by decide) (hG.lt (by decide)) ?_
    refine g_iast dX12_grows_119 hG.k245 (by decide) (hG.lt (by decide)) (by decide) ⟨h.1, ?_⟩
    generalize hD_D3 : up2 D2 245 (idiv x2 (idiv x3 ((2 * x4) - 3))) (D2 214 53) = D3
    replace h := h.2 _ hD_D3.symm
    refine g_aload_n dX12_grows_120 rfl rfl ?_
    refine h_getR (j := 49) dX12_grows_121 f_X12_102_11 rfl rfl (by decide) hG.k214 (by decide) (hG.lt (by decide)) hG.r214_49 ?_
    refine g_aload_n dX12_grows_124 rfl rfl ?_
    refine h_getI (j := 52) dX12_grows_125 f_X12_280_11 rfl rfl (by decide) hG.k214 (by decide) (hG.lt (by decide)) ?_
    refine g_iconst dX12_grows_128 ?_
    refine g_iadd dX12_grows_129 ?_
    refine g_aload_n dX12_grows_130 rfl rfl ?_
    refine h_getI (j := 53) dX12_grows_131 f_X12_283_11 rfl rfl (by decide) hG.k214 (by decide) (hG.lt (by decide)) ?_
    refine g_iast dX12_grows_134 hG.k244 (by decide) (hG.lt (by decide)) (by decide) ⟨h.1, ?_⟩
    generalize hD_D4 : up2 D3 244 ((D3 214 52) + 1) (D3 214 53) = D4
    replace h := h.2 _ hD_D4.symm
    refine g_aload_n dX12_grows_135 rfl rfl ?_
    refine h_getR (j := 50) dX12_grows_136 f_X12_105_11 rfl rfl (by decide) hG.k214 (by decide) (hG.lt (by decide)) hG.r214_50 ?_
    refine g_aload_n dX12_grows_139 rfl rfl ?_
    refine h_getI (j := 52) dX12_grows_140 f_X12_280_11 rfl rfl (by decide) hG.k214 (by decide) (hG.lt (by decide)) ?_
    refine g_iconst dX12_grows_143 ?_
    refine g_iadd dX12_grows_144 ?_
    refine g_iload dX12_grows_145 rfl ?_
    refine g_iast dX12_grows_147 hG.k245 (by decide) (hG.lt (by decide)) (by decide) ⟨h.1, ?_⟩
    generalize hD_D5 : up2 D4 245 ((D4 214 52) + 1) x4 = D5
    replace h := h.2 _ hD_D5.symm
    refine g_aload_n dX12_grows_148 rfl rfl ?_
    refine g_dup dX12_grows_149 (fun _ h9 => by cases h9) ?_
    refine h_getI (j := 52) dX12_grows_150 f_X12_280_11 rfl rfl (by decide) hG.k214 (by decide) (hG.lt (by decide)) ?_
    refine g_iconst dX12_grows_153 ?_
    refine g_iadd dX12_grows_154 ?_
    refine h_putI (j := 52) dX12_grows_155 f_X12_280_11 (Or.inl (mm_finI (by decide +kernel))) rfl rfl (by decide) hG.k214 (by decide) (hG.lt (by decide)) ?_
    generalize hD_D6 : up2 D5 214 52 ((D5 214 52) + 2) = D6
    replace h := h _ hD_D6.symm
    refine g_aload_n dX12_grows_158 rfl rfl ?_
    refine g_dup dX12_grows_159 (fun _ h9 => by cases h9) ?_
    refine h_getI (j := 53) dX12_grows_160 f_X12_283_11 rfl rfl (by decide) hG.k214 (by decide) (hG.lt (by decide)) ?_
    refine g_iconst dX12_grows_163 ?_
    refine g_iadd dX12_grows_164 ?_
    refine h_putI (j := 53) dX12_grows_165 f_X12_283_11 (Or.inl (mm_finI (by decide +kernel))) rfl rfl (by decide) hG.k214 (by decide) (hG.lt (by decide)) ?_
    generalize hD_D7 : up2 D6 214 53 ((D6 214 53) + 1) = D7
    replace h := h _ hD_D7.symm
    refine h_iinc (L' := [some (vR 214), none, some (vI (irem x2 (idiv x3 ((2 * x4) - 3)))), some (vI (idiv x3 ((2 * x4) - 3))), some (vI (x4 + 1)), some (vI ((2 * x4) - 3)), some (vI (idiv x2 (idiv x3 ((2 * x4) - 3))))]) dX12_grows_168 (Nat.le_of_ble_eq_true rfl) rfl rfl rfl ?_
    refine g_goto 49 dX12_grows_171 (by decide) ?_
    exact Go.drop (by simp only [mm_sub, and_self]) h
set_option maxRecDepth 20000 in
theorem w_X12_below {E : mmE} {d kc ks : Nat} {G : mmG} {D : mmD} {Q : mmQ} {x1 x2 x3 : Int} (hG : Sh G)  (h : ((iv 6 ≤ iv x2 → Go E d kc ks mX12_below 49 [some (vR 214), none, some (vI x2), some (vI x3), some (vI 0), some (vI 0), none, none, none] [] G D Q) ∧ (¬ iv 6 ≤ iv x2 → ((0 ≤ ((6 * x1) + x2) ∧ ((6 * x1) + x2) < 60) ∧ ((iv (D 246 ((6 * x1) + x2)) = iv (-1) → Q (some (vI 0)) G D) ∧ (¬ iv (D 246 ((6 * x1) + x2)) = iv (-1) → ((0 ≤ ((6 * x1) + x2) ∧ ((6 * x1) + x2) < 60) ∧ ((¬ iv (D 246 ((6 * x1) + x2)) = iv x3 → Q (some (vI 1000000)) G D) ∧ (iv (D 246 ((6 * x1) + x2)) = iv x3 → Q (some (vI 0)) G D))))))))) : Call E d kc ks mX12_below [vR 214, vI x1, vI x2, vI x3] G D Q := by
  show Go E d kc ks mX12_below 0 [some (vR 214), some (vI x1), some (vI x2), some (vI x3), none, none, none, none, none] [] G D Q
  refine g_iload_n dX12_below_0 rfl rfl ?_
  refine g_bipush dX12_below_1 bp_6 ?_
  refine g_icmp_ge 43 dX12_below_3 (by decide) ⟨fun hc => ?_, fun hc => ?_⟩
  · replace h := h.1 hc
    refine g_iconst dX12_below_43 ?_
    refine h_istore (L' := [some (vR 214), some (vI x1), some (vI x2), some (vI x3), some (vI 0), none, none, none, none]) dX12_below_44 (Nat.le_of_ble_eq_true rfl) rfl rfl ?_
    refine g_iconst dX12_below_46 ?_
    refine h_istore (L' := [some (vR 214), some (vI x1), some (vI x2), some (vI x3), some (vI 0), some (vI 0), none, none, none]) dX12_below_47 (Nat.le_of_ble_eq_true rfl) rfl rfl ?_
    exact Go.drop (by simp only [mm_sub, and_self]) h
  · replace h := h.2 hc
    refine g_aload_n dX12_below_6 rfl rfl ?_
    refine h_getR (j := 54) dX12_below_7 f_X12_108_11 rfl rfl (by decide) hG.k214 (by decide) (hG.lt (by decide)) hG.r214_54 ?_
    refine g_bipush dX12_below_10 bp_6 ?_
    refine g_iload_n dX12_below_12 rfl rfl ?_
    refine g_imul dX12_below_13 ?_
    refine g_iload_n dX12_below_14 rfl rfl ?_
    refine g_iadd dX12_below_15 ?_
    refine g_iald dX12_below_16 hG.k246 (by decide) (hG.lt (by decide)) (by decide) ⟨h.1, ?_⟩
    replace h := h.2
    refine g_iconst dX12_below_17 ?_
    refine g_icmp_eq 36 dX12_below_18 (by decide) ⟨fun hc => ?_, fun hc => ?_⟩
    · replace h := h.1 hc
      refine g_iconst dX12_below_36 ?_
      refine g_goto 42 dX12_below_37 (by decide) ?_
      exact g_iret dX12_below_42 rfl h
    · replace h := h.2 hc
      refine g_aload_n dX12_below_21 rfl rfl ?_
      refine h_getR (j := 54) dX12_below_22 f_X12_108_11 rfl rfl (by decide) hG.k214 (by decide) (hG.lt (by decide)) hG.r214_54 ?_
      refine g_bipush dX12_below_25 bp_6 ?_
      refine g_iload_n dX12_below_27 rfl rfl ?_
      refine g_imul dX12_below_28 ?_
      refine g_iload_n dX12_below_29 rfl rfl ?_
      refine g_iadd dX12_below_30 ?_
      refine g_iald dX12_below_31 hG.k246 (by decide) (hG.lt (by decide)) (by decide) ⟨h.1, ?_⟩
      replace h := h.2
      refine g_iload_n dX12_below_32 rfl rfl ?_
      refine g_icmp_ne 40 dX12_below_33 (by decide) ⟨fun hc => ?_, fun hc => ?_⟩
      · replace h := h.1 hc
        refine g_ldc (n := 1000000) dX12_below_40 kc_X12_224 (by decide +kernel) ?_
        exact g_iret dX12_below_42 rfl h
      · replace h := h.2 hc
        refine g_iconst dX12_below_36 ?_
        refine g_goto 42 dX12_below_37 (by decide) ?_
        exact g_iret dX12_below_42 rfl h
set_option maxRecDepth 20000 in
theorem w_X12_below_49 {E : mmE} {d kc ks : Nat} {G : mmG} {D : mmD} {Q : mmQ} {x2 x3 x4 x5 : Int} (hG : Sh G)  (h : ((iv (D 214 52) ≤ iv x5 → Q (some (vI x4)) G D) ∧ (¬ iv (D 214 52) ≤ iv x5 → ((0 ≤ x5 ∧ x5 < 9) ∧ ((¬ iv (D 244 x5) = iv x2 → Go E d kc ks mX12_below 49 [some (vR 214), none, some (vI x2), some (vI x3), some (vI x4), some (vI (x5 + 1)), none, none, none] [] G D Q) ∧ (iv (D 244 x5) = iv x2 → Go E d kc ks mX12_below 76 [some (vR 214), none, some (vI x2), some (vI x3), some (vI x4), some (vI x5), some (vI 1000000), some (vI 0), none] [] G D Q)))))) : Go E d kc ks mX12_below 49 [some (vR 214), none, some (vI x2), some (vI x3), some (vI x4), some (vI x5), none, none, none] [] G D Q := by
  refine g_iload dX12_below_49 rfl ?_
  refine g_aload_n dX12_below_51 rfl rfl ?_
  refine h_getI (j := 52) dX12_below_52 f_X12_280_11 rfl rfl (by decide) hG.k214 (by decide) (hG.lt (by decide)) ?_
  refine g_icmp_ge 150 dX12_below_55 (by decide) ⟨fun hc => ?_, fun hc => ?_⟩
  · replace h := h.1 hc
    refine g_iload dX12_below_150 rfl ?_
    exact g_iret dX12_below_152 rfl h
  · replace h := h.2 hc
    refine g_aload_n dX12_below_58 rfl rfl ?_
    refine h_getR (j := 49) dX12_below_59 f_X12_102_11 rfl rfl (by decide) hG.k214 (by decide) (hG.lt (by decide)) hG.r214_49 ?_
    refine g_iload dX12_below_62 rfl ?_
    refine g_iald dX12_below_64 hG.k244 (by decide) (hG.lt (by decide)) (by decide) ⟨h.1, ?_⟩
    replace h := h.2
    refine g_iload_n dX12_below_65 rfl rfl ?_
    refine g_icmp_ne 144 dX12_below_66 (by decide) ⟨fun hc => ?_, fun hc => ?_⟩
    · replace h := h.1 hc
      refine h_iinc (L' := [some (vR 214), none, some (vI x2), some (vI x3), some (vI x4), some (vI (x5 + 1)), none, none, none]) dX12_below_144 (Nat.le_of_ble_eq_true rfl) rfl rfl rfl ?_
      refine g_goto 49 dX12_below_147 (by decide) ?_
      exact Go.drop (by simp only [mm_sub, and_self]) h
    · replace h := h.2 hc
      refine g_ldc (n := 1000000) dX12_below_69 kc_X12_224 (by decide +kernel) ?_
      refine h_istore (L' := [some (vR 214), none, some (vI x2), some (vI x3), some (vI x4), some (vI x5), some (vI 1000000), none, none]) dX12_below_71 (Nat.le_of_ble_eq_true rfl) rfl rfl ?_
      refine g_iconst dX12_below_73 ?_
      refine h_istore (L' := [some (vR 214), none, some (vI x2), some (vI x3), some (vI x4), some (vI x5), some (vI 1000000), some (vI 0), none]) dX12_below_74 (Nat.le_of_ble_eq_true rfl) rfl rfl ?_
      exact Go.drop (by simp only [mm_sub, and_self]) h
set_option maxRecDepth 20000 in
theorem w_X12_below_76 {E : mmE} {d kc ks : Nat} {G : mmG} {D : mmD} {Q : mmQ} {x2 x3 x4 x5 x6 x7 : Int} (hG : Sh G)  (h : ((iv 6 ≤ iv x7 → Go E d kc ks mX12_below 49 [some (vR 214), none, some (vI x2), some (vI x3), some (vI (x4 + x6)), some (vI (x5 + 1)), none, none, none] [] G D Q) ∧ (¬ iv 6 ≤ iv x7 → ((0 ≤ x5 ∧ x5 < 9) ∧ ((0 ≤ ((6 * (D 245 x5)) + x7) ∧ ((6 * (D 245 x5)) + x7) < 66) ∧ ((¬ iv x7 = iv x3 → ((iv x6 ≤ iv ((D 247 ((6 * (D 245 x5)) + x7)) + 1) → Go E d kc ks mX12_below 76 [some (vR 214), none, some (vI x2), some (vI x3), some (vI x4), some (vI x5), some (vI x6), some (vI (x7 + 1)), none] [] G D Q) ∧ (¬ iv x6 ≤ iv ((D 247 ((6 * (D 245 x5)) + x7)) + 1) → Go E d kc ks mX12_below 76 [some (vR 214), none, some (vI x2), some (vI x3), some (vI x4), some (vI x5), some (vI ((D 247 ((6 * (D 245 x5)) + x7)) + 1)), some (vI (x7 + 1)), none] [] G D Q))) ∧ (iv x7 = iv x3 → ((iv x6 ≤ iv ((D 247 ((6 * (D 245 x5)) + x7)) + 0) → Go E d kc ks mX12_below 76 [some (vR 214), none, some (vI x2), some (vI x3), some (vI x4), some (vI x5), some (vI x6), some (vI (x7 + 1)), none] [] G D Q) ∧ (¬ iv x6 ≤ iv ((D 247 ((6 * (D 245 x5)) + x7)) + 0) → Go E d kc ks mX12_below 76 [some (vR 214), none, some (vI x2), some (vI x3), some (vI x4), some (vI x5), some (vI ((D 247 ((6 * (D 245 x5)) + x7)) + 0)), some (vI (x7 + 1)), none] [] G D Q))))))))) : Go E d kc ks mX12_below 76 [some (vR 214), none, some (vI x2), some (vI x3), some (vI x4), some (vI x5), some (vI x6), some (vI x7), none] [] G D Q := by
  refine g_iload dX12_below_76 rfl ?_
  refine g_bipush dX12_below_78 bp_6 ?_
  refine g_icmp_ge 137 dX12_below_80 (by decide) ⟨fun hc => ?_, fun hc => ?_⟩
  · replace h := h.1 hc
    refine g_iload dX12_below_137 rfl ?_
    refine g_iload dX12_below_139 rfl ?_
    refine g_iadd dX12_below_141 ?_
    refine h_istore (L' := [some (vR 214), none, some (vI x2), some (vI x3), some (vI (x4 + x6)), some (vI x5), some (vI x6), some (vI x7), none]) dX12_below_142 (Nat.le_of_ble_eq_true rfl) rfl rfl ?_
    refine h_iinc (L' := [some (vR 214), none, some (vI x2), some (vI x3), some (vI (x4 + x6)), some (vI (x5 + 1)), some (vI x6), some (vI x7), none]) dX12_below_144 (Nat.le_of_ble_eq_true rfl) rfl rfl rfl ?_
    refine g_goto 49 dX12_below_147 (by decide) ?_
    exact Go.drop (by simp only [mm_sub, and_self]) h
  · replace h := h.2 hc
    refine g_aload_n dX12_below_83 rfl rfl ?_
    refine h_getR (j := 55) dX12_below_84 f_X12_111_11 rfl rfl (by decide) hG.k214 (by decide) (hG.lt (by decide)) hG.r214_55 ?_
    refine g_bipush dX12_below_87 bp_6 ?_
    refine g_aload_n dX12_below_89 rfl rfl ?_
    refine h_getR (j := 50) dX12_below_90 f_X12_105_11 rfl rfl (by decide) hG.k214 (by decide) (hG.lt (by decide)) hG.r214_50 ?_
    refine g_iload dX12_below_93 rfl ?_
    refine g_iald dX12_below_95 hG.k245 (by decide) (hG.lt (by decide)) (by decide) ⟨h.1, ?_⟩
    replace h := h.2
    refine g_imul dX12_below_96 ?_
    refine g_iload dX12_below_97 rfl ?_
    refine g_iadd dX12_below_99 ?_
    refine g_iald dX12_below_100 hG.k247 (by decide) (hG.lt (by decide)) (by decide) ⟨h.1, ?_⟩
    replace h := h.2
    refine g_iload dX12_below_101 rfl ?_
    refine g_iload_n dX12_below_103 rfl rfl ?_
    refine g_icmp_ne 111 dX12_below_104 (by decide) ⟨fun hc => ?_, fun hc => ?_⟩
    · replace h := h.1 hc
      refine g_iconst dX12_below_111 ?_
      refine g_iadd dX12_below_112 ?_
      refine h_istore (L' := [some (vR 214), none, some (vI x2), some (vI x3), some (vI x4), some (vI x5), some (vI x6), some (vI x7), some (vI ((D 247 ((6 * (D 245 x5)) + x7)) + 1))]) dX12_below_113 (Nat.le_of_ble_eq_true rfl) rfl rfl ?_
      refine g_iload dX12_below_115 rfl ?_
      refine g_iload dX12_below_117 rfl ?_
      refine g_icmp_ge 127 dX12_below_119 (by decide) ⟨fun hc => ?_, fun hc => ?_⟩
      · replace h := h.1 hc
        refine g_iload dX12_below_127 rfl ?_
        refine h_istore (L' := [some (vR 214), none, some (vI x2), some (vI x3), some (vI x4), some (vI x5), some (vI x6), some (vI x7), some (vI ((D 247 ((6 * (D 245 x5)) + x7)) + 1))]) dX12_below_129 (Nat.le_of_ble_eq_true rfl) rfl rfl ?_
        refine h_iinc (L' := [some (vR 214), none, some (vI x2), some (vI x3), some (vI x4), some (vI x5), some (vI x6), some (vI (x7 + 1)), some (vI ((D 247 ((6 * (D 245 x5)) + x7)) + 1))]) dX12_below_131 (Nat.le_of_ble_eq_true rfl) rfl rfl rfl ?_
        refine g_goto 76 dX12_below_134 (by decide) ?_
        exact Go.drop (by simp only [mm_sub, and_self]) h
      · replace h := h.2 hc
        refine g_iload dX12_below_122 rfl ?_
        refine g_goto 129 dX12_below_124 (by decide) ?_
        refine h_istore (L' := [some (vR 214), none, some (vI x2), some (vI x3), some (vI x4), some (vI x5), some (vI ((D 247 ((6 * (D 245 x5)) + x7)) + 1)), some (vI x7), some (vI ((D 247 ((6 * (D 245 x5)) + x7)) + 1))]) dX12_below_129 (Nat.le_of_ble_eq_true rfl) rfl rfl ?_
        refine h_iinc (L' := [some (vR 214), none, some (vI x2), some (vI x3), some (vI x4), some (vI x5), some (vI ((D 247 ((6 * (D 245 x5)) + x7)) + 1)), some (vI (x7 + 1)), some (vI ((D 247 ((6 * (D 245 x5)) + x7)) + 1))]) dX12_below_131 (Nat.le_of_ble_eq_true rfl) rfl rfl rfl ?_
        refine g_goto 76 dX12_below_134 (by decide) ?_
        exact Go.drop (by simp only [mm_sub, and_self]) h
    · replace h := h.2 hc
      refine g_iconst dX12_below_107 ?_
      refine g_goto 112 dX12_below_108 (by decide) ?_
      refine g_iadd dX12_below_112 ?_
      refine h_istore (L' := [some (vR 214), none, some (vI x2), some (vI x3), some (vI x4), some (vI x5), some (vI x6), some (vI x7), some (vI ((D 247 ((6 * (D 245 x5)) + x7)) + 0))]) dX12_below_113 (Nat.le_of_ble_eq_true rfl) rfl rfl ?_
      refine g_iload dX12_below_115 rfl ?_
      refine g_iload dX12_below_117 rfl ?_
      refine g_icmp_ge 127 dX12_below_119 (by decide) ⟨fun hc => ?_, fun hc => ?_⟩
      · replace h := h.1 hc
        refine g_iload dX12_below_127 rfl ?_
        refine h_istore (L' := [some (vR 214), none, some (vI x2), some (vI x3), some (vI x4), some (vI x5), some (vI x6), some (vI x7), some (vI ((D 247 ((6 * (D 245 x5)) + x7)) + 0))]) dX12_below_129 (Nat.le_of_ble_eq_true rfl) rfl rfl ?_
        refine h_iinc (L' := [some (vR 214), none, some (vI x2), some (vI x3), some (vI x4), some (vI x5), some (vI x6), some (vI (x7 + 1)), some (vI ((D 247 ((6 * (D 245 x5)) + x7)) + 0))]) dX12_below_131 (Nat.le_of_ble_eq_true rfl) rfl rfl rfl ?_
        refine g_goto 76 dX12_below_134 (by decide) ?_
        exact Go.drop (by simp only [mm_sub, and_self]) h
      · replace h := h.2 hc
        refine g_iload dX12_below_122 rfl ?_
        refine g_goto 129 dX12_below_124 (by decide) ?_
        refine h_istore (L' := [some (vR 214), none, some (vI x2), some (vI x3), some (vI x4), some (vI x5), some (vI ((D 247 ((6 * (D 245 x5)) + x7)) + 0)), some (vI x7), some (vI ((D 247 ((6 * (D 245 x5)) + x7)) + 0))]) dX12_below_129 (Nat.le_of_ble_eq_true rfl) rfl rfl ?_
        refine h_iinc (L' := [some (vR 214), none, some (vI x2), some (vI x3), some (vI x4), some (vI x5), some (vI ((D 247 ((6 * (D 245 x5)) + x7)) + 0)), some (vI (x7 + 1)), some (vI ((D 247 ((6 * (D 245 x5)) + x7)) + 0))]) dX12_below_131 (Nat.le_of_ble_eq_true rfl) rfl rfl rfl ?_
        refine g_goto 76 dX12_below_134 (by decide) ?_
        exact Go.drop (by simp only [mm_sub, and_self]) h
set_option maxRecDepth 20000 in
theorem w_X12_stepsOf {E : mmE} {d kc ks : Nat} {G : mmG} {D : mmD} {Q : mmQ} {x1 : Int} (hG : Sh G)  (h : Call E d 0 0 mX12_grows [vR 214, vI x1] G D (retV G (fun D1 => Go E (d + 1) kc ks mX12_stepsOf 9 [some (vR 214), none, some (vI 0), some (vI 0), none, none, none, none] [] G D1 Q))) : Call E (d + 1) kc ks mX12_stepsOf [vR 214, vI x1] G D Q := by
  show Go E (d + 1) kc ks mX12_stepsOf 0 [some (vR 214), some (vI x1), none, none, none, none, none, none] [] G D Q
  refine g_aload_n dX12_stepsOf_0 rfl rfl ?_
  refine g_iload_n dX12_stepsOf_1 rfl rfl ?_
  refine g_callV (kc := kc) (kc' := 0) (ks := ks) (ks' := 0) (as := [vI x1]) (st := []) (ci := 11) dX12_stepsOf_2 cB_X12_grows lk_X12_289 in_X12_grows se_X12_grows (by decide) rfl rfl (Nat.le_of_ble_eq_true rfl) (Nat.le_of_ble_eq_true rfl) (by decide) (hG.lt (by decide)) (congrArg Prod.fst hG.k214) ?_
  refine Go.to (fun r G' D1 hr => ?_) h
  obtain ⟨rfl, rfl, h⟩ := hr
  show Go E (d + 1) kc ks mX12_stepsOf 5 [some (vR 214), some (vI x1), none, none, none, none, none, none] [] G D1 Q
  refine g_iconst dX12_stepsOf_5 ?_
  refine h_istore_n (L' := [some (vR 214), some (vI x1), some (vI 0), none, none, none, none, none]) dX12_stepsOf_6 rfl (Nat.le_of_ble_eq_true rfl) rfl rfl ?_
  refine g_iconst dX12_stepsOf_7 ?_
  refine h_istore_n (L' := [some (vR 214), some (vI x1), some (vI 0), some (vI 0), none, none, none, none]) dX12_stepsOf_8 rfl (Nat.le_of_ble_eq_true rfl) rfl rfl ?_
  exact Go.drop (by simp only [mm_sub, and_self]) h
set_option maxRecDepth 20000 in
theorem w_X12_stepsOf_9 {E : mmE} {d kc ks : Nat} {G : mmG} {D : mmD} {Q : mmQ} {x2 x3 : Int} (hG : Sh G)  (h : ((iv 10 ≤ iv x3 → Q (some (vI x2)) G D) ∧ (¬ iv 10 ≤ iv x3 → Go E (d + 1) kc ks mX12_stepsOf 18 [some (vR 214), none, some (vI x2), some (vI x3), some (vI 0), none, none, none] [] G D Q))) : Go E (d + 1) kc ks mX12_stepsOf 9 [some (vR 214), none, some (vI x2), some (vI x3), none, none, none, none] [] G D Q := by
  refine g_iload_n dX12_stepsOf_9 rfl rfl ?_
  refine g_bipush dX12_stepsOf_10 bp_10 ?_
  refine g_icmp_ge 332 dX12_stepsOf_12 (by decide) ⟨fun hc => ?_, fun hc => ?_⟩
  · replace h := h.1 hc
    refine g_iload_n dX12_stepsOf_332 rfl rfl ?_
    exact g_iret dX12_stepsOf_333 rfl h
  · replace h := h.2 hc
    refine g_iconst dX12_stepsOf_15 ?_
    refine h_istore (L' := [some (vR 214), none, some (vI x2), some (vI x3), some (vI 0), none, none, none]) dX12_stepsOf_16 (Nat.le_of_ble_eq_true rfl) rfl rfl ?_
    exact Go.drop (by simp only [mm_sub, and_self]) h
set_option maxRecDepth 20000 in
theorem w_X12_stepsOf_18 {E : mmE} {d kc ks : Nat} {G : mmG} {D : mmD} {Q : mmQ} {x2 x3 x4 : Int} (hG : Sh G)  (h : ((iv (D 214 51) ≤ iv x4 → Go E (d + 1) kc ks mX12_stepsOf 74 [some (vR 214), none, some (vI x2), some (vI x3), some (vI 0), none, none, none] [] G D Q) ∧ (¬ iv (D 214 51) ≤ iv x4 → Go E (d + 1) kc ks mX12_stepsOf 30 [some (vR 214), none, some (vI x2), some (vI x3), some (vI x4), some (vI 0), none, none] [] G D Q))) : Go E (d + 1) kc ks mX12_stepsOf 18 [some (vR 214), none, some (vI x2), some (vI x3), some (vI x4), none, none, none] [] G D Q := by
  refine g_iload dX12_stepsOf_18 rfl ?_
  refine g_aload_n dX12_stepsOf_20 rfl rfl ?_
  refine h_getI (j := 51) dX12_stepsOf_21 f_X12_277_11 rfl rfl (by decide) hG.k214 (by decide) (hG.lt (by decide)) ?_
  refine g_icmp_ge 71 dX12_stepsOf_24 (by decide) ⟨fun hc => ?_, fun hc => ?_⟩
  · replace h := h.1 hc
    refine g_iconst dX12_stepsOf_71 ?_
    refine h_istore (L' := [some (vR 214), none, some (vI x2), some (vI x3), some (vI 0), none, none, none]) dX12_stepsOf_72 (Nat.le_of_ble_eq_true rfl) rfl rfl ?_
    exact Go.drop (by simp only [mm_sub, and_self]) h
  · replace h := h.2 hc
    refine g_iconst dX12_stepsOf_27 ?_
    refine h_istore (L' := [some (vR 214), none, some (vI x2), some (vI x3), some (vI x4), some (vI 0), none, none]) dX12_stepsOf_28 (Nat.le_of_ble_eq_true rfl) rfl rfl ?_
    exact Go.drop (by simp only [mm_sub, and_self]) h
set_option maxRecDepth 20000 in
theorem w_X12_stepsOf_30 {E : mmE} {d kc ks : Nat} {G : mmG} {D : mmD} {Q : mmQ} {x2 x3 x4 x5 : Int} (hG : Sh G)  (h : ((iv 6 ≤ iv x5 → Go E (d + 1) kc ks mX12_stepsOf 18 [some (vR 214), none, some (vI x2), some (vI x3), some (vI (x4 + 1)), none, none, none] [] G D Q) ∧ (¬ iv 6 ≤ iv x5 → Call E d 0 0 mX12_below [vR 214, vI x3, vI x4, vI x5] G D (retI G (fun z2 D1 => ((0 ≤ ((6 * x4) + x5) ∧ ((6 * x4) + x5) < 66) ∧ (∀ D3 : mmD, D3 = up2 D1 247 ((6 * x4) + x5) z2 → Go E (d + 1) kc ks mX12_stepsOf 30 [some (vR 214), none, some (vI x2), some (vI x3), some (vI x4), some (vI (x5 + 1)), none, none] [] G D3 Q))))))) : Go E (d + 1) kc ks mX12_stepsOf 30 [some (vR 214), none, some (vI x2), some (vI x3), some (vI x4), some (vI x5), none, none] [] G D Q := by
  refine g_iload dX12_stepsOf_30 rfl ?_
  refine g_bipush dX12_stepsOf_32 bp_6 ?_
  refine g_icmp_ge 65 dX12_stepsOf_34 (by decide) ⟨fun hc => ?_, fun hc => ?_⟩
  · replace h := h.1 hc
    refine h_iinc (L' := [some (vR 214), none, some (vI x2), some (vI x3), some (vI (x4 + 1)), some (vI x5), none, none]) dX12_stepsOf_65 (Nat.le_of_ble_eq_true rfl) rfl rfl rfl ?_
    refine g_goto 18 dX12_stepsOf_68 (by decide) ?_
    exact Go.drop (by simp only [mm_sub, and_self]) h
  · replace h := h.2 hc
    refine g_aload_n dX12_stepsOf_37 rfl rfl ?_
    refine h_getR (j := 55) dX12_stepsOf_38 f_X12_111_11 rfl rfl (by decide) hG.k214 (by decide) (hG.lt (by decide)) hG.r214_55 ?_
    refine g_bipush dX12_stepsOf_41 bp_6 ?_
    refine g_iload dX12_stepsOf_43 rfl ?_
    refine g_imul dX12_stepsOf_45 ?_
    refine g_iload dX12_stepsOf_46 rfl ?_
    refine g_iadd dX12_stepsOf_48 ?_
    refine g_aload_n dX12_stepsOf_49 rfl rfl ?_
    refine g_iload_n dX12_stepsOf_50 rfl rfl ?_
    refine g_iload dX12_stepsOf_51 rfl ?_
    refine g_iload dX12_stepsOf_53 rfl ?_
    refine g_callV (kc := kc) (kc' := 0) (ks := ks) (ks' := 0) (as := [vI x3, vI x4, vI x5]) (st := [vI ((6 * x4) + x5), vR 247]) (ci := 11) dX12_stepsOf_55 cB_X12_below lk_X12_292 in_X12_below se_X12_below (by decide) rfl rfl (Nat.le_of_ble_eq_true rfl) (Nat.le_of_ble_eq_true rfl) (by decide) (hG.lt (by decide)) (congrArg Prod.fst hG.k214) ?_
    refine Go.to (fun r G' D1 hr => ?_) h
    obtain ⟨rfl, z2, rfl, h⟩ := hr
    show Go E (d + 1) kc ks mX12_stepsOf 58 [some (vR 214), none, some (vI x2), some (vI x3), some (vI x4), some (vI x5), none, none] [vI z2, vI ((6 * x4) + x5), vR 247] G D1 Q
    refine g_iast dX12_stepsOf_58 hG.k247 (by decide) (hG.lt (by decide)) (by decide) ⟨h.1, ?_⟩
    generalize hD_D3 : up2 D1 247 ((6 * x4) + x5) z2 = D3
    replace h := h.2 _ hD_D3.symm
    refine h_iinc (L' := [some (vR 214), none, some (vI x2), some (vI x3), some (vI x4), some (vI (x5 + 1)), none, none]) dX12_stepsOf_59 (Nat.le_of_ble_eq_true rfl) rfl rfl rfl ?_
    refine g_goto 30 dX12_stepsOf_62 (by decide) ?_
    exact Go.drop (by simp only [mm_sub, and_self]) h
set_option maxRecDepth 20000 in
theorem w_X12_stepsOf_74 {E : mmE} {d kc ks : Nat} {G : mmG} {D : mmD} {Q : mmQ} {x2 x3 x4 : Int} (hG : Sh G)  (h : ((iv x4 = iv ((ishl 1 ((D 214 53) - 6)) - 1) → Go E (d + 1) kc ks mX12_stepsOf 276 [some (vR 214), none, some (vI x2), some (vI x3), none, some (vI 1000000), some (vI 0), none] [] G D Q) ∧ (¬ iv x4 = iv ((ishl 1 ((D 214 53) - 6)) - 1) → Go E (d + 1) kc ks mX12_stepsOf 98 [some (vR 214), none, some (vI x2), some (vI x3), some (vI x4), some (vI ((D 214 53) - 1)), none, none] [] G D Q))) : Go E (d + 1) kc ks mX12_stepsOf 74 [some (vR 214), none, some (vI x2), some (vI x3), some (vI x4), none, none, none] [] G D Q := by
  refine g_iload dX12_stepsOf_74 rfl ?_
  refine g_iconst dX12_stepsOf_76 ?_
  refine g_aload_n dX12_stepsOf_77 rfl rfl ?_
  refine h_getI (j := 53) dX12_stepsOf_78 f_X12_283_11 rfl rfl (by decide) hG.k214 (by decide) (hG.lt (by decide)) ?_
  refine g_bipush dX12_stepsOf_81 bp_6 ?_
  refine g_isub dX12_stepsOf_83 ?_
  refine g_ishl dX12_stepsOf_84 ?_
  refine g_iconst dX12_stepsOf_85 ?_
  refine g_isub dX12_stepsOf_86 ?_
  refine g_icmp_eq 269 dX12_stepsOf_87 (by decide) ⟨fun hc => ?_, fun hc => ?_⟩
  · replace h := h.1 hc
    refine g_ldc (n := 1000000) dX12_stepsOf_269 kc_X12_224 (by decide +kernel) ?_
    refine h_istore (L' := [some (vR 214), none, some (vI x2), some (vI x3), some (vI x4), some (vI 1000000), none, none]) dX12_stepsOf_271 (Nat.le_of_ble_eq_true rfl) rfl rfl ?_
    refine g_iconst dX12_stepsOf_273 ?_
    refine h_istore (L' := [some (vR 214), none, some (vI x2), some (vI x3), some (vI x4), some (vI 1000000), some (vI 0), none]) dX12_stepsOf_274 (Nat.le_of_ble_eq_true rfl) rfl rfl ?_
    exact Go.drop (by simp only [mm_sub, and_self]) h
  · replace h := h.2 hc
    refine g_aload_n dX12_stepsOf_90 rfl rfl ?_
    refine h_getI (j := 53) dX12_stepsOf_91 f_X12_283_11 rfl rfl (by decide) hG.k214 (by decide) (hG.lt (by decide)) ?_
    refine g_iconst dX12_stepsOf_94 ?_
    refine g_isub dX12_stepsOf_95 ?_
    refine h_istore (L' := [some (vR 214), none, some (vI x2), some (vI x3), some (vI x4), some (vI ((D 214 53) - 1)), none, none]) dX12_stepsOf_96 (Nat.le_of_ble_eq_true rfl) rfl rfl ?_
    exact Go.drop (by simp only [mm_sub, and_self]) h
set_option maxRecDepth 20000 in
theorem w_X12_stepsOf_98 {E : mmE} {d kc ks : Nat} {G : mmG} {D : mmD} {Q : mmQ} {x2 x3 x4 x5 : Int} (hG : Sh G)  (h : ((iv x5 < iv 6 → Go E (d + 1) kc ks mX12_stepsOf 74 [some (vR 214), none, some (vI x2), some (vI x3), some (vI x4), none, none, none] [] G D Q) ∧ (¬ iv x5 < iv 6 → ((¬ iv (iand (ishr x4 (x5 - 6)) 1) = iv 0 → Go E (d + 1) kc ks mX12_stepsOf 128 [some (vR 214), none, some (vI x2), some (vI x3), some (vI x4), some (vI x5), some (vI 0), some (vI 0)] [] G D Q) ∧ (iv (iand (ishr x4 (x5 - 6)) 1) = iv 0 → Go E (d + 1) kc ks mX12_stepsOf 128 [some (vR 214), none, some (vI x2), some (vI x3), some (vI x4), some (vI x5), some (vI 1), some (vI 0)] [] G D Q))))) : Go E (d + 1) kc ks mX12_stepsOf 98 [some (vR 214), none, some (vI x2), some (vI x3), some (vI x4), some (vI x5), none, none] [] G D Q := by
  refine g_iload dX12_stepsOf_98 rfl ?_
  refine g_bipush dX12_stepsOf_100 bp_6 ?_
  refine g_icmp_lt 266 dX12_stepsOf_102 (by decide) ⟨fun hc => ?_, fun hc => ?_⟩
  · replace h := h.1 hc
    refine g_goto 74 dX12_stepsOf_266 (by decide) ?_
    exact Go.drop (by simp only [mm_sub, and_self]) h
  · replace h := h.2 hc
    refine g_iload dX12_stepsOf_105 rfl ?_
    refine g_iload dX12_stepsOf_107 rfl ?_
    refine g_bipush dX12_stepsOf_109 bp_6 ?_
    refine g_isub dX12_stepsOf_111 ?_
    refine g_ishr dX12_stepsOf_112 ?_
    refine g_iconst dX12_stepsOf_113 ?_
    refine g_iand dX12_stepsOf_114 ?_
    refine g_if_ne 122 dX12_stepsOf_115 (by decide) ⟨fun hc => ?_, fun hc => ?_⟩
    · replace h := h.1 hc
      refine g_iconst dX12_stepsOf_122 ?_
      refine h_istore (L' := [some (vR 214), none, some (vI x2), some (vI x3), some (vI x4), some (vI x5), some (vI 0), none]) dX12_stepsOf_123 (Nat.le_of_ble_eq_true rfl) rfl rfl ?_
      refine g_iconst dX12_stepsOf_125 ?_
      refine h_istore (L' := [some (vR 214), none, some (vI x2), some (vI x3), some (vI x4), some (vI x5), some (vI 0), some (vI 0)]) dX12_stepsOf_126 (Nat.le_of_ble_eq_true rfl) rfl rfl ?_
      exact Go.drop (by simp only [mm_sub, and_self]) h
    · replace h := h.2 hc
      refine g_iconst dX12_stepsOf_118 ?_
      refine g_goto 123 dX12_stepsOf_119 (by decide) ?_
      refine h_istore (L' := [some (vR 214), none, some (vI x2), some (vI x3), some (vI x4), some (vI x5), some (vI 1), none]) dX12_stepsOf_123 (Nat.le_of_ble_eq_true rfl) rfl rfl ?_
      refine g_iconst dX12_stepsOf_125 ?_
      refine h_istore (L' := [some (vR 214), none, some (vI x2), some (vI x3), some (vI x4), some (vI x5), some (vI 1), some (vI 0)]) dX12_stepsOf_126 (Nat.le_of_ble_eq_true rfl) rfl rfl ?_
      exact Go.drop (by simp only [mm_sub, and_self]) h
set_option maxRecDepth 20000 in
theorem w_X12_stepsOf_128 {E : mmE} {d kc ks : Nat} {G : mmG} {D : mmD} {Q : mmQ} {x2 x3 x4 x5 x6 x7 : Int} (hG : Sh G)  (h : ((iv (D 214 52) ≤ iv x7 → Go E (d + 1) kc ks mX12_stepsOf 199 [some (vR 214), none, some (vI x2), some (vI x3), some (vI x4), some (vI x5), some (vI x6), some (vI 0)] [] G D Q) ∧ (¬ iv (D 214 52) ≤ iv x7 → ((iv x6 = iv 0 → Go E (d + 1) kc ks mX12_stepsOf 128 [some (vR 214), none, some (vI x2), some (vI x3), some (vI x4), some (vI x5), some (vI 0), some (vI (x7 + 1))] [] G D Q) ∧ (¬ iv x6 = iv 0 → ((0 ≤ x7 ∧ x7 < 9) ∧ ((¬ iv (D 244 x7) = iv x5 → Go E (d + 1) kc ks mX12_stepsOf 128 [some (vR 214), none, some (vI x2), some (vI x3), some (vI x4), some (vI x5), some (vI 1), some (vI (x7 + 1))] [] G D Q) ∧ (iv (D 244 x7) = iv x5 → ((0 ≤ x7 ∧ x7 < 9) ∧ ((iv (D 245 x7) ≤ iv 5 → Go E (d + 1) kc ks mX12_stepsOf 128 [some (vR 214), none, some (vI x2), some (vI x3), some (vI x4), some (vI x5), some (vI 1), some (vI (x7 + 1))] [] G D Q) ∧ (¬ iv (D 245 x7) ≤ iv 5 → ((0 ≤ x7 ∧ x7 < 9) ∧ ((iv (iand (ishr x4 ((D 245 x7) - 6)) 1) = iv 0 → Go E (d + 1) kc ks mX12_stepsOf 128 [some (vR 214), none, some (vI x2), some (vI x3), some (vI x4), some (vI x5), some (vI 0), some (vI (x7 + 1))] [] G D Q) ∧ (¬ iv (iand (ishr x4 ((D 245 x7) - 6)) 1) = iv 0 → Go E (d + 1) kc ks mX12_stepsOf 128 [some (vR 214), none, some (vI x2), some (vI x3), some (vI x4), some (vI x5), some (vI 1), some (vI (x7 + 1))] [] G D Q)))))))))))))) : Go E (d + 1) kc ks mX12_stepsOf 128 [some (vR 214), none, some (vI x2), some (vI x3), some (vI x4), some (vI x5), some (vI x6), some (vI x7)] [] G D Q := by
  refine g_iload dX12_stepsOf_128 rfl ?_
  refine g_aload_n dX12_stepsOf_130 rfl rfl ?_
  refine h_getI (j := 52) dX12_stepsOf_131 f_X12_280_11 rfl rfl (by decide) hG.k214 (by decide) (hG.lt (by decide)) ?_
  refine g_icmp_ge 196 dX12_stepsOf_134 (by decide) ⟨fun hc => ?_, fun hc => ?_⟩
  · replace h := h.1 hc
    refine g_iconst dX12_stepsOf_196 ?_
    refine h_istore (L' := [some (vR 214), none, some (vI x2), some (vI x3), some (vI x4), some (vI x5), some (vI x6), some (vI 0)]) dX12_stepsOf_197 (Nat.le_of_ble_eq_true rfl) rfl rfl ?_
    exact Go.drop (by simp only [mm_sub, and_self]) h
  · replace h := h.2 hc
    refine g_iload dX12_stepsOf_137 rfl ?_
    refine g_if_eq 187 dX12_stepsOf_139 (by decide) ⟨fun hc => ?_, fun hc => ?_⟩
    · replace h := h.1 hc
      refine g_iconst dX12_stepsOf_187 ?_
      refine h_istore (L' := [some (vR 214), none, some (vI x2), some (vI x3), some (vI x4), some (vI x5), some (vI 0), some (vI x7)]) dX12_stepsOf_188 (Nat.le_of_ble_eq_true rfl) rfl rfl ?_
      refine h_iinc (L' := [some (vR 214), none, some (vI x2), some (vI x3), some (vI x4), some (vI x5), some (vI 0), some (vI (x7 + 1))]) dX12_stepsOf_190 (Nat.le_of_ble_eq_true rfl) rfl rfl rfl ?_
      refine g_goto 128 dX12_stepsOf_193 (by decide) ?_
      exact Go.drop (by simp only [mm_sub, and_self]) h
    · replace h := h.2 hc
      refine g_aload_n dX12_stepsOf_142 rfl rfl ?_
      refine h_getR (j := 49) dX12_stepsOf_143 f_X12_102_11 rfl rfl (by decide) hG.k214 (by decide) (hG.lt (by decide)) hG.r214_49 ?_
      refine g_iload dX12_stepsOf_146 rfl ?_
      refine g_iald dX12_stepsOf_148 hG.k244 (by decide) (hG.lt (by decide)) (by decide) ⟨h.1, ?_⟩
      replace h := h.2
      refine g_iload dX12_stepsOf_149 rfl ?_
      refine g_icmp_ne 183 dX12_stepsOf_151 (by decide) ⟨fun hc => ?_, fun hc => ?_⟩
      · replace h := h.1 hc
        refine g_iconst dX12_stepsOf_183 ?_
        refine g_goto 188 dX12_stepsOf_184 (by decide) ?_
        refine h_istore (L' := [some (vR 214), none, some (vI x2), some (vI x3), some (vI x4), some (vI x5), some (vI 1), some (vI x7)]) dX12_stepsOf_188 (Nat.le_of_ble_eq_true rfl) rfl rfl ?_
        refine h_iinc (L' := [some (vR 214), none, some (vI x2), some (vI x3), some (vI x4), some (vI x5), some (vI 1), some (vI (x7 + 1))]) dX12_stepsOf_190 (Nat.le_of_ble_eq_true rfl) rfl rfl rfl ?_
        refine g_goto 128 dX12_stepsOf_193 (by decide) ?_
        exact Go.drop (by simp only [mm_sub, and_self]) h
      · replace h := h.2 hc
        refine g_aload_n dX12_stepsOf_154 rfl rfl ?_
        refine h_getR (j := 50) dX12_stepsOf_155 f_X12_105_11 rfl rfl (by decide) hG.k214 (by decide) (hG.lt (by decide)) hG.r214_50 ?_
        refine g_iload dX12_stepsOf_158 rfl ?_
        refine g_iald dX12_stepsOf_160 hG.k245 (by decide) (hG.lt (by decide)) (by decide) ⟨h.1, ?_⟩
        replace h := h.2
        refine g_iconst dX12_stepsOf_161 ?_
        refine g_icmp_le 183 dX12_stepsOf_162 (by decide) ⟨fun hc => ?_, fun hc => ?_⟩
        · replace h := h.1 hc
          refine g_iconst dX12_stepsOf_183 ?_
          refine g_goto 188 dX12_stepsOf_184 (by decide) ?_
          refine h_istore (L' := [some (vR 214), none, some (vI x2), some (vI x3), some (vI x4), some (vI x5), some (vI 1), some (vI x7)]) dX12_stepsOf_188 (Nat.le_of_ble_eq_true rfl) rfl rfl ?_
          refine h_iinc (L' := [some (vR 214), none, some (vI x2), some (vI x3), some (vI x4), some (vI x5), some (vI 1), some (vI (x7 + 1))]) dX12_stepsOf_190 (Nat.le_of_ble_eq_true rfl) rfl rfl rfl ?_
          refine g_goto 128 dX12_stepsOf_193 (by decide) ?_
          exact Go.drop (by simp only [mm_sub, and_self]) h
        · replace h := h.2 hc
          refine g_iload dX12_stepsOf_165 rfl ?_
          refine g_aload_n dX12_stepsOf_167 rfl rfl ?_
          refine h_getR (j := 50) dX12_stepsOf_168 f_X12_105_11 rfl rfl (by decide) hG.k214 (by decide) (hG.lt (by decide)) hG.r214_50 ?_
          refine g_iload dX12_stepsOf_171 rfl ?_
          refine g_iald dX12_stepsOf_173 hG.k245 (by decide) (hG.lt (by decide)) (by decide) ⟨h.1, ?_⟩
          replace h := h.2
          refine g_bipush dX12_stepsOf_174 bp_6 ?_
          refine g_isub dX12_stepsOf_176 ?_
          refine g_ishr dX12_stepsOf_177 ?_
          refine g_iconst dX12_stepsOf_178 ?_
          refine g_iand dX12_stepsOf_179 ?_
          refine g_if_eq 187 dX12_stepsOf_180 (by decide) ⟨fun hc => ?_, fun hc => ?_⟩
          · replace h := h.1 hc
            refine g_iconst dX12_stepsOf_187 ?_
            refine h_istore (L' := [some (vR 214), none, some (vI x2), some (vI x3), some (vI x4), some (vI x5), some (vI 0), some (vI x7)]) dX12_stepsOf_188 (Nat.le_of_ble_eq_true rfl) rfl rfl ?_
            refine h_iinc (L' := [some (vR 214), none, some (vI x2), some (vI x3), some (vI x4), some (vI x5), some (vI 0), some (vI (x7 + 1))]) dX12_stepsOf_190 (Nat.le_of_ble_eq_true rfl) rfl rfl rfl ?_
            refine g_goto 128 dX12_stepsOf_193 (by decide) ?_
            exact Go.drop (by simp only [mm_sub, and_self]) h
          · replace h := h.2 hc
            refine g_iconst dX12_stepsOf_183 ?_
            refine g_goto 188 dX12_stepsOf_184 (by decide) ?_
            refine h_istore (L' := [some (vR 214), none, some (vI x2), some (vI x3), some (vI x4), some (vI x5), some (vI 1), some (vI x7)]) dX12_stepsOf_188 (Nat.le_of_ble_eq_true rfl) rfl rfl ?_
            refine h_iinc (L' := [some (vR 214), none, some (vI x2), some (vI x3), some (vI x4), some (vI x5), some (vI 1), some (vI (x7 + 1))]) dX12_stepsOf_190 (Nat.le_of_ble_eq_true rfl) rfl rfl rfl ?_
            refine g_goto 128 dX12_stepsOf_193 (by decide) ?_
            exact Go.drop (by simp only [mm_sub, and_self]) h
set_option maxRecDepth 20000 in
theorem w_X12_stepsOf_199 {E : mmE} {d kc ks : Nat} {G : mmG} {D : mmD} {Q : mmQ} {x2 x3 x4 x5 x6 x7 : Int} (hG : Sh G)  (h : ((iv 6 ≤ iv x7 → ((iv x6 = iv 0 → Go E (d + 1) kc ks mX12_stepsOf 98 [some (vR 214), none, some (vI x2), some (vI x3), some (vI (ior x4 0)), some (vI (x5 + (-1))), none, none] [] G D Q) ∧ (¬ iv x6 = iv 0 → Go E (d + 1) kc ks mX12_stepsOf 98 [some (vR 214), none, some (vI x2), some (vI x3), some (vI (ior x4 (ishl 1 (x5 - 6)))), some (vI (x5 + (-1))), none, none] [] G D Q))) ∧ (¬ iv 6 ≤ iv x7 → ((iv x6 = iv 0 → ((iv x6 = iv 0 → Go E (d + 1) kc ks mX12_stepsOf 98 [some (vR 214), none, some (vI x2), some (vI x3), some (vI (ior x4 0)), some (vI (x5 + (-1))), none, none] [] G D Q) ∧ (¬ iv x6 = iv 0 → Go E (d + 1) kc ks mX12_stepsOf 98 [some (vR 214), none, some (vI x2), some (vI x3), some (vI (ior x4 (ishl 1 (x5 - 6)))), some (vI (x5 + (-1))), none, none] [] G D Q))) ∧ (¬ iv x6 = iv 0 → Call E d 0 0 mX12_below [vR 214, vI x3, vI x5, vI x7] G D (retI G (fun z2 D1 => ((0 ≤ ((6 * x5) + x7) ∧ ((6 * x5) + x7) < 66) ∧ (∀ D3 : mmD, D3 = up2 D1 247 ((6 * x5) + x7) z2 → Go E (d + 1) kc ks mX12_stepsOf 199 [some (vR 214), none, some (vI x2), some (vI x3), some (vI x4), some (vI x5), some (vI x6), some (vI (x7 + 1))] [] G D3 Q))))))))) : Go E (d + 1) kc ks mX12_stepsOf 199 [some (vR 214), none, some (vI x2), some (vI x3), some (vI x4), some (vI x5), some (vI x6), some (vI x7)] [] G D Q := by
  refine g_iload dX12_stepsOf_199 rfl ?_
  refine g_bipush dX12_stepsOf_201 bp_6 ?_
  refine g_icmp_ge 239 dX12_stepsOf_203 (by decide) ⟨fun hc => ?_, fun hc => ?_⟩
  · replace h := h.1 hc
    refine g_iload dX12_stepsOf_239 rfl ?_
    refine g_iload dX12_stepsOf_241 rfl ?_
    refine g_if_eq 256 dX12_stepsOf_243 (by decide) ⟨fun hc => ?_, fun hc => ?_⟩
    · replace h := h.1 hc
      refine g_iconst dX12_stepsOf_256 ?_
      refine g_ior dX12_stepsOf_257 ?_
      refine h_istore (L' := [some (vR 214), none, some (vI x2), some (vI x3), some (vI (ior x4 0)), some (vI x5), some (vI x6), some (vI x7)]) dX12_stepsOf_258 (Nat.le_of_ble_eq_true rfl) rfl rfl ?_
      refine h_iinc (L' := [some (vR 214), none, some (vI x2), some (vI x3), some (vI (ior x4 0)), some (vI (x5 + (-1))), some (vI x6), some (vI x7)]) dX12_stepsOf_260 (Nat.le_of_ble_eq_true rfl) rfl rfl rfl ?_
      refine g_goto 98 dX12_stepsOf_263 (by decide) ?_
      exact Go.drop (by simp only [mm_sub, and_self]) h
    · replace h := h.2 hc
      refine g_iconst dX12_stepsOf_246 ?_
      refine g_iload dX12_stepsOf_247 rfl ?_
      refine g_bipush dX12_stepsOf_249 bp_6 ?_
      refine g_isub dX12_stepsOf_251 ?_
      refine g_ishl dX12_stepsOf_252 ?_
      refine g_goto 257 dX12_stepsOf_253 (by decide) ?_
      refine g_ior dX12_stepsOf_257 ?_
      refine h_istore (L' := [some (vR 214), none, some (vI x2), some (vI x3), some (vI (ior x4 (ishl 1 (x5 - 6)))), some (vI x5), some (vI x6), some (vI x7)]) dX12_stepsOf_258 (Nat.le_of_ble_eq_true rfl) rfl rfl ?_
      refine h_iinc (L' := [some (vR 214), none, some (vI x2), some (vI x3), some (vI (ior x4 (ishl 1 (x5 - 6)))), some (vI (x5 + (-1))), some (vI x6), some (vI x7)]) dX12_stepsOf_260 (Nat.le_of_ble_eq_true rfl) rfl rfl rfl ?_
      refine g_goto 98 dX12_stepsOf_263 (by decide) ?_
      exact Go.drop (by simp only [mm_sub, and_self]) h
  · replace h := h.2 hc
    refine g_iload dX12_stepsOf_206 rfl ?_
    refine g_if_eq 239 dX12_stepsOf_208 (by decide) ⟨fun hc => ?_, fun hc => ?_⟩
    · replace h := h.1 hc
      refine g_iload dX12_stepsOf_239 rfl ?_
      refine g_iload dX12_stepsOf_241 rfl ?_
      refine g_if_eq 256 dX12_stepsOf_243 (by decide) ⟨fun hc => ?_, fun hc => ?_⟩
      · replace h := h.1 hc
        refine g_iconst dX12_stepsOf_256 ?_
        refine g_ior dX12_stepsOf_257 ?_
        refine h_istore (L' := [some (vR 214), none, some (vI x2), some (vI x3), some (vI (ior x4 0)), some (vI x5), some (vI x6), some (vI x7)]) dX12_stepsOf_258 (Nat.le_of_ble_eq_true rfl) rfl rfl ?_
        refine h_iinc (L' := [some (vR 214), none, some (vI x2), some (vI x3), some (vI (ior x4 0)), some (vI (x5 + (-1))), some (vI x6), some (vI x7)]) dX12_stepsOf_260 (Nat.le_of_ble_eq_true rfl) rfl rfl rfl ?_
        refine g_goto 98 dX12_stepsOf_263 (by decide) ?_
        exact Go.drop (by simp only [mm_sub, and_self]) h
      · replace h := h.2 hc
        refine g_iconst dX12_stepsOf_246 ?_
        refine g_iload dX12_stepsOf_247 rfl ?_
        refine g_bipush dX12_stepsOf_249 bp_6 ?_
        refine g_isub dX12_stepsOf_251 ?_
        refine g_ishl dX12_stepsOf_252 ?_
        refine g_goto 257 dX12_stepsOf_253 (by decide) ?_
        refine g_ior dX12_stepsOf_257 ?_
        refine h_istore (L' := [some (vR 214), none, some (vI x2), some (vI x3), some (vI (ior x4 (ishl 1 (x5 - 6)))), some (vI x5), some (vI x6), some (vI x7)]) dX12_stepsOf_258 (Nat.le_of_ble_eq_true rfl) rfl rfl ?_
        refine h_iinc (L' := [some (vR 214), none, some (vI x2), some (vI x3), some (vI (ior x4 (ishl 1 (x5 - 6)))), some (vI (x5 + (-1))), some (vI x6), some (vI x7)]) dX12_stepsOf_260 (Nat.le_of_ble_eq_true rfl) rfl rfl rfl ?_
        refine g_goto 98 dX12_stepsOf_263 (by decide) ?_
        exact Go.drop (by simp only [mm_sub, and_self]) h
    · replace h := h.2 hc
      refine g_aload_n dX12_stepsOf_211 rfl rfl ?_
      refine h_getR (j := 55) dX12_stepsOf_212 f_X12_111_11 rfl rfl (by decide) hG.k214 (by decide) (hG.lt (by decide)) hG.r214_55 ?_
      refine g_bipush dX12_stepsOf_215 bp_6 ?_
      refine g_iload dX12_stepsOf_217 rfl ?_
      refine g_imul dX12_stepsOf_219 ?_
      refine g_iload dX12_stepsOf_220 rfl ?_
      refine g_iadd dX12_stepsOf_222 ?_
      refine g_aload_n dX12_stepsOf_223 rfl rfl ?_
      refine g_iload_n dX12_stepsOf_224 rfl rfl ?_
      refine g_iload dX12_stepsOf_225 rfl ?_
      refine g_iload dX12_stepsOf_227 rfl ?_
      refine g_callV (kc := kc) (kc' := 0) (ks := ks) (ks' := 0) (as := [vI x3, vI x5, vI x7]) (st := [vI ((6 * x5) + x7), vR 247]) (ci := 11) dX12_stepsOf_229 cB_X12_below lk_X12_292 in_X12_below se_X12_below (by decide) rfl rfl (Nat.le_of_ble_eq_true rfl) (Nat.le_of_ble_eq_true rfl) (by decide) (hG.lt (by decide)) (congrArg Prod.fst hG.k214) ?_
      refine Go.to (fun r G' D1 hr => ?_) h
      obtain ⟨rfl, z2, rfl, h⟩ := hr
      show Go E (d + 1) kc ks mX12_stepsOf 232 [some (vR 214), none, some (vI x2), some (vI x3), some (vI x4), some (vI x5), some (vI x6), some (vI x7)] [vI z2, vI ((6 * x5) + x7), vR 247] G D1 Q
      refine g_iast dX12_stepsOf_232 hG.k247 (by decide) (hG.lt (by decide)) (by decide) ⟨h.1, ?_⟩
      generalize hD_D3 : up2 D1 247 ((6 * x5) + x7) z2 = D3
      replace h := h.2 _ hD_D3.symm
      refine h_iinc (L' := [some (vR 214), none, some (vI x2), some (vI x3), some (vI x4), some (vI x5), some (vI x6), some (vI (x7 + 1))]) dX12_stepsOf_233 (Nat.le_of_ble_eq_true rfl) rfl rfl rfl ?_
      refine g_goto 199 dX12_stepsOf_236 (by decide) ?_
      exact Go.drop (by simp only [mm_sub, and_self]) h
set_option maxRecDepth 20000 in
theorem w_X12_stepsOf_276 {E : mmE} {d kc ks : Nat} {G : mmG} {D : mmD} {Q : mmQ} {x2 x3 x5 x6 : Int} (hG : Sh G)  (h : ((iv 6 ≤ iv x6 → Go E (d + 1) kc ks mX12_stepsOf 9 [some (vR 214), none, some (vI (x2 + x5)), some (vI (x3 + 1)), none, none, none, none] [] G D Q) ∧ (¬ iv 6 ≤ iv x6 → ((0 ≤ (36 + x6) ∧ (36 + x6) < 66) ∧ ((iv x5 ≤ iv (D 247 (36 + x6)) → Go E (d + 1) kc ks mX12_stepsOf 276 [some (vR 214), none, some (vI x2), some (vI x3), none, some (vI x5), some (vI (x6 + 1)), none] [] G D Q) ∧ (¬ iv x5 ≤ iv (D 247 (36 + x6)) → ((0 ≤ (36 + x6) ∧ (36 + x6) < 66) ∧ Go E (d + 1) kc ks mX12_stepsOf 276 [some (vR 214), none, some (vI x2), some (vI x3), none, some (vI (D 247 (36 + x6))), some (vI (x6 + 1)), none] [] G D Q))))))) : Go E (d + 1) kc ks mX12_stepsOf 276 [some (vR 214), none, some (vI x2), some (vI x3), none, some (vI x5), some (vI x6), none] [] G D Q := by
  refine g_iload dX12_stepsOf_276 rfl ?_
  refine g_bipush dX12_stepsOf_278 bp_6 ?_
  refine g_icmp_ge 321 dX12_stepsOf_280 (by decide) ⟨fun hc => ?_, fun hc => ?_⟩
  · replace h := h.1 hc
    refine g_iload_n dX12_stepsOf_321 rfl rfl ?_
    refine g_iload dX12_stepsOf_322 rfl ?_
    refine g_iadd dX12_stepsOf_324 ?_
    refine h_istore_n (L' := [some (vR 214), none, some (vI (x2 + x5)), some (vI x3), none, some (vI x5), some (vI x6), none]) dX12_stepsOf_325 rfl (Nat.le_of_ble_eq_true rfl) rfl rfl ?_
    refine h_iinc (L' := [some (vR 214), none, some (vI (x2 + x5)), some (vI (x3 + 1)), none, some (vI x5), some (vI x6), none]) dX12_stepsOf_326 (Nat.le_of_ble_eq_true rfl) rfl rfl rfl ?_
    refine g_goto 9 dX12_stepsOf_329 (by decide) ?_
    exact Go.drop (by simp only [mm_sub, and_self]) h
  · replace h := h.2 hc
    refine g_aload_n dX12_stepsOf_283 rfl rfl ?_
    refine h_getR (j := 55) dX12_stepsOf_284 f_X12_111_11 rfl rfl (by decide) hG.k214 (by decide) (hG.lt (by decide)) hG.r214_55 ?_
    refine g_bipush dX12_stepsOf_287 bp_36 ?_
    refine g_iload dX12_stepsOf_289 rfl ?_
    refine g_iadd dX12_stepsOf_291 ?_
    refine g_iald dX12_stepsOf_292 hG.k247 (by decide) (hG.lt (by decide)) (by decide) ⟨h.1, ?_⟩
    replace h := h.2
    refine g_iload dX12_stepsOf_293 rfl ?_
    refine g_icmp_ge 311 dX12_stepsOf_295 (by decide) ⟨fun hc => ?_, fun hc => ?_⟩
    · replace h := h.1 hc
      refine g_iload dX12_stepsOf_311 rfl ?_
      refine h_istore (L' := [some (vR 214), none, some (vI x2), some (vI x3), none, some (vI x5), some (vI x6), none]) dX12_stepsOf_313 (Nat.le_of_ble_eq_true rfl) rfl rfl ?_
      refine h_iinc (L' := [some (vR 214), none, some (vI x2), some (vI x3), none, some (vI x5), some (vI (x6 + 1)), none]) dX12_stepsOf_315 (Nat.le_of_ble_eq_true rfl) rfl rfl rfl ?_
      refine g_goto 276 dX12_stepsOf_318 (by decide) ?_
      exact Go.drop (by simp only [mm_sub, and_self]) h
    · replace h := h.2 hc
      refine g_aload_n dX12_stepsOf_298 rfl rfl ?_
      refine h_getR (j := 55) dX12_stepsOf_299 f_X12_111_11 rfl rfl (by decide) hG.k214 (by decide) (hG.lt (by decide)) hG.r214_55 ?_
      refine g_bipush dX12_stepsOf_302 bp_36 ?_
      refine g_iload dX12_stepsOf_304 rfl ?_
      refine g_iadd dX12_stepsOf_306 ?_
      refine g_iald dX12_stepsOf_307 hG.k247 (by decide) (hG.lt (by decide)) (by decide) ⟨h.1, ?_⟩
      replace h := h.2
      refine g_goto 313 dX12_stepsOf_308 (by decide) ?_
      refine h_istore (L' := [some (vR 214), none, some (vI x2), some (vI x3), none, some (vI (D 247 (36 + x6))), some (vI x6), none]) dX12_stepsOf_313 (Nat.le_of_ble_eq_true rfl) rfl rfl ?_
      refine h_iinc (L' := [some (vR 214), none, some (vI x2), some (vI x3), none, some (vI (D 247 (36 + x6))), some (vI (x6 + 1)), none]) dX12_stepsOf_315 (Nat.le_of_ble_eq_true rfl) rfl rfl rfl ?_
      refine g_goto 276 dX12_stepsOf_318 (by decide) ?_
      exact Go.drop (by simp only [mm_sub, and_self]) h
set_option maxRecDepth 20000 in
theorem w_X12_steps {E : mmE} {d kc ks : Nat} {G : mmG} {D : mmD} {Q : mmQ} {x1 x2 : Int} (hG : Sh G)  (h : Call E d 0 0 mX12_refuses [vR 214, vI x1] G D (retI G (fun z2 D1 => ((iv z2 = iv 0 → Call E d 0 0 mX12_trees [vR 214] G D1 (retI G (fun z4 D3 => Call E d 0 0 mX12_in [vI x2, vI 0, vI (z4 - 1)] G D3 (retI G (fun z6 D5 => ((iv z6 = iv 0 → Q (some (vI (-2))) G D5) ∧ (¬ iv z6 = iv 0 → Call E d 0 0 mX12_stepsOf [vR 214, vI x2] G D5 (retI G (fun z8 D7 => Q (some (vI z8)) G D7))))))))) ∧ (¬ iv z2 = iv 0 → Q (some (vI z2)) G D1))))) : Call E (d + 1) kc ks mX12_steps [vR 214, vI x1, vI x2] G D Q := by
  show Go E (d + 1) kc ks mX12_steps 0 [some (vR 214), some (vI x1), some (vI x2), none] [] G D Q
  refine g_aload_n dX12_steps_0 rfl rfl ?_
  refine g_iload_n dX12_steps_1 rfl rfl ?_
  refine g_callV (kc := kc) (kc' := 0) (ks := ks) (ks' := 0) (as := [vI x1]) (st := []) (ci := 11) dX12_steps_2 cB_X12_refuses lk_X12_296 in_X12_refuses se_X12_refuses (by decide) rfl rfl (Nat.le_of_ble_eq_true rfl) (Nat.le_of_ble_eq_true rfl) (by decide) (hG.lt (by decide)) (congrArg Prod.fst hG.k214) ?_
  refine Go.to (fun r G' D1 hr => ?_) h
  obtain ⟨rfl, z2, rfl, h⟩ := hr
  show Go E (d + 1) kc ks mX12_steps 5 [some (vR 214), some (vI x1), some (vI x2), none] [vI z2] G D1 Q
  refine h_istore_n (L' := [some (vR 214), some (vI x1), some (vI x2), some (vI z2)]) dX12_steps_5 rfl (Nat.le_of_ble_eq_true rfl) rfl rfl ?_
  refine g_iload_n dX12_steps_6 rfl rfl ?_
  refine g_if_eq 12 dX12_steps_7 (by decide) ⟨fun hc => ?_, fun hc => ?_⟩
  · replace h := h.1 hc
    refine g_iload_n dX12_steps_12 rfl rfl ?_
    refine g_iconst dX12_steps_13 ?_
    refine g_aload_n dX12_steps_14 rfl rfl ?_
    refine g_callV (kc := kc) (kc' := 0) (ks := ks) (ks' := 0) (as := []) (st := [vI 0, vI x2]) (ci := 11) dX12_steps_15 cB_X12_trees lk_X12_286 in_X12_trees se_X12_trees (by decide) rfl rfl (Nat.le_of_ble_eq_true rfl) (Nat.le_of_ble_eq_true rfl) (by decide) (hG.lt (by decide)) (congrArg Prod.fst hG.k214) ?_
    refine Go.to (fun r G' D3 hr => ?_) h
    obtain ⟨rfl, z4, rfl, h⟩ := hr
    show Go E (d + 1) kc ks mX12_steps 18 [some (vR 214), some (vI x1), some (vI x2), some (vI z2)] [vI z4, vI 0, vI x2] G D3 Q
    refine g_iconst dX12_steps_18 ?_
    refine g_isub dX12_steps_19 ?_
    refine g_callS (kc := kc) (kc' := 0) (ks := ks) (ks' := 0) (as := [vI x2, vI 0, vI (z4 - 1)]) (st := []) dX12_steps_20 cB_X12_in lk_X12_123 st_X12_in rfl (Nat.le_of_ble_eq_true rfl) (Nat.le_of_ble_eq_true rfl) ?_
    refine Go.to (fun r G' D5 hr => ?_) h
    obtain ⟨rfl, z6, rfl, h⟩ := hr
    show Go E (d + 1) kc ks mX12_steps 23 [some (vR 214), some (vI x1), some (vI x2), some (vI z2)] [vI z6] G D5 Q
    refine g_if_eq 34 dX12_steps_23 (by decide) ⟨fun hc => ?_, fun hc => ?_⟩
    · replace h := h.1 hc
      refine g_bipush dX12_steps_34 bp_m2 ?_
      exact g_iret dX12_steps_36 rfl h
    · replace h := h.2 hc
      refine g_aload_n dX12_steps_26 rfl rfl ?_
      refine g_iload_n dX12_steps_27 rfl rfl ?_
      refine g_callV (kc := kc) (kc' := 0) (ks := ks) (ks' := 0) (as := [vI x2]) (st := []) (ci := 11) dX12_steps_28 cB_X12_stepsOf lk_X12_299 in_X12_stepsOf se_X12_stepsOf (by decide) rfl rfl (Nat.le_of_ble_eq_true rfl) (Nat.le_of_ble_eq_true rfl) (by decide) (hG.lt (by decide)) (congrArg Prod.fst hG.k214) ?_
      refine Go.to (fun r G' D7 hr => ?_) h
      obtain ⟨rfl, z8, rfl, h⟩ := hr
      show Go E (d + 1) kc ks mX12_steps 31 [some (vR 214), some (vI x1), some (vI x2), some (vI z2)] [vI z8] G D7 Q
      refine g_goto 36 dX12_steps_31 (by decide) ?_
      exact g_iret dX12_steps_36 rfl h
  · replace h := h.2 hc
    refine g_iload_n dX12_steps_10 rfl rfl ?_
    exact g_iret dX12_steps_11 rfl h
set_option maxRecDepth 20000 in
theorem w_X12_tree {E : mmE} {d kc ks : Nat} {G : mmG} {D : mmD} {Q : mmQ} {x1 x2 : Int} (hG : Sh G)  (h : Call E d 0 0 mX12_refuses [vR 214, vI x1] G D (retI G (fun z2 D1 => ((iv z2 = iv 0 → Call E d 0 0 mX12_in [vI x2, vI 0, vI 2] G D1 (retI G (fun z4 D3 => ((¬ iv z4 = iv 0 → Go E (d + 1) kc ks mX12_tree 35 [some (vR 214), none, some (vI x2), none, some (vI (-1)), some (vI 0), some (vI 0), some (vI 0), none, none] [] G D3 Q) ∧ (iv z4 = iv 0 → Q (some (vI (-1))) G D3))))) ∧ (¬ iv z2 = iv 0 → Q (some (vI z2)) G D1))))) : Call E (d + 1) kc ks mX12_tree [vR 214, vI x1, vI x2] G D Q := by
  show Go E (d + 1) kc ks mX12_tree 0 [some (vR 214), some (vI x1), some (vI x2), none, none, none, none, none, none, none] [] G D Q
  refine g_aload_n dX12_tree_0 rfl rfl ?_
  refine g_iload_n dX12_tree_1 rfl rfl ?_
  refine g_callV (kc := kc) (kc' := 0) (ks := ks) (ks' := 0) (as := [vI x1]) (st := []) (ci := 11) dX12_tree_2 cB_X12_refuses lk_X12_296 in_X12_refuses se_X12_refuses (by decide) rfl rfl (Nat.le_of_ble_eq_true rfl) (Nat.le_of_ble_eq_true rfl) (by decide) (hG.lt (by decide)) (congrArg Prod.fst hG.k214) ?_
  refine Go.to (fun r G' D1 hr => ?_) h
  obtain ⟨rfl, z2, rfl, h⟩ := hr
  show Go E (d + 1) kc ks mX12_tree 5 [some (vR 214), some (vI x1), some (vI x2), none, none, none, none, none, none, none] [vI z2] G D1 Q
  refine h_istore_n (L' := [some (vR 214), some (vI x1), some (vI x2), some (vI z2), none, none, none, none, none, none]) dX12_tree_5 rfl (Nat.le_of_ble_eq_true rfl) rfl rfl ?_
  refine g_iload_n dX12_tree_6 rfl rfl ?_
  refine g_if_eq 12 dX12_tree_7 (by decide) ⟨fun hc => ?_, fun hc => ?_⟩
  · replace h := h.1 hc
    refine g_iload_n dX12_tree_12 rfl rfl ?_
    refine g_iconst dX12_tree_13 ?_
    refine g_iconst dX12_tree_14 ?_
    refine g_callS (kc := kc) (kc' := 0) (ks := ks) (ks' := 0) (as := [vI x2, vI 0, vI 2]) (st := []) dX12_tree_15 cB_X12_in lk_X12_123 st_X12_in rfl (Nat.le_of_ble_eq_true rfl) (Nat.le_of_ble_eq_true rfl) ?_
    refine Go.to (fun r G' D3 hr => ?_) h
    obtain ⟨rfl, z4, rfl, h⟩ := hr
    show Go E (d + 1) kc ks mX12_tree 18 [some (vR 214), some (vI x1), some (vI x2), some (vI z2), none, none, none, none, none, none] [vI z4] G D3 Q
    refine g_if_ne 23 dX12_tree_18 (by decide) ⟨fun hc => ?_, fun hc => ?_⟩
    · replace h := h.1 hc
      refine g_iconst dX12_tree_23 ?_
      refine h_istore (L' := [some (vR 214), some (vI x1), some (vI x2), some (vI z2), some (vI (-1)), none, none, none, none, none]) dX12_tree_24 (Nat.le_of_ble_eq_true rfl) rfl rfl ?_
      refine g_iconst dX12_tree_26 ?_
      refine h_istore (L' := [some (vR 214), some (vI x1), some (vI x2), some (vI z2), some (vI (-1)), some (vI 0), none, none, none, none]) dX12_tree_27 (Nat.le_of_ble_eq_true rfl) rfl rfl ?_
      refine g_iconst dX12_tree_29 ?_
      refine h_istore (L' := [some (vR 214), some (vI x1), some (vI x2), some (vI z2), some (vI (-1)), some (vI 0), some (vI 0), none, none, none]) dX12_tree_30 (Nat.le_of_ble_eq_true rfl) rfl rfl ?_
      refine g_iconst dX12_tree_32 ?_
      refine h_istore (L' := [some (vR 214), some (vI x1), some (vI x2), some (vI z2), some (vI (-1)), some (vI 0), some (vI 0), some (vI 0), none, none]) dX12_tree_33 (Nat.le_of_ble_eq_true rfl) rfl rfl ?_
      exact Go.drop (by simp only [mm_sub, and_self]) h
    · replace h := h.2 hc
      refine g_iconst dX12_tree_21 ?_
      exact g_iret dX12_tree_22 rfl h
  · replace h := h.2 hc
    refine g_iload_n dX12_tree_10 rfl rfl ?_
    exact g_iret dX12_tree_11 rfl h
set_option maxRecDepth 20000 in
theorem w_X12_tree_35 {E : mmE} {d kc ks : Nat} {G : mmG} {D : mmD} {Q : mmQ} {x2 x4 x5 x6 x7 : Int} (hG : Sh G)  (h : Call E d 0 0 mX12_trees [vR 214] G D (retI G (fun z2 D1 => ((iv z2 ≤ iv x7 → ((¬ iv x2 = iv 0 → ((¬ iv x2 = iv 1 → Q (some (vI x6)) G D1) ∧ (iv x2 = iv 1 → Q (some (vI x5)) G D1))) ∧ (iv x2 = iv 0 → Q (some (vI x4)) G D1))) ∧ (¬ iv z2 ≤ iv x7 → Call E d 0 0 mX12_stepsOf [vR 214, vI x7] G D1 (retI G (fun z4 D3 => ((iv x4 = iv (-1) → ((iv 1 = iv 0 → ((¬ iv z4 = iv x5 → Go E (d + 1) kc ks mX12_tree 97 [some (vR 214), none, some (vI x2), none, some (vI x4), some (vI x5), none, some (vI x7), some (vI z4), some (vI 1)] [vI x6] G D3 Q) ∧ (iv z4 = iv x5 → Go E (d + 1) kc ks mX12_tree 97 [some (vR 214), none, some (vI x2), none, some (vI x4), some (vI x5), none, some (vI x7), some (vI z4), some (vI 1)] [vI (x6 + 1)] G D3 Q))) ∧ (¬ iv 1 = iv 0 → Go E (d + 1) kc ks mX12_tree 97 [some (vR 214), none, some (vI x2), none, some (vI x4), some (vI x5), none, some (vI x7), some (vI z4), some (vI 1)] [vI 1] G D3 Q))) ∧ (¬ iv x4 = iv (-1) → ((iv x5 ≤ iv z4 → ((iv 0 = iv 0 → ((¬ iv z4 = iv x5 → Go E (d + 1) kc ks mX12_tree 97 [some (vR 214), none, some (vI x2), none, some (vI x4), some (vI x5), none, some (vI x7), some (vI z4), some (vI 0)] [vI x6] G D3 Q) ∧ (iv z4 = iv x5 → Go E (d + 1) kc ks mX12_tree 97 [some (vR 214), none, some (vI x2), none, some (vI x4), some (vI x5), none, some (vI x7), some (vI z4), some (vI 0)] [vI (x6 + 1)] G D3 Q))) ∧ (¬ iv 0 = iv 0 → Go E (d + 1) kc ks mX12_tree 97 [some (vR 214), none, some (vI x2), none, some (vI x4), some (vI x5), none, some (vI x7), some (vI z4), some (vI 0)] [vI 1] G D3 Q))) ∧ (¬ iv x5 ≤ iv z4 → ((iv 1 = iv 0 → ((¬ iv z4 = iv x5 → Go E (d + 1) kc ks mX12_tree 97 [some (vR 214), none, some (vI x2), none, some (vI x4), some (vI x5), none, some (vI x7), some (vI z4), some (vI 1)] [vI x6] G D3 Q) ∧ (iv z4 = iv x5 → Go E (d + 1) kc ks mX12_tree 97 [some (vR 214), none, some (vI x2), none, some (vI x4), some (vI x5), none, some (vI x7), some (vI z4), some (vI 1)] [vI (x6 + 1)] G D3 Q))) ∧ (¬ iv 1 = iv 0 → Go E (d + 1) kc ks mX12_tree 97 [some (vR 214), none, some (vI x2), none, some (vI x4), some (vI x5), none, some (vI x7), some (vI z4), some (vI 1)] [vI 1] G D3 Q))))))))))))) : Go E (d + 1) kc ks mX12_tree 35 [some (vR 214), none, some (vI x2), none, some (vI x4), some (vI x5), some (vI x6), some (vI x7), none, none] [] G D Q := by
  refine g_iload dX12_tree_35 rfl ?_
  refine g_aload_n dX12_tree_37 rfl rfl ?_
  refine g_callV (kc := kc) (kc' := 0) (ks := ks) (ks' := 0) (as := []) (st := [vI x7]) (ci := 11) dX12_tree_38 cB_X12_trees lk_X12_286 in_X12_trees se_X12_trees (by decide) rfl rfl (Nat.le_of_ble_eq_true rfl) (Nat.le_of_ble_eq_true rfl) (by decide) (hG.lt (by decide)) (congrArg Prod.fst hG.k214) ?_
  refine Go.to (fun r G' D1 hr => ?_) h
  obtain ⟨rfl, z2, rfl, h⟩ := hr
  show Go E (d + 1) kc ks mX12_tree 41 [some (vR 214), none, some (vI x2), none, some (vI x4), some (vI x5), some (vI x6), some (vI x7), none, none] [vI z2, vI x7] G D1 Q
  refine g_icmp_ge 133 dX12_tree_41 (by decide) ⟨fun hc => ?_, fun hc => ?_⟩
  · replace h := h.1 hc
    refine g_iload_n dX12_tree_133 rfl rfl ?_
    refine g_if_ne 142 dX12_tree_134 (by decide) ⟨fun hc => ?_, fun hc => ?_⟩
    · replace h := h.1 hc
      refine g_iload_n dX12_tree_142 rfl rfl ?_
      refine g_iconst dX12_tree_143 ?_
      refine g_icmp_ne 152 dX12_tree_144 (by decide) ⟨fun hc => ?_, fun hc => ?_⟩
      · replace h := h.1 hc
        refine g_iload dX12_tree_152 rfl ?_
        exact g_iret dX12_tree_154 rfl h
      · replace h := h.2 hc
        refine g_iload dX12_tree_147 rfl ?_
        refine g_goto 154 dX12_tree_149 (by decide) ?_
        exact g_iret dX12_tree_154 rfl h
    · replace h := h.2 hc
      refine g_iload dX12_tree_137 rfl ?_
      refine g_goto 154 dX12_tree_139 (by decide) ?_
      exact g_iret dX12_tree_154 rfl h
  · replace h := h.2 hc
    refine g_aload_n dX12_tree_44 rfl rfl ?_
    refine g_iload dX12_tree_45 rfl ?_
    refine g_callV (kc := kc) (kc' := 0) (ks := ks) (ks' := 0) (as := [vI x7]) (st := []) (ci := 11) dX12_tree_47 cB_X12_stepsOf lk_X12_299 in_X12_stepsOf se_X12_stepsOf (by decide) rfl rfl (Nat.le_of_ble_eq_true rfl) (Nat.le_of_ble_eq_true rfl) (by decide) (hG.lt (by decide)) (congrArg Prod.fst hG.k214) ?_
    refine Go.to (fun r G' D3 hr => ?_) h
    obtain ⟨rfl, z4, rfl, h⟩ := hr
    show Go E (d + 1) kc ks mX12_tree 50 [some (vR 214), none, some (vI x2), none, some (vI x4), some (vI x5), some (vI x6), some (vI x7), none, none] [vI z4] G D3 Q
    refine h_istore (L' := [some (vR 214), none, some (vI x2), none, some (vI x4), some (vI x5), some (vI x6), some (vI x7), some (vI z4), none]) dX12_tree_50 (Nat.le_of_ble_eq_true rfl) rfl rfl ?_
    refine g_iload dX12_tree_52 rfl ?_
    refine g_iconst dX12_tree_54 ?_
    refine g_icmp_eq 65 dX12_tree_55 (by decide) ⟨fun hc => ?_, fun hc => ?_⟩
    · replace h := h.1 hc
      refine g_iconst dX12_tree_65 ?_
      refine g_goto 70 dX12_tree_66 (by decide) ?_
      refine h_istore (L' := [some (vR 214), none, some (vI x2), none, some (vI x4), some (vI x5), some (vI x6), some (vI x7), some (vI z4), some (vI 1)]) dX12_tree_70 (Nat.le_of_ble_eq_true rfl) rfl rfl ?_
      refine g_iload dX12_tree_72 rfl ?_
      refine g_if_eq 81 dX12_tree_74 (by decide) ⟨fun hc => ?_, fun hc => ?_⟩
      · replace h := h.1 hc
        refine g_iload dX12_tree_81 rfl ?_
        refine g_iload dX12_tree_83 rfl ?_
        refine g_icmp_ne 95 dX12_tree_85 (by decide) ⟨fun hc => ?_, fun hc => ?_⟩
        · replace h := h.1 hc
          refine g_iload dX12_tree_95 rfl ?_
          exact Go.drop (by simp only [mm_sub, and_self]) h
        · replace h := h.2 hc
          refine g_iload dX12_tree_88 rfl ?_
          refine g_iconst dX12_tree_90 ?_
          refine g_iadd dX12_tree_91 ?_
          refine g_goto 97 dX12_tree_92 (by decide) ?_
          exact Go.drop (by simp only [mm_sub, and_self]) h
      · replace h := h.2 hc
        refine g_iconst dX12_tree_77 ?_
        refine g_goto 97 dX12_tree_78 (by decide) ?_
        exact Go.drop (by simp only [mm_sub, and_self]) h
    · replace h := h.2 hc
      refine g_iload dX12_tree_58 rfl ?_
      refine g_iload dX12_tree_60 rfl ?_
      refine g_icmp_ge 69 dX12_tree_62 (by decide) ⟨fun hc => ?_, fun hc => ?_⟩
      · replace h := h.1 hc
        refine g_iconst dX12_tree_69 ?_
        refine h_istore (L' := [some (vR 214), none, some (vI x2), none, some (vI x4), some (vI x5), some (vI x6), some (vI x7), some (vI z4), some (vI 0)]) dX12_tree_70 (Nat.le_of_ble_eq_true rfl) rfl rfl ?_
        refine g_iload dX12_tree_72 rfl ?_
        refine g_if_eq 81 dX12_tree_74 (by decide) ⟨fun hc => ?_, fun hc => ?_⟩
        · replace h := h.1 hc
          refine g_iload dX12_tree_81 rfl ?_
          refine g_iload dX12_tree_83 rfl ?_
          refine g_icmp_ne 95 dX12_tree_85 (by decide) ⟨fun hc => ?_, fun hc => ?_⟩
          · replace h := h.1 hc
            refine g_iload dX12_tree_95 rfl ?_
            exact Go.drop (by simp only [mm_sub, and_self]) h
          · replace h := h.2 hc
            refine g_iload dX12_tree_88 rfl ?_
            refine g_iconst dX12_tree_90 ?_
            refine g_iadd dX12_tree_91 ?_
            refine g_goto 97 dX12_tree_92 (by decide) ?_
            exact Go.drop (by simp only [mm_sub, and_self]) h
        · replace h := h.2 hc
          refine g_iconst dX12_tree_77 ?_
          refine g_goto 97 dX12_tree_78 (by decide) ?_
          exact Go.drop (by simp only [mm_sub, and_self]) h
      · replace h := h.2 hc
        refine g_iconst dX12_tree_65 ?_
        refine g_goto 70 dX12_tree_66 (by decide) ?_
        refine h_istore (L' := [some (vR 214), none, some (vI x2), none, some (vI x4), some (vI x5), some (vI x6), some (vI x7), some (vI z4), some (vI 1)]) dX12_tree_70 (Nat.le_of_ble_eq_true rfl) rfl rfl ?_
        refine g_iload dX12_tree_72 rfl ?_
        refine g_if_eq 81 dX12_tree_74 (by decide) ⟨fun hc => ?_, fun hc => ?_⟩
        · replace h := h.1 hc
          refine g_iload dX12_tree_81 rfl ?_
          refine g_iload dX12_tree_83 rfl ?_
          refine g_icmp_ne 95 dX12_tree_85 (by decide) ⟨fun hc => ?_, fun hc => ?_⟩
          · replace h := h.1 hc
            refine g_iload dX12_tree_95 rfl ?_
            exact Go.drop (by simp only [mm_sub, and_self]) h
          · replace h := h.2 hc
            refine g_iload dX12_tree_88 rfl ?_
            refine g_iconst dX12_tree_90 ?_
            refine g_iadd dX12_tree_91 ?_
            refine g_goto 97 dX12_tree_92 (by decide) ?_
            exact Go.drop (by simp only [mm_sub, and_self]) h
        · replace h := h.2 hc
          refine g_iconst dX12_tree_77 ?_
          refine g_goto 97 dX12_tree_78 (by decide) ?_
          exact Go.drop (by simp only [mm_sub, and_self]) h
set_option maxRecDepth 20000 in
theorem w_X12_tree_97 {E : mmE} {d kc ks : Nat} {G : mmG} {D : mmD} {Q : mmQ} {x2 x4 x5 x7 x8 x9 y0 : Int} (hG : Sh G)  (h : ((iv x9 = iv 0 → ((iv x9 = iv 0 → Go E (d + 1) kc ks mX12_tree 35 [some (vR 214), none, some (vI x2), none, some (vI x4), some (vI x5), some (vI y0), some (vI (x7 + 1)), none, none] [] G D Q) ∧ (¬ iv x9 = iv 0 → Go E (d + 1) kc ks mX12_tree 35 [some (vR 214), none, some (vI x2), none, some (vI x4), some (vI x8), some (vI y0), some (vI (x7 + 1)), none, none] [] G D Q))) ∧ (¬ iv x9 = iv 0 → ((iv x9 = iv 0 → Go E (d + 1) kc ks mX12_tree 35 [some (vR 214), none, some (vI x2), none, some (vI x7), some (vI x5), some (vI y0), some (vI (x7 + 1)), none, none] [] G D Q) ∧ (¬ iv x9 = iv 0 → Go E (d + 1) kc ks mX12_tree 35 [some (vR 214), none, some (vI x2), none, some (vI x7), some (vI x8), some (vI y0), some (vI (x7 + 1)), none, none] [] G D Q))))) : Go E (d + 1) kc ks mX12_tree 97 [some (vR 214), none, some (vI x2), none, some (vI x4), some (vI x5), none, some (vI x7), some (vI x8), some (vI x9)] [vI y0] G D Q := by
  refine h_istore (L' := [some (vR 214), none, some (vI x2), none, some (vI x4), some (vI x5), some (vI y0), some (vI x7), some (vI x8), some (vI x9)]) dX12_tree_97 (Nat.le_of_ble_eq_true rfl) rfl rfl ?_
  refine g_iload dX12_tree_99 rfl ?_
  refine g_if_eq 109 dX12_tree_101 (by decide) ⟨fun hc => ?_, fun hc => ?_⟩
  · replace h := h.1 hc
    refine g_iload dX12_tree_109 rfl ?_
    refine h_istore (L' := [some (vR 214), none, some (vI x2), none, some (vI x4), some (vI x5), some (vI y0), some (vI x7), some (vI x8), some (vI x9)]) dX12_tree_111 (Nat.le_of_ble_eq_true rfl) rfl rfl ?_
    refine g_iload dX12_tree_113 rfl ?_
    refine g_if_eq 123 dX12_tree_115 (by decide) ⟨fun hc => ?_, fun hc => ?_⟩
    · replace h := h.1 hc
      refine g_iload dX12_tree_123 rfl ?_
      refine h_istore (L' := [some (vR 214), none, some (vI x2), none, some (vI x4), some (vI x5), some (vI y0), some (vI x7), some (vI x8), some (vI x9)]) dX12_tree_125 (Nat.le_of_ble_eq_true rfl) rfl rfl ?_
      refine h_iinc (L' := [some (vR 214), none, some (vI x2), none, some (vI x4), some (vI x5), some (vI y0), some (vI (x7 + 1)), some (vI x8), some (vI x9)]) dX12_tree_127 (Nat.le_of_ble_eq_true rfl) rfl rfl rfl ?_
      refine g_goto 35 dX12_tree_130 (by decide) ?_
      exact Go.drop (by simp only [mm_sub, and_self]) h
    · replace h := h.2 hc
      refine g_iload dX12_tree_118 rfl ?_
      refine g_goto 125 dX12_tree_120 (by decide) ?_
      refine h_istore (L' := [some (vR 214), none, some (vI x2), none, some (vI x4), some (vI x8), some (vI y0), some (vI x7), some (vI x8), some (vI x9)]) dX12_tree_125 (Nat.le_of_ble_eq_true rfl) rfl rfl ?_
      refine h_iinc (L' := [some (vR 214), none, some (vI x2), none, some (vI x4), some (vI x8), some (vI y0), some (vI (x7 + 1)), some (vI x8), some (vI x9)]) dX12_tree_127 (Nat.le_of_ble_eq_true rfl) rfl rfl rfl ?_
      refine g_goto 35 dX12_tree_130 (by decide) ?_
      exact Go.drop (by simp only [mm_sub, and_self]) h
  · replace h := h.2 hc
    refine g_iload dX12_tree_104 rfl ?_
    refine g_goto 111 dX12_tree_106 (by decide) ?_
    refine h_istore (L' := [some (vR 214), none, some (vI x2), none, some (vI x7), some (vI x5), some (vI y0), some (vI x7), some (vI x8), some (vI x9)]) dX12_tree_111 (Nat.le_of_ble_eq_true rfl) rfl rfl ?_
    refine g_iload dX12_tree_113 rfl ?_
    refine g_if_eq 123 dX12_tree_115 (by decide) ⟨fun hc => ?_, fun hc => ?_⟩
    · replace h := h.1 hc
      refine g_iload dX12_tree_123 rfl ?_
      refine h_istore (L' := [some (vR 214), none, some (vI x2), none, some (vI x7), some (vI x5), some (vI y0), some (vI x7), some (vI x8), some (vI x9)]) dX12_tree_125 (Nat.le_of_ble_eq_true rfl) rfl rfl ?_
      refine h_iinc (L' := [some (vR 214), none, some (vI x2), none, some (vI x7), some (vI x5), some (vI y0), some (vI (x7 + 1)), some (vI x8), some (vI x9)]) dX12_tree_127 (Nat.le_of_ble_eq_true rfl) rfl rfl rfl ?_
      refine g_goto 35 dX12_tree_130 (by decide) ?_
      exact Go.drop (by simp only [mm_sub, and_self]) h
    · replace h := h.2 hc
      refine g_iload dX12_tree_118 rfl ?_
      refine g_goto 125 dX12_tree_120 (by decide) ?_
      refine h_istore (L' := [some (vR 214), none, some (vI x2), none, some (vI x7), some (vI x8), some (vI y0), some (vI x7), some (vI x8), some (vI x9)]) dX12_tree_125 (Nat.le_of_ble_eq_true rfl) rfl rfl ?_
      refine h_iinc (L' := [some (vR 214), none, some (vI x2), none, some (vI x7), some (vI x8), some (vI y0), some (vI (x7 + 1)), some (vI x8), some (vI x9)]) dX12_tree_127 (Nat.le_of_ble_eq_true rfl) rfl rfl rfl ?_
      refine g_goto 35 dX12_tree_130 (by decide) ?_
      exact Go.drop (by simp only [mm_sub, and_self]) h
set_option maxRecDepth 20000 in
theorem w_X12_claim {E : mmE} {d kc ks : Nat} {G : mmG} {D : mmD} {Q : mmQ} {x1 x2 x3 x4 x5 : Int} (hG : Sh G)  (h : Call E d 0 0 mX12_has [vR 214, vI x2, vI x1] G D (retI G (fun z2 D1 => ((iv z2 = iv 0 → Q (some (vI (-1))) G D1) ∧ (¬ iv z2 = iv 0 → Call E d 0 0 mX12_has [vR 214, vI x3, vI x1] G D1 (retI G (fun z4 D3 => ((¬ iv z4 = iv 0 → ((iv x2 = iv x3 → Q (some (vI (-2))) G D3) ∧ (¬ iv x2 = iv x3 → Call E d 0 0 mX12_in [vI x5, vI 0, vI 10] G D3 (retI G (fun z6 D5 => ((¬ iv z6 = iv 0 → ((iv (D5 214 9) = iv 0 → ((¬ iv (D5 214 6) = iv 60 → ((0 ≤ (D5 214 6) ∧ (D5 214 6) < 60) ∧ (∀ D7 : mmD, D7 = up2 D5 233 (D5 214 6) x5 → ((0 ≤ ((10 * x2) + x1) ∧ ((10 * x2) + x1) < 60) ∧ ((0 ≤ ((10 * x3) + x1) ∧ ((10 * x3) + x1) < 60) ∧ ((¬ iv (D7 218 ((10 * x2) + x1)) = iv (D7 218 ((10 * x3) + x1)) → ((¬ iv x4 = iv 0 → ((0 ≤ (D7 214 6) ∧ (D7 214 6) < 60) ∧ (∀ D8 : mmD, D8 = up2 D7 234 (D7 214 6) 0 → (∀ D9 : mmD, D9 = up2 D8 214 6 ((D8 214 6) + 1) → Q (some (vI ((D9 214 6) - 1))) G D9)))) ∧ (iv x4 = iv 0 → ((0 ≤ (D7 214 6) ∧ (D7 214 6) < 60) ∧ (∀ D10 : mmD, D10 = up2 D7 234 (D7 214 6) 1 → (∀ D11 : mmD, D11 = up2 D10 214 6 ((D10 214 6) + 1) → Q (some (vI ((D11 214 6) - 1))) G D11)))))) ∧ (iv (D7 218 ((10 * x2) + x1)) = iv (D7 218 ((10 * x3) + x1)) → ((¬ iv x4 = iv 1 → ((0 ≤ (D7 214 6) ∧ (D7 214 6) < 60) ∧ (∀ D12 : mmD, D12 = up2 D7 234 (D7 214 6) 0 → (∀ D13 : mmD, D13 = up2 D12 214 6 ((D12 214 6) + 1) → Q (some (vI ((D13 214 6) - 1))) G D13)))) ∧ (iv x4 = iv 1 → ((0 ≤ (D7 214 6) ∧ (D7 214 6) < 60) ∧ (∀ D14 : mmD, D14 = up2 D7 234 (D7 214 6) 1 → (∀ D15 : mmD, D15 = up2 D14 214 6 ((D14 214 6) + 1) → Q (some (vI ((D15 214 6) - 1))) G D15)))))))))))) ∧ (iv (D5 214 6) = iv 60 → Q (some (vI (-4))) G D5))) ∧ (¬ iv (D5 214 9) = iv 0 → Q (some (vI (-3))) G D5))) ∧ (iv z6 = iv 0 → Q (some (vI (-2))) G D5))))))) ∧ (iv z4 = iv 0 → Q (some (vI (-1))) G D3))))))))) : Call E (d + 1) kc ks mX12_claim [vR 214, vI x1, vI x2, vI x3, vI x4, vI x5] G D Q := by
  show Go E (d + 1) kc ks mX12_claim 0 [some (vR 214), some (vI x1), some (vI x2), some (vI x3), some (vI x4), some (vI x5)] [] G D Q
  refine g_aload_n dX12_claim_0 rfl rfl ?_
  refine g_iload_n dX12_claim_1 rfl rfl ?_
  refine g_iload_n dX12_claim_2 rfl rfl ?_
  refine g_callV (kc := kc) (kc' := 0) (ks := ks) (ks' := 0) (as := [vI x2, vI x1]) (st := []) (ci := 11) dX12_claim_3 cB_X12_has lk_X12_228 in_X12_has se_X12_has (by decide) rfl rfl (Nat.le_of_ble_eq_true rfl) (Nat.le_of_ble_eq_true rfl) (by decide) (hG.lt (by decide)) (congrArg Prod.fst hG.k214) ?_
  refine Go.to (fun r G' D1 hr => ?_) h
  obtain ⟨rfl, z2, rfl, h⟩ := hr
  show Go E (d + 1) kc ks mX12_claim 6 [some (vR 214), some (vI x1), some (vI x2), some (vI x3), some (vI x4), some (vI x5)] [vI z2] G D1 Q
  refine g_if_eq 18 dX12_claim_6 (by decide) ⟨fun hc => ?_, fun hc => ?_⟩
  · replace h := h.1 hc
    refine g_iconst dX12_claim_18 ?_
    exact g_iret dX12_claim_19 rfl h
  · replace h := h.2 hc
    refine g_aload_n dX12_claim_9 rfl rfl ?_
    refine g_iload_n dX12_claim_10 rfl rfl ?_
    refine g_iload_n dX12_claim_11 rfl rfl ?_
    refine g_callV (kc := kc) (kc' := 0) (ks := ks) (ks' := 0) (as := [vI x3, vI x1]) (st := []) (ci := 11) dX12_claim_12 cB_X12_has lk_X12_228 in_X12_has se_X12_has (by decide) rfl rfl (Nat.le_of_ble_eq_true rfl) (Nat.le_of_ble_eq_true rfl) (by decide) (hG.lt (by decide)) (congrArg Prod.fst hG.k214) ?_
    refine Go.to (fun r G' D3 hr => ?_) h
    obtain ⟨rfl, z4, rfl, h⟩ := hr
    show Go E (d + 1) kc ks mX12_claim 15 [some (vR 214), some (vI x1), some (vI x2), some (vI x3), some (vI x4), some (vI x5)] [vI z4] G D3 Q
    refine g_if_ne 20 dX12_claim_15 (by decide) ⟨fun hc => ?_, fun hc => ?_⟩
    · replace h := h.1 hc
      refine g_iload_n dX12_claim_20 rfl rfl ?_
      refine g_iload_n dX12_claim_21 rfl rfl ?_
      refine g_icmp_eq 36 dX12_claim_22 (by decide) ⟨fun hc => ?_, fun hc => ?_⟩
      · replace h := h.1 hc
        refine g_bipush dX12_claim_36 bp_m2 ?_
        exact g_iret dX12_claim_38 rfl h
      · replace h := h.2 hc
        refine g_iload dX12_claim_25 rfl ?_
        refine g_iconst dX12_claim_27 ?_
        refine g_bipush dX12_claim_28 bp_10 ?_
        refine g_callS (kc := kc) (kc' := 0) (ks := ks) (ks' := 0) (as := [vI x5, vI 0, vI 10]) (st := []) dX12_claim_30 cB_X12_in lk_X12_123 st_X12_in rfl (Nat.le_of_ble_eq_true rfl) (Nat.le_of_ble_eq_true rfl) ?_
        refine Go.to (fun r G' D5 hr => ?_) h
        obtain ⟨rfl, z6, rfl, h⟩ := hr
        show Go E (d + 1) kc ks mX12_claim 33 [some (vR 214), some (vI x1), some (vI x2), some (vI x3), some (vI x4), some (vI x5)] [vI z6] G D5 Q
        refine g_if_ne 39 dX12_claim_33 (by decide) ⟨fun hc => ?_, fun hc => ?_⟩
        · replace h := h.1 hc
          refine g_aload_n dX12_claim_39 rfl rfl ?_
          refine h_getI (j := 9) dX12_claim_40 f_X12_218_11 rfl rfl (by decide) hG.k214 (by decide) (hG.lt (by decide)) ?_
          refine g_if_eq 49 dX12_claim_43 (by decide) ⟨fun hc => ?_, fun hc => ?_⟩
          · replace h := h.1 hc
            refine g_aload_n dX12_claim_49 rfl rfl ?_
            refine h_getI (j := 6) dX12_claim_50 f_X12_221_11 rfl rfl (by decide) hG.k214 (by decide) (hG.lt (by decide)) ?_
            refine g_bipush dX12_claim_53 bp_60 ?_
            refine g_icmp_ne 61 dX12_claim_55 (by decide) ⟨fun hc => ?_, fun hc => ?_⟩
            · replace h := h.1 hc
              refine g_aload_n dX12_claim_61 rfl rfl ?_
              refine h_getR (j := 28) dX12_claim_62 f_X12_69_11 rfl rfl (by decide) hG.k214 (by decide) (hG.lt (by decide)) hG.r214_28 ?_
              refine g_aload_n dX12_claim_65 rfl rfl ?_
              refine h_getI (j := 6) dX12_claim_66 f_X12_221_11 rfl rfl (by decide) hG.k214 (by decide) (hG.lt (by decide)) ?_
              refine g_iload dX12_claim_69 rfl ?_
              refine g_iast dX12_claim_71 hG.k233 (by decide) (hG.lt (by decide)) (by decide) ⟨h.1, ?_⟩
              generalize hD_D7 : up2 D5 233 (D5 214 6) x5 = D7
              replace h := h.2 _ hD_D7.symm
              refine g_aload_n dX12_claim_72 rfl rfl ?_
              refine h_getR (j := 29) dX12_claim_73 f_X12_72_11 rfl rfl (by decide) hG.k214 (by decide) (hG.lt (by decide)) hG.r214_29 ?_
              refine g_aload_n dX12_claim_76 rfl rfl ?_
              refine h_getI (j := 6) dX12_claim_77 f_X12_221_11 rfl rfl (by decide) hG.k214 (by decide) (hG.lt (by decide)) ?_
              refine g_iload dX12_claim_80 rfl ?_
              refine g_aload_n dX12_claim_82 rfl rfl ?_
              refine h_getR (j := 13) dX12_claim_83 f_X12_23_11 rfl rfl (by decide) hG.k214 (by decide) (hG.lt (by decide)) hG.r214_13 ?_
              refine g_bipush dX12_claim_86 bp_10 ?_
              refine g_iload_n dX12_claim_88 rfl rfl ?_
              refine g_imul dX12_claim_89 ?_
              refine g_iload_n dX12_claim_90 rfl rfl ?_
              refine g_iadd dX12_claim_91 ?_
              refine g_iald dX12_claim_92 hG.k218 (by decide) (hG.lt (by decide)) (by decide) ⟨h.1, ?_⟩
              replace h := h.2
              refine g_aload_n dX12_claim_93 rfl rfl ?_
              refine h_getR (j := 13) dX12_claim_94 f_X12_23_11 rfl rfl (by decide) hG.k214 (by decide) (hG.lt (by decide)) hG.r214_13 ?_
              refine g_bipush dX12_claim_97 bp_10 ?_
              refine g_iload_n dX12_claim_99 rfl rfl ?_
              refine g_imul dX12_claim_100 ?_
              refine g_iload_n dX12_claim_101 rfl rfl ?_
              refine g_iadd dX12_claim_102 ?_
              refine g_iald dX12_claim_103 hG.k218 (by decide) (hG.lt (by decide)) (by decide) ⟨h.1, ?_⟩
              replace h := h.2
              refine g_icmp_ne 111 dX12_claim_104 (by decide) ⟨fun hc => ?_, fun hc => ?_⟩
              · replace h := h.1 hc
                refine g_iconst dX12_claim_111 ?_
                refine g_icmp_ne 119 dX12_claim_112 (by decide) ⟨fun hc => ?_, fun hc => ?_⟩
                · replace h := h.1 hc
                  refine g_iconst dX12_claim_119 ?_
                  refine g_bast dX12_claim_120 hG.k234 (by decide) (hG.lt (by decide)) (by decide) ⟨h.1, Or.inl rfl, ?_⟩
                  generalize hD_D8 : up2 D7 234 (D7 214 6) 0 = D8
                  replace h := h.2 _ hD_D8.symm
                  refine g_aload_n dX12_claim_121 rfl rfl ?_
                  refine g_dup dX12_claim_122 (fun _ h9 => by cases h9) ?_
                  refine h_getI (j := 6) dX12_claim_123 f_X12_221_11 rfl rfl (by decide) hG.k214 (by decide) (hG.lt (by decide)) ?_
                  refine g_iconst dX12_claim_126 ?_
                  refine g_iadd dX12_claim_127 ?_
                  refine h_putI (j := 6) dX12_claim_128 f_X12_221_11 (Or.inl (mm_finI (by decide +kernel))) rfl rfl (by decide) hG.k214 (by decide) (hG.lt (by decide)) ?_
                  generalize hD_D9 : up2 D8 214 6 ((D8 214 6) + 1) = D9
                  replace h := h _ hD_D9.symm
                  refine g_aload_n dX12_claim_131 rfl rfl ?_
                  refine h_getI (j := 6) dX12_claim_132 f_X12_221_11 rfl rfl (by decide) hG.k214 (by decide) (hG.lt (by decide)) ?_
                  refine g_iconst dX12_claim_135 ?_
                  refine g_isub dX12_claim_136 ?_
                  exact g_iret dX12_claim_137 rfl h
                · replace h := h.2 hc
                  refine g_iconst dX12_claim_115 ?_
                  refine g_goto 120 dX12_claim_116 (by decide) ?_
                  refine g_bast dX12_claim_120 hG.k234 (by decide) (hG.lt (by decide)) (by decide) ⟨h.1, Or.inr rfl, ?_⟩
                  generalize hD_D10 : up2 D7 234 (D7 214 6) 1 = D10
                  replace h := h.2 _ hD_D10.symm
                  refine g_aload_n dX12_claim_121 rfl rfl ?_
                  refine g_dup dX12_claim_122 (fun _ h9 => by cases h9) ?_
                  refine h_getI (j := 6) dX12_claim_123 f_X12_221_11 rfl rfl (by decide) hG.k214 (by decide) (hG.lt (by decide)) ?_
                  refine g_iconst dX12_claim_126 ?_
                  refine g_iadd dX12_claim_127 ?_
                  refine h_putI (j := 6) dX12_claim_128 f_X12_221_11 (Or.inl (mm_finI (by decide +kernel))) rfl rfl (by decide) hG.k214 (by decide) (hG.lt (by decide)) ?_
                  generalize hD_D11 : up2 D10 214 6 ((D10 214 6) + 1) = D11
                  replace h := h _ hD_D11.symm
                  refine g_aload_n dX12_claim_131 rfl rfl ?_
                  refine h_getI (j := 6) dX12_claim_132 f_X12_221_11 rfl rfl (by decide) hG.k214 (by decide) (hG.lt (by decide)) ?_
                  refine g_iconst dX12_claim_135 ?_
                  refine g_isub dX12_claim_136 ?_
                  exact g_iret dX12_claim_137 rfl h
              · replace h := h.2 hc
                refine g_iconst dX12_claim_107 ?_
                refine g_goto 112 dX12_claim_108 (by decide) ?_
                refine g_icmp_ne 119 dX12_claim_112 (by decide) ⟨fun hc => ?_, fun hc => ?_⟩
                · replace h := h.1 hc
                  refine g_iconst dX12_claim_119 ?_
                  refine g_bast dX12_claim_120 hG.k234 (by decide) (hG.lt (by decide)) (by decide) ⟨h.1, Or.inl rfl, ?_⟩
                  generalize hD_D12 : up2 D7 234 (D7 214 6) 0 = D12
                  replace h := h.2 _ hD_D12.symm
                  refine g_aload_n dX12_claim_121 rfl rfl ?_
                  refine g_dup dX12_claim_122 (fun _ h9 => by cases h9) ?_
                  refine h_getI (j := 6) dX12_claim_123 f_X12_221_11 rfl rfl (by decide) hG.k214 (by decide) (hG.lt (by decide)) ?_
                  refine g_iconst dX12_claim_126 ?_
                  refine g_iadd dX12_claim_127 ?_
                  refine h_putI (j := 6) dX12_claim_128 f_X12_221_11 (Or.inl (mm_finI (by decide +kernel))) rfl rfl (by decide) hG.k214 (by decide) (hG.lt (by decide)) ?_
                  generalize hD_D13 : up2 D12 214 6 ((D12 214 6) + 1) = D13
                  replace h := h _ hD_D13.symm
                  refine g_aload_n dX12_claim_131 rfl rfl ?_
                  refine h_getI (j := 6) dX12_claim_132 f_X12_221_11 rfl rfl (by decide) hG.k214 (by decide) (hG.lt (by decide)) ?_
                  refine g_iconst dX12_claim_135 ?_
                  refine g_isub dX12_claim_136 ?_
                  exact g_iret dX12_claim_137 rfl h
                · replace h := h.2 hc
                  refine g_iconst dX12_claim_115 ?_
                  refine g_goto 120 dX12_claim_116 (by decide) ?_
                  refine g_bast dX12_claim_120 hG.k234 (by decide) (hG.lt (by decide)) (by decide) ⟨h.1, Or.inr rfl, ?_⟩
                  generalize hD_D14 : up2 D7 234 (D7 214 6) 1 = D14
                  replace h := h.2 _ hD_D14.symm
                  refine g_aload_n dX12_claim_121 rfl rfl ?_
                  refine g_dup dX12_claim_122 (fun _ h9 => by cases h9) ?_
                  refine h_getI (j := 6) dX12_claim_123 f_X12_221_11 rfl rfl (by decide) hG.k214 (by decide) (hG.lt (by decide)) ?_
                  refine g_iconst dX12_claim_126 ?_
                  refine g_iadd dX12_claim_127 ?_
                  refine h_putI (j := 6) dX12_claim_128 f_X12_221_11 (Or.inl (mm_finI (by decide +kernel))) rfl rfl (by decide) hG.k214 (by decide) (hG.lt (by decide)) ?_
                  generalize hD_D15 : up2 D14 214 6 ((D14 214 6) + 1) = D15
                  replace h := h _ hD_D15.symm
                  refine g_aload_n dX12_claim_131 rfl rfl ?_
                  refine h_getI (j := 6) dX12_claim_132 f_X12_221_11 rfl rfl (by decide) hG.k214 (by decide) (hG.lt (by decide)) ?_
                  refine g_iconst dX12_claim_135 ?_
                  refine g_isub dX12_claim_136 ?_
                  exact g_iret dX12_claim_137 rfl h
            · replace h := h.2 hc
              refine g_bipush dX12_claim_58 bp_m4 ?_
              exact g_iret dX12_claim_60 rfl h
          · replace h := h.2 hc
            refine g_bipush dX12_claim_46 bp_m3 ?_
            exact g_iret dX12_claim_48 rfl h
        · replace h := h.2 hc
          refine g_bipush dX12_claim_36 bp_m2 ?_
          exact g_iret dX12_claim_38 rfl h
    · replace h := h.2 hc
      refine g_iconst dX12_claim_18 ?_
      exact g_iret dX12_claim_19 rfl h
set_option maxRecDepth 20000 in
theorem w_X12_right {E : mmE} {d kc ks : Nat} {G : mmG} {D : mmD} {Q : mmQ} {x1 : Int} (hG : Sh G)  (h : Call E d 0 0 mX12_in [vI x1, vI 0, vI ((D 214 6) - 1)] G D (retI G (fun z2 D1 => ((¬ iv z2 = iv 0 → ((¬ iv (D1 214 9) = iv 0 → ((0 ≤ x1 ∧ x1 < 60) ∧ ((iv (D1 234 x1) = iv 0 → Q (some (vI 0)) G D1) ∧ (¬ iv (D1 234 x1) = iv 0 → Q (some (vI 1)) G D1)))) ∧ (iv (D1 214 9) = iv 0 → Q (some (vI (-3))) G D1))) ∧ (iv z2 = iv 0 → Q (some (vI (-1))) G D1))))) : Call E (d + 1) kc ks mX12_right [vR 214, vI x1] G D Q := by
  show Go E (d + 1) kc ks mX12_right 0 [some (vR 214), some (vI x1)] [] G D Q
  refine g_iload_n dX12_right_0 rfl rfl ?_
  refine g_iconst dX12_right_1 ?_
  refine g_aload_n dX12_right_2 rfl rfl ?_
  refine h_getI (j := 6) dX12_right_3 f_X12_221_11 rfl rfl (by decide) hG.k214 (by decide) (hG.lt (by decide)) ?_
  refine g_iconst dX12_right_6 ?_
  refine g_isub dX12_right_7 ?_
  refine g_callS (kc := kc) (kc' := 0) (ks := ks) (ks' := 0) (as := [vI x1, vI 0, vI ((D 214 6) - 1)]) (st := []) dX12_right_8 cB_X12_in lk_X12_123 st_X12_in rfl (Nat.le_of_ble_eq_true rfl) (Nat.le_of_ble_eq_true rfl) ?_
  refine Go.to (fun r G' D1 hr => ?_) h
  obtain ⟨rfl, z2, rfl, h⟩ := hr
  show Go E (d + 1) kc ks mX12_right 11 [some (vR 214), some (vI x1)] [vI z2] G D1 Q
  refine g_if_ne 16 dX12_right_11 (by decide) ⟨fun hc => ?_, fun hc => ?_⟩
  · replace h := h.1 hc
    refine g_aload_n dX12_right_16 rfl rfl ?_
    refine h_getI (j := 9) dX12_right_17 f_X12_218_11 rfl rfl (by decide) hG.k214 (by decide) (hG.lt (by decide)) ?_
    refine g_if_ne 28 dX12_right_20 (by decide) ⟨fun hc => ?_, fun hc => ?_⟩
    · replace h := h.1 hc
      refine g_aload_n dX12_right_28 rfl rfl ?_
      refine h_getR (j := 29) dX12_right_29 f_X12_72_11 rfl rfl (by decide) hG.k214 (by decide) (hG.lt (by decide)) hG.r214_29 ?_
      refine g_iload_n dX12_right_32 rfl rfl ?_
      refine g_bald dX12_right_33 hG.k234 (by decide) (hG.lt (by decide)) (by decide) ⟨h.1, ?_⟩
      replace h := h.2
      refine g_if_eq 41 dX12_right_34 (by decide) ⟨fun hc => ?_, fun hc => ?_⟩
      · replace h := h.1 hc
        refine g_iconst dX12_right_41 ?_
        exact g_iret dX12_right_42 rfl h
      · replace h := h.2 hc
        refine g_iconst dX12_right_37 ?_
        refine g_goto 42 dX12_right_38 (by decide) ?_
        exact g_iret dX12_right_42 rfl h
    · replace h := h.2 hc
      refine g_bipush dX12_right_23 bp_m3 ?_
      refine g_goto 42 dX12_right_25 (by decide) ?_
      exact g_iret dX12_right_42 rfl h
  · replace h := h.2 hc
    refine g_iconst dX12_right_14 ?_
    exact g_iret dX12_right_15 rfl h
set_option maxRecDepth 20000 in
theorem w_X12_sure {E : mmE} {d kc ks : Nat} {G : mmG} {D : mmD} {Q : mmQ} {x1 x2 : Int} (hG : Sh G)  (h : Call E d 0 0 mX12_in [vI x2, vI 0, vI 1] G D (retI G (fun z2 D1 => ((¬ iv z2 = iv 0 → Call E d 0 0 mX12_in [vI x1, vI 0, vI 10] G D1 (retI G (fun z4 D3 => ((¬ iv z4 = iv 0 → ((¬ iv x2 = iv 1 → Go E (d + 1) kc ks mX12_sure 44 [some (vR 214), some (vI x1), some (vI x2), some (vI 0), some (vI 0)] [] G D3 Q) ∧ (iv x2 = iv 1 → ((¬ iv (D3 214 9) = iv 0 → Go E (d + 1) kc ks mX12_sure 44 [some (vR 214), some (vI x1), some (vI x2), some (vI 0), some (vI 0)] [] G D3 Q) ∧ (iv (D3 214 9) = iv 0 → Q (some (vI (-3))) G D3))))) ∧ (iv z4 = iv 0 → Q (some (vI (-2))) G D3))))) ∧ (iv z2 = iv 0 → Q (some (vI (-1))) G D1))))) : Call E (d + 1) kc ks mX12_sure [vR 214, vI x1, vI x2] G D Q := by
  show Go E (d + 1) kc ks mX12_sure 0 [some (vR 214), some (vI x1), some (vI x2), none, none] [] G D Q
  refine g_iload_n dX12_sure_0 rfl rfl ?_
  refine g_iconst dX12_sure_1 ?_
  refine g_iconst dX12_sure_2 ?_
  refine g_callS (kc := kc) (kc' := 0) (ks := ks) (ks' := 0) (as := [vI x2, vI 0, vI 1]) (st := []) dX12_sure_3 cB_X12_in lk_X12_123 st_X12_in rfl (Nat.le_of_ble_eq_true rfl) (Nat.le_of_ble_eq_true rfl) ?_
  refine Go.to (fun r G' D1 hr => ?_) h
  obtain ⟨rfl, z2, rfl, h⟩ := hr
  show Go E (d + 1) kc ks mX12_sure 6 [some (vR 214), some (vI x1), some (vI x2), none, none] [vI z2] G D1 Q
  refine g_if_ne 11 dX12_sure_6 (by decide) ⟨fun hc => ?_, fun hc => ?_⟩
  · replace h := h.1 hc
    refine g_iload_n dX12_sure_11 rfl rfl ?_
    refine g_iconst dX12_sure_12 ?_
    refine g_bipush dX12_sure_13 bp_10 ?_
    refine g_callS (kc := kc) (kc' := 0) (ks := ks) (ks' := 0) (as := [vI x1, vI 0, vI 10]) (st := []) dX12_sure_15 cB_X12_in lk_X12_123 st_X12_in rfl (Nat.le_of_ble_eq_true rfl) (Nat.le_of_ble_eq_true rfl) ?_
    refine Go.to (fun r G' D3 hr => ?_) h
    obtain ⟨rfl, z4, rfl, h⟩ := hr
    show Go E (d + 1) kc ks mX12_sure 18 [some (vR 214), some (vI x1), some (vI x2), none, none] [vI z4] G D3 Q
    refine g_if_ne 24 dX12_sure_18 (by decide) ⟨fun hc => ?_, fun hc => ?_⟩
    · replace h := h.1 hc
      refine g_iload_n dX12_sure_24 rfl rfl ?_
      refine g_iconst dX12_sure_25 ?_
      refine g_icmp_ne 39 dX12_sure_26 (by decide) ⟨fun hc => ?_, fun hc => ?_⟩
      · replace h := h.1 hc
        refine g_iconst dX12_sure_39 ?_
        refine h_istore_n (L' := [some (vR 214), some (vI x1), some (vI x2), some (vI 0), none]) dX12_sure_40 rfl (Nat.le_of_ble_eq_true rfl) rfl rfl ?_
        refine g_iconst dX12_sure_41 ?_
        refine h_istore (L' := [some (vR 214), some (vI x1), some (vI x2), some (vI 0), some (vI 0)]) dX12_sure_42 (Nat.le_of_ble_eq_true rfl) rfl rfl ?_
        exact Go.drop (by simp only [mm_sub, and_self]) h
      · replace h := h.2 hc
        refine g_aload_n dX12_sure_29 rfl rfl ?_
        refine h_getI (j := 9) dX12_sure_30 f_X12_218_11 rfl rfl (by decide) hG.k214 (by decide) (hG.lt (by decide)) ?_
        refine g_if_ne 39 dX12_sure_33 (by decide) ⟨fun hc => ?_, fun hc => ?_⟩
        · replace h := h.1 hc
          refine g_iconst dX12_sure_39 ?_
          refine h_istore_n (L' := [some (vR 214), some (vI x1), some (vI x2), some (vI 0), none]) dX12_sure_40 rfl (Nat.le_of_ble_eq_true rfl) rfl rfl ?_
          refine g_iconst dX12_sure_41 ?_
          refine h_istore (L' := [some (vR 214), some (vI x1), some (vI x2), some (vI 0), some (vI 0)]) dX12_sure_42 (Nat.le_of_ble_eq_true rfl) rfl rfl ?_
          exact Go.drop (by simp only [mm_sub, and_self]) h
        · replace h := h.2 hc
          refine g_bipush dX12_sure_36 bp_m3 ?_
          exact g_iret dX12_sure_38 rfl h
    · replace h := h.2 hc
      refine g_bipush dX12_sure_21 bp_m2 ?_
      exact g_iret dX12_sure_23 rfl h
  · replace h := h.2 hc
    refine g_iconst dX12_sure_9 ?_
    exact g_iret dX12_sure_10 rfl h
set_option maxRecDepth 20000 in
theorem w_X12_sure_44 {E : mmE} {d kc ks : Nat} {G : mmG} {D : mmD} {Q : mmQ} {x1 x2 x3 x4 : Int} (hG : Sh G)  (h : ((iv (D 214 6) ≤ iv x4 → Q (some (vI x3)) G D) ∧ (¬ iv (D 214 6) ≤ iv x4 → ((0 ≤ x4 ∧ x4 < 60) ∧ ((¬ iv (D 233 x4) = iv x1 → Go E (d + 1) kc ks mX12_sure 44 [some (vR 214), some (vI x1), some (vI x2), some (vI (x3 + 0)), some (vI (x4 + 1))] [] G D Q) ∧ (iv (D 233 x4) = iv x1 → ((iv x2 = iv 0 → Go E (d + 1) kc ks mX12_sure 44 [some (vR 214), some (vI x1), some (vI x2), some (vI (x3 + 1)), some (vI (x4 + 1))] [] G D Q) ∧ (¬ iv x2 = iv 0 → ((0 ≤ x4 ∧ x4 < 60) ∧ ((iv (D 234 x4) = iv 0 → Go E (d + 1) kc ks mX12_sure 44 [some (vR 214), some (vI x1), some (vI x2), some (vI (x3 + 0)), some (vI (x4 + 1))] [] G D Q) ∧ (¬ iv (D 234 x4) = iv 0 → Go E (d + 1) kc ks mX12_sure 44 [some (vR 214), some (vI x1), some (vI x2), some (vI (x3 + 1)), some (vI (x4 + 1))] [] G D Q))))))))))) : Go E (d + 1) kc ks mX12_sure 44 [some (vR 214), some (vI x1), some (vI x2), some (vI x3), some (vI x4)] [] G D Q := by
  refine g_iload dX12_sure_44 rfl ?_
  refine g_aload_n dX12_sure_46 rfl rfl ?_
  refine h_getI (j := 6) dX12_sure_47 f_X12_221_11 rfl rfl (by decide) hG.k214 (by decide) (hG.lt (by decide)) ?_
  refine g_icmp_ge 92 dX12_sure_50 (by decide) ⟨fun hc => ?_, fun hc => ?_⟩
  · replace h := h.1 hc
    refine g_iload_n dX12_sure_92 rfl rfl ?_
    exact g_iret dX12_sure_93 rfl h
  · replace h := h.2 hc
    refine g_iload_n dX12_sure_53 rfl rfl ?_
    refine g_aload_n dX12_sure_54 rfl rfl ?_
    refine h_getR (j := 28) dX12_sure_55 f_X12_69_11 rfl rfl (by decide) hG.k214 (by decide) (hG.lt (by decide)) hG.r214_28 ?_
    refine g_iload dX12_sure_58 rfl ?_
    refine g_iald dX12_sure_60 hG.k233 (by decide) (hG.lt (by decide)) (by decide) ⟨h.1, ?_⟩
    replace h := h.2
    refine g_iload_n dX12_sure_61 rfl rfl ?_
    refine g_icmp_ne 83 dX12_sure_62 (by decide) ⟨fun hc => ?_, fun hc => ?_⟩
    · replace h := h.1 hc
      refine g_iconst dX12_sure_83 ?_
      refine g_iadd dX12_sure_84 ?_
      refine h_istore_n (L' := [some (vR 214), some (vI x1), some (vI x2), some (vI (x3 + 0)), some (vI x4)]) dX12_sure_85 rfl (Nat.le_of_ble_eq_true rfl) rfl rfl ?_
      refine h_iinc (L' := [some (vR 214), some (vI x1), some (vI x2), some (vI (x3 + 0)), some (vI (x4 + 1))]) dX12_sure_86 (Nat.le_of_ble_eq_true rfl) rfl rfl rfl ?_
      refine g_goto 44 dX12_sure_89 (by decide) ?_
      exact Go.drop (by simp only [mm_sub, and_self]) h
    · replace h := h.2 hc
      refine g_iload_n dX12_sure_65 rfl rfl ?_
      refine g_if_eq 79 dX12_sure_66 (by decide) ⟨fun hc => ?_, fun hc => ?_⟩
      · replace h := h.1 hc
        refine g_iconst dX12_sure_79 ?_
        refine g_goto 84 dX12_sure_80 (by decide) ?_
        refine g_iadd dX12_sure_84 ?_
        refine h_istore_n (L' := [some (vR 214), some (vI x1), some (vI x2), some (vI (x3 + 1)), some (vI x4)]) dX12_sure_85 rfl (Nat.le_of_ble_eq_true rfl) rfl rfl ?_
        refine h_iinc (L' := [some (vR 214), some (vI x1), some (vI x2), some (vI (x3 + 1)), some (vI (x4 + 1))]) dX12_sure_86 (Nat.le_of_ble_eq_true rfl) rfl rfl rfl ?_
        refine g_goto 44 dX12_sure_89 (by decide) ?_
        exact Go.drop (by simp only [mm_sub, and_self]) h
      · replace h := h.2 hc
        refine g_aload_n dX12_sure_69 rfl rfl ?_
        refine h_getR (j := 29) dX12_sure_70 f_X12_72_11 rfl rfl (by decide) hG.k214 (by decide) (hG.lt (by decide)) hG.r214_29 ?_
        refine g_iload dX12_sure_73 rfl ?_
        refine g_bald dX12_sure_75 hG.k234 (by decide) (hG.lt (by decide)) (by decide) ⟨h.1, ?_⟩
        replace h := h.2
        refine g_if_eq 83 dX12_sure_76 (by decide) ⟨fun hc => ?_, fun hc => ?_⟩
        · replace h := h.1 hc
          refine g_iconst dX12_sure_83 ?_
          refine g_iadd dX12_sure_84 ?_
          refine h_istore_n (L' := [some (vR 214), some (vI x1), some (vI x2), some (vI (x3 + 0)), some (vI x4)]) dX12_sure_85 rfl (Nat.le_of_ble_eq_true rfl) rfl rfl ?_
          refine h_iinc (L' := [some (vR 214), some (vI x1), some (vI x2), some (vI (x3 + 0)), some (vI (x4 + 1))]) dX12_sure_86 (Nat.le_of_ble_eq_true rfl) rfl rfl rfl ?_
          refine g_goto 44 dX12_sure_89 (by decide) ?_
          exact Go.drop (by simp only [mm_sub, and_self]) h
        · replace h := h.2 hc
          refine g_iconst dX12_sure_79 ?_
          refine g_goto 84 dX12_sure_80 (by decide) ?_
          refine g_iadd dX12_sure_84 ?_
          refine h_istore_n (L' := [some (vR 214), some (vI x1), some (vI x2), some (vI (x3 + 1)), some (vI x4)]) dX12_sure_85 rfl (Nat.le_of_ble_eq_true rfl) rfl rfl ?_
          refine h_iinc (L' := [some (vR 214), some (vI x1), some (vI x2), some (vI (x3 + 1)), some (vI (x4 + 1))]) dX12_sure_86 (Nat.le_of_ble_eq_true rfl) rfl rfl rfl ?_
          refine g_goto 44 dX12_sure_89 (by decide) ?_
          exact Go.drop (by simp only [mm_sub, and_self]) h
set_option maxRecDepth 20000 in
theorem w_X12_runs {E : mmE} {d kc ks : Nat} {G : mmG} {D : mmD} {Q : mmQ} {x1 : Int} (hG : Sh G)  (h : ((iv 20 ≤ iv (D 214 57) → (∀ D1 : mmD, D1 = up2 D 214 57 ((D 214 57) + 1) → Q none G D1)) ∧ (¬ iv 20 ≤ iv (D 214 57) → ((0 ≤ (D 214 57) ∧ (D 214 57) < 20) ∧ (∀ D2 : mmD, D2 = up2 D 248 (D 214 57) x1 → (∀ D3 : mmD, D3 = up2 D2 214 57 ((D2 214 57) + 1) → Q none G D3)))))) : Call E d kc ks mX12_runs [vR 214, vI x1] G D Q := by
  show Go E d kc ks mX12_runs 0 [some (vR 214), some (vI x1)] [] G D Q
  refine g_aload_n dX12_runs_0 rfl rfl ?_
  refine h_getI (j := 57) dX12_runs_1 f_X12_302_11 rfl rfl (by decide) hG.k214 (by decide) (hG.lt (by decide)) ?_
  refine g_bipush dX12_runs_4 bp_20 ?_
  refine g_icmp_ge 19 dX12_runs_6 (by decide) ⟨fun hc => ?_, fun hc => ?_⟩
  · replace h := h.1 hc
    refine g_aload_n dX12_runs_19 rfl rfl ?_
    refine g_dup dX12_runs_20 (fun _ h9 => by cases h9) ?_
    refine h_getI (j := 57) dX12_runs_21 f_X12_302_11 rfl rfl (by decide) hG.k214 (by decide) (hG.lt (by decide)) ?_
    refine g_iconst dX12_runs_24 ?_
    refine g_iadd dX12_runs_25 ?_
    refine h_putI (j := 57) dX12_runs_26 f_X12_302_11 (Or.inl (mm_finI (by decide +kernel))) rfl rfl (by decide) hG.k214 (by decide) (hG.lt (by decide)) ?_
    generalize hD_D1 : up2 D 214 57 ((D 214 57) + 1) = D1
    replace h := h _ hD_D1.symm
    exact g_vret dX12_runs_29 rfl h
  · replace h := h.2 hc
    refine g_aload_n dX12_runs_9 rfl rfl ?_
    refine h_getR (j := 56) dX12_runs_10 f_X12_114_11 rfl rfl (by decide) hG.k214 (by decide) (hG.lt (by decide)) hG.r214_56 ?_
    refine g_aload_n dX12_runs_13 rfl rfl ?_
    refine h_getI (j := 57) dX12_runs_14 f_X12_302_11 rfl rfl (by decide) hG.k214 (by decide) (hG.lt (by decide)) ?_
    refine g_iload_n dX12_runs_17 rfl rfl ?_
    refine g_iast dX12_runs_18 hG.k248 (by decide) (hG.lt (by decide)) (by decide) ⟨h.1, ?_⟩
    generalize hD_D2 : up2 D 248 (D 214 57) x1 = D2
    replace h := h.2 _ hD_D2.symm
    refine g_aload_n dX12_runs_19 rfl rfl ?_
    refine g_dup dX12_runs_20 (fun _ h9 => by cases h9) ?_
    refine h_getI (j := 57) dX12_runs_21 f_X12_302_11 rfl rfl (by decide) hG.k214 (by decide) (hG.lt (by decide)) ?_
    refine g_iconst dX12_runs_24 ?_
    refine g_iadd dX12_runs_25 ?_
    refine h_putI (j := 57) dX12_runs_26 f_X12_302_11 (Or.inl (mm_finI (by decide +kernel))) rfl rfl (by decide) hG.k214 (by decide) (hG.lt (by decide)) ?_
    generalize hD_D3 : up2 D2 214 57 ((D2 214 57) + 1) = D3
    replace h := h _ hD_D3.symm
    exact g_vret dX12_runs_29 rfl h
set_option maxRecDepth 20000 in
theorem w_X12_isUnder {E : mmE} {d kc ks : Nat} {G : mmG} {D : mmD} {Q : mmQ} {x0 x1 : Int} (hG : Sh G)  (h : ((iv x1 = iv 0 → Q (some (vI 1)) G D) ∧ (¬ iv x1 = iv 0 → ((iv x1 = iv x0 → Q (some (vI 1)) G D) ∧ (¬ iv x1 = iv x0 → ((¬ iv x1 = iv 1 → ((¬ iv x1 = iv 2 → Q (some (vI 0)) G D) ∧ (iv x1 = iv 2 → ((iv x0 ≤ iv 4 → Q (some (vI 0)) G D) ∧ (¬ iv x0 ≤ iv 4 → Q (some (vI 1)) G D))))) ∧ (iv x1 = iv 1 → ((iv x0 = iv 4 → Q (some (vI 1)) G D) ∧ (¬ iv x0 = iv 4 → ((¬ iv x1 = iv 2 → Q (some (vI 0)) G D) ∧ (iv x1 = iv 2 → ((iv x0 ≤ iv 4 → Q (some (vI 0)) G D) ∧ (¬ iv x0 ≤ iv 4 → Q (some (vI 1)) G D))))))))))))) : Call E d kc ks mX12_isUnder [vI x0, vI x1] G D Q := by
  show Go E d kc ks mX12_isUnder 0 [some (vI x0), some (vI x1)] [] G D Q
  refine g_iload_n dX12_isUnder_0 rfl rfl ?_
  refine g_if_eq 29 dX12_isUnder_1 (by decide) ⟨fun hc => ?_, fun hc => ?_⟩
  · replace h := h.1 hc
    refine g_iconst dX12_isUnder_29 ?_
    refine g_goto 34 dX12_isUnder_30 (by decide) ?_
    exact g_zret dX12_isUnder_34 rfl ⟨Or.inr rfl, h⟩
  · replace h := h.2 hc
    refine g_iload_n dX12_isUnder_4 rfl rfl ?_
    refine g_iload_n dX12_isUnder_5 rfl rfl ?_
    refine g_icmp_eq 29 dX12_isUnder_6 (by decide) ⟨fun hc => ?_, fun hc => ?_⟩
    · replace h := h.1 hc
      refine g_iconst dX12_isUnder_29 ?_
      refine g_goto 34 dX12_isUnder_30 (by decide) ?_
      exact g_zret dX12_isUnder_34 rfl ⟨Or.inr rfl, h⟩
    · replace h := h.2 hc
      refine g_iload_n dX12_isUnder_9 rfl rfl ?_
      refine g_iconst dX12_isUnder_10 ?_
      refine g_icmp_ne 19 dX12_isUnder_11 (by decide) ⟨fun hc => ?_, fun hc => ?_⟩
      · replace h := h.1 hc
        refine g_iload_n dX12_isUnder_19 rfl rfl ?_
        refine g_iconst dX12_isUnder_20 ?_
        refine g_icmp_ne 33 dX12_isUnder_21 (by decide) ⟨fun hc => ?_, fun hc => ?_⟩
        · replace h := h.1 hc
          refine g_iconst dX12_isUnder_33 ?_
          exact g_zret dX12_isUnder_34 rfl ⟨Or.inl rfl, h⟩
        · replace h := h.2 hc
          refine g_iload_n dX12_isUnder_24 rfl rfl ?_
          refine g_iconst dX12_isUnder_25 ?_
          refine g_icmp_le 33 dX12_isUnder_26 (by decide) ⟨fun hc => ?_, fun hc => ?_⟩
          · replace h := h.1 hc
            refine g_iconst dX12_isUnder_33 ?_
            exact g_zret dX12_isUnder_34 rfl ⟨Or.inl rfl, h⟩
          · replace h := h.2 hc
            refine g_iconst dX12_isUnder_29 ?_
            refine g_goto 34 dX12_isUnder_30 (by decide) ?_
            exact g_zret dX12_isUnder_34 rfl ⟨Or.inr rfl, h⟩
      · replace h := h.2 hc
        refine g_iload_n dX12_isUnder_14 rfl rfl ?_
        refine g_iconst dX12_isUnder_15 ?_
        refine g_icmp_eq 29 dX12_isUnder_16 (by decide) ⟨fun hc => ?_, fun hc => ?_⟩
        · replace h := h.1 hc
          refine g_iconst dX12_isUnder_29 ?_
          refine g_goto 34 dX12_isUnder_30 (by decide) ?_
          exact g_zret dX12_isUnder_34 rfl ⟨Or.inr rfl, h⟩
        · replace h := h.2 hc
          refine g_iload_n dX12_isUnder_19 rfl rfl ?_
          refine g_iconst dX12_isUnder_20 ?_
          refine g_icmp_ne 33 dX12_isUnder_21 (by decide) ⟨fun hc => ?_, fun hc => ?_⟩
          · replace h := h.1 hc
            refine g_iconst dX12_isUnder_33 ?_
            exact g_zret dX12_isUnder_34 rfl ⟨Or.inl rfl, h⟩
          · replace h := h.2 hc
            refine g_iload_n dX12_isUnder_24 rfl rfl ?_
            refine g_iconst dX12_isUnder_25 ?_
            refine g_icmp_le 33 dX12_isUnder_26 (by decide) ⟨fun hc => ?_, fun hc => ?_⟩
            · replace h := h.1 hc
              refine g_iconst dX12_isUnder_33 ?_
              exact g_zret dX12_isUnder_34 rfl ⟨Or.inl rfl, h⟩
            · replace h := h.2 hc
              refine g_iconst dX12_isUnder_29 ?_
              refine g_goto 34 dX12_isUnder_30 (by decide) ?_
              exact g_zret dX12_isUnder_34 rfl ⟨Or.inr rfl, h⟩
set_option maxRecDepth 20000 in
theorem w_X12_plainTells {E : mmE} {d kc ks : Nat} {G : mmG} {D : mmD} {Q : mmQ} {x1 : Int} (hG : Sh G)  (h : Call E d 0 0 mX12_runs [vR 214, vI 1] G D (retV G (fun D1 => Q (some (vI (x1 + (D1 214 59)))) G D1))) : Call E (d + 1) kc ks mX12_plainTells [vR 214, vI x1] G D Q := by
  show Go E (d + 1) kc ks mX12_plainTells 0 [some (vR 214), some (vI x1)] [] G D Q
  refine g_aload_n dX12_plainTells_0 rfl rfl ?_
  refine g_iconst dX12_plainTells_1 ?_
  refine g_callV (kc := kc) (kc' := 0) (ks := ks) (ks' := 0) (as := [vI 1]) (st := []) (ci := 11) dX12_plainTells_2 cB_X12_runs lk_X12_305 in_X12_runs se_X12_runs (by decide) rfl rfl (Nat.le_of_ble_eq_true rfl) (Nat.le_of_ble_eq_true rfl) (by decide) (hG.lt (by decide)) (congrArg Prod.fst hG.k214) ?_
  refine Go.to (fun r G' D1 hr => ?_) h
  obtain ⟨rfl, rfl, h⟩ := hr
  show Go E (d + 1) kc ks mX12_plainTells 5 [some (vR 214), some (vI x1)] [] G D1 Q
  refine g_iload_n dX12_plainTells_5 rfl rfl ?_
  refine g_aload_n dX12_plainTells_6 rfl rfl ?_
  refine h_getI (j := 59) dX12_plainTells_7 f_X12_308_11 rfl rfl (by decide) hG.k214 (by decide) (hG.lt (by decide)) ?_
  refine g_iadd dX12_plainTells_10 ?_
  exact g_iret dX12_plainTells_11 rfl h
set_option maxRecDepth 20000 in
theorem w_X12_tells {E : mmE} {d kc ks : Nat} {G : mmG} {D : mmD} {Q : mmQ} {x1 : Int} (hG : Sh G)  (h : ((¬ iv (D 214 58) = iv 5 → Call E d 0 0 mX12_isUnder [vI (D 214 58), vI 1] G D (retI G (fun z2 D1 => ((iv z2 = iv 0 → Call E d 0 0 mX12_plainTells [vR 214, vI x1] G D1 (retI G (fun z4 D3 => Q (some (vI z4)) G D3))) ∧ (¬ iv z2 = iv 0 → Call E d 0 0 mX12_runs [vR 214, vI 11] G D1 (retV G (fun D5 => Call E d 0 0 mX12_plainTells [vR 214, vI (x1 * 3)] G D5 (retI G (fun z8 D7 => Q (some (vI z8)) G D7))))))))) ∧ (iv (D 214 58) = iv 5 → Call E d 0 0 mX12_runs [vR 214, vI 51] G D (retV G (fun D9 => Call E d 0 0 mX12_plainTells [vR 214, vI x1] G D9 (retI G (fun z12 D11 => Q (some (vI (z12 + (D11 214 59)))) G D11))))))) : Call E (d + 1) kc ks mX12_tells [vR 214, vI x1] G D Q := by
  show Go E (d + 1) kc ks mX12_tells 0 [some (vR 214), some (vI x1)] [] G D Q
  refine g_aload_n dX12_tells_0 rfl rfl ?_
  refine h_getI (j := 58) dX12_tells_1 f_X12_311_11 rfl rfl (by decide) hG.k214 (by decide) (hG.lt (by decide)) ?_
  refine g_iconst dX12_tells_4 ?_
  refine g_icmp_ne 25 dX12_tells_5 (by decide) ⟨fun hc => ?_, fun hc => ?_⟩
  · replace h := h.1 hc
    refine g_aload_n dX12_tells_25 rfl rfl ?_
    refine h_getI (j := 58) dX12_tells_26 f_X12_311_11 rfl rfl (by decide) hG.k214 (by decide) (hG.lt (by decide)) ?_
    refine g_iconst dX12_tells_29 ?_
    refine g_callS (kc := kc) (kc' := 0) (ks := ks) (ks' := 0) (as := [vI (D 214 58), vI 1]) (st := []) dX12_tells_30 cB_X12_isUnder lk_X12_317 st_X12_isUnder rfl (Nat.le_of_ble_eq_true rfl) (Nat.le_of_ble_eq_true rfl) ?_
    refine Go.to (fun r G' D1 hr => ?_) h
    obtain ⟨rfl, z2, rfl, h⟩ := hr
    show Go E (d + 1) kc ks mX12_tells 33 [some (vR 214), some (vI x1)] [vI z2] G D1 Q
    refine g_if_eq 50 dX12_tells_33 (by decide) ⟨fun hc => ?_, fun hc => ?_⟩
    · replace h := h.1 hc
      refine g_aload_n dX12_tells_50 rfl rfl ?_
      refine g_iload_n dX12_tells_51 rfl rfl ?_
      refine g_callV (kc := kc) (kc' := 0) (ks := ks) (ks' := 0) (as := [vI x1]) (st := []) (ci := 11) dX12_tells_52 cB_X12_plainTells lk_X12_314 in_X12_plainTells se_X12_plainTells (by decide) rfl rfl (Nat.le_of_ble_eq_true rfl) (Nat.le_of_ble_eq_true rfl) (by decide) (hG.lt (by decide)) (congrArg Prod.fst hG.k214) ?_
      refine Go.to (fun r G' D3 hr => ?_) h
      obtain ⟨rfl, z4, rfl, h⟩ := hr
      show Go E (d + 1) kc ks mX12_tells 55 [some (vR 214), some (vI x1)] [vI z4] G D3 Q
      exact g_iret dX12_tells_55 rfl h
    · replace h := h.2 hc
      refine g_aload_n dX12_tells_36 rfl rfl ?_
      refine g_bipush dX12_tells_37 bp_11 ?_
      refine g_callV (kc := kc) (kc' := 0) (ks := ks) (ks' := 0) (as := [vI 11]) (st := []) (ci := 11) dX12_tells_39 cB_X12_runs lk_X12_305 in_X12_runs se_X12_runs (by decide) rfl rfl (Nat.le_of_ble_eq_true rfl) (Nat.le_of_ble_eq_true rfl) (by decide) (hG.lt (by decide)) (congrArg Prod.fst hG.k214) ?_
      refine Go.to (fun r G' D5 hr => ?_) h
      obtain ⟨rfl, rfl, h⟩ := hr
      show Go E (d + 1) kc ks mX12_tells 42 [some (vR 214), some (vI x1)] [] G D5 Q
      refine g_aload_n dX12_tells_42 rfl rfl ?_
      refine g_iload_n dX12_tells_43 rfl rfl ?_
      refine g_iconst dX12_tells_44 ?_
      refine g_imul dX12_tells_45 ?_
      refine g_callV (kc := kc) (kc' := 0) (ks := ks) (ks' := 0) (as := [vI (x1 * 3)]) (st := []) (ci := 11) dX12_tells_46 cB_X12_plainTells lk_X12_314 in_X12_plainTells se_X12_plainTells (by decide) rfl rfl (Nat.le_of_ble_eq_true rfl) (Nat.le_of_ble_eq_true rfl) (by decide) (hG.lt (by decide)) (congrArg Prod.fst hG.k214) ?_
      refine Go.to (fun r G' D7 hr => ?_) h
      obtain ⟨rfl, z8, rfl, h⟩ := hr
      show Go E (d + 1) kc ks mX12_tells 49 [some (vR 214), some (vI x1)] [vI z8] G D7 Q
      exact g_iret dX12_tells_49 rfl h
  · replace h := h.2 hc
    refine g_aload_n dX12_tells_8 rfl rfl ?_
    refine g_bipush dX12_tells_9 bp_51 ?_
    refine g_callV (kc := kc) (kc' := 0) (ks := ks) (ks' := 0) (as := [vI 51]) (st := []) (ci := 11) dX12_tells_11 cB_X12_runs lk_X12_305 in_X12_runs se_X12_runs (by decide) rfl rfl (Nat.le_of_ble_eq_true rfl) (Nat.le_of_ble_eq_true rfl) (by decide) (hG.lt (by decide)) (congrArg Prod.fst hG.k214) ?_
    refine Go.to (fun r G' D9 hr => ?_) h
    obtain ⟨rfl, rfl, h⟩ := hr
    show Go E (d + 1) kc ks mX12_tells 14 [some (vR 214), some (vI x1)] [] G D9 Q
    refine g_aload_n dX12_tells_14 rfl rfl ?_
    refine g_iload_n dX12_tells_15 rfl rfl ?_
    refine g_callV (kc := kc) (kc' := 0) (ks := ks) (ks' := 0) (as := [vI x1]) (st := []) (ci := 11) dX12_tells_16 cB_X12_plainTells lk_X12_314 in_X12_plainTells se_X12_plainTells (by decide) rfl rfl (Nat.le_of_ble_eq_true rfl) (Nat.le_of_ble_eq_true rfl) (by decide) (hG.lt (by decide)) (congrArg Prod.fst hG.k214) ?_
    refine Go.to (fun r G' D11 hr => ?_) h
    obtain ⟨rfl, z12, rfl, h⟩ := hr
    show Go E (d + 1) kc ks mX12_tells 19 [some (vR 214), some (vI x1)] [vI z12] G D11 Q
    refine g_aload_n dX12_tells_19 rfl rfl ?_
    refine h_getI (j := 59) dX12_tells_20 f_X12_308_11 rfl rfl (by decide) hG.k214 (by decide) (hG.lt (by decide)) ?_
    refine g_iadd dX12_tells_23 ?_
    exact g_iret dX12_tells_24 rfl h
set_option maxRecDepth 20000 in
theorem w_X12_plainLeads {E : mmE} {d kc ks : Nat} {G : mmG} {D : mmD} {Q : mmQ} {x1 : Int} (hG : Sh G)  (h : Call E d 0 0 mX12_runs [vR 214, vI 2] G D (retV G (fun D1 => Call E d 0 0 mX12_tells [vR 214, vI x1] G D1 (retI G (fun z4 D3 => Q (some (vI (z4 - (D3 214 60)))) G D3))))) : Call E (d + 1) kc ks mX12_plainLeads [vR 214, vI x1] G D Q := by
  show Go E (d + 1) kc ks mX12_plainLeads 0 [some (vR 214), some (vI x1)] [] G D Q
  refine g_aload_n dX12_plainLeads_0 rfl rfl ?_
  refine g_iconst dX12_plainLeads_1 ?_
  refine g_callV (kc := kc) (kc' := 0) (ks := ks) (ks' := 0) (as := [vI 2]) (st := []) (ci := 11) dX12_plainLeads_2 cB_X12_runs lk_X12_305 in_X12_runs se_X12_runs (by decide) rfl rfl (Nat.le_of_ble_eq_true rfl) (Nat.le_of_ble_eq_true rfl) (by decide) (hG.lt (by decide)) (congrArg Prod.fst hG.k214) ?_
  refine Go.to (fun r G' D1 hr => ?_) h
  obtain ⟨rfl, rfl, h⟩ := hr
  show Go E (d + 1) kc ks mX12_plainLeads 5 [some (vR 214), some (vI x1)] [] G D1 Q
  refine g_aload_n dX12_plainLeads_5 rfl rfl ?_
  refine g_iload_n dX12_plainLeads_6 rfl rfl ?_
  refine g_callV (kc := kc) (kc' := 0) (ks := ks) (ks' := 0) (as := [vI x1]) (st := []) (ci := 11) dX12_plainLeads_7 cB_X12_tells lk_X12_320 in_X12_tells se_X12_tells (by decide) rfl rfl (Nat.le_of_ble_eq_true rfl) (Nat.le_of_ble_eq_true rfl) (by decide) (hG.lt (by decide)) (congrArg Prod.fst hG.k214) ?_
  refine Go.to (fun r G' D3 hr => ?_) h
  obtain ⟨rfl, z4, rfl, h⟩ := hr
  show Go E (d + 1) kc ks mX12_plainLeads 10 [some (vR 214), some (vI x1)] [vI z4] G D3 Q
  refine g_aload_n dX12_plainLeads_10 rfl rfl ?_
  refine h_getI (j := 60) dX12_plainLeads_11 f_X12_323_11 rfl rfl (by decide) hG.k214 (by decide) (hG.lt (by decide)) ?_
  refine g_isub dX12_plainLeads_14 ?_
  exact g_iret dX12_plainLeads_15 rfl h
set_option maxRecDepth 20000 in
theorem w_X12_leads {E : mmE} {d kc ks : Nat} {G : mmG} {D : mmD} {Q : mmQ} {x1 : Int} (hG : Sh G)  (h : ((¬ iv (D 214 58) = iv 4 → Call E d 0 0 mX12_isUnder [vI (D 214 58), vI 2] G D (retI G (fun z2 D1 => ((iv z2 = iv 0 → Call E d 0 0 mX12_plainLeads [vR 214, vI x1] G D1 (retI G (fun z4 D3 => Q (some (vI z4)) G D3))) ∧ (¬ iv z2 = iv 0 → Call E d 0 0 mX12_runs [vR 214, vI 21] G D1 (retV G (fun D5 => Call E d 0 0 mX12_plainLeads [vR 214, vI x1] G D5 (retI G (fun z8 D7 => Q (some (vI (ixor z8 7))) G D7))))))))) ∧ (iv (D 214 58) = iv 4 → Call E d 0 0 mX12_runs [vR 214, vI 41] G D (retV G (fun D9 => Call E d 0 0 mX12_plainLeads [vR 214, vI (x1 - 1)] G D9 (retI G (fun z12 D11 => Call E d 0 0 mX12_tells [vR 214, vI 2] G D11 (retI G (fun z14 D13 => Q (some (vI (z12 + z14))) G D13))))))))) : Call E (d + 1) kc ks mX12_leads [vR 214, vI x1] G D Q := by
  show Go E (d + 1) kc ks mX12_leads 0 [some (vR 214), some (vI x1), none] [] G D Q
  refine g_aload_n dX12_leads_0 rfl rfl ?_
  refine h_getI (j := 58) dX12_leads_1 f_X12_311_11 rfl rfl (by decide) hG.k214 (by decide) (hG.lt (by decide)) ?_
  refine g_iconst dX12_leads_4 ?_
  refine g_icmp_ne 30 dX12_leads_5 (by decide) ⟨fun hc => ?_, fun hc => ?_⟩
  · replace h := h.1 hc
    refine g_aload_n dX12_leads_30 rfl rfl ?_
    refine h_getI (j := 58) dX12_leads_31 f_X12_311_11 rfl rfl (by decide) hG.k214 (by decide) (hG.lt (by decide)) ?_
    refine g_iconst dX12_leads_34 ?_
    refine g_callS (kc := kc) (kc' := 0) (ks := ks) (ks' := 0) (as := [vI (D 214 58), vI 2]) (st := []) dX12_leads_35 cB_X12_isUnder lk_X12_317 st_X12_isUnder rfl (Nat.le_of_ble_eq_true rfl) (Nat.le_of_ble_eq_true rfl) ?_
    refine Go.to (fun r G' D1 hr => ?_) h
    obtain ⟨rfl, z2, rfl, h⟩ := hr
    show Go E (d + 1) kc ks mX12_leads 38 [some (vR 214), some (vI x1), none] [vI z2] G D1 Q
    refine g_if_eq 56 dX12_leads_38 (by decide) ⟨fun hc => ?_, fun hc => ?_⟩
    · replace h := h.1 hc
      refine g_aload_n dX12_leads_56 rfl rfl ?_
      refine g_iload_n dX12_leads_57 rfl rfl ?_
      refine g_callV (kc := kc) (kc' := 0) (ks := ks) (ks' := 0) (as := [vI x1]) (st := []) (ci := 11) dX12_leads_58 cB_X12_plainLeads lk_X12_326 in_X12_plainLeads se_X12_plainLeads (by decide) rfl rfl (Nat.le_of_ble_eq_true rfl) (Nat.le_of_ble_eq_true rfl) (by decide) (hG.lt (by decide)) (congrArg Prod.fst hG.k214) ?_
      refine Go.to (fun r G' D3 hr => ?_) h
      obtain ⟨rfl, z4, rfl, h⟩ := hr
      show Go E (d + 1) kc ks mX12_leads 61 [some (vR 214), some (vI x1), none] [vI z4] G D3 Q
      exact g_iret dX12_leads_61 rfl h
    · replace h := h.2 hc
      refine g_aload_n dX12_leads_41 rfl rfl ?_
      refine g_bipush dX12_leads_42 bp_21 ?_
      refine g_callV (kc := kc) (kc' := 0) (ks := ks) (ks' := 0) (as := [vI 21]) (st := []) (ci := 11) dX12_leads_44 cB_X12_runs lk_X12_305 in_X12_runs se_X12_runs (by decide) rfl rfl (Nat.le_of_ble_eq_true rfl) (Nat.le_of_ble_eq_true rfl) (by decide) (hG.lt (by decide)) (congrArg Prod.fst hG.k214) ?_
      refine Go.to (fun r G' D5 hr => ?_) h
      obtain ⟨rfl, rfl, h⟩ := hr
      show Go E (d + 1) kc ks mX12_leads 47 [some (vR 214), some (vI x1), none] [] G D5 Q
      refine g_aload_n dX12_leads_47 rfl rfl ?_
      refine g_iload_n dX12_leads_48 rfl rfl ?_
      refine g_callV (kc := kc) (kc' := 0) (ks := ks) (ks' := 0) (as := [vI x1]) (st := []) (ci := 11) dX12_leads_49 cB_X12_plainLeads lk_X12_326 in_X12_plainLeads se_X12_plainLeads (by decide) rfl rfl (Nat.le_of_ble_eq_true rfl) (Nat.le_of_ble_eq_true rfl) (by decide) (hG.lt (by decide)) (congrArg Prod.fst hG.k214) ?_
      refine Go.to (fun r G' D7 hr => ?_) h
      obtain ⟨rfl, z8, rfl, h⟩ := hr
      show Go E (d + 1) kc ks mX12_leads 52 [some (vR 214), some (vI x1), none] [vI z8] G D7 Q
      refine g_bipush dX12_leads_52 bp_7 ?_
      refine g_ixor dX12_leads_54 ?_
      exact g_iret dX12_leads_55 rfl h
  · replace h := h.2 hc
    refine g_aload_n dX12_leads_8 rfl rfl ?_
    refine g_bipush dX12_leads_9 bp_41 ?_
    refine g_callV (kc := kc) (kc' := 0) (ks := ks) (ks' := 0) (as := [vI 41]) (st := []) (ci := 11) dX12_leads_11 cB_X12_runs lk_X12_305 in_X12_runs se_X12_runs (by decide) rfl rfl (Nat.le_of_ble_eq_true rfl) (Nat.le_of_ble_eq_true rfl) (by decide) (hG.lt (by decide)) (congrArg Prod.fst hG.k214) ?_
    refine Go.to (fun r G' D9 hr => ?_) h
    obtain ⟨rfl, rfl, h⟩ := hr
    show Go E (d + 1) kc ks mX12_leads 14 [some (vR 214), some (vI x1), none] [] G D9 Q
    refine g_aload_n dX12_leads_14 rfl rfl ?_
    refine g_iload_n dX12_leads_15 rfl rfl ?_
    refine g_iconst dX12_leads_16 ?_
    refine g_isub dX12_leads_17 ?_
    refine g_callV (kc := kc) (kc' := 0) (ks := ks) (ks' := 0) (as := [vI (x1 - 1)]) (st := []) (ci := 11) dX12_leads_18 cB_X12_plainLeads lk_X12_326 in_X12_plainLeads se_X12_plainLeads (by decide) rfl rfl (Nat.le_of_ble_eq_true rfl) (Nat.le_of_ble_eq_true rfl) (by decide) (hG.lt (by decide)) (congrArg Prod.fst hG.k214) ?_
    refine Go.to (fun r G' D11 hr => ?_) h
    obtain ⟨rfl, z12, rfl, h⟩ := hr
    show Go E (d + 1) kc ks mX12_leads 21 [some (vR 214), some (vI x1), none] [vI z12] G D11 Q
    refine h_istore_n (L' := [some (vR 214), some (vI x1), some (vI z12)]) dX12_leads_21 rfl (Nat.le_of_ble_eq_true rfl) rfl rfl ?_
    refine g_iload_n dX12_leads_22 rfl rfl ?_
    refine g_aload_n dX12_leads_23 rfl rfl ?_
    refine g_iconst dX12_leads_24 ?_
    refine g_callV (kc := kc) (kc' := 0) (ks := ks) (ks' := 0) (as := [vI 2]) (st := [vI z12]) (ci := 11) dX12_leads_25 cB_X12_tells lk_X12_320 in_X12_tells se_X12_tells (by decide) rfl rfl (Nat.le_of_ble_eq_true rfl) (Nat.le_of_ble_eq_true rfl) (by decide) (hG.lt (by decide)) (congrArg Prod.fst hG.k214) ?_
    refine Go.to (fun r G' D13 hr => ?_) h
    obtain ⟨rfl, z14, rfl, h⟩ := hr
    show Go E (d + 1) kc ks mX12_leads 28 [some (vR 214), some (vI x1), some (vI z12)] [vI z14, vI z12] G D13 Q
    refine g_iadd dX12_leads_28 ?_
    exact g_iret dX12_leads_29 rfl h
set_option maxRecDepth 20000 in
theorem w_X12_plainMarks {E : mmE} {d kc ks : Nat} {G : mmG} {D : mmD} {Q : mmQ} {x1 : Int} (hG : Sh G)  (h : Call E d 0 0 mX12_runs [vR 214, vI 3] G D (retV G (fun D1 => Call E d 0 0 mX12_leads [vR 214, vI x1] G D1 (retI G (fun z4 D3 => Q (some (vI (z4 * 2))) G D3))))) : Call E (d + 1) kc ks mX12_plainMarks [vR 214, vI x1] G D Q := by
  show Go E (d + 1) kc ks mX12_plainMarks 0 [some (vR 214), some (vI x1)] [] G D Q
  refine g_aload_n dX12_plainMarks_0 rfl rfl ?_
  refine g_iconst dX12_plainMarks_1 ?_
  refine g_callV (kc := kc) (kc' := 0) (ks := ks) (ks' := 0) (as := [vI 3]) (st := []) (ci := 11) dX12_plainMarks_2 cB_X12_runs lk_X12_305 in_X12_runs se_X12_runs (by decide) rfl rfl (Nat.le_of_ble_eq_true rfl) (Nat.le_of_ble_eq_true rfl) (by decide) (hG.lt (by decide)) (congrArg Prod.fst hG.k214) ?_
  refine Go.to (fun r G' D1 hr => ?_) h
  obtain ⟨rfl, rfl, h⟩ := hr
  show Go E (d + 1) kc ks mX12_plainMarks 5 [some (vR 214), some (vI x1)] [] G D1 Q
  refine g_aload_n dX12_plainMarks_5 rfl rfl ?_
  refine g_iload_n dX12_plainMarks_6 rfl rfl ?_
  refine g_callV (kc := kc) (kc' := 0) (ks := ks) (ks' := 0) (as := [vI x1]) (st := []) (ci := 11) dX12_plainMarks_7 cB_X12_leads lk_X12_329 in_X12_leads se_X12_leads (by decide) rfl rfl (Nat.le_of_ble_eq_true rfl) (Nat.le_of_ble_eq_true rfl) (by decide) (hG.lt (by decide)) (congrArg Prod.fst hG.k214) ?_
  refine Go.to (fun r G' D3 hr => ?_) h
  obtain ⟨rfl, z4, rfl, h⟩ := hr
  show Go E (d + 1) kc ks mX12_plainMarks 10 [some (vR 214), some (vI x1)] [vI z4] G D3 Q
  refine g_iconst dX12_plainMarks_10 ?_
  refine g_imul dX12_plainMarks_11 ?_
  exact g_iret dX12_plainMarks_12 rfl h
set_option maxRecDepth 20000 in
theorem w_X12_marks {E : mmE} {d kc ks : Nat} {G : mmG} {D : mmD} {Q : mmQ} {x1 : Int} (hG : Sh G)  (h : ((¬ iv (D 214 58) = iv 3 → ((¬ iv (D 214 58) = iv 6 → Call E d 0 0 mX12_plainMarks [vR 214, vI x1] G D (retI G (fun z2 D1 => Q (some (vI z2)) G D1))) ∧ (iv (D 214 58) = iv 6 → Call E d 0 0 mX12_runs [vR 214, vI 61] G D (retV G (fun D3 => Call E d 0 0 mX12_plainMarks [vR 214, vI (x1 + 1)] G D3 (retI G (fun z6 D5 => Q (some (vI (ixor z6 3))) G D5))))))) ∧ (iv (D 214 58) = iv 3 → Call E d 0 0 mX12_runs [vR 214, vI 31] G D (retV G (fun D7 => Call E d 0 0 mX12_plainMarks [vR 214, vI x1] G D7 (retI G (fun z10 D9 => Q (some (vI (-z10))) G D9))))))) : Call E (d + 1) kc ks mX12_marks [vR 214, vI x1] G D Q := by
  show Go E (d + 1) kc ks mX12_marks 0 [some (vR 214), some (vI x1)] [] G D Q
  refine g_aload_n dX12_marks_0 rfl rfl ?_
  refine h_getI (j := 58) dX12_marks_1 f_X12_311_11 rfl rfl (by decide) hG.k214 (by decide) (hG.lt (by decide)) ?_
  refine g_iconst dX12_marks_4 ?_
  refine g_icmp_ne 21 dX12_marks_5 (by decide) ⟨fun hc => ?_, fun hc => ?_⟩
  · replace h := h.1 hc
    refine g_aload_n dX12_marks_21 rfl rfl ?_
    refine h_getI (j := 58) dX12_marks_22 f_X12_311_11 rfl rfl (by decide) hG.k214 (by decide) (hG.lt (by decide)) ?_
    refine g_bipush dX12_marks_25 bp_6 ?_
    refine g_icmp_ne 46 dX12_marks_27 (by decide) ⟨fun hc => ?_, fun hc => ?_⟩
    · replace h := h.1 hc
      refine g_aload_n dX12_marks_46 rfl rfl ?_
      refine g_iload_n dX12_marks_47 rfl rfl ?_
      refine g_callV (kc := kc) (kc' := 0) (ks := ks) (ks' := 0) (as := [vI x1]) (st := []) (ci := 11) dX12_marks_48 cB_X12_plainMarks lk_X12_332 in_X12_plainMarks se_X12_plainMarks (by decide) rfl rfl (Nat.le_of_ble_eq_true rfl) (Nat.le_of_ble_eq_true rfl) (by decide) (hG.lt (by decide)) (congrArg Prod.fst hG.k214) ?_
      refine Go.to (fun r G' D1 hr => ?_) h
      obtain ⟨rfl, z2, rfl, h⟩ := hr
      show Go E (d + 1) kc ks mX12_marks 51 [some (vR 214), some (vI x1)] [vI z2] G D1 Q
      exact g_iret dX12_marks_51 rfl h
    · replace h := h.2 hc
      refine g_aload_n dX12_marks_30 rfl rfl ?_
      refine g_bipush dX12_marks_31 bp_61 ?_
      refine g_callV (kc := kc) (kc' := 0) (ks := ks) (ks' := 0) (as := [vI 61]) (st := []) (ci := 11) dX12_marks_33 cB_X12_runs lk_X12_305 in_X12_runs se_X12_runs (by decide) rfl rfl (Nat.le_of_ble_eq_true rfl) (Nat.le_of_ble_eq_true rfl) (by decide) (hG.lt (by decide)) (congrArg Prod.fst hG.k214) ?_
      refine Go.to (fun r G' D3 hr => ?_) h
      obtain ⟨rfl, rfl, h⟩ := hr
      show Go E (d + 1) kc ks mX12_marks 36 [some (vR 214), some (vI x1)] [] G D3 Q
      refine g_aload_n dX12_marks_36 rfl rfl ?_
      refine g_iload_n dX12_marks_37 rfl rfl ?_
      refine g_iconst dX12_marks_38 ?_
      refine g_iadd dX12_marks_39 ?_
      refine g_callV (kc := kc) (kc' := 0) (ks := ks) (ks' := 0) (as := [vI (x1 + 1)]) (st := []) (ci := 11) dX12_marks_40 cB_X12_plainMarks lk_X12_332 in_X12_plainMarks se_X12_plainMarks (by decide) rfl rfl (Nat.le_of_ble_eq_true rfl) (Nat.le_of_ble_eq_true rfl) (by decide) (hG.lt (by decide)) (congrArg Prod.fst hG.k214) ?_
      refine Go.to (fun r G' D5 hr => ?_) h
      obtain ⟨rfl, z6, rfl, h⟩ := hr
      show Go E (d + 1) kc ks mX12_marks 43 [some (vR 214), some (vI x1)] [vI z6] G D5 Q
      refine g_iconst dX12_marks_43 ?_
      refine g_ixor dX12_marks_44 ?_
      exact g_iret dX12_marks_45 rfl h
  · replace h := h.2 hc
    refine g_aload_n dX12_marks_8 rfl rfl ?_
    refine g_bipush dX12_marks_9 bp_31 ?_
    refine g_callV (kc := kc) (kc' := 0) (ks := ks) (ks' := 0) (as := [vI 31]) (st := []) (ci := 11) dX12_marks_11 cB_X12_runs lk_X12_305 in_X12_runs se_X12_runs (by decide) rfl rfl (Nat.le_of_ble_eq_true rfl) (Nat.le_of_ble_eq_true rfl) (by decide) (hG.lt (by decide)) (congrArg Prod.fst hG.k214) ?_
    refine Go.to (fun r G' D7 hr => ?_) h
    obtain ⟨rfl, rfl, h⟩ := hr
    show Go E (d + 1) kc ks mX12_marks 14 [some (vR 214), some (vI x1)] [] G D7 Q
    refine g_aload_n dX12_marks_14 rfl rfl ?_
    refine g_iload_n dX12_marks_15 rfl rfl ?_
    refine g_callV (kc := kc) (kc' := 0) (ks := ks) (ks' := 0) (as := [vI x1]) (st := []) (ci := 11) dX12_marks_16 cB_X12_plainMarks lk_X12_332 in_X12_plainMarks se_X12_plainMarks (by decide) rfl rfl (Nat.le_of_ble_eq_true rfl) (Nat.le_of_ble_eq_true rfl) (by decide) (hG.lt (by decide)) (congrArg Prod.fst hG.k214) ?_
    refine Go.to (fun r G' D9 hr => ?_) h
    obtain ⟨rfl, z10, rfl, h⟩ := hr
    show Go E (d + 1) kc ks mX12_marks 19 [some (vR 214), some (vI x1)] [vI z10] G D9 Q
    refine g_ineg dX12_marks_19 ?_
    exact g_iret dX12_marks_20 rfl h
set_option maxRecDepth 20000 in
theorem w_X12_act {E : mmE} {d kc ks : Nat} {G : mmG} {D : mmD} {Q : mmQ} {x1 x2 x3 : Int} (hG : Sh G)  (h : (∀ D1 : mmD, D1 = up2 D 214 57 0 → Call E d 0 0 mX12_in [vI x1, vI 0, vI ((D1 214 4) - 1)] G D1 (retI G (fun z3 D2 => ((iv z3 = iv 0 → Q (some (vI 0)) G D2) ∧ (¬ iv z3 = iv 0 → Call E d 0 0 mX12_in [vI x2, vI 0, vI 2] G D2 (retI G (fun z5 D4 => ((¬ iv z5 = iv 0 → ((0 ≤ x1 ∧ x1 < 80) ∧ (∀ D6 : mmD, D6 = up2 D4 214 58 (D4 228 x1) → (∀ D7 : mmD, D7 = up2 D6 214 59 x1 → ((0 ≤ x1 ∧ x1 < 80) ∧ (∀ D8 : mmD, D8 = up2 D7 214 60 (D7 229 x1) → ((¬ iv x2 = iv 0 → ((¬ iv x2 = iv 1 → Call E d 0 0 mX12_marks [vR 214, vI x3] G D8 (retI G (fun z10 D9 => Q (some (vI z10)) G D9))) ∧ (iv x2 = iv 1 → Call E d 0 0 mX12_leads [vR 214, vI x3] G D8 (retI G (fun z12 D11 => Q (some (vI z12)) G D11))))) ∧ (iv x2 = iv 0 → Call E d 0 0 mX12_tells [vR 214, vI x3] G D8 (retI G (fun z14 D13 => Q (some (vI z14)) G D13)))))))))) ∧ (iv z5 = iv 0 → Q (some (vI 0)) G D4)))))))))) : Call E (d + 1) kc ks mX12_act [vR 214, vI x1, vI x2, vI x3] G D Q := by
  show Go E (d + 1) kc ks mX12_act 0 [some (vR 214), some (vI x1), some (vI x2), some (vI x3)] [] G D Q
  refine g_aload_n dX12_act_0 rfl rfl ?_
  refine g_iconst dX12_act_1 ?_
  refine h_putI (j := 57) dX12_act_2 f_X12_302_11 (Or.inl (mm_finI (by decide +kernel))) rfl rfl (by decide) hG.k214 (by decide) (hG.lt (by decide)) ?_
  generalize hD_D1 : up2 D 214 57 0 = D1
  replace h := h _ hD_D1.symm
  refine g_iload_n dX12_act_5 rfl rfl ?_
  refine g_iconst dX12_act_6 ?_
  refine g_aload_n dX12_act_7 rfl rfl ?_
  refine h_getI (j := 4) dX12_act_8 f_X12_189_11 rfl rfl (by decide) hG.k214 (by decide) (hG.lt (by decide)) ?_
  refine g_iconst dX12_act_11 ?_
  refine g_isub dX12_act_12 ?_
  refine g_callS (kc := kc) (kc' := 0) (ks := ks) (ks' := 0) (as := [vI x1, vI 0, vI ((D1 214 4) - 1)]) (st := []) dX12_act_13 cB_X12_in lk_X12_123 st_X12_in rfl (Nat.le_of_ble_eq_true rfl) (Nat.le_of_ble_eq_true rfl) ?_
  refine Go.to (fun r G' D2 hr => ?_) h
  obtain ⟨rfl, z3, rfl, h⟩ := hr
  show Go E (d + 1) kc ks mX12_act 16 [some (vR 214), some (vI x1), some (vI x2), some (vI x3)] [vI z3] G D2 Q
  refine g_if_eq 28 dX12_act_16 (by decide) ⟨fun hc => ?_, fun hc => ?_⟩
  · replace h := h.1 hc
    refine g_iconst dX12_act_28 ?_
    exact g_iret dX12_act_29 rfl h
  · replace h := h.2 hc
    refine g_iload_n dX12_act_19 rfl rfl ?_
    refine g_iconst dX12_act_20 ?_
    refine g_iconst dX12_act_21 ?_
    refine g_callS (kc := kc) (kc' := 0) (ks := ks) (ks' := 0) (as := [vI x2, vI 0, vI 2]) (st := []) dX12_act_22 cB_X12_in lk_X12_123 st_X12_in rfl (Nat.le_of_ble_eq_true rfl) (Nat.le_of_ble_eq_true rfl) ?_
    refine Go.to (fun r G' D4 hr => ?_) h
    obtain ⟨rfl, z5, rfl, h⟩ := hr
    show Go E (d + 1) kc ks mX12_act 25 [some (vR 214), some (vI x1), some (vI x2), some (vI x3)] [vI z5] G D4 Q
    refine g_if_ne 30 dX12_act_25 (by decide) ⟨fun hc => ?_, fun hc => ?_⟩
    · replace h := h.1 hc
      refine g_aload_n dX12_act_30 rfl rfl ?_
      refine g_aload_n dX12_act_31 rfl rfl ?_
      refine h_getR (j := 23) dX12_act_32 f_X12_54_11 rfl rfl (by decide) hG.k214 (by decide) (hG.lt (by decide)) hG.r214_23 ?_
      refine g_iload_n dX12_act_35 rfl rfl ?_
      refine g_iald dX12_act_36 hG.k228 (by decide) (hG.lt (by decide)) (by decide) ⟨h.1, ?_⟩
      replace h := h.2
      refine h_putI (j := 58) dX12_act_37 f_X12_311_11 (Or.inl (mm_finI (by decide +kernel))) rfl rfl (by decide) hG.k214 (by decide) (hG.lt (by decide)) ?_
      generalize hD_D6 : up2 D4 214 58 (D4 228 x1) = D6
      replace h := h _ hD_D6.symm
      refine g_aload_n dX12_act_40 rfl rfl ?_
      refine g_iload_n dX12_act_41 rfl rfl ?_
      refine h_putI (j := 59) dX12_act_42 f_X12_308_11 (Or.inl (mm_finI (by decide +kernel))) rfl rfl (by decide) hG.k214 (by decide) (hG.lt (by decide)) ?_
      generalize hD_D7 : up2 D6 214 59 x1 = D7
      replace h := h _ hD_D7.symm
      refine g_aload_n dX12_act_45 rfl rfl ?_
      refine g_aload_n dX12_act_46 rfl rfl ?_
      refine h_getR (j := 24) dX12_act_47 f_X12_57_11 rfl rfl (by decide) hG.k214 (by decide) (hG.lt (by decide)) hG.r214_24 ?_
      refine g_iload_n dX12_act_50 rfl rfl ?_
      refine g_iald dX12_act_51 hG.k229 (by decide) (hG.lt (by decide)) (by decide) ⟨h.1, ?_⟩
      replace h := h.2
      refine h_putI (j := 60) dX12_act_52 f_X12_323_11 (Or.inl (mm_finI (by decide +kernel))) rfl rfl (by decide) hG.k214 (by decide) (hG.lt (by decide)) ?_
      generalize hD_D8 : up2 D7 214 60 (D7 229 x1) = D8
      replace h := h _ hD_D8.symm
      refine g_iload_n dX12_act_55 rfl rfl ?_
      refine g_if_ne 67 dX12_act_56 (by decide) ⟨fun hc => ?_, fun hc => ?_⟩
      · replace h := h.1 hc
        refine g_iload_n dX12_act_67 rfl rfl ?_
        refine g_iconst dX12_act_68 ?_
        refine g_icmp_ne 80 dX12_act_69 (by decide) ⟨fun hc => ?_, fun hc => ?_⟩
        · replace h := h.1 hc
          refine g_aload_n dX12_act_80 rfl rfl ?_
          refine g_iload_n dX12_act_81 rfl rfl ?_
          refine g_callV (kc := kc) (kc' := 0) (ks := ks) (ks' := 0) (as := [vI x3]) (st := []) (ci := 11) dX12_act_82 cB_X12_marks lk_X12_335 in_X12_marks se_X12_marks (by decide) rfl rfl (Nat.le_of_ble_eq_true rfl) (Nat.le_of_ble_eq_true rfl) (by decide) (hG.lt (by decide)) (congrArg Prod.fst hG.k214) ?_
          refine Go.to (fun r G' D9 hr => ?_) h
          obtain ⟨rfl, z10, rfl, h⟩ := hr
          show Go E (d + 1) kc ks mX12_act 85 [some (vR 214), some (vI x1), some (vI x2), some (vI x3)] [vI z10] G D9 Q
          exact g_iret dX12_act_85 rfl h
        · replace h := h.2 hc
          refine g_aload_n dX12_act_72 rfl rfl ?_
          refine g_iload_n dX12_act_73 rfl rfl ?_
          refine g_callV (kc := kc) (kc' := 0) (ks := ks) (ks' := 0) (as := [vI x3]) (st := []) (ci := 11) dX12_act_74 cB_X12_leads lk_X12_329 in_X12_leads se_X12_leads (by decide) rfl rfl (Nat.le_of_ble_eq_true rfl) (Nat.le_of_ble_eq_true rfl) (by decide) (hG.lt (by decide)) (congrArg Prod.fst hG.k214) ?_
          refine Go.to (fun r G' D11 hr => ?_) h
          obtain ⟨rfl, z12, rfl, h⟩ := hr
          show Go E (d + 1) kc ks mX12_act 77 [some (vR 214), some (vI x1), some (vI x2), some (vI x3)] [vI z12] G D11 Q
          refine g_goto 85 dX12_act_77 (by decide) ?_
          exact g_iret dX12_act_85 rfl h
      · replace h := h.2 hc
        refine g_aload_n dX12_act_59 rfl rfl ?_
        refine g_iload_n dX12_act_60 rfl rfl ?_
        refine g_callV (kc := kc) (kc' := 0) (ks := ks) (ks' := 0) (as := [vI x3]) (st := []) (ci := 11) dX12_act_61 cB_X12_tells lk_X12_320 in_X12_tells se_X12_tells (by decide) rfl rfl (Nat.le_of_ble_eq_true rfl) (Nat.le_of_ble_eq_true rfl) (by decide) (hG.lt (by decide)) (congrArg Prod.fst hG.k214) ?_
        refine Go.to (fun r G' D13 hr => ?_) h
        obtain ⟨rfl, z14, rfl, h⟩ := hr
        show Go E (d + 1) kc ks mX12_act 64 [some (vR 214), some (vI x1), some (vI x2), some (vI x3)] [vI z14] G D13 Q
        refine g_goto 85 dX12_act_64 (by decide) ?_
        exact g_iret dX12_act_85 rfl h
    · replace h := h.2 hc
      refine g_iconst dX12_act_28 ?_
      exact g_iret dX12_act_29 rfl h
set_option maxRecDepth 20000 in
theorem w_X12_trace {E : mmE} {d kc ks : Nat} {G : mmG} {D : mmD} {Q : mmQ} {x1 : Int} (hG : Sh G)  (h : ((iv 20 ≤ iv (D 214 57) → Call E d 0 0 mX12_in [vI x1, vI 0, vI (20 - 1)] G D (retI G (fun z2 D1 => ((iv z2 = iv 0 → Q (some (vI (-1))) G D1) ∧ (¬ iv z2 = iv 0 → ((0 ≤ x1 ∧ x1 < 20) ∧ Q (some (vI (D1 248 x1))) G D1)))))) ∧ (¬ iv 20 ≤ iv (D 214 57) → Call E d 0 0 mX12_in [vI x1, vI 0, vI ((D 214 57) - 1)] G D (retI G (fun z4 D3 => ((iv z4 = iv 0 → Q (some (vI (-1))) G D3) ∧ (¬ iv z4 = iv 0 → ((0 ≤ x1 ∧ x1 < 20) ∧ Q (some (vI (D3 248 x1))) G D3)))))))) : Call E (d + 1) kc ks mX12_trace [vR 214, vI x1] G D Q := by
  show Go E (d + 1) kc ks mX12_trace 0 [some (vR 214), some (vI x1)] [] G D Q
  refine g_iload_n dX12_trace_0 rfl rfl ?_
  refine g_iconst dX12_trace_1 ?_
  refine g_aload_n dX12_trace_2 rfl rfl ?_
  refine h_getI (j := 57) dX12_trace_3 f_X12_302_11 rfl rfl (by decide) hG.k214 (by decide) (hG.lt (by decide)) ?_
  refine g_bipush dX12_trace_6 bp_20 ?_
  refine g_icmp_ge 18 dX12_trace_8 (by decide) ⟨fun hc => ?_, fun hc => ?_⟩
  · replace h := h.1 hc
    refine g_bipush dX12_trace_18 bp_20 ?_
    refine g_iconst dX12_trace_20 ?_
    refine g_isub dX12_trace_21 ?_
    refine g_callS (kc := kc) (kc' := 0) (ks := ks) (ks' := 0) (as := [vI x1, vI 0, vI (20 - 1)]) (st := []) dX12_trace_22 cB_X12_in lk_X12_123 st_X12_in rfl (Nat.le_of_ble_eq_true rfl) (Nat.le_of_ble_eq_true rfl) ?_
    refine Go.to (fun r G' D1 hr => ?_) h
    obtain ⟨rfl, z2, rfl, h⟩ := hr
    show Go E (d + 1) kc ks mX12_trace 25 [some (vR 214), some (vI x1)] [vI z2] G D1 Q
    refine g_if_eq 37 dX12_trace_25 (by decide) ⟨fun hc => ?_, fun hc => ?_⟩
    · replace h := h.1 hc
      refine g_iconst dX12_trace_37 ?_
      exact g_iret dX12_trace_38 rfl h
    · replace h := h.2 hc
      refine g_aload_n dX12_trace_28 rfl rfl ?_
      refine h_getR (j := 56) dX12_trace_29 f_X12_114_11 rfl rfl (by decide) hG.k214 (by decide) (hG.lt (by decide)) hG.r214_56 ?_
      refine g_iload_n dX12_trace_32 rfl rfl ?_
      refine g_iald dX12_trace_33 hG.k248 (by decide) (hG.lt (by decide)) (by decide) ⟨h.1, ?_⟩
      replace h := h.2
      refine g_goto 38 dX12_trace_34 (by decide) ?_
      exact g_iret dX12_trace_38 rfl h
  · replace h := h.2 hc
    refine g_aload_n dX12_trace_11 rfl rfl ?_
    refine h_getI (j := 57) dX12_trace_12 f_X12_302_11 rfl rfl (by decide) hG.k214 (by decide) (hG.lt (by decide)) ?_
    refine g_goto 20 dX12_trace_15 (by decide) ?_
    refine g_iconst dX12_trace_20 ?_
    refine g_isub dX12_trace_21 ?_
    refine g_callS (kc := kc) (kc' := 0) (ks := ks) (ks' := 0) (as := [vI x1, vI 0, vI ((D 214 57) - 1)]) (st := []) dX12_trace_22 cB_X12_in lk_X12_123 st_X12_in rfl (Nat.le_of_ble_eq_true rfl) (Nat.le_of_ble_eq_true rfl) ?_
    refine Go.to (fun r G' D3 hr => ?_) h
    obtain ⟨rfl, z4, rfl, h⟩ := hr
    show Go E (d + 1) kc ks mX12_trace 25 [some (vR 214), some (vI x1)] [vI z4] G D3 Q
    refine g_if_eq 37 dX12_trace_25 (by decide) ⟨fun hc => ?_, fun hc => ?_⟩
    · replace h := h.1 hc
      refine g_iconst dX12_trace_37 ?_
      exact g_iret dX12_trace_38 rfl h
    · replace h := h.2 hc
      refine g_aload_n dX12_trace_28 rfl rfl ?_
      refine h_getR (j := 56) dX12_trace_29 f_X12_114_11 rfl rfl (by decide) hG.k214 (by decide) (hG.lt (by decide)) hG.r214_56 ?_
      refine g_iload_n dX12_trace_32 rfl rfl ?_
      refine g_iald dX12_trace_33 hG.k248 (by decide) (hG.lt (by decide)) (by decide) ⟨h.1, ?_⟩
      replace h := h.2
      refine g_goto 38 dX12_trace_34 (by decide) ?_
      exact g_iret dX12_trace_38 rfl h
set_option maxRecDepth 20000 in
theorem w_X12_as {E : mmE} {d kc ks : Nat} {G : mmG} {D : mmD} {Q : mmQ} {x1 x2 : Int} (hG : Sh G)  (h : Call E d 0 0 mX12_in [vI x1, vI 0, vI ((D 214 4) - 1)] G D (retI G (fun z2 D1 => ((iv z2 = iv 0 → Q (some (vI (-1))) G D1) ∧ (¬ iv z2 = iv 0 → Call E d 0 0 mX12_in [vI x2, vI 0, vI 6] G D1 (retI G (fun z4 D3 => ((¬ iv z4 = iv 0 → ((0 ≤ x1 ∧ x1 < 80) ∧ Call E d 0 0 mX12_isUnder [vI (D3 228 x1), vI x2] G D3 (retI G (fun z6 D5 => ((iv z6 = iv 0 → Q (some (vI (-6))) G D5) ∧ (¬ iv z6 = iv 0 → ((0 ≤ x1 ∧ x1 < 80) ∧ Q (some (vI (D5 229 x1))) G D5))))))) ∧ (iv z4 = iv 0 → Q (some (vI (-1))) G D3))))))))) : Call E (d + 1) kc ks mX12_as [vR 214, vI x1, vI x2] G D Q := by
  show Go E (d + 1) kc ks mX12_as 0 [some (vR 214), some (vI x1), some (vI x2)] [] G D Q
  refine g_iload_n dX12_as_0 rfl rfl ?_
  refine g_iconst dX12_as_1 ?_
  refine g_aload_n dX12_as_2 rfl rfl ?_
  refine h_getI (j := 4) dX12_as_3 f_X12_189_11 rfl rfl (by decide) hG.k214 (by decide) (hG.lt (by decide)) ?_
  refine g_iconst dX12_as_6 ?_
  refine g_isub dX12_as_7 ?_
  refine g_callS (kc := kc) (kc' := 0) (ks := ks) (ks' := 0) (as := [vI x1, vI 0, vI ((D 214 4) - 1)]) (st := []) dX12_as_8 cB_X12_in lk_X12_123 st_X12_in rfl (Nat.le_of_ble_eq_true rfl) (Nat.le_of_ble_eq_true rfl) ?_
  refine Go.to (fun r G' D1 hr => ?_) h
  obtain ⟨rfl, z2, rfl, h⟩ := hr
  show Go E (d + 1) kc ks mX12_as 11 [some (vR 214), some (vI x1), some (vI x2)] [vI z2] G D1 Q
  refine g_if_eq 24 dX12_as_11 (by decide) ⟨fun hc => ?_, fun hc => ?_⟩
  · replace h := h.1 hc
    refine g_iconst dX12_as_24 ?_
    exact g_iret dX12_as_25 rfl h
  · replace h := h.2 hc
    refine g_iload_n dX12_as_14 rfl rfl ?_
    refine g_iconst dX12_as_15 ?_
    refine g_bipush dX12_as_16 bp_6 ?_
    refine g_callS (kc := kc) (kc' := 0) (ks := ks) (ks' := 0) (as := [vI x2, vI 0, vI 6]) (st := []) dX12_as_18 cB_X12_in lk_X12_123 st_X12_in rfl (Nat.le_of_ble_eq_true rfl) (Nat.le_of_ble_eq_true rfl) ?_
    refine Go.to (fun r G' D3 hr => ?_) h
    obtain ⟨rfl, z4, rfl, h⟩ := hr
    show Go E (d + 1) kc ks mX12_as 21 [some (vR 214), some (vI x1), some (vI x2)] [vI z4] G D3 Q
    refine g_if_ne 26 dX12_as_21 (by decide) ⟨fun hc => ?_, fun hc => ?_⟩
    · replace h := h.1 hc
      refine g_aload_n dX12_as_26 rfl rfl ?_
      refine h_getR (j := 23) dX12_as_27 f_X12_54_11 rfl rfl (by decide) hG.k214 (by decide) (hG.lt (by decide)) hG.r214_23 ?_
      refine g_iload_n dX12_as_30 rfl rfl ?_
      refine g_iald dX12_as_31 hG.k228 (by decide) (hG.lt (by decide)) (by decide) ⟨h.1, ?_⟩
      replace h := h.2
      refine g_iload_n dX12_as_32 rfl rfl ?_
      refine g_callS (kc := kc) (kc' := 0) (ks := ks) (ks' := 0) (as := [vI (D3 228 x1), vI x2]) (st := []) dX12_as_33 cB_X12_isUnder lk_X12_317 st_X12_isUnder rfl (Nat.le_of_ble_eq_true rfl) (Nat.le_of_ble_eq_true rfl) ?_
      refine Go.to (fun r G' D5 hr => ?_) h
      obtain ⟨rfl, z6, rfl, h⟩ := hr
      show Go E (d + 1) kc ks mX12_as 36 [some (vR 214), some (vI x1), some (vI x2)] [vI z6] G D5 Q
      refine g_if_eq 48 dX12_as_36 (by decide) ⟨fun hc => ?_, fun hc => ?_⟩
      · replace h := h.1 hc
        refine g_bipush dX12_as_48 bp_m6 ?_
        exact g_iret dX12_as_50 rfl h
      · replace h := h.2 hc
        refine g_aload_n dX12_as_39 rfl rfl ?_
        refine h_getR (j := 24) dX12_as_40 f_X12_57_11 rfl rfl (by decide) hG.k214 (by decide) (hG.lt (by decide)) hG.r214_24 ?_
        refine g_iload_n dX12_as_43 rfl rfl ?_
        refine g_iald dX12_as_44 hG.k229 (by decide) (hG.lt (by decide)) (by decide) ⟨h.1, ?_⟩
        replace h := h.2
        refine g_goto 50 dX12_as_45 (by decide) ?_
        exact g_iret dX12_as_50 rfl h
    · replace h := h.2 hc
      refine g_iconst dX12_as_24 ?_
      exact g_iret dX12_as_25 rfl h
set_option maxRecDepth 20000 in
theorem w_X12_count {E : mmE} {d kc ks : Nat} {G : mmG} {D : mmD} {Q : mmQ} {x1 : Int} (hG : Sh G)  (h : (((iv x1).toInt = 0 → Q (some (vI (D 214 1))) G D) ∧ ((iv x1).toInt = 1 → Q (some (vI (D 214 3))) G D) ∧ ((iv x1).toInt = 2 → Q (some (vI (D 214 4))) G D) ∧ ((iv x1).toInt = 3 → Q (some (vI (D 214 5))) G D) ∧ ((iv x1).toInt = 4 → Q (some (vI (D 214 6))) G D) ∧ ((iv x1).toInt = 5 → Q (some (vI (D 214 2))) G D) ∧ ((iv x1).toInt = 6 → Q (some (vI (D 214 7))) G D) ∧ ((iv x1).toInt = 7 → Q (some (vI (D 214 57))) G D) ∧ (((iv x1).toInt < 0 ∨ 7 < (iv x1).toInt) → Q (some (vI (-1))) G D))) : Call E d kc ks mX12_count [vR 214, vI x1] G D Q := by
  show Go E d kc ks mX12_count 0 [some (vR 214), some (vI x1)] [] G D Q
  refine g_iload_n dX12_count_0 rfl rfl ?_
  refine g_tswitch 88 [48, 53, 58, 63, 68, 73, 78, 83] dX12_count_1 (by decide) (by decide) (by decide) (fun j hj t ht => ?_) (fun hc => ?_)
  · match j, hj, ht with
    | 0, hj, ht =>
      cases ht
      replace h := h.1 (hj.trans (by decide))
      refine g_aload_n dX12_count_48 rfl rfl ?_
      refine h_getI (j := 1) dX12_count_49 f_X12_120_11 rfl rfl (by decide) hG.k214 (by decide) (hG.lt (by decide)) ?_
      exact g_iret dX12_count_52 rfl h
    | 1, hj, ht =>
      cases ht
      replace h := h.2.1 (hj.trans (by decide))
      refine g_aload_n dX12_count_53 rfl rfl ?_
      refine h_getI (j := 3) dX12_count_54 f_X12_127_11 rfl rfl (by decide) hG.k214 (by decide) (hG.lt (by decide)) ?_
      exact g_iret dX12_count_57 rfl h
    | 2, hj, ht =>
      cases ht
      replace h := h.2.2.1 (hj.trans (by decide))
      refine g_aload_n dX12_count_58 rfl rfl ?_
      refine h_getI (j := 4) dX12_count_59 f_X12_189_11 rfl rfl (by decide) hG.k214 (by decide) (hG.lt (by decide)) ?_
      exact g_iret dX12_count_62 rfl h
    | 3, hj, ht =>
      cases ht
      replace h := h.2.2.2.1 (hj.trans (by decide))
      refine g_aload_n dX12_count_63 rfl rfl ?_
      refine h_getI (j := 5) dX12_count_64 f_X12_196_11 rfl rfl (by decide) hG.k214 (by decide) (hG.lt (by decide)) ?_
      exact g_iret dX12_count_67 rfl h
    | 4, hj, ht =>
      cases ht
      replace h := h.2.2.2.2.1 (hj.trans (by decide))
      refine g_aload_n dX12_count_68 rfl rfl ?_
      refine h_getI (j := 6) dX12_count_69 f_X12_221_11 rfl rfl (by decide) hG.k214 (by decide) (hG.lt (by decide)) ?_
      exact g_iret dX12_count_72 rfl h
    | 5, hj, ht =>
      cases ht
      replace h := h.2.2.2.2.2.1 (hj.trans (by decide))
      refine g_aload_n dX12_count_73 rfl rfl ?_
      refine h_getI (j := 2) dX12_count_74 f_X12_137_11 rfl rfl (by decide) hG.k214 (by decide) (hG.lt (by decide)) ?_
      exact g_iret dX12_count_77 rfl h
    | 6, hj, ht =>
      cases ht
      replace h := h.2.2.2.2.2.2.1 (hj.trans (by decide))
      refine g_aload_n dX12_count_78 rfl rfl ?_
      refine h_getI (j := 7) dX12_count_79 f_X12_140_11 rfl rfl (by decide) hG.k214 (by decide) (hG.lt (by decide)) ?_
      exact g_iret dX12_count_82 rfl h
    | 7, hj, ht =>
      cases ht
      replace h := h.2.2.2.2.2.2.2.1 (hj.trans (by decide))
      refine g_aload_n dX12_count_83 rfl rfl ?_
      refine h_getI (j := 57) dX12_count_84 f_X12_302_11 rfl rfl (by decide) hG.k214 (by decide) (hG.lt (by decide)) ?_
      exact g_iret dX12_count_87 rfl h
    | j + 8, hj, ht => simp at ht
  · replace h := h.2.2.2.2.2.2.2.2 hc
    refine g_iconst dX12_count_88 ?_
    exact g_iret dX12_count_89 rfl h
