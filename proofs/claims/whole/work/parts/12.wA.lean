set_option maxRecDepth 20000 in
theorem w_X10_readSounds {E : mmE} {d kc ks : Nat} {G : mmG} {D : mmD} {Q : mmQ} {r0 x2 : Int} (hG : Sh G) (hw0 : isW r0) (h : (∀ D1 : mmD, D1 = up2 D r0 1 (if iv 8 < iv x2 then 8 else x2) → Go E (d + 1) kc ks mX10_readSounds 12 [some (vR r0), some (vR 3), none, some (vI 0)] [] G D1 Q)) : Call E (d + 1) kc ks mX10_readSounds [vR r0, vR 3, vI x2] G D Q := by
  show Go E (d + 1) kc ks mX10_readSounds 0 [some (vR r0), some (vR 3), some (vI x2), none] [] G D Q
  refine g_aload_n dX10_readSounds_0 rfl rfl ?_
  refine g_iload_n dX10_readSounds_1 rfl rfl ?_
  refine g_bipush dX10_readSounds_2 bp_8 ?_
  refine g_mmin dX10_readSounds_4 mx_X10_15 (Nat.le_of_ble_eq_true rfl) ?_
  refine h_putI (j := 1) dX10_readSounds_7 f_X10_21_9 (Or.inl (mm_finI (by decide +kernel))) rfl rfl (by decide) (hw0.k hG) hw0.ge (hw0.lt hG) ?_
  generalize hD_D1 : up2 D r0 1 (if iv 8 < iv x2 then 8 else x2) = D1
  replace h := h _ hD_D1.symm
  refine g_iconst dX10_readSounds_10 ?_
  refine h_istore_n (L' := [some (vR r0), some (vR 3), some (vI x2), some (vI 0)]) dX10_readSounds_11 rfl (Nat.le_of_ble_eq_true rfl) rfl rfl ?_
  exact Go.drop (by simp only [mm_sub, and_self]) h
set_option maxRecDepth 20000 in
theorem w_X10_readSounds_12 {E : mmE} {d kc ks : Nat} {G : mmG} {D : mmD} {Q : mmQ} {r0 x3 : Int} (hG : Sh G)  (h : (isW r0 ∧ ((iv (D r0 1) ≤ iv x3 → Q none G D) ∧ (¬ iv (D r0 1) ≤ iv x3 → ((0 ≤ x3 ∧ x3 < 80) ∧ ((0 ≤ x3 ∧ x3 < 8) ∧ (∀ D2 : mmD, D2 = up2 D (r0 + 1) x3 ((D 3 x3) - 97) → Go E (d + 1) kc ks mX10_readSounds 12 [some (vR r0), some (vR 3), none, some (vI (x3 + 1))] [] G D2 Q))))))) : Go E (d + 1) kc ks mX10_readSounds 12 [some (vR r0), some (vR 3), none, some (vI x3)] [] G D Q := by
  refine g_iload_n dX10_readSounds_12 rfl rfl ?_
  refine g_aload_n dX10_readSounds_13 rfl rfl ?_
  have hf1 := h.1
  replace h := h.2
  refine h_getI (j := 1) dX10_readSounds_14 f_X10_21_9 rfl rfl (by decide) (hf1.k hG) hf1.ge (hf1.lt hG) ?_
  refine g_icmp_ge 38 dX10_readSounds_17 (by decide) ⟨fun hc => ?_, fun hc => ?_⟩
  · replace h := h.1 hc
    exact g_vret dX10_readSounds_38 rfl h
  · replace h := h.2 hc
    refine g_aload_n dX10_readSounds_20 rfl rfl ?_
    refine h_getR (j := 0) dX10_readSounds_21 f_X10_9_9 rfl rfl (by decide) (hf1.k hG) hf1.ge (hf1.lt hG) (hf1.r hG) ?_
    refine g_iload_n dX10_readSounds_24 rfl rfl ?_
    refine g_aload_n dX10_readSounds_25 rfl rfl ?_
    refine g_iload_n dX10_readSounds_26 rfl rfl ?_
    refine g_iald dX10_readSounds_27 hG.k3 (by decide) (hG.lt (by decide)) (by decide) ⟨h.1, ?_⟩
    replace h := h.2
    refine g_bipush dX10_readSounds_28 bp_97 ?_
    refine g_isub dX10_readSounds_30 ?_
    refine g_iast dX10_readSounds_31 (hf1.ka hG) hf1.gea (hf1.lta hG) (by decide) ⟨h.1, ?_⟩
    generalize hD_D2 : up2 D (r0 + 1) x3 ((D 3 x3) - 97) = D2
    replace h := h.2 _ hD_D2.symm
    refine h_iinc (L' := [some (vR r0), some (vR 3), none, some (vI (x3 + 1))]) dX10_readSounds_32 (Nat.le_of_ble_eq_true rfl) rfl rfl rfl ?_
    refine g_goto 12 dX10_readSounds_35 (by decide) ?_
    exact Go.drop (by simp only [mm_sub, and_self]) h
set_option maxRecDepth 20000 in
theorem w_X10_copySounds {E : mmE} {d kc ks : Nat} {G : mmG} {D : mmD} {Q : mmQ} {r0 r1 : Int} (hG : Sh G) (hw0 : isW r0) (hw1 : isW r1) (h : (∀ D1 : mmD, D1 = up2 D r0 1 (D r1 1) → (∀ D2 : mmD, D2 = cp0 D1 (r1 + 1) (r0 + 1) 8 → Q none G D2))) : Call E (d + 1) kc ks mX10_copySounds [vR r0, vR r1] G D Q := by
  show Go E (d + 1) kc ks mX10_copySounds 0 [some (vR r0), some (vR r1)] [] G D Q
  refine g_aload_n dX10_copySounds_0 rfl rfl ?_
  refine g_aload_n dX10_copySounds_1 rfl rfl ?_
  refine h_getI (j := 1) dX10_copySounds_2 f_X10_21_9 rfl rfl (by decide) (hw1.k hG) hw1.ge (hw1.lt hG) ?_
  refine h_putI (j := 1) dX10_copySounds_5 f_X10_21_9 (Or.inl (mm_finI (by decide +kernel))) rfl rfl (by decide) (hw0.k hG) hw0.ge (hw0.lt hG) ?_
  generalize hD_D1 : up2 D r0 1 (D r1 1) = D1
  replace h := h _ hD_D1.symm
  refine g_aload_n dX10_copySounds_8 rfl rfl ?_
  refine h_getR (j := 0) dX10_copySounds_9 f_X10_9_9 rfl rfl (by decide) (hw1.k hG) hw1.ge (hw1.lt hG) (hw1.r hG) ?_
  refine g_iconst dX10_copySounds_12 ?_
  refine g_aload_n dX10_copySounds_13 rfl rfl ?_
  refine h_getR (j := 0) dX10_copySounds_14 f_X10_9_9 rfl rfl (by decide) (hw0.k hG) hw0.ge (hw0.lt hG) (hw0.r hG) ?_
  refine g_iconst dX10_copySounds_17 ?_
  refine g_bipush dX10_copySounds_18 bp_8 ?_
  refine g_acopy dX10_copySounds_20 ac_X10_25 (Nat.le_of_ble_eq_true rfl) (hw1.ka hG) (hw0.ka hG) hw1.gea (hw1.lta hG) hw0.gea (hw0.lta hG) (by decide) (by decide) ⟨⟨by decide, by decide, by decide⟩, ?_⟩
  generalize hD_D2 : cp0 D1 (r1 + 1) (r0 + 1) 8 = D2
  replace h := h _ hD_D2.symm
  exact g_vret dX10_copySounds_23 rfl h
set_option maxRecDepth 20000 in
theorem w_X10_hasSoundsOf {E : mmE} {d kc ks : Nat} {G : mmG} {D : mmD} {Q : mmQ} {r0 r1 : Int} (hG : Sh G) (hw0 : isW r0) (hw1 : isW r1) (h : ((iv (D r0 1) = iv (D r1 1) → Go E d kc ks mX10_hasSoundsOf 15 [some (vR r0), some (vR r1), some (vI 0)] [] G D Q) ∧ (¬ iv (D r0 1) = iv (D r1 1) → Q (some (vI 0)) G D))) : Call E d kc ks mX10_hasSoundsOf [vR r0, vR r1] G D Q := by
  show Go E d kc ks mX10_hasSoundsOf 0 [some (vR r0), some (vR r1), none] [] G D Q
  refine g_aload_n dX10_hasSoundsOf_0 rfl rfl ?_
  refine h_getI (j := 1) dX10_hasSoundsOf_1 f_X10_21_9 rfl rfl (by decide) (hw0.k hG) hw0.ge (hw0.lt hG) ?_
  refine g_aload_n dX10_hasSoundsOf_4 rfl rfl ?_
  refine h_getI (j := 1) dX10_hasSoundsOf_5 f_X10_21_9 rfl rfl (by decide) (hw1.k hG) hw1.ge (hw1.lt hG) ?_
  refine g_icmp_eq 13 dX10_hasSoundsOf_8 (by decide) ⟨fun hc => ?_, fun hc => ?_⟩
  · replace h := h.1 hc
    refine g_iconst dX10_hasSoundsOf_13 ?_
    refine h_istore_n (L' := [some (vR r0), some (vR r1), some (vI 0)]) dX10_hasSoundsOf_14 rfl (Nat.le_of_ble_eq_true rfl) rfl rfl ?_
    exact Go.drop (by simp only [mm_sub, and_self]) h
  · replace h := h.2 hc
    refine g_iconst dX10_hasSoundsOf_11 ?_
    exact g_zret dX10_hasSoundsOf_12 rfl ⟨Or.inl rfl, h⟩
set_option maxRecDepth 20000 in
theorem w_X10_hasSoundsOf_15 {E : mmE} {d kc ks : Nat} {G : mmG} {D : mmD} {Q : mmQ} {r0 r1 x2 : Int} (hG : Sh G)  (h : (isW r0 ∧ ((iv (D r0 1) ≤ iv x2 → Q (some (vI 1)) G D) ∧ (¬ iv (D r0 1) ≤ iv x2 → ((0 ≤ x2 ∧ x2 < 8) ∧ (isW r1 ∧ ((0 ≤ x2 ∧ x2 < 8) ∧ ((iv (D (r0 + 1) x2) = iv (D (r1 + 1) x2) → Go E d kc ks mX10_hasSoundsOf 15 [some (vR r0), some (vR r1), some (vI (x2 + 1))] [] G D Q) ∧ (¬ iv (D (r0 + 1) x2) = iv (D (r1 + 1) x2) → Q (some (vI 0)) G D))))))))) : Go E d kc ks mX10_hasSoundsOf 15 [some (vR r0), some (vR r1), some (vI x2)] [] G D Q := by
  refine g_iload_n dX10_hasSoundsOf_15 rfl rfl ?_
  refine g_aload_n dX10_hasSoundsOf_16 rfl rfl ?_
  have hf1 := h.1
  replace h := h.2
  refine h_getI (j := 1) dX10_hasSoundsOf_17 f_X10_21_9 rfl rfl (by decide) (hf1.k hG) hf1.ge (hf1.lt hG) ?_
  refine g_icmp_ge 46 dX10_hasSoundsOf_20 (by decide) ⟨fun hc => ?_, fun hc => ?_⟩
  · replace h := h.1 hc
    refine g_iconst dX10_hasSoundsOf_46 ?_
    exact g_zret dX10_hasSoundsOf_47 rfl ⟨Or.inr rfl, h⟩
  · replace h := h.2 hc
    refine g_aload_n dX10_hasSoundsOf_23 rfl rfl ?_
    refine h_getR (j := 0) dX10_hasSoundsOf_24 f_X10_9_9 rfl rfl (by decide) (hf1.k hG) hf1.ge (hf1.lt hG) (hf1.r hG) ?_
    refine g_iload_n dX10_hasSoundsOf_27 rfl rfl ?_
    refine g_iald dX10_hasSoundsOf_28 (hf1.ka hG) hf1.gea (hf1.lta hG) (by decide) ⟨h.1, ?_⟩
    replace h := h.2
    refine g_aload_n dX10_hasSoundsOf_29 rfl rfl ?_
    have hf2 := h.1
    replace h := h.2
    refine h_getR (j := 0) dX10_hasSoundsOf_30 f_X10_9_9 rfl rfl (by decide) (hf2.k hG) hf2.ge (hf2.lt hG) (hf2.r hG) ?_
    refine g_iload_n dX10_hasSoundsOf_33 rfl rfl ?_
    refine g_iald dX10_hasSoundsOf_34 (hf2.ka hG) hf2.gea (hf2.lta hG) (by decide) ⟨h.1, ?_⟩
    replace h := h.2
    refine g_icmp_eq 40 dX10_hasSoundsOf_35 (by decide) ⟨fun hc => ?_, fun hc => ?_⟩
    · replace h := h.1 hc
      refine h_iinc (L' := [some (vR r0), some (vR r1), some (vI (x2 + 1))]) dX10_hasSoundsOf_40 (Nat.le_of_ble_eq_true rfl) rfl rfl rfl ?_
      refine g_goto 15 dX10_hasSoundsOf_43 (by decide) ?_
      exact Go.drop (by simp only [mm_sub, and_self]) h
    · replace h := h.2 hc
      refine g_iconst dX10_hasSoundsOf_38 ?_
      exact g_zret dX10_hasSoundsOf_39 rfl ⟨Or.inl rfl, h⟩
set_option maxRecDepth 20000 in
theorem w_X4_read {E : mmE} {d kc ks : Nat} {G : mmG} {D : mmD} {Q : mmQ} {r0 x2 : Int} (hG : Sh G) (hl0 : isLw r0) (h : Go E (d + 1) kc ks mX4_read 5 [some (vR r0), some (vR 3), some (vI x2), some (vI 0), some (vI 0), none] [] G D Q) : Call E (d + 1) kc ks mX4_read [vR r0, vR 3, vI x2] G D Q := by
  show Go E (d + 1) kc ks mX4_read 0 [some (vR r0), some (vR 3), some (vI x2), none, none, none] [] G D Q
  refine g_iconst dX4_read_0 ?_
  refine h_istore_n (L' := [some (vR r0), some (vR 3), some (vI x2), some (vI 0), none, none]) dX4_read_1 rfl (Nat.le_of_ble_eq_true rfl) rfl rfl ?_
  refine g_iconst dX4_read_2 ?_
  refine h_istore (L' := [some (vR r0), some (vR 3), some (vI x2), some (vI 0), some (vI 0), none]) dX4_read_3 (Nat.le_of_ble_eq_true rfl) rfl rfl ?_
  exact Go.drop (by simp only [mm_sub, and_self]) h
set_option maxRecDepth 20000 in
theorem w_X4_read_5 {E : mmE} {d kc ks : Nat} {G : mmG} {D : mmD} {Q : mmQ} {r0 x2 x3 x4 : Int} (hG : Sh G)  (h : ((iv 6 ≤ iv x4 → Q (some (vI (x3 - 1))) G D) ∧ (¬ iv 6 ≤ iv x4 → (isLw r0 ∧ (∀ D2 : mmD, D2 = up2 D r0 5 (x4 + 1) → Call E d 0 0 mX4_readChange [vR r0, vR 3, vI x2, vI x3, vI x4] G D2 (retI G (fun z4 D3 => ((iv 0 ≤ iv z4 → ((¬ iv z4 = iv x2 → Call E d 0 0 mX4_byteAt [vR 3, vI x2, vI z4] G D3 (retI G (fun z6 D5 => ((iv z6 = iv 44 → Go E (d + 1) kc ks mX4_read 5 [some (vR r0), some (vR 3), some (vI x2), some (vI (z4 + 1)), some (vI (x4 + 1)), none] [] G D5 Q) ∧ (¬ iv z6 = iv 44 → Q (some (vI z4)) G D5))))) ∧ (iv z4 = iv x2 → Q (some (vI (-1))) G D3))) ∧ (¬ iv 0 ≤ iv z4 → Q (some (vI ((-1) - z4))) G D3))))))))) : Go E (d + 1) kc ks mX4_read 5 [some (vR r0), some (vR 3), some (vI x2), some (vI x3), some (vI x4), none] [] G D Q := by
  refine g_iload dX4_read_5 rfl ?_
  refine g_bipush dX4_read_7 bp_6 ?_
  refine g_icmp_ge 75 dX4_read_9 (by decide) ⟨fun hc => ?_, fun hc => ?_⟩
  · replace h := h.1 hc
    refine g_iload_n dX4_read_75 rfl rfl ?_
    refine g_iconst dX4_read_76 ?_
    refine g_isub dX4_read_77 ?_
    exact g_iret dX4_read_78 rfl h
  · replace h := h.2 hc
    refine g_aload_n dX4_read_12 rfl rfl ?_
    refine g_iload dX4_read_13 rfl ?_
    refine g_iconst dX4_read_15 ?_
    refine g_iadd dX4_read_16 ?_
    have hf1 := h.1
    replace h := h.2
    refine h_putI (j := 5) dX4_read_17 f_X4_27_3 (Or.inl (mm_finI (by decide +kernel))) rfl rfl (by decide) (hf1.k hG) hf1.ge (hf1.lt hG) ?_
    generalize hD_D2 : up2 D r0 5 (x4 + 1) = D2
    replace h := h _ hD_D2.symm
    refine g_aload_n dX4_read_20 rfl rfl ?_
    refine g_aload_n dX4_read_21 rfl rfl ?_
    refine g_iload_n dX4_read_22 rfl rfl ?_
    refine g_iload_n dX4_read_23 rfl rfl ?_
    refine g_iload dX4_read_24 rfl ?_
    refine g_callV (kc := kc) (kc' := 0) (ks := ks) (ks' := 0) (as := [vR 3, vI x2, vI x3, vI x4]) (st := []) (ci := 3) dX4_read_26 cB_X4_readChange lk_X4_31 in_X4_readChange se_X4_readChange (by decide) rfl rfl (Nat.le_of_ble_eq_true rfl) (Nat.le_of_ble_eq_true rfl) hf1.ge (hf1.lt hG) (congrArg Prod.fst (hf1.k hG)) ?_
    refine Go.to (fun r G' D3 hr => ?_) h
    obtain ⟨rfl, z4, rfl, h⟩ := hr
    show Go E (d + 1) kc ks mX4_read 29 [some (vR r0), some (vR 3), some (vI x2), some (vI x3), some (vI x4), none] [vI z4] G D3 Q
    refine h_istore (L' := [some (vR r0), some (vR 3), some (vI x2), some (vI x3), some (vI x4), some (vI z4)]) dX4_read_29 (Nat.le_of_ble_eq_true rfl) rfl rfl ?_
    refine g_iload dX4_read_31 rfl ?_
    refine g_if_ge 41 dX4_read_33 (by decide) ⟨fun hc => ?_, fun hc => ?_⟩
    · replace h := h.1 hc
      refine g_iload dX4_read_41 rfl ?_
      refine g_iload_n dX4_read_43 rfl rfl ?_
      refine g_icmp_ne 49 dX4_read_44 (by decide) ⟨fun hc => ?_, fun hc => ?_⟩
      · replace h := h.1 hc
        refine g_aload_n dX4_read_49 rfl rfl ?_
        refine g_iload_n dX4_read_50 rfl rfl ?_
        refine g_iload dX4_read_51 rfl ?_
        refine g_callS (kc := kc) (kc' := 0) (ks := ks) (ks' := 0) (as := [vR 3, vI x2, vI z4]) (st := []) dX4_read_53 cB_X4_byteAt lk_X4_35 st_X4_byteAt rfl (Nat.le_of_ble_eq_true rfl) (Nat.le_of_ble_eq_true rfl) ?_
        refine Go.to (fun r G' D5 hr => ?_) h
        obtain ⟨rfl, z6, rfl, h⟩ := hr
        show Go E (d + 1) kc ks mX4_read 56 [some (vR r0), some (vR 3), some (vI x2), some (vI x3), some (vI x4), some (vI z4)] [vI z6] G D5 Q
        refine g_bipush dX4_read_56 bp_44 ?_
        refine g_icmp_eq 64 dX4_read_58 (by decide) ⟨fun hc => ?_, fun hc => ?_⟩
        · replace h := h.1 hc
          refine g_iload dX4_read_64 rfl ?_
          refine g_iconst dX4_read_66 ?_
          refine g_iadd dX4_read_67 ?_
          refine h_istore_n (L' := [some (vR r0), some (vR 3), some (vI x2), some (vI (z4 + 1)), some (vI x4), some (vI z4)]) dX4_read_68 rfl (Nat.le_of_ble_eq_true rfl) rfl rfl ?_
          refine h_iinc (L' := [some (vR r0), some (vR 3), some (vI x2), some (vI (z4 + 1)), some (vI (x4 + 1)), some (vI z4)]) dX4_read_69 (Nat.le_of_ble_eq_true rfl) rfl rfl rfl ?_
          refine g_goto 5 dX4_read_72 (by decide) ?_
          exact Go.drop (by simp only [mm_sub, and_self]) h
        · replace h := h.2 hc
          refine g_iload dX4_read_61 rfl ?_
          exact g_iret dX4_read_63 rfl h
      · replace h := h.2 hc
        refine g_iconst dX4_read_47 ?_
        exact g_iret dX4_read_48 rfl h
    · replace h := h.2 hc
      refine g_iconst dX4_read_36 ?_
      refine g_iload dX4_read_37 rfl ?_
      refine g_isub dX4_read_39 ?_
      exact g_iret dX4_read_40 rfl h
set_option maxRecDepth 20000 in
theorem w_X4_readChange {E : mmE} {d kc ks : Nat} {G : mmG} {D : mmD} {Q : mmQ} {r0 x2 x3 x4 : Int} (hG : Sh G) (hl0 : isLw r0) (h : Call E d 0 0 mX4_byteAt [vR 3, vI x2, vI x3] G D (retI G (fun z2 D1 => ((0 ≤ x4 ∧ x4 < 6) ∧ (∀ D3 : mmD, D3 = up2 D1 (r0 + 1) x4 z2 → ((0 ≤ x4 ∧ x4 < 6) ∧ Call E d 0 0 mX4_isSign [vI (D3 (r0 + 1) x4)] G D3 (retI G (fun z5 D4 => ((¬ iv z5 = iv 0 → Call E d 0 0 mX4_byteAt [vR 3, vI x2, vI (x3 + 1)] G D4 (retI G (fun z7 D6 => ((iv z7 = iv 62 → Call E d 0 0 mX4_byteAt [vR 3, vI x2, vI (x3 + 2)] G D6 (retI G (fun z9 D8 => ((0 ≤ x4 ∧ x4 < 6) ∧ (∀ D10 : mmD, D10 = up2 D8 (r0 + 2) x4 z9 → ((0 ≤ x4 ∧ x4 < 6) ∧ Call E d 0 0 mX11_isLetterByte [vI (D10 (r0 + 2) x4)] G D10 (retI G (fun z12 D11 => ((¬ iv z12 = iv 0 → ((0 ≤ x4 ∧ x4 < 6) ∧ (∀ D13 : mmD, D13 = up2 D11 (r0 + 3) x4 0 → ((0 ≤ x4 ∧ x4 < 6) ∧ (∀ D14 : mmD, D14 = up2 D13 (r0 + 4) x4 0 → Call E d 0 0 mX4_byteAt [vR 3, vI x2, vI (x3 + 3)] G D14 (retI G (fun z16 D15 => ((iv z16 = iv 47 → Call E d 0 0 mX4_readSides [vR r0, vR 3, vI x2, vI (x3 + 4), vI x4] G D15 (retI G (fun z18 D17 => Q (some (vI z18)) G D17))) ∧ (¬ iv z16 = iv 47 → Q (some (vI (x3 + 3))) G D15))))))))) ∧ (iv z12 = iv 0 → ((0 ≤ x4 ∧ x4 < 6) ∧ ((iv (D11 (r0 + 2) x4) = iv 48 → ((0 ≤ x4 ∧ x4 < 6) ∧ (∀ D19 : mmD, D19 = up2 D11 (r0 + 3) x4 0 → ((0 ≤ x4 ∧ x4 < 6) ∧ (∀ D20 : mmD, D20 = up2 D19 (r0 + 4) x4 0 → Call E d 0 0 mX4_byteAt [vR 3, vI x2, vI (x3 + 3)] G D20 (retI G (fun z22 D21 => ((iv z22 = iv 47 → Call E d 0 0 mX4_readSides [vR r0, vR 3, vI x2, vI (x3 + 4), vI x4] G D21 (retI G (fun z24 D23 => Q (some (vI z24)) G D23))) ∧ (¬ iv z22 = iv 47 → Q (some (vI (x3 + 3))) G D21))))))))) ∧ (¬ iv (D11 (r0 + 2) x4) = iv 48 → Q (some (vI ((-1) - (x3 + 2)))) G D11))))))))))))) ∧ (¬ iv z7 = iv 62 → Q (some (vI ((-1) - (x3 + 1)))) G D6))))) ∧ (iv z5 = iv 0 → Q (some (vI ((-1) - x3))) G D4)))))))))) : Call E (d + 1) kc ks mX4_readChange [vR r0, vR 3, vI x2, vI x3, vI x4] G D Q := by
  show Go E (d + 1) kc ks mX4_readChange 0 [some (vR r0), some (vR 3), some (vI x2), some (vI x3), some (vI x4)] [] G D Q
  refine g_aload_n dX4_readChange_0 rfl rfl ?_
  refine h_getR (j := 0) dX4_readChange_1 f_X4_9_3 rfl rfl (by decide) (hl0.k hG) hl0.ge (hl0.lt hG) (hl0.r0 hG) ?_
  refine g_iload dX4_readChange_4 rfl ?_
  refine g_aload_n dX4_readChange_6 rfl rfl ?_
  refine g_iload_n dX4_readChange_7 rfl rfl ?_
  refine g_iload_n dX4_readChange_8 rfl rfl ?_
  refine g_callS (kc := kc) (kc' := 0) (ks := ks) (ks' := 0) (as := [vR 3, vI x2, vI x3]) (st := [vI x4, vR (r0 + 1)]) dX4_readChange_9 cB_X4_byteAt lk_X4_35 st_X4_byteAt rfl (Nat.le_of_ble_eq_true rfl) (Nat.le_of_ble_eq_true rfl) ?_
  refine Go.to (fun r G' D1 hr => ?_) h
  obtain ⟨rfl, z2, rfl, h⟩ := hr
  show Go E (d + 1) kc ks mX4_readChange 12 [some (vR r0), some (vR 3), some (vI x2), some (vI x3), some (vI x4)] [vI z2, vI x4, vR (r0 + 1)] G D1 Q
  refine g_iast dX4_readChange_12 (hl0.k0 hG) hl0.ge0 (hl0.lt0 hG) (by decide) ⟨h.1, ?_⟩
  generalize hD_D3 : up2 D1 (r0 + 1) x4 z2 = D3
  replace h := h.2 _ hD_D3.symm
  refine g_aload_n dX4_readChange_13 rfl rfl ?_
  refine h_getR (j := 0) dX4_readChange_14 f_X4_9_3 rfl rfl (by decide) (hl0.k hG) hl0.ge (hl0.lt hG) (hl0.r0 hG) ?_
  refine g_iload dX4_readChange_17 rfl ?_
  refine g_iald dX4_readChange_19 (hl0.k0 hG) hl0.ge0 (hl0.lt0 hG) (by decide) ⟨h.1, ?_⟩
  replace h := h.2
  refine g_callS (kc := kc) (kc' := 0) (ks := ks) (ks' := 0) (as := [vI (D3 (r0 + 1) x4)]) (st := []) dX4_readChange_20 cB_X4_isSign lk_X4_39 st_X4_isSign rfl (Nat.le_of_ble_eq_true rfl) (Nat.le_of_ble_eq_true rfl) ?_
  refine Go.to (fun r G' D4 hr => ?_) h
  obtain ⟨rfl, z5, rfl, h⟩ := hr
  show Go E (d + 1) kc ks mX4_readChange 23 [some (vR r0), some (vR 3), some (vI x2), some (vI x3), some (vI x4)] [vI z5] G D4 Q
  refine g_if_ne 30 dX4_readChange_23 (by decide) ⟨fun hc => ?_, fun hc => ?_⟩
  · replace h := h.1 hc
    refine g_aload_n dX4_readChange_30 rfl rfl ?_
    refine g_iload_n dX4_readChange_31 rfl rfl ?_
    refine g_iload_n dX4_readChange_32 rfl rfl ?_
    refine g_iconst dX4_readChange_33 ?_
    refine g_iadd dX4_readChange_34 ?_
    refine g_callS (kc := kc) (kc' := 0) (ks := ks) (ks' := 0) (as := [vR 3, vI x2, vI (x3 + 1)]) (st := []) dX4_readChange_35 cB_X4_byteAt lk_X4_35 st_X4_byteAt rfl (Nat.le_of_ble_eq_true rfl) (Nat.le_of_ble_eq_true rfl) ?_
    refine Go.to (fun r G' D6 hr => ?_) h
    obtain ⟨rfl, z7, rfl, h⟩ := hr
    show Go E (d + 1) kc ks mX4_readChange 38 [some (vR r0), some (vR 3), some (vI x2), some (vI x3), some (vI x4)] [vI z7] G D6 Q
    refine g_bipush dX4_readChange_38 bp_62 ?_
    refine g_icmp_eq 49 dX4_readChange_40 (by decide) ⟨fun hc => ?_, fun hc => ?_⟩
    · replace h := h.1 hc
      refine g_aload_n dX4_readChange_49 rfl rfl ?_
      refine h_getR (j := 1) dX4_readChange_50 f_X4_15_3 rfl rfl (by decide) (hl0.k hG) hl0.ge (hl0.lt hG) (hl0.r1 hG) ?_
      refine g_iload dX4_readChange_53 rfl ?_
      refine g_aload_n dX4_readChange_55 rfl rfl ?_
      refine g_iload_n dX4_readChange_56 rfl rfl ?_
      refine g_iload_n dX4_readChange_57 rfl rfl ?_
      refine g_iconst dX4_readChange_58 ?_
      refine g_iadd dX4_readChange_59 ?_
      refine g_callS (kc := kc) (kc' := 0) (ks := ks) (ks' := 0) (as := [vR 3, vI x2, vI (x3 + 2)]) (st := [vI x4, vR (r0 + 2)]) dX4_readChange_60 cB_X4_byteAt lk_X4_35 st_X4_byteAt rfl (Nat.le_of_ble_eq_true rfl) (Nat.le_of_ble_eq_true rfl) ?_
      refine Go.to (fun r G' D8 hr => ?_) h
      obtain ⟨rfl, z9, rfl, h⟩ := hr
      show Go E (d + 1) kc ks mX4_readChange 63 [some (vR r0), some (vR 3), some (vI x2), some (vI x3), some (vI x4)] [vI z9, vI x4, vR (r0 + 2)] G D8 Q
      refine g_iast dX4_readChange_63 (hl0.k1 hG) hl0.ge1 (hl0.lt1 hG) (by decide) ⟨h.1, ?_⟩
      generalize hD_D10 : up2 D8 (r0 + 2) x4 z9 = D10
      replace h := h.2 _ hD_D10.symm
      refine g_aload_n dX4_readChange_64 rfl rfl ?_
      refine h_getR (j := 1) dX4_readChange_65 f_X4_15_3 rfl rfl (by decide) (hl0.k hG) hl0.ge (hl0.lt hG) (hl0.r1 hG) ?_
      refine g_iload dX4_readChange_68 rfl ?_
      refine g_iald dX4_readChange_70 (hl0.k1 hG) hl0.ge1 (hl0.lt1 hG) (by decide) ⟨h.1, ?_⟩
      replace h := h.2
      refine g_callSN (kc := kc) (kc' := 0) (ks := ks) (ks' := 0) (as := [vI (D10 (r0 + 2) x4)]) (st := []) dX4_readChange_71 cB_X11_isLetterByte mm_n43 st_X11_isLetterByte rfl (Nat.le_of_ble_eq_true rfl) (Nat.le_of_ble_eq_true rfl) ?_
      refine Go.to (fun r G' D11 hr => ?_) h
      obtain ⟨rfl, z12, rfl, h⟩ := hr
      show Go E (d + 1) kc ks mX4_readChange 74 [some (vR r0), some (vR 3), some (vI x2), some (vI x3), some (vI x4)] [vI z12] G D11 Q
      refine g_if_ne 95 dX4_readChange_74 (by decide) ⟨fun hc => ?_, fun hc => ?_⟩
      · replace h := h.1 hc
        refine g_aload_n dX4_readChange_95 rfl rfl ?_
        refine h_getR (j := 2) dX4_readChange_96 f_X4_18_3 rfl rfl (by decide) (hl0.k hG) hl0.ge (hl0.lt hG) (hl0.r2 hG) ?_
        refine g_iload dX4_readChange_99 rfl ?_
        refine g_iconst dX4_readChange_101 ?_
        refine g_iast dX4_readChange_102 (hl0.k2 hG) hl0.ge2 (hl0.lt2 hG) (by decide) ⟨h.1, ?_⟩
        generalize hD_D13 : up2 D11 (r0 + 3) x4 0 = D13
        replace h := h.2 _ hD_D13.symm
        refine g_aload_n dX4_readChange_103 rfl rfl ?_
        refine h_getR (j := 3) dX4_readChange_104 f_X4_21_3 rfl rfl (by decide) (hl0.k hG) hl0.ge (hl0.lt hG) (hl0.r3 hG) ?_
        refine g_iload dX4_readChange_107 rfl ?_
        refine g_iconst dX4_readChange_109 ?_
        refine g_iast dX4_readChange_110 (hl0.k3 hG) hl0.ge3 (hl0.lt3 hG) (by decide) ⟨h.1, ?_⟩
        generalize hD_D14 : up2 D13 (r0 + 4) x4 0 = D14
        replace h := h.2 _ hD_D14.symm
        refine g_aload_n dX4_readChange_111 rfl rfl ?_
        refine g_iload_n dX4_readChange_112 rfl rfl ?_
        refine g_iload_n dX4_readChange_113 rfl rfl ?_
        refine g_iconst dX4_readChange_114 ?_
        refine g_iadd dX4_readChange_115 ?_
        refine g_callS (kc := kc) (kc' := 0) (ks := ks) (ks' := 0) (as := [vR 3, vI x2, vI (x3 + 3)]) (st := []) dX4_readChange_116 cB_X4_byteAt lk_X4_35 st_X4_byteAt rfl (Nat.le_of_ble_eq_true rfl) (Nat.le_of_ble_eq_true rfl) ?_
        refine Go.to (fun r G' D15 hr => ?_) h
        obtain ⟨rfl, z16, rfl, h⟩ := hr
        show Go E (d + 1) kc ks mX4_readChange 119 [some (vR r0), some (vR 3), some (vI x2), some (vI x3), some (vI x4)] [vI z16] G D15 Q
        refine g_bipush dX4_readChange_119 bp_47 ?_
        refine g_icmp_eq 128 dX4_readChange_121 (by decide) ⟨fun hc => ?_, fun hc => ?_⟩
        · replace h := h.1 hc
          refine g_aload_n dX4_readChange_128 rfl rfl ?_
          refine g_aload_n dX4_readChange_129 rfl rfl ?_
          refine g_iload_n dX4_readChange_130 rfl rfl ?_
          refine g_iload_n dX4_readChange_131 rfl rfl ?_
          refine g_iconst dX4_readChange_132 ?_
          refine g_iadd dX4_readChange_133 ?_
          refine g_iload dX4_readChange_134 rfl ?_
          refine g_callV (kc := kc) (kc' := 0) (ks := ks) (ks' := 0) (as := [vR 3, vI x2, vI (x3 + 4), vI x4]) (st := []) (ci := 3) dX4_readChange_136 cB_X4_readSides lk_X4_46 in_X4_readSides se_X4_readSides (by decide) rfl rfl (Nat.le_of_ble_eq_true rfl) (Nat.le_of_ble_eq_true rfl) hl0.ge (hl0.lt hG) (congrArg Prod.fst (hl0.k hG)) ?_
          refine Go.to (fun r G' D17 hr => ?_) h
          obtain ⟨rfl, z18, rfl, h⟩ := hr
          show Go E (d + 1) kc ks mX4_readChange 139 [some (vR r0), some (vR 3), some (vI x2), some (vI x3), some (vI x4)] [vI z18] G D17 Q
          exact g_iret dX4_readChange_139 rfl h
        · replace h := h.2 hc
          refine g_iload_n dX4_readChange_124 rfl rfl ?_
          refine g_iconst dX4_readChange_125 ?_
          refine g_iadd dX4_readChange_126 ?_
          exact g_iret dX4_readChange_127 rfl h
      · replace h := h.2 hc
        refine g_aload_n dX4_readChange_77 rfl rfl ?_
        refine h_getR (j := 1) dX4_readChange_78 f_X4_15_3 rfl rfl (by decide) (hl0.k hG) hl0.ge (hl0.lt hG) (hl0.r1 hG) ?_
        refine g_iload dX4_readChange_81 rfl ?_
        refine g_iald dX4_readChange_83 (hl0.k1 hG) hl0.ge1 (hl0.lt1 hG) (by decide) ⟨h.1, ?_⟩
        replace h := h.2
        refine g_bipush dX4_readChange_84 bp_48 ?_
        refine g_icmp_eq 95 dX4_readChange_86 (by decide) ⟨fun hc => ?_, fun hc => ?_⟩
        · replace h := h.1 hc
          refine g_aload_n dX4_readChange_95 rfl rfl ?_
          refine h_getR (j := 2) dX4_readChange_96 f_X4_18_3 rfl rfl (by decide) (hl0.k hG) hl0.ge (hl0.lt hG) (hl0.r2 hG) ?_
          refine g_iload dX4_readChange_99 rfl ?_
          refine g_iconst dX4_readChange_101 ?_
          refine g_iast dX4_readChange_102 (hl0.k2 hG) hl0.ge2 (hl0.lt2 hG) (by decide) ⟨h.1, ?_⟩
          generalize hD_D19 : up2 D11 (r0 + 3) x4 0 = D19
          replace h := h.2 _ hD_D19.symm
          refine g_aload_n dX4_readChange_103 rfl rfl ?_
          refine h_getR (j := 3) dX4_readChange_104 f_X4_21_3 rfl rfl (by decide) (hl0.k hG) hl0.ge (hl0.lt hG) (hl0.r3 hG) ?_
          refine g_iload dX4_readChange_107 rfl ?_
          refine g_iconst dX4_readChange_109 ?_
          refine g_iast dX4_readChange_110 (hl0.k3 hG) hl0.ge3 (hl0.lt3 hG) (by decide) ⟨h.1, ?_⟩
          generalize hD_D20 : up2 D19 (r0 + 4) x4 0 = D20
          replace h := h.2 _ hD_D20.symm
          refine g_aload_n dX4_readChange_111 rfl rfl ?_
          refine g_iload_n dX4_readChange_112 rfl rfl ?_
          refine g_iload_n dX4_readChange_113 rfl rfl ?_
          refine g_iconst dX4_readChange_114 ?_
          refine g_iadd dX4_readChange_115 ?_
          refine g_callS (kc := kc) (kc' := 0) (ks := ks) (ks' := 0) (as := [vR 3, vI x2, vI (x3 + 3)]) (st := []) dX4_readChange_116 cB_X4_byteAt lk_X4_35 st_X4_byteAt rfl (Nat.le_of_ble_eq_true rfl) (Nat.le_of_ble_eq_true rfl) ?_
          refine Go.to (fun r G' D21 hr => ?_) h
          obtain ⟨rfl, z22, rfl, h⟩ := hr
          show Go E (d + 1) kc ks mX4_readChange 119 [some (vR r0), some (vR 3), some (vI x2), some (vI x3), some (vI x4)] [vI z22] G D21 Q
          refine g_bipush dX4_readChange_119 bp_47 ?_
          refine g_icmp_eq 128 dX4_readChange_121 (by decide) ⟨fun hc => ?_, fun hc => ?_⟩
          · replace h := h.1 hc
            refine g_aload_n dX4_readChange_128 rfl rfl ?_
            refine g_aload_n dX4_readChange_129 rfl rfl ?_
            refine g_iload_n dX4_readChange_130 rfl rfl ?_
            refine g_iload_n dX4_readChange_131 rfl rfl ?_
            refine g_iconst dX4_readChange_132 ?_
            refine g_iadd dX4_readChange_133 ?_
            refine g_iload dX4_readChange_134 rfl ?_
            refine g_callV (kc := kc) (kc' := 0) (ks := ks) (ks' := 0) (as := [vR 3, vI x2, vI (x3 + 4), vI x4]) (st := []) (ci := 3) dX4_readChange_136 cB_X4_readSides lk_X4_46 in_X4_readSides se_X4_readSides (by decide) rfl rfl (Nat.le_of_ble_eq_true rfl) (Nat.le_of_ble_eq_true rfl) hl0.ge (hl0.lt hG) (congrArg Prod.fst (hl0.k hG)) ?_
            refine Go.to (fun r G' D23 hr => ?_) h
            obtain ⟨rfl, z24, rfl, h⟩ := hr
            show Go E (d + 1) kc ks mX4_readChange 139 [some (vR r0), some (vR 3), some (vI x2), some (vI x3), some (vI x4)] [vI z24] G D23 Q
            exact g_iret dX4_readChange_139 rfl h
          · replace h := h.2 hc
            refine g_iload_n dX4_readChange_124 rfl rfl ?_
            refine g_iconst dX4_readChange_125 ?_
            refine g_iadd dX4_readChange_126 ?_
            exact g_iret dX4_readChange_127 rfl h
        · replace h := h.2 hc
          refine g_iconst dX4_readChange_89 ?_
          refine g_iload_n dX4_readChange_90 rfl rfl ?_
          refine g_iconst dX4_readChange_91 ?_
          refine g_iadd dX4_readChange_92 ?_
          refine g_isub dX4_readChange_93 ?_
          exact g_iret dX4_readChange_94 rfl h
    · replace h := h.2 hc
      refine g_iconst dX4_readChange_43 ?_
      refine g_iload_n dX4_readChange_44 rfl rfl ?_
      refine g_iconst dX4_readChange_45 ?_
      refine g_iadd dX4_readChange_46 ?_
      refine g_isub dX4_readChange_47 ?_
      exact g_iret dX4_readChange_48 rfl h
  · replace h := h.2 hc
    refine g_iconst dX4_readChange_26 ?_
    refine g_iload_n dX4_readChange_27 rfl rfl ?_
    refine g_isub dX4_readChange_28 ?_
    exact g_iret dX4_readChange_29 rfl h
set_option maxRecDepth 20000 in
theorem w_X4_readSides {E : mmE} {d kc ks : Nat} {G : mmG} {D : mmD} {Q : mmQ} {r0 x2 x3 x4 : Int} (hG : Sh G) (hl0 : isLw r0) (h : Call E d 0 0 mX4_byteAt [vR 3, vI x2, vI x3] G D (retI G (fun z2 D1 => Call E d 0 0 mX4_isSide [vI z2] G D1 (retI G (fun z4 D3 => ((iv z4 = iv 0 → Call E d 0 0 mX4_byteAt [vR 3, vI x2, vI x3] G D3 (retI G (fun z6 D5 => ((iv z6 = iv 95 → Call E d 0 0 mX4_byteAt [vR 3, vI x2, vI (x3 + 1)] G D5 (retI G (fun z8 D7 => Call E d 0 0 mX4_isSide [vI z8] G D7 (retI G (fun z10 D9 => ((iv z10 = iv 0 → Q (some (vI (x3 + 1))) G D9) ∧ (¬ iv z10 = iv 0 → Call E d 0 0 mX4_byteAt [vR 3, vI x2, vI (x3 + 1)] G D9 (retI G (fun z12 D11 => ((0 ≤ x4 ∧ x4 < 6) ∧ (∀ D13 : mmD, D13 = up2 D11 (r0 + 4) x4 z12 → Q (some (vI ((x3 + 1) + 1))) G D13))))))))))) ∧ (¬ iv z6 = iv 95 → Q (some (vI ((-1) - x3))) G D5))))) ∧ (¬ iv z4 = iv 0 → Call E d 0 0 mX4_byteAt [vR 3, vI x2, vI x3] G D3 (retI G (fun z15 D14 => ((0 ≤ x4 ∧ x4 < 6) ∧ (∀ D16 : mmD, D16 = up2 D14 (r0 + 3) x4 z15 → Call E d 0 0 mX4_byteAt [vR 3, vI x2, vI (x3 + 1)] G D16 (retI G (fun z18 D17 => ((iv z18 = iv 95 → Call E d 0 0 mX4_byteAt [vR 3, vI x2, vI ((x3 + 1) + 1)] G D17 (retI G (fun z20 D19 => Call E d 0 0 mX4_isSide [vI z20] G D19 (retI G (fun z22 D21 => ((iv z22 = iv 0 → Q (some (vI ((x3 + 1) + 1))) G D21) ∧ (¬ iv z22 = iv 0 → Call E d 0 0 mX4_byteAt [vR 3, vI x2, vI ((x3 + 1) + 1)] G D21 (retI G (fun z24 D23 => ((0 ≤ x4 ∧ x4 < 6) ∧ (∀ D25 : mmD, D25 = up2 D23 (r0 + 4) x4 z24 → Q (some (vI (((x3 + 1) + 1) + 1))) G D25))))))))))) ∧ (¬ iv z18 = iv 95 → Q (some (vI ((-1) - (x3 + 1)))) G D17))))))))))))))) : Call E (d + 1) kc ks mX4_readSides [vR r0, vR 3, vI x2, vI x3, vI x4] G D Q := by
  show Go E (d + 1) kc ks mX4_readSides 0 [some (vR r0), some (vR 3), some (vI x2), some (vI x3), some (vI x4), none] [] G D Q
  refine g_iload_n dX4_readSides_0 rfl rfl ?_
  refine h_istore (L' := [some (vR r0), some (vR 3), some (vI x2), some (vI x3), some (vI x4), some (vI x3)]) dX4_readSides_1 (Nat.le_of_ble_eq_true rfl) rfl rfl ?_
  refine g_aload_n dX4_readSides_3 rfl rfl ?_
  refine g_iload_n dX4_readSides_4 rfl rfl ?_
  refine g_iload dX4_readSides_5 rfl ?_
  refine g_callS (kc := kc) (kc' := 0) (ks := ks) (ks' := 0) (as := [vR 3, vI x2, vI x3]) (st := []) dX4_readSides_7 cB_X4_byteAt lk_X4_35 st_X4_byteAt rfl (Nat.le_of_ble_eq_true rfl) (Nat.le_of_ble_eq_true rfl) ?_
  refine Go.to (fun r G' D1 hr => ?_) h
  obtain ⟨rfl, z2, rfl, h⟩ := hr
  show Go E (d + 1) kc ks mX4_readSides 10 [some (vR r0), some (vR 3), some (vI x2), some (vI x3), some (vI x4), some (vI x3)] [vI z2] G D1 Q
  refine g_callS (kc := kc) (kc' := 0) (ks := ks) (ks' := 0) (as := [vI z2]) (st := []) dX4_readSides_10 cB_X4_isSide lk_X4_49 st_X4_isSide rfl (Nat.le_of_ble_eq_true rfl) (Nat.le_of_ble_eq_true rfl) ?_
  refine Go.to (fun r G' D3 hr => ?_) h
  obtain ⟨rfl, z4, rfl, h⟩ := hr
  show Go E (d + 1) kc ks mX4_readSides 13 [some (vR r0), some (vR 3), some (vI x2), some (vI x3), some (vI x4), some (vI x3)] [vI z4] G D3 Q
  refine g_if_eq 33 dX4_readSides_13 (by decide) ⟨fun hc => ?_, fun hc => ?_⟩
  · replace h := h.1 hc
    refine g_aload_n dX4_readSides_33 rfl rfl ?_
    refine g_iload_n dX4_readSides_34 rfl rfl ?_
    refine g_iload dX4_readSides_35 rfl ?_
    refine g_callS (kc := kc) (kc' := 0) (ks := ks) (ks' := 0) (as := [vR 3, vI x2, vI x3]) (st := []) dX4_readSides_37 cB_X4_byteAt lk_X4_35 st_X4_byteAt rfl (Nat.le_of_ble_eq_true rfl) (Nat.le_of_ble_eq_true rfl) ?_
    refine Go.to (fun r G' D5 hr => ?_) h
    obtain ⟨rfl, z6, rfl, h⟩ := hr
    show Go E (d + 1) kc ks mX4_readSides 40 [some (vR r0), some (vR 3), some (vI x2), some (vI x3), some (vI x4), some (vI x3)] [vI z6] G D5 Q
    refine g_bipush dX4_readSides_40 bp_95 ?_
    refine g_icmp_eq 50 dX4_readSides_42 (by decide) ⟨fun hc => ?_, fun hc => ?_⟩
    · replace h := h.1 hc
      refine h_iinc (L' := [some (vR r0), some (vR 3), some (vI x2), some (vI x3), some (vI x4), some (vI (x3 + 1))]) dX4_readSides_50 (Nat.le_of_ble_eq_true rfl) rfl rfl rfl ?_
      refine g_aload_n dX4_readSides_53 rfl rfl ?_
      refine g_iload_n dX4_readSides_54 rfl rfl ?_
      refine g_iload dX4_readSides_55 rfl ?_
      refine g_callS (kc := kc) (kc' := 0) (ks := ks) (ks' := 0) (as := [vR 3, vI x2, vI (x3 + 1)]) (st := []) dX4_readSides_57 cB_X4_byteAt lk_X4_35 st_X4_byteAt rfl (Nat.le_of_ble_eq_true rfl) (Nat.le_of_ble_eq_true rfl) ?_
      refine Go.to (fun r G' D7 hr => ?_) h
      obtain ⟨rfl, z8, rfl, h⟩ := hr
      show Go E (d + 1) kc ks mX4_readSides 60 [some (vR r0), some (vR 3), some (vI x2), some (vI x3), some (vI x4), some (vI (x3 + 1))] [vI z8] G D7 Q
      refine g_callS (kc := kc) (kc' := 0) (ks := ks) (ks' := 0) (as := [vI z8]) (st := []) dX4_readSides_60 cB_X4_isSide lk_X4_49 st_X4_isSide rfl (Nat.le_of_ble_eq_true rfl) (Nat.le_of_ble_eq_true rfl) ?_
      refine Go.to (fun r G' D9 hr => ?_) h
      obtain ⟨rfl, z10, rfl, h⟩ := hr
      show Go E (d + 1) kc ks mX4_readSides 63 [some (vR r0), some (vR 3), some (vI x2), some (vI x3), some (vI x4), some (vI (x3 + 1))] [vI z10] G D9 Q
      refine g_if_eq 83 dX4_readSides_63 (by decide) ⟨fun hc => ?_, fun hc => ?_⟩
      · replace h := h.1 hc
        refine g_iload dX4_readSides_83 rfl ?_
        exact g_iret dX4_readSides_85 rfl h
      · replace h := h.2 hc
        refine g_aload_n dX4_readSides_66 rfl rfl ?_
        refine h_getR (j := 3) dX4_readSides_67 f_X4_21_3 rfl rfl (by decide) (hl0.k hG) hl0.ge (hl0.lt hG) (hl0.r3 hG) ?_
        refine g_iload dX4_readSides_70 rfl ?_
        refine g_aload_n dX4_readSides_72 rfl rfl ?_
        refine g_iload_n dX4_readSides_73 rfl rfl ?_
        refine g_iload dX4_readSides_74 rfl ?_
        refine g_callS (kc := kc) (kc' := 0) (ks := ks) (ks' := 0) (as := [vR 3, vI x2, vI (x3 + 1)]) (st := [vI x4, vR (r0 + 4)]) dX4_readSides_76 cB_X4_byteAt lk_X4_35 st_X4_byteAt rfl (Nat.le_of_ble_eq_true rfl) (Nat.le_of_ble_eq_true rfl) ?_
        refine Go.to (fun r G' D11 hr => ?_) h
        obtain ⟨rfl, z12, rfl, h⟩ := hr
        show Go E (d + 1) kc ks mX4_readSides 79 [some (vR r0), some (vR 3), some (vI x2), some (vI x3), some (vI x4), some (vI (x3 + 1))] [vI z12, vI x4, vR (r0 + 4)] G D11 Q
        refine g_iast dX4_readSides_79 (hl0.k3 hG) hl0.ge3 (hl0.lt3 hG) (by decide) ⟨h.1, ?_⟩
        generalize hD_D13 : up2 D11 (r0 + 4) x4 z12 = D13
        replace h := h.2 _ hD_D13.symm
        refine h_iinc (L' := [some (vR r0), some (vR 3), some (vI x2), some (vI x3), some (vI x4), some (vI ((x3 + 1) + 1))]) dX4_readSides_80 (Nat.le_of_ble_eq_true rfl) rfl rfl rfl ?_
        refine g_iload dX4_readSides_83 rfl ?_
        exact g_iret dX4_readSides_85 rfl h
    · replace h := h.2 hc
      refine g_iconst dX4_readSides_45 ?_
      refine g_iload dX4_readSides_46 rfl ?_
      refine g_isub dX4_readSides_48 ?_
      exact g_iret dX4_readSides_49 rfl h
  · replace h := h.2 hc
    refine g_aload_n dX4_readSides_16 rfl rfl ?_
    refine h_getR (j := 2) dX4_readSides_17 f_X4_18_3 rfl rfl (by decide) (hl0.k hG) hl0.ge (hl0.lt hG) (hl0.r2 hG) ?_
    refine g_iload dX4_readSides_20 rfl ?_
    refine g_aload_n dX4_readSides_22 rfl rfl ?_
    refine g_iload_n dX4_readSides_23 rfl rfl ?_
    refine g_iload dX4_readSides_24 rfl ?_
    refine g_callS (kc := kc) (kc' := 0) (ks := ks) (ks' := 0) (as := [vR 3, vI x2, vI x3]) (st := [vI x4, vR (r0 + 3)]) dX4_readSides_26 cB_X4_byteAt lk_X4_35 st_X4_byteAt rfl (Nat.le_of_ble_eq_true rfl) (Nat.le_of_ble_eq_true rfl) ?_
    refine Go.to (fun r G' D14 hr => ?_) h
    obtain ⟨rfl, z15, rfl, h⟩ := hr
    show Go E (d + 1) kc ks mX4_readSides 29 [some (vR r0), some (vR 3), some (vI x2), some (vI x3), some (vI x4), some (vI x3)] [vI z15, vI x4, vR (r0 + 3)] G D14 Q
    refine g_iast dX4_readSides_29 (hl0.k2 hG) hl0.ge2 (hl0.lt2 hG) (by decide) ⟨h.1, ?_⟩
    generalize hD_D16 : up2 D14 (r0 + 3) x4 z15 = D16
    replace h := h.2 _ hD_D16.symm
    refine h_iinc (L' := [some (vR r0), some (vR 3), some (vI x2), some (vI x3), some (vI x4), some (vI (x3 + 1))]) dX4_readSides_30 (Nat.le_of_ble_eq_true rfl) rfl rfl rfl ?_
    refine g_aload_n dX4_readSides_33 rfl rfl ?_
    refine g_iload_n dX4_readSides_34 rfl rfl ?_
    refine g_iload dX4_readSides_35 rfl ?_
    refine g_callS (kc := kc) (kc' := 0) (ks := ks) (ks' := 0) (as := [vR 3, vI x2, vI (x3 + 1)]) (st := []) dX4_readSides_37 cB_X4_byteAt lk_X4_35 st_X4_byteAt rfl (Nat.le_of_ble_eq_true rfl) (Nat.le_of_ble_eq_true rfl) ?_
    refine Go.to (fun r G' D17 hr => ?_) h
    obtain ⟨rfl, z18, rfl, h⟩ := hr
    show Go E (d + 1) kc ks mX4_readSides 40 [some (vR r0), some (vR 3), some (vI x2), some (vI x3), some (vI x4), some (vI (x3 + 1))] [vI z18] G D17 Q
    refine g_bipush dX4_readSides_40 bp_95 ?_
    refine g_icmp_eq 50 dX4_readSides_42 (by decide) ⟨fun hc => ?_, fun hc => ?_⟩
    · replace h := h.1 hc
      refine h_iinc (L' := [some (vR r0), some (vR 3), some (vI x2), some (vI x3), some (vI x4), some (vI ((x3 + 1) + 1))]) dX4_readSides_50 (Nat.le_of_ble_eq_true rfl) rfl rfl rfl ?_
      refine g_aload_n dX4_readSides_53 rfl rfl ?_
      refine g_iload_n dX4_readSides_54 rfl rfl ?_
      refine g_iload dX4_readSides_55 rfl ?_
      refine g_callS (kc := kc) (kc' := 0) (ks := ks) (ks' := 0) (as := [vR 3, vI x2, vI ((x3 + 1) + 1)]) (st := []) dX4_readSides_57 cB_X4_byteAt lk_X4_35 st_X4_byteAt rfl (Nat.le_of_ble_eq_true rfl) (Nat.le_of_ble_eq_true rfl) ?_
      refine Go.to (fun r G' D19 hr => ?_) h
      obtain ⟨rfl, z20, rfl, h⟩ := hr
      show Go E (d + 1) kc ks mX4_readSides 60 [some (vR r0), some (vR 3), some (vI x2), some (vI x3), some (vI x4), some (vI ((x3 + 1) + 1))] [vI z20] G D19 Q
      refine g_callS (kc := kc) (kc' := 0) (ks := ks) (ks' := 0) (as := [vI z20]) (st := []) dX4_readSides_60 cB_X4_isSide lk_X4_49 st_X4_isSide rfl (Nat.le_of_ble_eq_true rfl) (Nat.le_of_ble_eq_true rfl) ?_
      refine Go.to (fun r G' D21 hr => ?_) h
      obtain ⟨rfl, z22, rfl, h⟩ := hr
      show Go E (d + 1) kc ks mX4_readSides 63 [some (vR r0), some (vR 3), some (vI x2), some (vI x3), some (vI x4), some (vI ((x3 + 1) + 1))] [vI z22] G D21 Q
      refine g_if_eq 83 dX4_readSides_63 (by decide) ⟨fun hc => ?_, fun hc => ?_⟩
      · replace h := h.1 hc
        refine g_iload dX4_readSides_83 rfl ?_
        exact g_iret dX4_readSides_85 rfl h
      · replace h := h.2 hc
        refine g_aload_n dX4_readSides_66 rfl rfl ?_
        refine h_getR (j := 3) dX4_readSides_67 f_X4_21_3 rfl rfl (by decide) (hl0.k hG) hl0.ge (hl0.lt hG) (hl0.r3 hG) ?_
        refine g_iload dX4_readSides_70 rfl ?_
        refine g_aload_n dX4_readSides_72 rfl rfl ?_
        refine g_iload_n dX4_readSides_73 rfl rfl ?_
        refine g_iload dX4_readSides_74 rfl ?_
        refine g_callS (kc := kc) (kc' := 0) (ks := ks) (ks' := 0) (as := [vR 3, vI x2, vI ((x3 + 1) + 1)]) (st := [vI x4, vR (r0 + 4)]) dX4_readSides_76 cB_X4_byteAt lk_X4_35 st_X4_byteAt rfl (Nat.le_of_ble_eq_true rfl) (Nat.le_of_ble_eq_true rfl) ?_
        refine Go.to (fun r G' D23 hr => ?_) h
        obtain ⟨rfl, z24, rfl, h⟩ := hr
        show Go E (d + 1) kc ks mX4_readSides 79 [some (vR r0), some (vR 3), some (vI x2), some (vI x3), some (vI x4), some (vI ((x3 + 1) + 1))] [vI z24, vI x4, vR (r0 + 4)] G D23 Q
        refine g_iast dX4_readSides_79 (hl0.k3 hG) hl0.ge3 (hl0.lt3 hG) (by decide) ⟨h.1, ?_⟩
        generalize hD_D25 : up2 D23 (r0 + 4) x4 z24 = D25
        replace h := h.2 _ hD_D25.symm
        refine h_iinc (L' := [some (vR r0), some (vR 3), some (vI x2), some (vI x3), some (vI x4), some (vI (((x3 + 1) + 1) + 1))]) dX4_readSides_80 (Nat.le_of_ble_eq_true rfl) rfl rfl rfl ?_
        refine g_iload dX4_readSides_83 rfl ?_
        exact g_iret dX4_readSides_85 rfl h
    · replace h := h.2 hc
      refine g_iconst dX4_readSides_45 ?_
      refine g_iload dX4_readSides_46 rfl ?_
      refine g_isub dX4_readSides_48 ?_
      exact g_iret dX4_readSides_49 rfl h
set_option maxRecDepth 20000 in
theorem w_X4_byteAt {E : mmE} {d kc ks : Nat} {G : mmG} {D : mmD} {Q : mmQ} {x1 x2 : Int} (hG : Sh G)  (h : ((iv x2 < iv 0 → Q (some (vI (-1))) G D) ∧ (¬ iv x2 < iv 0 → ((iv x1 ≤ iv x2 → Q (some (vI (-1))) G D) ∧ (¬ iv x1 ≤ iv x2 → ((iv 80 ≤ iv x2 → Q (some (vI (-1))) G D) ∧ (¬ iv 80 ≤ iv x2 → ((0 ≤ x2 ∧ x2 < 80) ∧ Q (some (vI (D 3 x2))) G D)))))))) : Call E d kc ks mX4_byteAt [vR 3, vI x1, vI x2] G D Q := by
  show Go E d kc ks mX4_byteAt 0 [some (vR 3), some (vI x1), some (vI x2)] [] G D Q
  refine g_iload_n dX4_byteAt_0 rfl rfl ?_
  refine g_if_lt 21 dX4_byteAt_1 (by decide) ⟨fun hc => ?_, fun hc => ?_⟩
  · replace h := h.1 hc
    refine g_iconst dX4_byteAt_21 ?_
    exact g_iret dX4_byteAt_22 rfl h
  · replace h := h.2 hc
    refine g_iload_n dX4_byteAt_4 rfl rfl ?_
    refine g_iload_n dX4_byteAt_5 rfl rfl ?_
    refine g_icmp_ge 21 dX4_byteAt_6 (by decide) ⟨fun hc => ?_, fun hc => ?_⟩
    · replace h := h.1 hc
      refine g_iconst dX4_byteAt_21 ?_
      exact g_iret dX4_byteAt_22 rfl h
    · replace h := h.2 hc
      refine g_iload_n dX4_byteAt_9 rfl rfl ?_
      refine g_aload_n dX4_byteAt_10 rfl rfl ?_
      refine g_alen dX4_byteAt_11 (by decide) (by decide) hG.k3 (by decide) (hG.lt (by decide)) (by decide) (by decide) ?_
      refine g_icmp_ge 21 dX4_byteAt_12 (by decide) ⟨fun hc => ?_, fun hc => ?_⟩
      · replace h := h.1 hc
        refine g_iconst dX4_byteAt_21 ?_
        exact g_iret dX4_byteAt_22 rfl h
      · replace h := h.2 hc
        refine g_aload_n dX4_byteAt_15 rfl rfl ?_
        refine g_iload_n dX4_byteAt_16 rfl rfl ?_
        refine g_iald dX4_byteAt_17 hG.k3 (by decide) (hG.lt (by decide)) (by decide) ⟨h.1, ?_⟩
        replace h := h.2
        refine g_goto 22 dX4_byteAt_18 (by decide) ?_
        exact g_iret dX4_byteAt_22 rfl h
set_option maxRecDepth 20000 in
theorem w_X4_isSign {E : mmE} {d kc ks : Nat} {G : mmG} {D : mmD} {Q : mmQ} {x0 : Int} (hG : Sh G)  (h : Call E d 0 0 mX11_isLetterByte [vI x0] G D (retI G (fun z2 D1 => ((¬ iv z2 = iv 0 → Q (some (vI 1)) G D1) ∧ (iv z2 = iv 0 → ((iv x0 = iv 86 → Q (some (vI 1)) G D1) ∧ (¬ iv x0 = iv 86 → ((¬ iv x0 = iv 67 → Q (some (vI 0)) G D1) ∧ (iv x0 = iv 67 → Q (some (vI 1)) G D1))))))))) : Call E (d + 1) kc ks mX4_isSign [vI x0] G D Q := by
  show Go E (d + 1) kc ks mX4_isSign 0 [some (vI x0)] [] G D Q
  refine g_iload_n dX4_isSign_0 rfl rfl ?_
  refine g_callSN (kc := kc) (kc' := 0) (ks := ks) (ks' := 0) (as := [vI x0]) (st := []) dX4_isSign_1 cB_X11_isLetterByte mm_n43 st_X11_isLetterByte rfl (Nat.le_of_ble_eq_true rfl) (Nat.le_of_ble_eq_true rfl) ?_
  refine Go.to (fun r G' D1 hr => ?_) h
  obtain ⟨rfl, z2, rfl, h⟩ := hr
  show Go E (d + 1) kc ks mX4_isSign 4 [some (vI x0)] [vI z2] G D1 Q
  refine g_if_ne 19 dX4_isSign_4 (by decide) ⟨fun hc => ?_, fun hc => ?_⟩
  · replace h := h.1 hc
    refine g_iconst dX4_isSign_19 ?_
    refine g_goto 24 dX4_isSign_20 (by decide) ?_
    exact g_zret dX4_isSign_24 rfl ⟨Or.inr rfl, h⟩
  · replace h := h.2 hc
    refine g_iload_n dX4_isSign_7 rfl rfl ?_
    refine g_bipush dX4_isSign_8 bp_86 ?_
    refine g_icmp_eq 19 dX4_isSign_10 (by decide) ⟨fun hc => ?_, fun hc => ?_⟩
    · replace h := h.1 hc
      refine g_iconst dX4_isSign_19 ?_
      refine g_goto 24 dX4_isSign_20 (by decide) ?_
      exact g_zret dX4_isSign_24 rfl ⟨Or.inr rfl, h⟩
    · replace h := h.2 hc
      refine g_iload_n dX4_isSign_13 rfl rfl ?_
      refine g_bipush dX4_isSign_14 bp_67 ?_
      refine g_icmp_ne 23 dX4_isSign_16 (by decide) ⟨fun hc => ?_, fun hc => ?_⟩
      · replace h := h.1 hc
        refine g_iconst dX4_isSign_23 ?_
        exact g_zret dX4_isSign_24 rfl ⟨Or.inl rfl, h⟩
      · replace h := h.2 hc
        refine g_iconst dX4_isSign_19 ?_
        refine g_goto 24 dX4_isSign_20 (by decide) ?_
        exact g_zret dX4_isSign_24 rfl ⟨Or.inr rfl, h⟩
set_option maxRecDepth 20000 in
theorem w_X4_isSide {E : mmE} {d kc ks : Nat} {G : mmG} {D : mmD} {Q : mmQ} {x0 : Int} (hG : Sh G)  (h : Call E d 0 0 mX4_isSign [vI x0] G D (retI G (fun z2 D1 => ((¬ iv z2 = iv 0 → Q (some (vI 1)) G D1) ∧ (iv z2 = iv 0 → ((¬ iv x0 = iv 35 → Q (some (vI 0)) G D1) ∧ (iv x0 = iv 35 → Q (some (vI 1)) G D1))))))) : Call E (d + 1) kc ks mX4_isSide [vI x0] G D Q := by
  show Go E (d + 1) kc ks mX4_isSide 0 [some (vI x0)] [] G D Q
  refine g_iload_n dX4_isSide_0 rfl rfl ?_
  refine g_callS (kc := kc) (kc' := 0) (ks := ks) (ks' := 0) (as := [vI x0]) (st := []) dX4_isSide_1 cB_X4_isSign lk_X4_39 st_X4_isSign rfl (Nat.le_of_ble_eq_true rfl) (Nat.le_of_ble_eq_true rfl) ?_
  refine Go.to (fun r G' D1 hr => ?_) h
  obtain ⟨rfl, z2, rfl, h⟩ := hr
  show Go E (d + 1) kc ks mX4_isSide 4 [some (vI x0)] [vI z2] G D1 Q
  refine g_if_ne 13 dX4_isSide_4 (by decide) ⟨fun hc => ?_, fun hc => ?_⟩
  · replace h := h.1 hc
    refine g_iconst dX4_isSide_13 ?_
    refine g_goto 18 dX4_isSide_14 (by decide) ?_
    exact g_zret dX4_isSide_18 rfl ⟨Or.inr rfl, h⟩
  · replace h := h.2 hc
    refine g_iload_n dX4_isSide_7 rfl rfl ?_
    refine g_bipush dX4_isSide_8 bp_35 ?_
    refine g_icmp_ne 17 dX4_isSide_10 (by decide) ⟨fun hc => ?_, fun hc => ?_⟩
    · replace h := h.1 hc
      refine g_iconst dX4_isSide_17 ?_
      exact g_zret dX4_isSide_18 rfl ⟨Or.inl rfl, h⟩
    · replace h := h.2 hc
      refine g_iconst dX4_isSide_13 ?_
      refine g_goto 18 dX4_isSide_14 (by decide) ?_
      exact g_zret dX4_isSide_18 rfl ⟨Or.inr rfl, h⟩
set_option maxRecDepth 20000 in
theorem w_X4_comeOver {E : mmE} {d kc ks : Nat} {G : mmG} {D : mmD} {Q : mmQ} {r0 r1 : Int} (hG : Sh G) (hl0 : isLw r0) (hw1 : isW r1) (h : (∀ D1 : mmD, D1 = cp0 D (r1 + 1) (r0 + 5) 8 → Go E (d + 1) kc ks mX4_comeOver 28 [some (vR r0), some (vR r1), some (vI (D r1 1)), some (vI 0), some (vI 0), some (vI 0), none] [] G D1 Q)) : Call E (d + 1) kc ks mX4_comeOver [vR r0, vR r1] G D Q := by
  show Go E (d + 1) kc ks mX4_comeOver 0 [some (vR r0), some (vR r1), none, none, none, none, none] [] G D Q
  refine g_aload_n dX4_comeOver_0 rfl rfl ?_
  refine h_getI (j := 1) dX4_comeOver_1 f_X4_52_9 rfl rfl (by decide) (hw1.k hG) hw1.ge (hw1.lt hG) ?_
  refine h_istore_n (L' := [some (vR r0), some (vR r1), some (vI (D r1 1)), none, none, none, none]) dX4_comeOver_4 rfl (Nat.le_of_ble_eq_true rfl) rfl rfl ?_
  refine g_aload_n dX4_comeOver_5 rfl rfl ?_
  refine h_getR (j := 0) dX4_comeOver_6 f_X4_57_9 rfl rfl (by decide) (hw1.k hG) hw1.ge (hw1.lt hG) (hw1.r hG) ?_
  refine g_iconst dX4_comeOver_9 ?_
  refine g_aload_n dX4_comeOver_10 rfl rfl ?_
  refine h_getR (j := 4) dX4_comeOver_11 f_X4_24_3 rfl rfl (by decide) (hl0.k hG) hl0.ge (hl0.lt hG) (hl0.r4 hG) ?_
  refine g_iconst dX4_comeOver_14 ?_
  refine g_bipush dX4_comeOver_15 bp_8 ?_
  refine g_acopy dX4_comeOver_17 ac_X4_60 (Nat.le_of_ble_eq_true rfl) (hw1.ka hG) (hl0.k4 hG) hw1.gea (hw1.lta hG) hl0.ge4 (hl0.lt4 hG) (by decide) (by decide) ⟨⟨by decide, by decide, by decide⟩, ?_⟩
  generalize hD_D1 : cp0 D (r1 + 1) (r0 + 5) 8 = D1
  replace h := h _ hD_D1.symm
  refine g_iconst dX4_comeOver_20 ?_
  refine h_istore_n (L' := [some (vR r0), some (vR r1), some (vI (D r1 1)), some (vI 0), none, none, none]) dX4_comeOver_21 rfl (Nat.le_of_ble_eq_true rfl) rfl rfl ?_
  refine g_iconst dX4_comeOver_22 ?_
  refine h_istore (L' := [some (vR r0), some (vR r1), some (vI (D r1 1)), some (vI 0), some (vI 0), none, none]) dX4_comeOver_23 (Nat.le_of_ble_eq_true rfl) rfl rfl ?_
  refine g_iconst dX4_comeOver_25 ?_
  refine h_istore (L' := [some (vR r0), some (vR r1), some (vI (D r1 1)), some (vI 0), some (vI 0), some (vI 0), none]) dX4_comeOver_26 (Nat.le_of_ble_eq_true rfl) rfl rfl ?_
  exact Go.drop (by simp only [mm_sub, and_self]) h
set_option maxRecDepth 20000 in
theorem w_X4_comeOver_28 {E : mmE} {d kc ks : Nat} {G : mmG} {D : mmD} {Q : mmQ} {r0 r1 x2 x3 x4 x5 : Int} (hG : Sh G)  (h : ((iv x2 ≤ iv x5 → ((¬ iv x3 = iv 0 → (isW r1 ∧ (∀ D2 : mmD, D2 = up2 D r1 1 x3 → ((x4 = 0 ∨ x4 = 1) ∧ Q (some (vI x4)) G D2)))) ∧ (iv x3 = iv 0 → Q (some (vI 0)) G D))) ∧ (¬ iv x2 ≤ iv x5 → ((iv 8 ≤ iv x5 → ((¬ iv x3 = iv 0 → (isW r1 ∧ (∀ D4 : mmD, D4 = up2 D r1 1 x3 → ((x4 = 0 ∨ x4 = 1) ∧ Q (some (vI x4)) G D4)))) ∧ (iv x3 = iv 0 → Q (some (vI 0)) G D))) ∧ (¬ iv 8 ≤ iv x5 → (isLw r0 ∧ Call E d 0 0 mX4_letterFor [vR r0, vI x5, vI x2] G D (retI G (fun z7 D6 => ((¬ iv x4 = iv 0 → ((iv z7 = iv (-1) → Go E (d + 1) kc ks mX4_comeOver 28 [some (vR r0), some (vR r1), some (vI x2), some (vI x3), some (vI 1), some (vI (x5 + 1)), none] [] G D6 Q) ∧ (¬ iv z7 = iv (-1) → (isW r1 ∧ ((0 ≤ x3 ∧ x3 < 8) ∧ (∀ D9 : mmD, D9 = up2 D6 (r1 + 1) x3 z7 → Go E (d + 1) kc ks mX4_comeOver 28 [some (vR r0), some (vR r1), some (vI x2), some (vI (x3 + 1)), some (vI 1), some (vI (x5 + 1)), none] [] G D9 Q)))))) ∧ (iv x4 = iv 0 → ((0 ≤ x5 ∧ x5 < 8) ∧ ((iv z7 = iv (D6 (r0 + 5) x5) → ((iv z7 = iv (-1) → Go E (d + 1) kc ks mX4_comeOver 28 [some (vR r0), some (vR r1), some (vI x2), some (vI x3), some (vI 0), some (vI (x5 + 1)), none] [] G D6 Q) ∧ (¬ iv z7 = iv (-1) → (isW r1 ∧ ((0 ≤ x3 ∧ x3 < 8) ∧ (∀ D11 : mmD, D11 = up2 D6 (r1 + 1) x3 z7 → Go E (d + 1) kc ks mX4_comeOver 28 [some (vR r0), some (vR r1), some (vI x2), some (vI (x3 + 1)), some (vI 0), some (vI (x5 + 1)), none] [] G D11 Q)))))) ∧ (¬ iv z7 = iv (D6 (r0 + 5) x5) → ((iv z7 = iv (-1) → Go E (d + 1) kc ks mX4_comeOver 28 [some (vR r0), some (vR r1), some (vI x2), some (vI x3), some (vI 1), some (vI (x5 + 1)), none] [] G D6 Q) ∧ (¬ iv z7 = iv (-1) → (isW r1 ∧ ((0 ≤ x3 ∧ x3 < 8) ∧ (∀ D13 : mmD, D13 = up2 D6 (r1 + 1) x3 z7 → Go E (d + 1) kc ks mX4_comeOver 28 [some (vR r0), some (vR r1), some (vI x2), some (vI (x3 + 1)), some (vI 1), some (vI (x5 + 1)), none] [] G D13 Q)))))))))))))))))) : Go E (d + 1) kc ks mX4_comeOver 28 [some (vR r0), some (vR r1), some (vI x2), some (vI x3), some (vI x4), some (vI x5), none] [] G D Q := by
  refine g_iload dX4_comeOver_28 rfl ?_
  refine g_iload_n dX4_comeOver_30 rfl rfl ?_
  refine g_icmp_ge 97 dX4_comeOver_31 (by decide) ⟨fun hc => ?_, fun hc => ?_⟩
  · replace h := h.1 hc
    refine g_iload_n dX4_comeOver_97 rfl rfl ?_
    refine g_if_ne 103 dX4_comeOver_98 (by decide) ⟨fun hc => ?_, fun hc => ?_⟩
    · replace h := h.1 hc
      refine g_aload_n dX4_comeOver_103 rfl rfl ?_
      refine g_iload_n dX4_comeOver_104 rfl rfl ?_
      have hf1 := h.1
      replace h := h.2
      refine h_putI (j := 1) dX4_comeOver_105 f_X4_52_9 (Or.inl (mm_finI (by decide +kernel))) rfl rfl (by decide) (hf1.k hG) hf1.ge (hf1.lt hG) ?_
      generalize hD_D2 : up2 D r1 1 x3 = D2
      replace h := h _ hD_D2.symm
      refine g_iload dX4_comeOver_108 rfl ?_
      exact g_zret dX4_comeOver_110 rfl h
    · replace h := h.2 hc
      refine g_iconst dX4_comeOver_101 ?_
      exact g_zret dX4_comeOver_102 rfl ⟨Or.inl rfl, h⟩
  · replace h := h.2 hc
    refine g_iload dX4_comeOver_34 rfl ?_
    refine g_bipush dX4_comeOver_36 bp_8 ?_
    refine g_icmp_ge 97 dX4_comeOver_38 (by decide) ⟨fun hc => ?_, fun hc => ?_⟩
    · replace h := h.1 hc
      refine g_iload_n dX4_comeOver_97 rfl rfl ?_
      refine g_if_ne 103 dX4_comeOver_98 (by decide) ⟨fun hc => ?_, fun hc => ?_⟩
      · replace h := h.1 hc
        refine g_aload_n dX4_comeOver_103 rfl rfl ?_
        refine g_iload_n dX4_comeOver_104 rfl rfl ?_
        have hf3 := h.1
        replace h := h.2
        refine h_putI (j := 1) dX4_comeOver_105 f_X4_52_9 (Or.inl (mm_finI (by decide +kernel))) rfl rfl (by decide) (hf3.k hG) hf3.ge (hf3.lt hG) ?_
        generalize hD_D4 : up2 D r1 1 x3 = D4
        replace h := h _ hD_D4.symm
        refine g_iload dX4_comeOver_108 rfl ?_
        exact g_zret dX4_comeOver_110 rfl h
      · replace h := h.2 hc
        refine g_iconst dX4_comeOver_101 ?_
        exact g_zret dX4_comeOver_102 rfl ⟨Or.inl rfl, h⟩
    · replace h := h.2 hc
      refine g_aload_n dX4_comeOver_41 rfl rfl ?_
      refine g_iload dX4_comeOver_42 rfl ?_
      refine g_iload_n dX4_comeOver_44 rfl rfl ?_
      have hf5 := h.1
      replace h := h.2
      refine g_callV (kc := kc) (kc' := 0) (ks := ks) (ks' := 0) (as := [vI x5, vI x2]) (st := []) (ci := 3) dX4_comeOver_45 cB_X4_letterFor lk_X4_66 in_X4_letterFor se_X4_letterFor (by decide) rfl rfl (Nat.le_of_ble_eq_true rfl) (Nat.le_of_ble_eq_true rfl) hf5.ge (hf5.lt hG) (congrArg Prod.fst (hf5.k hG)) ?_
      refine Go.to (fun r G' D6 hr => ?_) h
      obtain ⟨rfl, z7, rfl, h⟩ := hr
      show Go E (d + 1) kc ks mX4_comeOver 48 [some (vR r0), some (vR r1), some (vI x2), some (vI x3), some (vI x4), some (vI x5), none] [vI z7] G D6 Q
      refine h_istore (L' := [some (vR r0), some (vR r1), some (vI x2), some (vI x3), some (vI x4), some (vI x5), some (vI z7)]) dX4_comeOver_48 (Nat.le_of_ble_eq_true rfl) rfl rfl ?_
      refine g_iload dX4_comeOver_50 rfl ?_
      refine g_if_ne 67 dX4_comeOver_52 (by decide) ⟨fun hc => ?_, fun hc => ?_⟩
      · replace h := h.1 hc
        refine g_iconst dX4_comeOver_67 ?_
        refine g_goto 72 dX4_comeOver_68 (by decide) ?_
        refine h_istore (L' := [some (vR r0), some (vR r1), some (vI x2), some (vI x3), some (vI 1), some (vI x5), some (vI z7)]) dX4_comeOver_72 (Nat.le_of_ble_eq_true rfl) rfl rfl ?_
        refine g_iload dX4_comeOver_74 rfl ?_
        refine g_iconst dX4_comeOver_76 ?_
        refine g_icmp_eq 91 dX4_comeOver_77 (by decide) ⟨fun hc => ?_, fun hc => ?_⟩
        · replace h := h.1 hc
          refine h_iinc (L' := [some (vR r0), some (vR r1), some (vI x2), some (vI x3), some (vI 1), some (vI (x5 + 1)), some (vI z7)]) dX4_comeOver_91 (Nat.le_of_ble_eq_true rfl) rfl rfl rfl ?_
          refine g_goto 28 dX4_comeOver_94 (by decide) ?_
          exact Go.drop (by simp only [mm_sub, and_self]) h
        · replace h := h.2 hc
          refine g_aload_n dX4_comeOver_80 rfl rfl ?_
          have hf8 := h.1
          replace h := h.2
          refine h_getR (j := 0) dX4_comeOver_81 f_X4_57_9 rfl rfl (by decide) (hf8.k hG) hf8.ge (hf8.lt hG) (hf8.r hG) ?_
          refine g_iload_n dX4_comeOver_84 rfl rfl ?_
          refine g_iload dX4_comeOver_85 rfl ?_
          refine g_iast dX4_comeOver_87 (hf8.ka hG) hf8.gea (hf8.lta hG) (by decide) ⟨h.1, ?_⟩
          generalize hD_D9 : up2 D6 (r1 + 1) x3 z7 = D9
          replace h := h.2 _ hD_D9.symm
          refine h_iinc (L' := [some (vR r0), some (vR r1), some (vI x2), some (vI (x3 + 1)), some (vI 1), some (vI x5), some (vI z7)]) dX4_comeOver_88 (Nat.le_of_ble_eq_true rfl) rfl rfl rfl ?_
          refine h_iinc (L' := [some (vR r0), some (vR r1), some (vI x2), some (vI (x3 + 1)), some (vI 1), some (vI (x5 + 1)), some (vI z7)]) dX4_comeOver_91 (Nat.le_of_ble_eq_true rfl) rfl rfl rfl ?_
          refine g_goto 28 dX4_comeOver_94 (by decide) ?_
          exact Go.drop (by simp only [mm_sub, and_self]) h
      · replace h := h.2 hc
        refine g_iload dX4_comeOver_55 rfl ?_
        refine g_aload_n dX4_comeOver_57 rfl rfl ?_
        refine h_getR (j := 4) dX4_comeOver_58 f_X4_24_3 rfl rfl (by decide) (hf5.k hG) hf5.ge (hf5.lt hG) (hf5.r4 hG) ?_
        refine g_iload dX4_comeOver_61 rfl ?_
        refine g_iald dX4_comeOver_63 (hf5.k4 hG) hf5.ge4 (hf5.lt4 hG) (by decide) ⟨h.1, ?_⟩
        replace h := h.2
        refine g_icmp_eq 71 dX4_comeOver_64 (by decide) ⟨fun hc => ?_, fun hc => ?_⟩
        · replace h := h.1 hc
          refine g_iconst dX4_comeOver_71 ?_
          refine h_istore (L' := [some (vR r0), some (vR r1), some (vI x2), some (vI x3), some (vI 0), some (vI x5), some (vI z7)]) dX4_comeOver_72 (Nat.le_of_ble_eq_true rfl) rfl rfl ?_
          refine g_iload dX4_comeOver_74 rfl ?_
          refine g_iconst dX4_comeOver_76 ?_
          refine g_icmp_eq 91 dX4_comeOver_77 (by decide) ⟨fun hc => ?_, fun hc => ?_⟩
          · replace h := h.1 hc
            refine h_iinc (L' := [some (vR r0), some (vR r1), some (vI x2), some (vI x3), some (vI 0), some (vI (x5 + 1)), some (vI z7)]) dX4_comeOver_91 (Nat.le_of_ble_eq_true rfl) rfl rfl rfl ?_
            refine g_goto 28 dX4_comeOver_94 (by decide) ?_
            exact Go.drop (by simp only [mm_sub, and_self]) h
          · replace h := h.2 hc
            refine g_aload_n dX4_comeOver_80 rfl rfl ?_
            have hf10 := h.1
            replace h := h.2
            refine h_getR (j := 0) dX4_comeOver_81 f_X4_57_9 rfl rfl (by decide) (hf10.k hG) hf10.ge (hf10.lt hG) (hf10.r hG) ?_
            refine g_iload_n dX4_comeOver_84 rfl rfl ?_
            refine g_iload dX4_comeOver_85 rfl ?_
            refine g_iast dX4_comeOver_87 (hf10.ka hG) hf10.gea (hf10.lta hG) (by decide) ⟨h.1, ?_⟩
            generalize hD_D11 : up2 D6 (r1 + 1) x3 z7 = D11
            replace h := h.2 _ hD_D11.symm
            refine h_iinc (L' := [some (vR r0), some (vR r1), some (vI x2), some (vI (x3 + 1)), some (vI 0), some (vI x5), some (vI z7)]) dX4_comeOver_88 (Nat.le_of_ble_eq_true rfl) rfl rfl rfl ?_
            refine h_iinc (L' := [some (vR r0), some (vR r1), some (vI x2), some (vI (x3 + 1)), some (vI 0), some (vI (x5 + 1)), some (vI z7)]) dX4_comeOver_91 (Nat.le_of_ble_eq_true rfl) rfl rfl rfl ?_
            refine g_goto 28 dX4_comeOver_94 (by decide) ?_
            exact Go.drop (by simp only [mm_sub, and_self]) h
        · replace h := h.2 hc
          refine g_iconst dX4_comeOver_67 ?_
          refine g_goto 72 dX4_comeOver_68 (by decide) ?_
          refine h_istore (L' := [some (vR r0), some (vR r1), some (vI x2), some (vI x3), some (vI 1), some (vI x5), some (vI z7)]) dX4_comeOver_72 (Nat.le_of_ble_eq_true rfl) rfl rfl ?_
          refine g_iload dX4_comeOver_74 rfl ?_
          refine g_iconst dX4_comeOver_76 ?_
          refine g_icmp_eq 91 dX4_comeOver_77 (by decide) ⟨fun hc => ?_, fun hc => ?_⟩
          · replace h := h.1 hc
            refine h_iinc (L' := [some (vR r0), some (vR r1), some (vI x2), some (vI x3), some (vI 1), some (vI (x5 + 1)), some (vI z7)]) dX4_comeOver_91 (Nat.le_of_ble_eq_true rfl) rfl rfl rfl ?_
            refine g_goto 28 dX4_comeOver_94 (by decide) ?_
            exact Go.drop (by simp only [mm_sub, and_self]) h
          · replace h := h.2 hc
            refine g_aload_n dX4_comeOver_80 rfl rfl ?_
            have hf12 := h.1
            replace h := h.2
            refine h_getR (j := 0) dX4_comeOver_81 f_X4_57_9 rfl rfl (by decide) (hf12.k hG) hf12.ge (hf12.lt hG) (hf12.r hG) ?_
            refine g_iload_n dX4_comeOver_84 rfl rfl ?_
            refine g_iload dX4_comeOver_85 rfl ?_
            refine g_iast dX4_comeOver_87 (hf12.ka hG) hf12.gea (hf12.lta hG) (by decide) ⟨h.1, ?_⟩
            generalize hD_D13 : up2 D6 (r1 + 1) x3 z7 = D13
            replace h := h.2 _ hD_D13.symm
            refine h_iinc (L' := [some (vR r0), some (vR r1), some (vI x2), some (vI (x3 + 1)), some (vI 1), some (vI x5), some (vI z7)]) dX4_comeOver_88 (Nat.le_of_ble_eq_true rfl) rfl rfl rfl ?_
            refine h_iinc (L' := [some (vR r0), some (vR r1), some (vI x2), some (vI (x3 + 1)), some (vI 1), some (vI (x5 + 1)), some (vI z7)]) dX4_comeOver_91 (Nat.le_of_ble_eq_true rfl) rfl rfl rfl ?_
            refine g_goto 28 dX4_comeOver_94 (by decide) ?_
            exact Go.drop (by simp only [mm_sub, and_self]) h
set_option maxRecDepth 20000 in
theorem w_X4_letterFor {E : mmE} {d kc ks : Nat} {G : mmG} {D : mmD} {Q : mmQ} {r0 x1 x2 : Int} (hG : Sh G) (hl0 : isLw r0) (h : Go E (d + 1) kc ks mX4_letterFor 2 [some (vR r0), some (vI x1), some (vI x2), some (vI 0)] [] G D Q) : Call E (d + 1) kc ks mX4_letterFor [vR r0, vI x1, vI x2] G D Q := by
  show Go E (d + 1) kc ks mX4_letterFor 0 [some (vR r0), some (vI x1), some (vI x2), none] [] G D Q
  refine g_iconst dX4_letterFor_0 ?_
  refine h_istore_n (L' := [some (vR r0), some (vI x1), some (vI x2), some (vI 0)]) dX4_letterFor_1 rfl (Nat.le_of_ble_eq_true rfl) rfl rfl ?_
  exact Go.drop (by simp only [mm_sub, and_self]) h
set_option maxRecDepth 20000 in
theorem w_X4_letterFor_2 {E : mmE} {d kc ks : Nat} {G : mmG} {D : mmD} {Q : mmQ} {r0 x1 x2 x3 : Int} (hG : Sh G)  (h : (isLw r0 ∧ ((iv (D r0 5) ≤ iv x3 → ((0 ≤ x1 ∧ x1 < 8) ∧ Q (some (vI (D (r0 + 5) x1))) G D)) ∧ (¬ iv (D r0 5) ≤ iv x3 → ((0 ≤ x3 ∧ x3 < 6) ∧ ((0 ≤ x1 ∧ x1 < 8) ∧ Call E d 0 0 mX4_isSignOf [vI (D (r0 + 1) x3), vI (D (r0 + 5) x1)] G D (retI G (fun z3 D2 => ((iv z3 = iv 0 → Go E (d + 1) kc ks mX4_letterFor 2 [some (vR r0), some (vI x1), some (vI x2), some (vI (x3 + 1))] [] G D2 Q) ∧ (¬ iv z3 = iv 0 → ((0 ≤ x3 ∧ x3 < 6) ∧ Call E d 0 0 mX4_isBeside [vR r0, vI (D2 (r0 + 3) x3), vI (x1 - 1), vI x2] G D2 (retI G (fun z5 D4 => ((iv z5 = iv 0 → Go E (d + 1) kc ks mX4_letterFor 2 [some (vR r0), some (vI x1), some (vI x2), some (vI (x3 + 1))] [] G D4 Q) ∧ (¬ iv z5 = iv 0 → ((0 ≤ x3 ∧ x3 < 6) ∧ Call E d 0 0 mX4_isBeside [vR r0, vI (D4 (r0 + 4) x3), vI (x1 + 1), vI x2] G D4 (retI G (fun z7 D6 => ((iv z7 = iv 0 → Go E (d + 1) kc ks mX4_letterFor 2 [some (vR r0), some (vI x1), some (vI x2), some (vI (x3 + 1))] [] G D6 Q) ∧ (¬ iv z7 = iv 0 → ((0 ≤ x3 ∧ x3 < 6) ∧ ((¬ iv (D6 (r0 + 2) x3) = iv 48 → ((0 ≤ x3 ∧ x3 < 6) ∧ Q (some (vI ((D6 (r0 + 2) x3) - 97))) G D6)) ∧ (iv (D6 (r0 + 2) x3) = iv 48 → Q (some (vI (-1))) G D6))))))))))))))))))))))) : Go E (d + 1) kc ks mX4_letterFor 2 [some (vR r0), some (vI x1), some (vI x2), some (vI x3)] [] G D Q := by
  refine g_iload_n dX4_letterFor_2 rfl rfl ?_
  refine g_aload_n dX4_letterFor_3 rfl rfl ?_
  have hf1 := h.1
  replace h := h.2
  refine h_getI (j := 5) dX4_letterFor_4 f_X4_27_3 rfl rfl (by decide) (hf1.k hG) hf1.ge (hf1.lt hG) ?_
  refine g_icmp_ge 93 dX4_letterFor_7 (by decide) ⟨fun hc => ?_, fun hc => ?_⟩
  · replace h := h.1 hc
    refine g_aload_n dX4_letterFor_93 rfl rfl ?_
    refine h_getR (j := 4) dX4_letterFor_94 f_X4_24_3 rfl rfl (by decide) (hf1.k hG) hf1.ge (hf1.lt hG) (hf1.r4 hG) ?_
    refine g_iload_n dX4_letterFor_97 rfl rfl ?_
    refine g_iald dX4_letterFor_98 (hf1.k4 hG) hf1.ge4 (hf1.lt4 hG) (by decide) ⟨h.1, ?_⟩
    replace h := h.2
    exact g_iret dX4_letterFor_99 rfl h
  · replace h := h.2 hc
    refine g_aload_n dX4_letterFor_10 rfl rfl ?_
    refine h_getR (j := 0) dX4_letterFor_11 f_X4_9_3 rfl rfl (by decide) (hf1.k hG) hf1.ge (hf1.lt hG) (hf1.r0 hG) ?_
    refine g_iload_n dX4_letterFor_14 rfl rfl ?_
    refine g_iald dX4_letterFor_15 (hf1.k0 hG) hf1.ge0 (hf1.lt0 hG) (by decide) ⟨h.1, ?_⟩
    replace h := h.2
    refine g_aload_n dX4_letterFor_16 rfl rfl ?_
    refine h_getR (j := 4) dX4_letterFor_17 f_X4_24_3 rfl rfl (by decide) (hf1.k hG) hf1.ge (hf1.lt hG) (hf1.r4 hG) ?_
    refine g_iload_n dX4_letterFor_20 rfl rfl ?_
    refine g_iald dX4_letterFor_21 (hf1.k4 hG) hf1.ge4 (hf1.lt4 hG) (by decide) ⟨h.1, ?_⟩
    replace h := h.2
    refine g_callS (kc := kc) (kc' := 0) (ks := ks) (ks' := 0) (as := [vI (D (r0 + 1) x3), vI (D (r0 + 5) x1)]) (st := []) dX4_letterFor_22 cB_X4_isSignOf lk_X4_70 st_X4_isSignOf rfl (Nat.le_of_ble_eq_true rfl) (Nat.le_of_ble_eq_true rfl) ?_
    refine Go.to (fun r G' D2 hr => ?_) h
    obtain ⟨rfl, z3, rfl, h⟩ := hr
    show Go E (d + 1) kc ks mX4_letterFor 25 [some (vR r0), some (vI x1), some (vI x2), some (vI x3)] [vI z3] G D2 Q
    refine g_if_eq 87 dX4_letterFor_25 (by decide) ⟨fun hc => ?_, fun hc => ?_⟩
    · replace h := h.1 hc
      refine h_iinc (L' := [some (vR r0), some (vI x1), some (vI x2), some (vI (x3 + 1))]) dX4_letterFor_87 (Nat.le_of_ble_eq_true rfl) rfl rfl rfl ?_
      refine g_goto 2 dX4_letterFor_90 (by decide) ?_
      exact Go.drop (by simp only [mm_sub, and_self]) h
    · replace h := h.2 hc
      refine g_aload_n dX4_letterFor_28 rfl rfl ?_
      refine g_aload_n dX4_letterFor_29 rfl rfl ?_
      refine h_getR (j := 2) dX4_letterFor_30 f_X4_18_3 rfl rfl (by decide) (hf1.k hG) hf1.ge (hf1.lt hG) (hf1.r2 hG) ?_
      refine g_iload_n dX4_letterFor_33 rfl rfl ?_
      refine g_iald dX4_letterFor_34 (hf1.k2 hG) hf1.ge2 (hf1.lt2 hG) (by decide) ⟨h.1, ?_⟩
      replace h := h.2
      refine g_iload_n dX4_letterFor_35 rfl rfl ?_
      refine g_iconst dX4_letterFor_36 ?_
      refine g_isub dX4_letterFor_37 ?_
      refine g_iload_n dX4_letterFor_38 rfl rfl ?_
      refine g_callV (kc := kc) (kc' := 0) (ks := ks) (ks' := 0) (as := [vI (D2 (r0 + 3) x3), vI (x1 - 1), vI x2]) (st := []) (ci := 3) dX4_letterFor_39 cB_X4_isBeside lk_X4_74 in_X4_isBeside se_X4_isBeside (by decide) rfl rfl (Nat.le_of_ble_eq_true rfl) (Nat.le_of_ble_eq_true rfl) hf1.ge (hf1.lt hG) (congrArg Prod.fst (hf1.k hG)) ?_
      refine Go.to (fun r G' D4 hr => ?_) h
      obtain ⟨rfl, z5, rfl, h⟩ := hr
      show Go E (d + 1) kc ks mX4_letterFor 42 [some (vR r0), some (vI x1), some (vI x2), some (vI x3)] [vI z5] G D4 Q
      refine g_if_eq 87 dX4_letterFor_42 (by decide) ⟨fun hc => ?_, fun hc => ?_⟩
      · replace h := h.1 hc
        refine h_iinc (L' := [some (vR r0), some (vI x1), some (vI x2), some (vI (x3 + 1))]) dX4_letterFor_87 (Nat.le_of_ble_eq_true rfl) rfl rfl rfl ?_
        refine g_goto 2 dX4_letterFor_90 (by decide) ?_
        exact Go.drop (by simp only [mm_sub, and_self]) h
      · replace h := h.2 hc
        refine g_aload_n dX4_letterFor_45 rfl rfl ?_
        refine g_aload_n dX4_letterFor_46 rfl rfl ?_
        refine h_getR (j := 3) dX4_letterFor_47 f_X4_21_3 rfl rfl (by decide) (hf1.k hG) hf1.ge (hf1.lt hG) (hf1.r3 hG) ?_
        refine g_iload_n dX4_letterFor_50 rfl rfl ?_
        refine g_iald dX4_letterFor_51 (hf1.k3 hG) hf1.ge3 (hf1.lt3 hG) (by decide) ⟨h.1, ?_⟩
        replace h := h.2
        refine g_iload_n dX4_letterFor_52 rfl rfl ?_
        refine g_iconst dX4_letterFor_53 ?_
        refine g_iadd dX4_letterFor_54 ?_
        refine g_iload_n dX4_letterFor_55 rfl rfl ?_
        refine g_callV (kc := kc) (kc' := 0) (ks := ks) (ks' := 0) (as := [vI (D4 (r0 + 4) x3), vI (x1 + 1), vI x2]) (st := []) (ci := 3) dX4_letterFor_56 cB_X4_isBeside lk_X4_74 in_X4_isBeside se_X4_isBeside (by decide) rfl rfl (Nat.le_of_ble_eq_true rfl) (Nat.le_of_ble_eq_true rfl) hf1.ge (hf1.lt hG) (congrArg Prod.fst (hf1.k hG)) ?_
        refine Go.to (fun r G' D6 hr => ?_) h
        obtain ⟨rfl, z7, rfl, h⟩ := hr
        show Go E (d + 1) kc ks mX4_letterFor 59 [some (vR r0), some (vI x1), some (vI x2), some (vI x3)] [vI z7] G D6 Q
        refine g_if_eq 87 dX4_letterFor_59 (by decide) ⟨fun hc => ?_, fun hc => ?_⟩
        · replace h := h.1 hc
          refine h_iinc (L' := [some (vR r0), some (vI x1), some (vI x2), some (vI (x3 + 1))]) dX4_letterFor_87 (Nat.le_of_ble_eq_true rfl) rfl rfl rfl ?_
          refine g_goto 2 dX4_letterFor_90 (by decide) ?_
          exact Go.drop (by simp only [mm_sub, and_self]) h
        · replace h := h.2 hc
          refine g_aload_n dX4_letterFor_62 rfl rfl ?_
          refine h_getR (j := 1) dX4_letterFor_63 f_X4_15_3 rfl rfl (by decide) (hf1.k hG) hf1.ge (hf1.lt hG) (hf1.r1 hG) ?_
          refine g_iload_n dX4_letterFor_66 rfl rfl ?_
          refine g_iald dX4_letterFor_67 (hf1.k1 hG) hf1.ge1 (hf1.lt1 hG) (by decide) ⟨h.1, ?_⟩
          replace h := h.2
          refine g_bipush dX4_letterFor_68 bp_48 ?_
          refine g_icmp_ne 77 dX4_letterFor_70 (by decide) ⟨fun hc => ?_, fun hc => ?_⟩
          · replace h := h.1 hc
            refine g_aload_n dX4_letterFor_77 rfl rfl ?_
            refine h_getR (j := 1) dX4_letterFor_78 f_X4_15_3 rfl rfl (by decide) (hf1.k hG) hf1.ge (hf1.lt hG) (hf1.r1 hG) ?_
            refine g_iload_n dX4_letterFor_81 rfl rfl ?_
            refine g_iald dX4_letterFor_82 (hf1.k1 hG) hf1.ge1 (hf1.lt1 hG) (by decide) ⟨h.1, ?_⟩
            replace h := h.2
            refine g_bipush dX4_letterFor_83 bp_97 ?_
            refine g_isub dX4_letterFor_85 ?_
            exact g_iret dX4_letterFor_86 rfl h
          · replace h := h.2 hc
            refine g_iconst dX4_letterFor_73 ?_
            refine g_goto 86 dX4_letterFor_74 (by decide) ?_
            exact g_iret dX4_letterFor_86 rfl h
set_option maxRecDepth 20000 in
theorem w_X4_isBeside {E : mmE} {d kc ks : Nat} {G : mmG} {D : mmD} {Q : mmQ} {r0 x1 x2 x3 : Int} (hG : Sh G) (hl0 : isLw r0) (h : ((¬ iv x1 = iv 0 → ((iv x2 < iv 0 → ((¬ iv x1 = iv 35 → Q (some (vI 0)) G D) ∧ (iv x1 = iv 35 → Q (some (vI 1)) G D))) ∧ (¬ iv x2 < iv 0 → ((iv x2 < iv x3 → ((0 ≤ x2 ∧ x2 < 8) ∧ Call E d 0 0 mX4_isSignOf [vI x1, vI (D (r0 + 5) x2)] G D (retI G (fun z2 D1 => ((z2 = 0 ∨ z2 = 1) ∧ Q (some (vI z2)) G D1))))) ∧ (¬ iv x2 < iv x3 → ((¬ iv x1 = iv 35 → Q (some (vI 0)) G D) ∧ (iv x1 = iv 35 → Q (some (vI 1)) G D))))))) ∧ (iv x1 = iv 0 → Q (some (vI 1)) G D))) : Call E (d + 1) kc ks mX4_isBeside [vR r0, vI x1, vI x2, vI x3] G D Q := by
  show Go E (d + 1) kc ks mX4_isBeside 0 [some (vR r0), some (vI x1), some (vI x2), some (vI x3)] [] G D Q
  refine g_iload_n dX4_isBeside_0 rfl rfl ?_
  refine g_if_ne 6 dX4_isBeside_1 (by decide) ⟨fun hc => ?_, fun hc => ?_⟩
  · replace h := h.1 hc
    refine g_iload_n dX4_isBeside_6 rfl rfl ?_
    refine g_if_lt 15 dX4_isBeside_7 (by decide) ⟨fun hc => ?_, fun hc => ?_⟩
    · replace h := h.1 hc
      refine g_iload_n dX4_isBeside_15 rfl rfl ?_
      refine g_bipush dX4_isBeside_16 bp_35 ?_
      refine g_icmp_ne 25 dX4_isBeside_18 (by decide) ⟨fun hc => ?_, fun hc => ?_⟩
      · replace h := h.1 hc
        refine g_iconst dX4_isBeside_25 ?_
        exact g_zret dX4_isBeside_26 rfl ⟨Or.inl rfl, h⟩
      · replace h := h.2 hc
        refine g_iconst dX4_isBeside_21 ?_
        refine g_goto 26 dX4_isBeside_22 (by decide) ?_
        exact g_zret dX4_isBeside_26 rfl ⟨Or.inr rfl, h⟩
    · replace h := h.2 hc
      refine g_iload_n dX4_isBeside_10 rfl rfl ?_
      refine g_iload_n dX4_isBeside_11 rfl rfl ?_
      refine g_icmp_lt 27 dX4_isBeside_12 (by decide) ⟨fun hc => ?_, fun hc => ?_⟩
      · replace h := h.1 hc
        refine g_iload_n dX4_isBeside_27 rfl rfl ?_
        refine g_aload_n dX4_isBeside_28 rfl rfl ?_
        refine h_getR (j := 4) dX4_isBeside_29 f_X4_24_3 rfl rfl (by decide) (hl0.k hG) hl0.ge (hl0.lt hG) (hl0.r4 hG) ?_
        refine g_iload_n dX4_isBeside_32 rfl rfl ?_
        refine g_iald dX4_isBeside_33 (hl0.k4 hG) hl0.ge4 (hl0.lt4 hG) (by decide) ⟨h.1, ?_⟩
        replace h := h.2
        refine g_callS (kc := kc) (kc' := 0) (ks := ks) (ks' := 0) (as := [vI x1, vI (D (r0 + 5) x2)]) (st := []) dX4_isBeside_34 cB_X4_isSignOf lk_X4_70 st_X4_isSignOf rfl (Nat.le_of_ble_eq_true rfl) (Nat.le_of_ble_eq_true rfl) ?_
        refine Go.to (fun r G' D1 hr => ?_) h
        obtain ⟨rfl, z2, rfl, h⟩ := hr
        show Go E (d + 1) kc ks mX4_isBeside 37 [some (vR r0), some (vI x1), some (vI x2), some (vI x3)] [vI z2] G D1 Q
        exact g_zret dX4_isBeside_37 rfl h
      · replace h := h.2 hc
        refine g_iload_n dX4_isBeside_15 rfl rfl ?_
        refine g_bipush dX4_isBeside_16 bp_35 ?_
        refine g_icmp_ne 25 dX4_isBeside_18 (by decide) ⟨fun hc => ?_, fun hc => ?_⟩
        · replace h := h.1 hc
          refine g_iconst dX4_isBeside_25 ?_
          exact g_zret dX4_isBeside_26 rfl ⟨Or.inl rfl, h⟩
        · replace h := h.2 hc
          refine g_iconst dX4_isBeside_21 ?_
          refine g_goto 26 dX4_isBeside_22 (by decide) ?_
          exact g_zret dX4_isBeside_26 rfl ⟨Or.inr rfl, h⟩
  · replace h := h.2 hc
    refine g_iconst dX4_isBeside_4 ?_
    exact g_zret dX4_isBeside_5 rfl ⟨Or.inr rfl, h⟩
set_option maxRecDepth 20000 in
theorem w_X4_isSignOf {E : mmE} {d kc ks : Nat} {G : mmG} {D : mmD} {Q : mmQ} {x0 x1 : Int} (hG : Sh G)  (h : ((¬ iv x0 = iv 86 → ((¬ iv x0 = iv 67 → ((¬ iv (x0 - 97) = iv x1 → Q (some (vI 0)) G D) ∧ (iv (x0 - 97) = iv x1 → Q (some (vI 1)) G D))) ∧ (iv x0 = iv 67 → Call E d 0 0 mX11_isVowel [vI x1] G D (retI G (fun z2 D1 => ((¬ iv z2 = iv 0 → Q (some (vI 0)) G D1) ∧ (iv z2 = iv 0 → Q (some (vI 1)) G D1))))))) ∧ (iv x0 = iv 86 → Call E d 0 0 mX11_isVowel [vI x1] G D (retI G (fun z4 D3 => ((z4 = 0 ∨ z4 = 1) ∧ Q (some (vI z4)) G D3)))))) : Call E (d + 1) kc ks mX4_isSignOf [vI x0, vI x1] G D Q := by
  show Go E (d + 1) kc ks mX4_isSignOf 0 [some (vI x0), some (vI x1)] [] G D Q
  refine g_iload_n dX4_isSignOf_0 rfl rfl ?_
  refine g_bipush dX4_isSignOf_1 bp_86 ?_
  refine g_icmp_ne 11 dX4_isSignOf_3 (by decide) ⟨fun hc => ?_, fun hc => ?_⟩
  · replace h := h.1 hc
    refine g_iload_n dX4_isSignOf_11 rfl rfl ?_
    refine g_bipush dX4_isSignOf_12 bp_67 ?_
    refine g_icmp_ne 30 dX4_isSignOf_14 (by decide) ⟨fun hc => ?_, fun hc => ?_⟩
    · replace h := h.1 hc
      refine g_iload_n dX4_isSignOf_30 rfl rfl ?_
      refine g_bipush dX4_isSignOf_31 bp_97 ?_
      refine g_isub dX4_isSignOf_33 ?_
      refine g_iload_n dX4_isSignOf_34 rfl rfl ?_
      refine g_icmp_ne 42 dX4_isSignOf_35 (by decide) ⟨fun hc => ?_, fun hc => ?_⟩
      · replace h := h.1 hc
        refine g_iconst dX4_isSignOf_42 ?_
        exact g_zret dX4_isSignOf_43 rfl ⟨Or.inl rfl, h⟩
      · replace h := h.2 hc
        refine g_iconst dX4_isSignOf_38 ?_
        refine g_goto 43 dX4_isSignOf_39 (by decide) ?_
        exact g_zret dX4_isSignOf_43 rfl ⟨Or.inr rfl, h⟩
    · replace h := h.2 hc
      refine g_iload_n dX4_isSignOf_17 rfl rfl ?_
      refine g_callSN (kc := kc) (kc' := 0) (ks := ks) (ks' := 0) (as := [vI x1]) (st := []) dX4_isSignOf_18 cB_X11_isVowel mm_n78 st_X11_isVowel rfl (Nat.le_of_ble_eq_true rfl) (Nat.le_of_ble_eq_true rfl) ?_
      refine Go.to (fun r G' D1 hr => ?_) h
      obtain ⟨rfl, z2, rfl, h⟩ := hr
      show Go E (d + 1) kc ks mX4_isSignOf 21 [some (vI x0), some (vI x1)] [vI z2] G D1 Q
      refine g_if_ne 28 dX4_isSignOf_21 (by decide) ⟨fun hc => ?_, fun hc => ?_⟩
      · replace h := h.1 hc
        refine g_iconst dX4_isSignOf_28 ?_
        exact g_zret dX4_isSignOf_29 rfl ⟨Or.inl rfl, h⟩
      · replace h := h.2 hc
        refine g_iconst dX4_isSignOf_24 ?_
        refine g_goto 29 dX4_isSignOf_25 (by decide) ?_
        exact g_zret dX4_isSignOf_29 rfl ⟨Or.inr rfl, h⟩
  · replace h := h.2 hc
    refine g_iload_n dX4_isSignOf_6 rfl rfl ?_
    refine g_callSN (kc := kc) (kc' := 0) (ks := ks) (ks' := 0) (as := [vI x1]) (st := []) dX4_isSignOf_7 cB_X11_isVowel mm_n78 st_X11_isVowel rfl (Nat.le_of_ble_eq_true rfl) (Nat.le_of_ble_eq_true rfl) ?_
    refine Go.to (fun r G' D3 hr => ?_) h
    obtain ⟨rfl, z4, rfl, h⟩ := hr
    show Go E (d + 1) kc ks mX4_isSignOf 10 [some (vI x0), some (vI x1)] [vI z4] G D3 Q
    exact g_zret dX4_isSignOf_10 rfl h
set_option maxRecDepth 20000 in
theorem w_X7_leastCost {E : mmE} {d kc ks : Nat} {G : mmG} {D : mmD} {Q : mmQ} {r1 r2 : Int} (hG : Sh G) (hw1 : isW r1) (hw2 : isW r2) (h : Go E (d + 1) kc ks mX7_leastCost 5 [some (vR 9), some (vR r1), some (vR r2), some (vI (D r1 1)), none, none, none] [] G D Q) : Call E (d + 1) kc ks mX7_leastCost [vR 9, vR r1, vR r2] G D Q := by
  show Go E (d + 1) kc ks mX7_leastCost 0 [some (vR 9), some (vR r1), some (vR r2), none, none, none, none] [] G D Q
  refine g_aload_n dX7_leastCost_0 rfl rfl ?_
  refine h_getI (j := 1) dX7_leastCost_1 f_X7_18_9 rfl rfl (by decide) (hw1.k hG) hw1.ge (hw1.lt hG) ?_
  refine h_istore_n (L' := [some (vR 9), some (vR r1), some (vR r2), some (vI (D r1 1)), none, none, none]) dX7_leastCost_4 rfl (Nat.le_of_ble_eq_true rfl) rfl rfl ?_
  exact Go.drop (by simp only [mm_sub, and_self]) h
set_option maxRecDepth 20000 in
theorem w_X7_leastCost_5 {E : mmE} {d kc ks : Nat} {G : mmG} {D : mmD} {Q : mmQ} {r1 r2 x3 : Int} (hG : Sh G)  (h : ((iv x3 < iv 0 → Q (some (vI (D 10 0))) G D) ∧ (¬ iv x3 < iv 0 → (isW r2 ∧ Go E (d + 1) kc ks mX7_leastCost 15 [some (vR 9), some (vR r1), some (vR r2), some (vI x3), some (vI (D r2 1)), none, none] [] G D Q)))) : Go E (d + 1) kc ks mX7_leastCost 5 [some (vR 9), some (vR r1), some (vR r2), some (vI x3), none, none, none] [] G D Q := by
  refine g_iload_n dX7_leastCost_5 rfl rfl ?_
  refine g_if_lt 132 dX7_leastCost_6 (by decide) ⟨fun hc => ?_, fun hc => ?_⟩
  · replace h := h.1 hc
    refine g_aload_n dX7_leastCost_132 rfl rfl ?_
    refine h_getR (j := 0) dX7_leastCost_133 f_X7_11_6 rfl rfl (by decide) hG.k9 (by decide) (hG.lt (by decide)) hG.r9_0 ?_
    refine g_iconst dX7_leastCost_136 ?_
    refine g_iald dX7_leastCost_137 hG.k10 (by decide) (hG.lt (by decide)) (by decide) ⟨⟨by decide, by decide⟩, ?_⟩
    exact g_iret dX7_leastCost_138 rfl h
  · replace h := h.2 hc
    refine g_aload_n dX7_leastCost_9 rfl rfl ?_
    have hf1 := h.1
    replace h := h.2
    refine h_getI (j := 1) dX7_leastCost_10 f_X7_18_9 rfl rfl (by decide) (hf1.k hG) hf1.ge (hf1.lt hG) ?_
    refine h_istore (L' := [some (vR 9), some (vR r1), some (vR r2), some (vI x3), some (vI (D r2 1)), none, none]) dX7_leastCost_13 (Nat.le_of_ble_eq_true rfl) rfl rfl ?_
    exact Go.drop (by simp only [mm_sub, and_self]) h
set_option maxRecDepth 20000 in
theorem w_X7_leastCost_15 {E : mmE} {d kc ks : Nat} {G : mmG} {D : mmD} {Q : mmQ} {r1 r2 x3 x4 : Int} (hG : Sh G)  (h : ((iv x4 < iv 0 → Go E (d + 1) kc ks mX7_leastCost 5 [some (vR 9), some (vR r1), some (vR r2), some (vI (x3 + (-1))), none, none, none] [] G D Q) ∧ (¬ iv x4 < iv 0 → (isW r1 ∧ (isW r2 ∧ ((iv (D r1 1) ≤ iv x3 → ((0 ≤ ((x3 * 9) + x4) ∧ ((x3 * 9) + x4) < 81) ∧ (∀ D3 : mmD, D3 = up2 D 10 ((x3 * 9) + x4) (2 * ((((D r1 1) - x3) + (D r2 1)) - x4)) → Go E (d + 1) kc ks mX7_leastCost 15 [some (vR 9), some (vR r1), some (vR r2), some (vI x3), some (vI (x4 + (-1))), none, none] [] G D3 Q))) ∧ (¬ iv (D r1 1) ≤ iv x3 → ((iv (D r2 1) ≤ iv x4 → ((0 ≤ ((x3 * 9) + x4) ∧ ((x3 * 9) + x4) < 81) ∧ (∀ D4 : mmD, D4 = up2 D 10 ((x3 * 9) + x4) (2 * ((((D r1 1) - x3) + (D r2 1)) - x4)) → Go E (d + 1) kc ks mX7_leastCost 15 [some (vR 9), some (vR r1), some (vR r2), some (vI x3), some (vI (x4 + (-1))), none, none] [] G D4 Q))) ∧ (¬ iv (D r2 1) ≤ iv x4 → ((0 ≤ (((x3 + 1) * 9) + x4) ∧ (((x3 + 1) * 9) + x4) < 81) ∧ ((0 ≤ (((x3 * 9) + x4) + 1) ∧ (((x3 * 9) + x4) + 1) < 81) ∧ Call E d 0 0 mX7_costOfBoth [vR 9, vR r1, vR r2, vI x3, vI x4] G D (retI G (fun z6 D5 => ((0 ≤ ((x3 * 9) + x4) ∧ ((x3 * 9) + x4) < 81) ∧ (∀ D7 : mmD, D7 = up2 D5 10 ((x3 * 9) + x4) (if iv (2 + (if iv (D 10 (((x3 * 9) + x4) + 1)) < iv (D 10 (((x3 + 1) * 9) + x4)) then (D 10 (((x3 * 9) + x4) + 1)) else (D 10 (((x3 + 1) * 9) + x4)))) < iv z6 then (2 + (if iv (D 10 (((x3 * 9) + x4) + 1)) < iv (D 10 (((x3 + 1) * 9) + x4)) then (D 10 (((x3 * 9) + x4) + 1)) else (D 10 (((x3 + 1) * 9) + x4)))) else z6) → Go E (d + 1) kc ks mX7_leastCost 15 [some (vR 9), some (vR r1), some (vR r2), some (vI x3), some (vI (x4 + (-1))), none, none] [] G D7 Q))))))))))))))) : Go E (d + 1) kc ks mX7_leastCost 15 [some (vR 9), some (vR r1), some (vR r2), some (vI x3), some (vI x4), none, none] [] G D Q := by
  refine g_iload dX7_leastCost_15 rfl ?_
  refine g_if_lt 126 dX7_leastCost_17 (by decide) ⟨fun hc => ?_, fun hc => ?_⟩
  · replace h := h.1 hc
    refine h_iinc (L' := [some (vR 9), some (vR r1), some (vR r2), some (vI (x3 + (-1))), some (vI x4), none, none]) dX7_leastCost_126 (Nat.le_of_ble_eq_true rfl) rfl rfl rfl ?_
    refine g_goto 5 dX7_leastCost_129 (by decide) ?_
    exact Go.drop (by simp only [mm_sub, and_self]) h
  · replace h := h.2 hc
    refine g_iconst dX7_leastCost_20 ?_
    refine g_aload_n dX7_leastCost_21 rfl rfl ?_
    have hf1 := h.1
    replace h := h.2
    refine h_getI (j := 1) dX7_leastCost_22 f_X7_18_9 rfl rfl (by decide) (hf1.k hG) hf1.ge (hf1.lt hG) ?_
    refine g_iload_n dX7_leastCost_25 rfl rfl ?_
    refine g_isub dX7_leastCost_26 ?_
    refine g_aload_n dX7_leastCost_27 rfl rfl ?_
    have hf2 := h.1
    replace h := h.2
    refine h_getI (j := 1) dX7_leastCost_28 f_X7_18_9 rfl rfl (by decide) (hf2.k hG) hf2.ge (hf2.lt hG) ?_
    refine g_iadd dX7_leastCost_31 ?_
    refine g_iload dX7_leastCost_32 rfl ?_
    refine g_isub dX7_leastCost_34 ?_
    refine g_imul dX7_leastCost_35 ?_
    refine h_istore (L' := [some (vR 9), some (vR r1), some (vR r2), some (vI x3), some (vI x4), some (vI (2 * ((((D r1 1) - x3) + (D r2 1)) - x4))), none]) dX7_leastCost_36 (Nat.le_of_ble_eq_true rfl) rfl rfl ?_
    refine g_iload_n dX7_leastCost_38 rfl rfl ?_
    refine g_aload_n dX7_leastCost_39 rfl rfl ?_
    refine h_getI (j := 1) dX7_leastCost_40 f_X7_18_9 rfl rfl (by decide) (hf1.k hG) hf1.ge (hf1.lt hG) ?_
    refine g_icmp_ge 106 dX7_leastCost_43 (by decide) ⟨fun hc => ?_, fun hc => ?_⟩
    · replace h := h.1 hc
      refine g_aload_n dX7_leastCost_106 rfl rfl ?_
      refine h_getR (j := 0) dX7_leastCost_107 f_X7_11_6 rfl rfl (by decide) hG.k9 (by decide) (hG.lt (by decide)) hG.r9_0 ?_
      refine g_iload_n dX7_leastCost_110 rfl rfl ?_
      refine g_bipush dX7_leastCost_111 bp_9 ?_
      refine g_imul dX7_leastCost_113 ?_
      refine g_iload dX7_leastCost_114 rfl ?_
      refine g_iadd dX7_leastCost_116 ?_
      refine g_iload dX7_leastCost_117 rfl ?_
      refine g_iast dX7_leastCost_119 hG.k10 (by decide) (hG.lt (by decide)) (by decide) ⟨h.1, ?_⟩
      generalize hD_D3 : up2 D 10 ((x3 * 9) + x4) (2 * ((((D r1 1) - x3) + (D r2 1)) - x4)) = D3
      replace h := h.2 _ hD_D3.symm
      refine h_iinc (L' := [some (vR 9), some (vR r1), some (vR r2), some (vI x3), some (vI (x4 + (-1))), some (vI (2 * ((((D r1 1) - x3) + (D r2 1)) - x4))), none]) dX7_leastCost_120 (Nat.le_of_ble_eq_true rfl) rfl rfl rfl ?_
      refine g_goto 15 dX7_leastCost_123 (by decide) ?_
      exact Go.drop (by simp only [mm_sub, and_self]) h
    · replace h := h.2 hc
      refine g_iload dX7_leastCost_46 rfl ?_
      refine g_aload_n dX7_leastCost_48 rfl rfl ?_
      refine h_getI (j := 1) dX7_leastCost_49 f_X7_18_9 rfl rfl (by decide) (hf2.k hG) hf2.ge (hf2.lt hG) ?_
      refine g_icmp_ge 106 dX7_leastCost_52 (by decide) ⟨fun hc => ?_, fun hc => ?_⟩
      · replace h := h.1 hc
        refine g_aload_n dX7_leastCost_106 rfl rfl ?_
        refine h_getR (j := 0) dX7_leastCost_107 f_X7_11_6 rfl rfl (by decide) hG.k9 (by decide) (hG.lt (by decide)) hG.r9_0 ?_
        refine g_iload_n dX7_leastCost_110 rfl rfl ?_
        refine g_bipush dX7_leastCost_111 bp_9 ?_
        refine g_imul dX7_leastCost_113 ?_
        refine g_iload dX7_leastCost_114 rfl ?_
        refine g_iadd dX7_leastCost_116 ?_
        refine g_iload dX7_leastCost_117 rfl ?_
        refine g_iast dX7_leastCost_119 hG.k10 (by decide) (hG.lt (by decide)) (by decide) ⟨h.1, ?_⟩
        generalize hD_D4 : up2 D 10 ((x3 * 9) + x4) (2 * ((((D r1 1) - x3) + (D r2 1)) - x4)) = D4
        replace h := h.2 _ hD_D4.symm
        refine h_iinc (L' := [some (vR 9), some (vR r1), some (vR r2), some (vI x3), some (vI (x4 + (-1))), some (vI (2 * ((((D r1 1) - x3) + (D r2 1)) - x4))), none]) dX7_leastCost_120 (Nat.le_of_ble_eq_true rfl) rfl rfl rfl ?_
        refine g_goto 15 dX7_leastCost_123 (by decide) ?_
        exact Go.drop (by simp only [mm_sub, and_self]) h
      · replace h := h.2 hc
        refine g_iconst dX7_leastCost_55 ?_
        refine g_aload_n dX7_leastCost_56 rfl rfl ?_
        refine h_getR (j := 0) dX7_leastCost_57 f_X7_11_6 rfl rfl (by decide) hG.k9 (by decide) (hG.lt (by decide)) hG.r9_0 ?_
        refine g_iload_n dX7_leastCost_60 rfl rfl ?_
        refine g_iconst dX7_leastCost_61 ?_
        refine g_iadd dX7_leastCost_62 ?_
        refine g_bipush dX7_leastCost_63 bp_9 ?_
        refine g_imul dX7_leastCost_65 ?_
        refine g_iload dX7_leastCost_66 rfl ?_
        refine g_iadd dX7_leastCost_68 ?_
        refine g_iald dX7_leastCost_69 hG.k10 (by decide) (hG.lt (by decide)) (by decide) ⟨h.1, ?_⟩
        replace h := h.2
        refine g_aload_n dX7_leastCost_70 rfl rfl ?_
        refine h_getR (j := 0) dX7_leastCost_71 f_X7_11_6 rfl rfl (by decide) hG.k9 (by decide) (hG.lt (by decide)) hG.r9_0 ?_
        refine g_iload_n dX7_leastCost_74 rfl rfl ?_
        refine g_bipush dX7_leastCost_75 bp_9 ?_
        refine g_imul dX7_leastCost_77 ?_
        refine g_iload dX7_leastCost_78 rfl ?_
        refine g_iadd dX7_leastCost_80 ?_
        refine g_iconst dX7_leastCost_81 ?_
        refine g_iadd dX7_leastCost_82 ?_
        refine g_iald dX7_leastCost_83 hG.k10 (by decide) (hG.lt (by decide)) (by decide) ⟨h.1, ?_⟩
        replace h := h.2
        refine g_mmin dX7_leastCost_84 mx_X7_24 (Nat.le_of_ble_eq_true rfl) ?_
        refine g_iadd dX7_leastCost_87 ?_
        refine h_istore (L' := [some (vR 9), some (vR r1), some (vR r2), some (vI x3), some (vI x4), some (vI (2 * ((((D r1 1) - x3) + (D r2 1)) - x4))), some (vI (2 + (if iv (D 10 (((x3 * 9) + x4) + 1)) < iv (D 10 (((x3 + 1) * 9) + x4)) then (D 10 (((x3 * 9) + x4) + 1)) else (D 10 (((x3 + 1) * 9) + x4)))))]) dX7_leastCost_88 (Nat.le_of_ble_eq_true rfl) rfl rfl ?_
        refine g_aload_n dX7_leastCost_90 rfl rfl ?_
        refine g_aload_n dX7_leastCost_91 rfl rfl ?_
        refine g_aload_n dX7_leastCost_92 rfl rfl ?_
        refine g_iload_n dX7_leastCost_93 rfl rfl ?_
        refine g_iload dX7_leastCost_94 rfl ?_
        refine g_callV (kc := kc) (kc' := 0) (ks := ks) (ks' := 0) (as := [vR r1, vR r2, vI x3, vI x4]) (st := []) (ci := 6) dX7_leastCost_96 cB_X7_costOfBoth lk_X7_30 in_X7_costOfBoth se_X7_costOfBoth (by decide) rfl rfl (Nat.le_of_ble_eq_true rfl) (Nat.le_of_ble_eq_true rfl) (by decide) (hG.lt (by decide)) (congrArg Prod.fst hG.k9) ?_
        refine Go.to (fun r G' D5 hr => ?_) h
        obtain ⟨rfl, z6, rfl, h⟩ := hr
        show Go E (d + 1) kc ks mX7_leastCost 99 [some (vR 9), some (vR r1), some (vR r2), some (vI x3), some (vI x4), some (vI (2 * ((((D r1 1) - x3) + (D r2 1)) - x4))), some (vI (2 + (if iv (D 10 (((x3 * 9) + x4) + 1)) < iv (D 10 (((x3 + 1) * 9) + x4)) then (D 10 (((x3 * 9) + x4) + 1)) else (D 10 (((x3 + 1) * 9) + x4)))))] [vI z6] G D5 Q
        refine g_iload dX7_leastCost_99 rfl ?_
        refine g_mmin dX7_leastCost_101 mx_X7_24 (Nat.le_of_ble_eq_true rfl) ?_
        refine h_istore (L' := [some (vR 9), some (vR r1), some (vR r2), some (vI x3), some (vI x4), some (vI (if iv (2 + (if iv (D 10 (((x3 * 9) + x4) + 1)) < iv (D 10 (((x3 + 1) * 9) + x4)) then (D 10 (((x3 * 9) + x4) + 1)) else (D 10 (((x3 + 1) * 9) + x4)))) < iv z6 then (2 + (if iv (D 10 (((x3 * 9) + x4) + 1)) < iv (D 10 (((x3 + 1) * 9) + x4)) then (D 10 (((x3 * 9) + x4) + 1)) else (D 10 (((x3 + 1) * 9) + x4)))) else z6)), some (vI (2 + (if iv (D 10 (((x3 * 9) + x4) + 1)) < iv (D 10 (((x3 + 1) * 9) + x4)) then (D 10 (((x3 * 9) + x4) + 1)) else (D 10 (((x3 + 1) * 9) + x4)))))]) dX7_leastCost_104 (Nat.le_of_ble_eq_true rfl) rfl rfl ?_
        refine g_aload_n dX7_leastCost_106 rfl rfl ?_
        refine h_getR (j := 0) dX7_leastCost_107 f_X7_11_6 rfl rfl (by decide) hG.k9 (by decide) (hG.lt (by decide)) hG.r9_0 ?_
        refine g_iload_n dX7_leastCost_110 rfl rfl ?_
        refine g_bipush dX7_leastCost_111 bp_9 ?_
        refine g_imul dX7_leastCost_113 ?_
        refine g_iload dX7_leastCost_114 rfl ?_
        refine g_iadd dX7_leastCost_116 ?_
        refine g_iload dX7_leastCost_117 rfl ?_
        refine g_iast dX7_leastCost_119 hG.k10 (by decide) (hG.lt (by decide)) (by decide) ⟨h.1, ?_⟩
        generalize hD_D7 : up2 D5 10 ((x3 * 9) + x4) (if iv (2 + (if iv (D 10 (((x3 * 9) + x4) + 1)) < iv (D 10 (((x3 + 1) * 9) + x4)) then (D 10 (((x3 * 9) + x4) + 1)) else (D 10 (((x3 + 1) * 9) + x4)))) < iv z6 then (2 + (if iv (D 10 (((x3 * 9) + x4) + 1)) < iv (D 10 (((x3 + 1) * 9) + x4)) then (D 10 (((x3 * 9) + x4) + 1)) else (D 10 (((x3 + 1) * 9) + x4)))) else z6) = D7
        replace h := h.2 _ hD_D7.symm
        refine h_iinc (L' := [some (vR 9), some (vR r1), some (vR r2), some (vI x3), some (vI (x4 + (-1))), some (vI (if iv (2 + (if iv (D 10 (((x3 * 9) + x4) + 1)) < iv (D 10 (((x3 + 1) * 9) + x4)) then (D 10 (((x3 * 9) + x4) + 1)) else (D 10 (((x3 + 1) * 9) + x4)))) < iv z6 then (2 + (if iv (D 10 (((x3 * 9) + x4) + 1)) < iv (D 10 (((x3 + 1) * 9) + x4)) then (D 10 (((x3 * 9) + x4) + 1)) else (D 10 (((x3 + 1) * 9) + x4)))) else z6)), some (vI (2 + (if iv (D 10 (((x3 * 9) + x4) + 1)) < iv (D 10 (((x3 + 1) * 9) + x4)) then (D 10 (((x3 * 9) + x4) + 1)) else (D 10 (((x3 + 1) * 9) + x4)))))]) dX7_leastCost_120 (Nat.le_of_ble_eq_true rfl) rfl rfl rfl ?_
        refine g_goto 15 dX7_leastCost_123 (by decide) ?_
        exact Go.drop (by simp only [mm_sub, and_self]) h
set_option maxRecDepth 20000 in
theorem w_X7_costOfBoth {E : mmE} {d kc ks : Nat} {G : mmG} {D : mmD} {Q : mmQ} {r1 r2 x3 x4 : Int} (hG : Sh G) (hw1 : isW r1) (hw2 : isW r2) (h : ((0 ≤ x3 ∧ x3 < 8) ∧ ((0 ≤ x4 ∧ x4 < 8) ∧ ((0 ≤ ((((x3 + 1) * 9) + x4) + 1) ∧ ((((x3 + 1) * 9) + x4) + 1) < 81) ∧ ((¬ iv (D (r1 + 1) x3) = iv (D (r2 + 1) x4) → Call E d 0 0 mX11_isVowel [vI (D (r1 + 1) x3)] G D (retI G (fun z2 D1 => Call E d 0 0 mX11_isVowel [vI (D (r2 + 1) x4)] G D1 (retI G (fun z4 D3 => ((¬ iv z2 = iv z4 → Q (some (vI ((D 10 ((((x3 + 1) * 9) + x4) + 1)) + 3))) G D3) ∧ (iv z2 = iv z4 → Q (some (vI ((D 10 ((((x3 + 1) * 9) + x4) + 1)) + 1))) G D3))))))) ∧ (iv (D (r1 + 1) x3) = iv (D (r2 + 1) x4) → Q (some (vI (D 10 ((((x3 + 1) * 9) + x4) + 1)))) G D)))))) : Call E (d + 1) kc ks mX7_costOfBoth [vR 9, vR r1, vR r2, vI x3, vI x4] G D Q := by
  show Go E (d + 1) kc ks mX7_costOfBoth 0 [some (vR 9), some (vR r1), some (vR r2), some (vI x3), some (vI x4), none, none, none] [] G D Q
  refine g_aload_n dX7_costOfBoth_0 rfl rfl ?_
  refine h_getR (j := 0) dX7_costOfBoth_1 f_X7_34_9 rfl rfl (by decide) (hw1.k hG) hw1.ge (hw1.lt hG) (hw1.r hG) ?_
  refine g_iload_n dX7_costOfBoth_4 rfl rfl ?_
  refine g_iald dX7_costOfBoth_5 (hw1.ka hG) hw1.gea (hw1.lta hG) (by decide) ⟨h.1, ?_⟩
  replace h := h.2
  refine h_istore (L' := [some (vR 9), some (vR r1), some (vR r2), some (vI x3), some (vI x4), some (vI (D (r1 + 1) x3)), none, none]) dX7_costOfBoth_6 (Nat.le_of_ble_eq_true rfl) rfl rfl ?_
  refine g_aload_n dX7_costOfBoth_8 rfl rfl ?_
  refine h_getR (j := 0) dX7_costOfBoth_9 f_X7_34_9 rfl rfl (by decide) (hw2.k hG) hw2.ge (hw2.lt hG) (hw2.r hG) ?_
  refine g_iload dX7_costOfBoth_12 rfl ?_
  refine g_iald dX7_costOfBoth_14 (hw2.ka hG) hw2.gea (hw2.lta hG) (by decide) ⟨h.1, ?_⟩
  replace h := h.2
  refine h_istore (L' := [some (vR 9), some (vR r1), some (vR r2), some (vI x3), some (vI x4), some (vI (D (r1 + 1) x3)), some (vI (D (r2 + 1) x4)), none]) dX7_costOfBoth_15 (Nat.le_of_ble_eq_true rfl) rfl rfl ?_
  refine g_aload_n dX7_costOfBoth_17 rfl rfl ?_
  refine h_getR (j := 0) dX7_costOfBoth_18 f_X7_11_6 rfl rfl (by decide) hG.k9 (by decide) (hG.lt (by decide)) hG.r9_0 ?_
  refine g_iload_n dX7_costOfBoth_21 rfl rfl ?_
  refine g_iconst dX7_costOfBoth_22 ?_
  refine g_iadd dX7_costOfBoth_23 ?_
  refine g_bipush dX7_costOfBoth_24 bp_9 ?_
  refine g_imul dX7_costOfBoth_26 ?_
  refine g_iload dX7_costOfBoth_27 rfl ?_
  refine g_iadd dX7_costOfBoth_29 ?_
  refine g_iconst dX7_costOfBoth_30 ?_
  refine g_iadd dX7_costOfBoth_31 ?_
  refine g_iald dX7_costOfBoth_32 hG.k10 (by decide) (hG.lt (by decide)) (by decide) ⟨h.1, ?_⟩
  replace h := h.2
  refine h_istore (L' := [some (vR 9), some (vR r1), some (vR r2), some (vI x3), some (vI x4), some (vI (D (r1 + 1) x3)), some (vI (D (r2 + 1) x4)), some (vI (D 10 ((((x3 + 1) * 9) + x4) + 1)))]) dX7_costOfBoth_33 (Nat.le_of_ble_eq_true rfl) rfl rfl ?_
  refine g_iload dX7_costOfBoth_35 rfl ?_
  refine g_iload dX7_costOfBoth_37 rfl ?_
  refine g_icmp_ne 45 dX7_costOfBoth_39 (by decide) ⟨fun hc => ?_, fun hc => ?_⟩
  · replace h := h.1 hc
    refine g_iload dX7_costOfBoth_45 rfl ?_
    refine g_iload dX7_costOfBoth_47 rfl ?_
    refine g_callSN (kc := kc) (kc' := 0) (ks := ks) (ks' := 0) (as := [vI (D (r1 + 1) x3)]) (st := [vI (D 10 ((((x3 + 1) * 9) + x4) + 1))]) dX7_costOfBoth_49 cB_X11_isVowel mm_n37 st_X11_isVowel rfl (Nat.le_of_ble_eq_true rfl) (Nat.le_of_ble_eq_true rfl) ?_
    refine Go.to (fun r G' D1 hr => ?_) h
    obtain ⟨rfl, z2, rfl, h⟩ := hr
    show Go E (d + 1) kc ks mX7_costOfBoth 52 [some (vR 9), some (vR r1), some (vR r2), some (vI x3), some (vI x4), some (vI (D (r1 + 1) x3)), some (vI (D (r2 + 1) x4)), some (vI (D 10 ((((x3 + 1) * 9) + x4) + 1)))] [vI z2, vI (D 10 ((((x3 + 1) * 9) + x4) + 1))] G D1 Q
    refine g_iload dX7_costOfBoth_52 rfl ?_
    refine g_callSN (kc := kc) (kc' := 0) (ks := ks) (ks' := 0) (as := [vI (D (r2 + 1) x4)]) (st := [vI z2, vI (D 10 ((((x3 + 1) * 9) + x4) + 1))]) dX7_costOfBoth_54 cB_X11_isVowel mm_n37 st_X11_isVowel rfl (Nat.le_of_ble_eq_true rfl) (Nat.le_of_ble_eq_true rfl) ?_
    refine Go.to (fun r G' D3 hr => ?_) h
    obtain ⟨rfl, z4, rfl, h⟩ := hr
    show Go E (d + 1) kc ks mX7_costOfBoth 57 [some (vR 9), some (vR r1), some (vR r2), some (vI x3), some (vI x4), some (vI (D (r1 + 1) x3)), some (vI (D (r2 + 1) x4)), some (vI (D 10 ((((x3 + 1) * 9) + x4) + 1)))] [vI z4, vI z2, vI (D 10 ((((x3 + 1) * 9) + x4) + 1))] G D3 Q
    refine g_icmp_ne 64 dX7_costOfBoth_57 (by decide) ⟨fun hc => ?_, fun hc => ?_⟩
    · replace h := h.1 hc
      refine g_iconst dX7_costOfBoth_64 ?_
      refine g_iadd dX7_costOfBoth_65 ?_
      exact g_iret dX7_costOfBoth_66 rfl h
    · replace h := h.2 hc
      refine g_iconst dX7_costOfBoth_60 ?_
      refine g_goto 65 dX7_costOfBoth_61 (by decide) ?_
      refine g_iadd dX7_costOfBoth_65 ?_
      exact g_iret dX7_costOfBoth_66 rfl h
  · replace h := h.2 hc
    refine g_iload dX7_costOfBoth_42 rfl ?_
    exact g_iret dX7_costOfBoth_44 rfl h
set_option maxRecDepth 20000 in
theorem w_X7_lay {E : mmE} {d kc ks : Nat} {G : mmG} {D : mmD} {Q : mmQ} {r1 r2 : Int} (hG : Sh G) (hw1 : isW r1) (hw2 : isW r2) (h : Call E d 0 0 mX7_leastCost [vR 9, vR r1, vR r2] G D (retI G (fun z2 D1 => (∀ D3 : mmD, D3 = up2 D1 9 2 0 → Go E (d + 1) kc ks mX7_lay 17 [some (vR 9), some (vR r1), some (vR r2), some (vI 0), some (vI 0), none] [] G D3 Q)))) : Call E (d + 1) kc ks mX7_lay [vR 9, vR r1, vR r2] G D Q := by
  show Go E (d + 1) kc ks mX7_lay 0 [some (vR 9), some (vR r1), some (vR r2), none, none, none] [] G D Q
  refine g_aload_n dX7_lay_0 rfl rfl ?_
  refine g_aload_n dX7_lay_1 rfl rfl ?_
  refine g_aload_n dX7_lay_2 rfl rfl ?_
  refine g_callV (kc := kc) (kc' := 0) (ks := ks) (ks' := 0) (as := [vR r1, vR r2]) (st := []) (ci := 6) dX7_lay_3 cB_X7_leastCost lk_X7_41 in_X7_leastCost se_X7_leastCost (by decide) rfl rfl (Nat.le_of_ble_eq_true rfl) (Nat.le_of_ble_eq_true rfl) (by decide) (hG.lt (by decide)) (congrArg Prod.fst hG.k9) ?_
  refine Go.to (fun r G' D1 hr => ?_) h
  obtain ⟨rfl, z2, rfl, h⟩ := hr
  show Go E (d + 1) kc ks mX7_lay 6 [some (vR 9), some (vR r1), some (vR r2), none, none, none] [vI z2] G D1 Q
  refine g_pop dX7_lay_6 (fun _ h9 => by cases h9) ?_
  refine g_iconst dX7_lay_7 ?_
  refine h_istore_n (L' := [some (vR 9), some (vR r1), some (vR r2), some (vI 0), none, none]) dX7_lay_8 rfl (Nat.le_of_ble_eq_true rfl) rfl rfl ?_
  refine g_iconst dX7_lay_9 ?_
  refine h_istore (L' := [some (vR 9), some (vR r1), some (vR r2), some (vI 0), some (vI 0), none]) dX7_lay_10 (Nat.le_of_ble_eq_true rfl) rfl rfl ?_
  refine g_aload_n dX7_lay_12 rfl rfl ?_
  refine g_iconst dX7_lay_13 ?_
  refine h_putI (j := 2) dX7_lay_14 f_X7_45_6 (Or.inl (mm_finI (by decide +kernel))) rfl rfl (by decide) hG.k9 (by decide) (hG.lt (by decide)) ?_
  generalize hD_D3 : up2 D1 9 2 0 = D3
  replace h := h _ hD_D3.symm
  exact Go.drop (by simp only [mm_sub, and_self]) h
set_option maxRecDepth 20000 in
theorem w_X7_lay_17 {E : mmE} {d kc ks : Nat} {G : mmG} {D : mmD} {Q : mmQ} {r1 r2 x3 x4 : Int} (hG : Sh G)  (h : ((iv 16 ≤ iv (D 9 2) → Q none G D) ∧ (¬ iv 16 ≤ iv (D 9 2) → (isW r1 ∧ ((iv x3 < iv (D r1 1) → Go E (d + 1) kc ks mX7_lay 43 [some (vR 9), some (vR r1), some (vR r2), some (vI x3), some (vI x4), none] [] G D Q) ∧ (¬ iv x3 < iv (D r1 1) → (isW r2 ∧ ((iv (D r2 1) ≤ iv x4 → Q none G D) ∧ (¬ iv (D r2 1) ≤ iv x4 → Go E (d + 1) kc ks mX7_lay 43 [some (vR 9), some (vR r1), some (vR r2), some (vI x3), some (vI x4), none] [] G D Q))))))))) : Go E (d + 1) kc ks mX7_lay 17 [some (vR 9), some (vR r1), some (vR r2), some (vI x3), some (vI x4), none] [] G D Q := by
  refine g_aload_n dX7_lay_17 rfl rfl ?_
  refine h_getI (j := 2) dX7_lay_18 f_X7_45_6 rfl rfl (by decide) hG.k9 (by decide) (hG.lt (by decide)) ?_
  refine g_bipush dX7_lay_21 bp_16 ?_
  refine g_icmp_ge 225 dX7_lay_23 (by decide) ⟨fun hc => ?_, fun hc => ?_⟩
  · replace h := h.1 hc
    exact g_vret dX7_lay_225 rfl h
  · replace h := h.2 hc
    refine g_iload_n dX7_lay_26 rfl rfl ?_
    refine g_aload_n dX7_lay_27 rfl rfl ?_
    have hf1 := h.1
    replace h := h.2
    refine h_getI (j := 1) dX7_lay_28 f_X7_18_9 rfl rfl (by decide) (hf1.k hG) hf1.ge (hf1.lt hG) ?_
    refine g_icmp_lt 43 dX7_lay_31 (by decide) ⟨fun hc => ?_, fun hc => ?_⟩
    · replace h := h.1 hc
      exact Go.drop (by simp only [mm_sub, and_self]) h
    · replace h := h.2 hc
      refine g_iload dX7_lay_34 rfl ?_
      refine g_aload_n dX7_lay_36 rfl rfl ?_
      have hf2 := h.1
      replace h := h.2
      refine h_getI (j := 1) dX7_lay_37 f_X7_18_9 rfl rfl (by decide) (hf2.k hG) hf2.ge (hf2.lt hG) ?_
      refine g_icmp_ge 225 dX7_lay_40 (by decide) ⟨fun hc => ?_, fun hc => ?_⟩
      · replace h := h.1 hc
        exact g_vret dX7_lay_225 rfl h
      · replace h := h.2 hc
        exact Go.drop (by simp only [mm_sub, and_self]) h
set_option maxRecDepth 20000 in
theorem w_X7_lay_43 {E : mmE} {d kc ks : Nat} {G : mmG} {D : mmD} {Q : mmQ} {r1 r2 x3 x4 : Int} (hG : Sh G)  (h : ((0 ≤ ((x3 * 9) + x4) ∧ ((x3 * 9) + x4) < 81) ∧ (isW r1 ∧ ((iv (D r1 1) ≤ iv x3 → Go E (d + 1) kc ks mX7_lay 127 [some (vR 9), some (vR r1), some (vR r2), some (vI x3), some (vI x4), some (vI (D 10 ((x3 * 9) + x4)))] [] G D Q) ∧ (¬ iv (D r1 1) ≤ iv x3 → (isW r2 ∧ ((iv (D r2 1) ≤ iv x4 → Go E (d + 1) kc ks mX7_lay 127 [some (vR 9), some (vR r1), some (vR r2), some (vI x3), some (vI x4), some (vI (D 10 ((x3 * 9) + x4)))] [] G D Q) ∧ (¬ iv (D r2 1) ≤ iv x4 → Call E d 0 0 mX7_costOfBoth [vR 9, vR r1, vR r2, vI x3, vI x4] G D (retI G (fun z4 D3 => ((¬ iv z4 = iv (D 10 ((x3 * 9) + x4)) → Go E (d + 1) kc ks mX7_lay 127 [some (vR 9), some (vR r1), some (vR r2), some (vI x3), some (vI x4), some (vI (D 10 ((x3 * 9) + x4)))] [] G D3 Q) ∧ (iv z4 = iv (D 10 ((x3 * 9) + x4)) → ((0 ≤ x3 ∧ x3 < 8) ∧ ((0 ≤ x4 ∧ x4 < 8) ∧ ((0 ≤ (D3 9 2) ∧ (D3 9 2) < 16) ∧ (∀ D5 : mmD, D5 = up2 D3 11 (D3 9 2) (((100 * ((D3 (r1 + 1) x3) + 1)) + (D3 (r2 + 1) x4)) + 1) → (∀ D6 : mmD, D6 = up2 D5 9 2 ((D5 9 2) + 1) → Go E (d + 1) kc ks mX7_lay 17 [some (vR 9), some (vR r1), some (vR r2), some (vI (x3 + 1)), some (vI (x4 + 1)), none] [] G D6 Q))))))))))))))))) : Go E (d + 1) kc ks mX7_lay 43 [some (vR 9), some (vR r1), some (vR r2), some (vI x3), some (vI x4), none] [] G D Q := by
  refine g_aload_n dX7_lay_43 rfl rfl ?_
  refine h_getR (j := 0) dX7_lay_44 f_X7_11_6 rfl rfl (by decide) hG.k9 (by decide) (hG.lt (by decide)) hG.r9_0 ?_
  refine g_iload_n dX7_lay_47 rfl rfl ?_
  refine g_bipush dX7_lay_48 bp_9 ?_
  refine g_imul dX7_lay_50 ?_
  refine g_iload dX7_lay_51 rfl ?_
  refine g_iadd dX7_lay_53 ?_
  refine g_iald dX7_lay_54 hG.k10 (by decide) (hG.lt (by decide)) (by decide) ⟨h.1, ?_⟩
  replace h := h.2
  refine h_istore (L' := [some (vR 9), some (vR r1), some (vR r2), some (vI x3), some (vI x4), some (vI (D 10 ((x3 * 9) + x4)))]) dX7_lay_55 (Nat.le_of_ble_eq_true rfl) rfl rfl ?_
  refine g_iload_n dX7_lay_57 rfl rfl ?_
  refine g_aload_n dX7_lay_58 rfl rfl ?_
  have hf1 := h.1
  replace h := h.2
  refine h_getI (j := 1) dX7_lay_59 f_X7_18_9 rfl rfl (by decide) (hf1.k hG) hf1.ge (hf1.lt hG) ?_
  refine g_icmp_ge 127 dX7_lay_62 (by decide) ⟨fun hc => ?_, fun hc => ?_⟩
  · replace h := h.1 hc
    exact Go.drop (by simp only [mm_sub, and_self]) h
  · replace h := h.2 hc
    refine g_iload dX7_lay_65 rfl ?_
    refine g_aload_n dX7_lay_67 rfl rfl ?_
    have hf2 := h.1
    replace h := h.2
    refine h_getI (j := 1) dX7_lay_68 f_X7_18_9 rfl rfl (by decide) (hf2.k hG) hf2.ge (hf2.lt hG) ?_
    refine g_icmp_ge 127 dX7_lay_71 (by decide) ⟨fun hc => ?_, fun hc => ?_⟩
    · replace h := h.1 hc
      exact Go.drop (by simp only [mm_sub, and_self]) h
    · replace h := h.2 hc
      refine g_aload_n dX7_lay_74 rfl rfl ?_
      refine g_aload_n dX7_lay_75 rfl rfl ?_
      refine g_aload_n dX7_lay_76 rfl rfl ?_
      refine g_iload_n dX7_lay_77 rfl rfl ?_
      refine g_iload dX7_lay_78 rfl ?_
      refine g_callV (kc := kc) (kc' := 0) (ks := ks) (ks' := 0) (as := [vR r1, vR r2, vI x3, vI x4]) (st := []) (ci := 6) dX7_lay_80 cB_X7_costOfBoth lk_X7_30 in_X7_costOfBoth se_X7_costOfBoth (by decide) rfl rfl (Nat.le_of_ble_eq_true rfl) (Nat.le_of_ble_eq_true rfl) (by decide) (hG.lt (by decide)) (congrArg Prod.fst hG.k9) ?_
      refine Go.to (fun r G' D3 hr => ?_) h
      obtain ⟨rfl, z4, rfl, h⟩ := hr
      show Go E (d + 1) kc ks mX7_lay 83 [some (vR 9), some (vR r1), some (vR r2), some (vI x3), some (vI x4), some (vI (D 10 ((x3 * 9) + x4)))] [vI z4] G D3 Q
      refine g_iload dX7_lay_83 rfl ?_
      refine g_icmp_ne 127 dX7_lay_85 (by decide) ⟨fun hc => ?_, fun hc => ?_⟩
      · replace h := h.1 hc
        exact Go.drop (by simp only [mm_sub, and_self]) h
      · replace h := h.2 hc
        refine g_aload_n dX7_lay_88 rfl rfl ?_
        refine h_getR (j := 1) dX7_lay_89 f_X7_15_6 rfl rfl (by decide) hG.k9 (by decide) (hG.lt (by decide)) hG.r9_1 ?_
        refine g_aload_n dX7_lay_92 rfl rfl ?_
        refine h_getI (j := 2) dX7_lay_93 f_X7_45_6 rfl rfl (by decide) hG.k9 (by decide) (hG.lt (by decide)) ?_
        refine g_bipush dX7_lay_96 bp_100 ?_
        refine g_aload_n dX7_lay_98 rfl rfl ?_
        refine h_getR (j := 0) dX7_lay_99 f_X7_34_9 rfl rfl (by decide) (hf1.k hG) hf1.ge (hf1.lt hG) (hf1.r hG) ?_
        refine g_iload_n dX7_lay_102 rfl rfl ?_
        refine g_iald dX7_lay_103 (hf1.ka hG) hf1.gea (hf1.lta hG) (by decide) ⟨h.1, ?_⟩
        replace h := h.2
        refine g_iconst dX7_lay_104 ?_
        refine g_iadd dX7_lay_105 ?_
        refine g_imul dX7_lay_106 ?_
        refine g_aload_n dX7_lay_107 rfl rfl ?_
        refine h_getR (j := 0) dX7_lay_108 f_X7_34_9 rfl rfl (by decide) (hf2.k hG) hf2.ge (hf2.lt hG) (hf2.r hG) ?_
        refine g_iload dX7_lay_111 rfl ?_
        refine g_iald dX7_lay_113 (hf2.ka hG) hf2.gea (hf2.lta hG) (by decide) ⟨h.1, ?_⟩
        replace h := h.2
        refine g_iadd dX7_lay_114 ?_
        refine g_iconst dX7_lay_115 ?_
        refine g_iadd dX7_lay_116 ?_
        refine g_iast dX7_lay_117 hG.k11 (by decide) (hG.lt (by decide)) (by decide) ⟨h.1, ?_⟩
        generalize hD_D5 : up2 D3 11 (D3 9 2) (((100 * ((D3 (r1 + 1) x3) + 1)) + (D3 (r2 + 1) x4)) + 1) = D5
        replace h := h.2 _ hD_D5.symm
        refine h_iinc (L' := [some (vR 9), some (vR r1), some (vR r2), some (vI (x3 + 1)), some (vI x4), some (vI (D 10 ((x3 * 9) + x4)))]) dX7_lay_118 (Nat.le_of_ble_eq_true rfl) rfl rfl rfl ?_
        refine h_iinc (L' := [some (vR 9), some (vR r1), some (vR r2), some (vI (x3 + 1)), some (vI (x4 + 1)), some (vI (D 10 ((x3 * 9) + x4)))]) dX7_lay_121 (Nat.le_of_ble_eq_true rfl) rfl rfl rfl ?_
        refine g_goto 212 dX7_lay_124 (by decide) ?_
        refine g_aload_n dX7_lay_212 rfl rfl ?_
        refine g_dup dX7_lay_213 (fun _ h9 => by cases h9) ?_
        refine h_getI (j := 2) dX7_lay_214 f_X7_45_6 rfl rfl (by decide) hG.k9 (by decide) (hG.lt (by decide)) ?_
        refine g_iconst dX7_lay_217 ?_
        refine g_iadd dX7_lay_218 ?_
        refine h_putI (j := 2) dX7_lay_219 f_X7_45_6 (Or.inl (mm_finI (by decide +kernel))) rfl rfl (by decide) hG.k9 (by decide) (hG.lt (by decide)) ?_
        generalize hD_D6 : up2 D5 9 2 ((D5 9 2) + 1) = D6
        replace h := h _ hD_D6.symm
        refine g_goto 17 dX7_lay_222 (by decide) ?_
        exact Go.drop (by simp only [mm_sub, and_self]) h
set_option maxRecDepth 20000 in
theorem w_X7_lay_127 {E : mmE} {d kc ks : Nat} {G : mmG} {D : mmD} {Q : mmQ} {r1 r2 x3 x4 x5 : Int} (hG : Sh G)  (h : (isW r1 ∧ ((iv (D r1 1) ≤ iv x3 → (isW r2 ∧ ((iv (D r2 1) ≤ iv x4 → (∀ D3 : mmD, D3 = up2 D 9 2 ((D 9 2) + 1) → Go E (d + 1) kc ks mX7_lay 17 [some (vR 9), some (vR r1), some (vR r2), some (vI x3), some (vI x4), none] [] G D3 Q)) ∧ (¬ iv (D r2 1) ≤ iv x4 → ((0 ≤ x4 ∧ x4 < 8) ∧ ((0 ≤ (D 9 2) ∧ (D 9 2) < 16) ∧ (∀ D4 : mmD, D4 = up2 D 11 (D 9 2) ((D (r2 + 1) x4) + 1) → (∀ D5 : mmD, D5 = up2 D4 9 2 ((D4 9 2) + 1) → Go E (d + 1) kc ks mX7_lay 17 [some (vR 9), some (vR r1), some (vR r2), some (vI x3), some (vI (x4 + 1)), none] [] G D5 Q)))))))) ∧ (¬ iv (D r1 1) ≤ iv x3 → ((0 ≤ (((x3 + 1) * 9) + x4) ∧ (((x3 + 1) * 9) + x4) < 81) ∧ ((¬ iv (2 + (D 10 (((x3 + 1) * 9) + x4))) = iv x5 → (isW r2 ∧ ((iv (D r2 1) ≤ iv x4 → (∀ D7 : mmD, D7 = up2 D 9 2 ((D 9 2) + 1) → Go E (d + 1) kc ks mX7_lay 17 [some (vR 9), some (vR r1), some (vR r2), some (vI x3), some (vI x4), none] [] G D7 Q)) ∧ (¬ iv (D r2 1) ≤ iv x4 → ((0 ≤ x4 ∧ x4 < 8) ∧ ((0 ≤ (D 9 2) ∧ (D 9 2) < 16) ∧ (∀ D8 : mmD, D8 = up2 D 11 (D 9 2) ((D (r2 + 1) x4) + 1) → (∀ D9 : mmD, D9 = up2 D8 9 2 ((D8 9 2) + 1) → Go E (d + 1) kc ks mX7_lay 17 [some (vR 9), some (vR r1), some (vR r2), some (vI x3), some (vI (x4 + 1)), none] [] G D9 Q)))))))) ∧ (iv (2 + (D 10 (((x3 + 1) * 9) + x4))) = iv x5 → ((0 ≤ x3 ∧ x3 < 8) ∧ ((0 ≤ (D 9 2) ∧ (D 9 2) < 16) ∧ (∀ D10 : mmD, D10 = up2 D 11 (D 9 2) (100 * ((D (r1 + 1) x3) + 1)) → (∀ D11 : mmD, D11 = up2 D10 9 2 ((D10 9 2) + 1) → Go E (d + 1) kc ks mX7_lay 17 [some (vR 9), some (vR r1), some (vR r2), some (vI (x3 + 1)), some (vI x4), none] [] G D11 Q))))))))))) : Go E (d + 1) kc ks mX7_lay 127 [some (vR 9), some (vR r1), some (vR r2), some (vI x3), some (vI x4), some (vI x5)] [] G D Q := by
  refine g_iload_n dX7_lay_127 rfl rfl ?_
  refine g_aload_n dX7_lay_128 rfl rfl ?_
  have hf1 := h.1
  replace h := h.2
  refine h_getI (j := 1) dX7_lay_129 f_X7_18_9 rfl rfl (by decide) (hf1.k hG) hf1.ge (hf1.lt hG) ?_
  refine g_icmp_ge 182 dX7_lay_132 (by decide) ⟨fun hc => ?_, fun hc => ?_⟩
  · replace h := h.1 hc
    refine g_iload dX7_lay_182 rfl ?_
    refine g_aload_n dX7_lay_184 rfl rfl ?_
    have hf2 := h.1
    replace h := h.2
    refine h_getI (j := 1) dX7_lay_185 f_X7_18_9 rfl rfl (by decide) (hf2.k hG) hf2.ge (hf2.lt hG) ?_
    refine g_icmp_ge 212 dX7_lay_188 (by decide) ⟨fun hc => ?_, fun hc => ?_⟩
    · replace h := h.1 hc
      refine g_aload_n dX7_lay_212 rfl rfl ?_
      refine g_dup dX7_lay_213 (fun _ h9 => by cases h9) ?_
      refine h_getI (j := 2) dX7_lay_214 f_X7_45_6 rfl rfl (by decide) hG.k9 (by decide) (hG.lt (by decide)) ?_
      refine g_iconst dX7_lay_217 ?_
      refine g_iadd dX7_lay_218 ?_
      refine h_putI (j := 2) dX7_lay_219 f_X7_45_6 (Or.inl (mm_finI (by decide +kernel))) rfl rfl (by decide) hG.k9 (by decide) (hG.lt (by decide)) ?_
      generalize hD_D3 : up2 D 9 2 ((D 9 2) + 1) = D3
      replace h := h _ hD_D3.symm
      refine g_goto 17 dX7_lay_222 (by decide) ?_
      exact Go.drop (by simp only [mm_sub, and_self]) h
    · replace h := h.2 hc
      refine g_aload_n dX7_lay_191 rfl rfl ?_
      refine h_getR (j := 1) dX7_lay_192 f_X7_15_6 rfl rfl (by decide) hG.k9 (by decide) (hG.lt (by decide)) hG.r9_1 ?_
      refine g_aload_n dX7_lay_195 rfl rfl ?_
      refine h_getI (j := 2) dX7_lay_196 f_X7_45_6 rfl rfl (by decide) hG.k9 (by decide) (hG.lt (by decide)) ?_
      refine g_aload_n dX7_lay_199 rfl rfl ?_
      refine h_getR (j := 0) dX7_lay_200 f_X7_34_9 rfl rfl (by decide) (hf2.k hG) hf2.ge (hf2.lt hG) (hf2.r hG) ?_
      refine g_iload dX7_lay_203 rfl ?_
      refine g_iald dX7_lay_205 (hf2.ka hG) hf2.gea (hf2.lta hG) (by decide) ⟨h.1, ?_⟩
      replace h := h.2
      refine g_iconst dX7_lay_206 ?_
      refine g_iadd dX7_lay_207 ?_
      refine g_iast dX7_lay_208 hG.k11 (by decide) (hG.lt (by decide)) (by decide) ⟨h.1, ?_⟩
      generalize hD_D4 : up2 D 11 (D 9 2) ((D (r2 + 1) x4) + 1) = D4
      replace h := h.2 _ hD_D4.symm
      refine h_iinc (L' := [some (vR 9), some (vR r1), some (vR r2), some (vI x3), some (vI (x4 + 1)), some (vI x5)]) dX7_lay_209 (Nat.le_of_ble_eq_true rfl) rfl rfl rfl ?_
      refine g_aload_n dX7_lay_212 rfl rfl ?_
      refine g_dup dX7_lay_213 (fun _ h9 => by cases h9) ?_
      refine h_getI (j := 2) dX7_lay_214 f_X7_45_6 rfl rfl (by decide) hG.k9 (by decide) (hG.lt (by decide)) ?_
      refine g_iconst dX7_lay_217 ?_
      refine g_iadd dX7_lay_218 ?_
      refine h_putI (j := 2) dX7_lay_219 f_X7_45_6 (Or.inl (mm_finI (by decide +kernel))) rfl rfl (by decide) hG.k9 (by decide) (hG.lt (by decide)) ?_
      generalize hD_D5 : up2 D4 9 2 ((D4 9 2) + 1) = D5
      replace h := h _ hD_D5.symm
      refine g_goto 17 dX7_lay_222 (by decide) ?_
      exact Go.drop (by simp only [mm_sub, and_self]) h
  · replace h := h.2 hc
    refine g_iconst dX7_lay_135 ?_
    refine g_aload_n dX7_lay_136 rfl rfl ?_
    refine h_getR (j := 0) dX7_lay_137 f_X7_11_6 rfl rfl (by decide) hG.k9 (by decide) (hG.lt (by decide)) hG.r9_0 ?_
    refine g_iload_n dX7_lay_140 rfl rfl ?_
    refine g_iconst dX7_lay_141 ?_
    refine g_iadd dX7_lay_142 ?_
    refine g_bipush dX7_lay_143 bp_9 ?_
    refine g_imul dX7_lay_145 ?_
    refine g_iload dX7_lay_146 rfl ?_
    refine g_iadd dX7_lay_148 ?_
    refine g_iald dX7_lay_149 hG.k10 (by decide) (hG.lt (by decide)) (by decide) ⟨h.1, ?_⟩
    replace h := h.2
    refine g_iadd dX7_lay_150 ?_
    refine g_iload dX7_lay_151 rfl ?_
    refine g_icmp_ne 182 dX7_lay_153 (by decide) ⟨fun hc => ?_, fun hc => ?_⟩
    · replace h := h.1 hc
      refine g_iload dX7_lay_182 rfl ?_
      refine g_aload_n dX7_lay_184 rfl rfl ?_
      have hf6 := h.1
      replace h := h.2
      refine h_getI (j := 1) dX7_lay_185 f_X7_18_9 rfl rfl (by decide) (hf6.k hG) hf6.ge (hf6.lt hG) ?_
      refine g_icmp_ge 212 dX7_lay_188 (by decide) ⟨fun hc => ?_, fun hc => ?_⟩
      · replace h := h.1 hc
        refine g_aload_n dX7_lay_212 rfl rfl ?_
        refine g_dup dX7_lay_213 (fun _ h9 => by cases h9) ?_
        refine h_getI (j := 2) dX7_lay_214 f_X7_45_6 rfl rfl (by decide) hG.k9 (by decide) (hG.lt (by decide)) ?_
        refine g_iconst dX7_lay_217 ?_
        refine g_iadd dX7_lay_218 ?_
        refine h_putI (j := 2) dX7_lay_219 f_X7_45_6 (Or.inl (mm_finI (by decide +kernel))) rfl rfl (by decide) hG.k9 (by decide) (hG.lt (by decide)) ?_
        generalize hD_D7 : up2 D 9 2 ((D 9 2) + 1) = D7
        replace h := h _ hD_D7.symm
        refine g_goto 17 dX7_lay_222 (by decide) ?_
        exact Go.drop (by simp only [mm_sub, and_self]) h
      · replace h := h.2 hc
        refine g_aload_n dX7_lay_191 rfl rfl ?_
        refine h_getR (j := 1) dX7_lay_192 f_X7_15_6 rfl rfl (by decide) hG.k9 (by decide) (hG.lt (by decide)) hG.r9_1 ?_
        refine g_aload_n dX7_lay_195 rfl rfl ?_
        refine h_getI (j := 2) dX7_lay_196 f_X7_45_6 rfl rfl (by decide) hG.k9 (by decide) (hG.lt (by decide)) ?_
        refine g_aload_n dX7_lay_199 rfl rfl ?_
        refine h_getR (j := 0) dX7_lay_200 f_X7_34_9 rfl rfl (by decide) (hf6.k hG) hf6.ge (hf6.lt hG) (hf6.r hG) ?_
        refine g_iload dX7_lay_203 rfl ?_
        refine g_iald dX7_lay_205 (hf6.ka hG) hf6.gea (hf6.lta hG) (by decide) ⟨h.1, ?_⟩
        replace h := h.2
        refine g_iconst dX7_lay_206 ?_
        refine g_iadd dX7_lay_207 ?_
        refine g_iast dX7_lay_208 hG.k11 (by decide) (hG.lt (by decide)) (by decide) ⟨h.1, ?_⟩
        generalize hD_D8 : up2 D 11 (D 9 2) ((D (r2 + 1) x4) + 1) = D8
        replace h := h.2 _ hD_D8.symm
        refine h_iinc (L' := [some (vR 9), some (vR r1), some (vR r2), some (vI x3), some (vI (x4 + 1)), some (vI x5)]) dX7_lay_209 (Nat.le_of_ble_eq_true rfl) rfl rfl rfl ?_
        refine g_aload_n dX7_lay_212 rfl rfl ?_
        refine g_dup dX7_lay_213 (fun _ h9 => by cases h9) ?_
        refine h_getI (j := 2) dX7_lay_214 f_X7_45_6 rfl rfl (by decide) hG.k9 (by decide) (hG.lt (by decide)) ?_
        refine g_iconst dX7_lay_217 ?_
        refine g_iadd dX7_lay_218 ?_
        refine h_putI (j := 2) dX7_lay_219 f_X7_45_6 (Or.inl (mm_finI (by decide +kernel))) rfl rfl (by decide) hG.k9 (by decide) (hG.lt (by decide)) ?_
        generalize hD_D9 : up2 D8 9 2 ((D8 9 2) + 1) = D9
        replace h := h _ hD_D9.symm
        refine g_goto 17 dX7_lay_222 (by decide) ?_
        exact Go.drop (by simp only [mm_sub, and_self]) h
    · replace h := h.2 hc
      refine g_aload_n dX7_lay_156 rfl rfl ?_
      refine h_getR (j := 1) dX7_lay_157 f_X7_15_6 rfl rfl (by decide) hG.k9 (by decide) (hG.lt (by decide)) hG.r9_1 ?_
      refine g_aload_n dX7_lay_160 rfl rfl ?_
      refine h_getI (j := 2) dX7_lay_161 f_X7_45_6 rfl rfl (by decide) hG.k9 (by decide) (hG.lt (by decide)) ?_
      refine g_bipush dX7_lay_164 bp_100 ?_
      refine g_aload_n dX7_lay_166 rfl rfl ?_
      refine h_getR (j := 0) dX7_lay_167 f_X7_34_9 rfl rfl (by decide) (hf1.k hG) hf1.ge (hf1.lt hG) (hf1.r hG) ?_
      refine g_iload_n dX7_lay_170 rfl rfl ?_
      refine g_iald dX7_lay_171 (hf1.ka hG) hf1.gea (hf1.lta hG) (by decide) ⟨h.1, ?_⟩
      replace h := h.2
      refine g_iconst dX7_lay_172 ?_
      refine g_iadd dX7_lay_173 ?_
      refine g_imul dX7_lay_174 ?_
      refine g_iast dX7_lay_175 hG.k11 (by decide) (hG.lt (by decide)) (by decide) ⟨h.1, ?_⟩
      generalize hD_D10 : up2 D 11 (D 9 2) (100 * ((D (r1 + 1) x3) + 1)) = D10
      replace h := h.2 _ hD_D10.symm
      refine h_iinc (L' := [some (vR 9), some (vR r1), some (vR r2), some (vI (x3 + 1)), some (vI x4), some (vI x5)]) dX7_lay_176 (Nat.le_of_ble_eq_true rfl) rfl rfl rfl ?_
      refine g_goto 212 dX7_lay_179 (by decide) ?_
      refine g_aload_n dX7_lay_212 rfl rfl ?_
      refine g_dup dX7_lay_213 (fun _ h9 => by cases h9) ?_
      refine h_getI (j := 2) dX7_lay_214 f_X7_45_6 rfl rfl (by decide) hG.k9 (by decide) (hG.lt (by decide)) ?_
      refine g_iconst dX7_lay_217 ?_
      refine g_iadd dX7_lay_218 ?_
      refine h_putI (j := 2) dX7_lay_219 f_X7_45_6 (Or.inl (mm_finI (by decide +kernel))) rfl rfl (by decide) hG.k9 (by decide) (hG.lt (by decide)) ?_
      generalize hD_D11 : up2 D10 9 2 ((D10 9 2) + 1) = D11
      replace h := h _ hD_D11.symm
      refine g_goto 17 dX7_lay_222 (by decide) ?_
      exact Go.drop (by simp only [mm_sub, and_self]) h
set_option maxRecDepth 20000 in
theorem w_X7_hasPair {E : mmE} {d kc ks : Nat} {G : mmG} {D : mmD} {Q : mmQ} {x1 : Int} (hG : Sh G)  (h : Go E d kc ks mX7_hasPair 2 [some (vR 9), some (vI x1), some (vI 0)] [] G D Q) : Call E d kc ks mX7_hasPair [vR 9, vI x1] G D Q := by
  show Go E d kc ks mX7_hasPair 0 [some (vR 9), some (vI x1), none] [] G D Q
  refine g_iconst dX7_hasPair_0 ?_
  refine h_istore_n (L' := [some (vR 9), some (vI x1), some (vI 0)]) dX7_hasPair_1 rfl (Nat.le_of_ble_eq_true rfl) rfl rfl ?_
  exact Go.drop (by simp only [mm_sub, and_self]) h
set_option maxRecDepth 20000 in
theorem w_X7_hasPair_2 {E : mmE} {d kc ks : Nat} {G : mmG} {D : mmD} {Q : mmQ} {x1 x2 : Int} (hG : Sh G)  (h : ((iv (D 9 2) ≤ iv x2 → Q (some (vI 0)) G D) ∧ (¬ iv (D 9 2) ≤ iv x2 → ((0 ≤ x2 ∧ x2 < 16) ∧ ((¬ iv (D 11 x2) = iv x1 → Go E d kc ks mX7_hasPair 2 [some (vR 9), some (vI x1), some (vI (x2 + 1))] [] G D Q) ∧ (iv (D 11 x2) = iv x1 → Q (some (vI 1)) G D)))))) : Go E d kc ks mX7_hasPair 2 [some (vR 9), some (vI x1), some (vI x2)] [] G D Q := by
  refine g_iload_n dX7_hasPair_2 rfl rfl ?_
  refine g_aload_n dX7_hasPair_3 rfl rfl ?_
  refine h_getI (j := 2) dX7_hasPair_4 f_X7_45_6 rfl rfl (by decide) hG.k9 (by decide) (hG.lt (by decide)) ?_
  refine g_icmp_ge 28 dX7_hasPair_7 (by decide) ⟨fun hc => ?_, fun hc => ?_⟩
  · replace h := h.1 hc
    refine g_iconst dX7_hasPair_28 ?_
    exact g_zret dX7_hasPair_29 rfl ⟨Or.inl rfl, h⟩
  · replace h := h.2 hc
    refine g_aload_n dX7_hasPair_10 rfl rfl ?_
    refine h_getR (j := 1) dX7_hasPair_11 f_X7_15_6 rfl rfl (by decide) hG.k9 (by decide) (hG.lt (by decide)) hG.r9_1 ?_
    refine g_iload_n dX7_hasPair_14 rfl rfl ?_
    refine g_iald dX7_hasPair_15 hG.k11 (by decide) (hG.lt (by decide)) (by decide) ⟨h.1, ?_⟩
    replace h := h.2
    refine g_iload_n dX7_hasPair_16 rfl rfl ?_
    refine g_icmp_ne 22 dX7_hasPair_17 (by decide) ⟨fun hc => ?_, fun hc => ?_⟩
    · replace h := h.1 hc
      refine h_iinc (L' := [some (vR 9), some (vI x1), some (vI (x2 + 1))]) dX7_hasPair_22 (Nat.le_of_ble_eq_true rfl) rfl rfl rfl ?_
      refine g_goto 2 dX7_hasPair_25 (by decide) ?_
      exact Go.drop (by simp only [mm_sub, and_self]) h
    · replace h := h.2 hc
      refine g_iconst dX7_hasPair_20 ?_
      exact g_zret dX7_hasPair_21 rfl ⟨Or.inr rfl, h⟩
set_option maxRecDepth 20000 in
theorem w_X0_whenSet {E : mmE} {d kc ks : Nat} {G : mmG} {D : mmD} {Q : mmQ} {x0 : Int} (hG : Sh G)  (h : Q (some (vI (if iv 1 < iv ((2 * x0) - 3) then ((2 * x0) - 3) else 1))) G D) : Call E (d + 1) kc ks mX0_whenSet [vI x0] G D Q := by
  show Go E (d + 1) kc ks mX0_whenSet 0 [some (vI x0)] [] G D Q
  refine g_iconst dX0_whenSet_0 ?_
  refine g_iconst dX0_whenSet_1 ?_
  refine g_iload_n dX0_whenSet_2 rfl rfl ?_
  refine g_imul dX0_whenSet_3 ?_
  refine g_iconst dX0_whenSet_4 ?_
  refine g_isub dX0_whenSet_5 ?_
  refine g_mmax dX0_whenSet_6 mx_X0_27 (Nat.le_of_ble_eq_true rfl) ?_
  exact g_iret dX0_whenSet_9 rfl h
set_option maxRecDepth 20000 in
theorem w_X0_hang {E : mmE} {d kc ks : Nat} {G : mmG} {D : mmD} {Q : mmQ} {x1 x2 x3 : Int} (hG : Sh G)  (h : Go E d kc ks mX0_hang 3 [some (vR 12), some (vI x1), some (vI x2), some (vI x3), some (vI 0)] [] G D Q) : Call E d kc ks mX0_hang [vR 12, vI x1, vI x2, vI x3] G D Q := by
  show Go E d kc ks mX0_hang 0 [some (vR 12), some (vI x1), some (vI x2), some (vI x3), none] [] G D Q
  refine g_iconst dX0_hang_0 ?_
  refine h_istore (L' := [some (vR 12), some (vI x1), some (vI x2), some (vI x3), some (vI 0)]) dX0_hang_1 (Nat.le_of_ble_eq_true rfl) rfl rfl ?_
  exact Go.drop (by simp only [mm_sub, and_self]) h
set_option maxRecDepth 20000 in
theorem w_X0_hang_3 {E : mmE} {d kc ks : Nat} {G : mmG} {D : mmD} {Q : mmQ} {x1 x2 x3 x4 : Int} (hG : Sh G)  (h : ((iv 6 ≤ iv x4 → Q none G D) ∧ (¬ iv 6 ≤ iv x4 → ((iv (iand (ishr x2 x4) 1) = iv 0 → Go E d kc ks mX0_hang 3 [some (vR 12), some (vI x1), some (vI x2), some (vI x3), some (vI (x4 + 1))] [] G D Q) ∧ (¬ iv (iand (ishr x2 x4) 1) = iv 0 → ((0 ≤ ((x1 * 6) + x4) ∧ ((x1 * 6) + x4) < 60) ∧ (∀ D1 : mmD, D1 = up2 D 16 ((x1 * 6) + x4) x3 → Go E d kc ks mX0_hang 3 [some (vR 12), some (vI x1), some (vI x2), some (vI x3), some (vI (x4 + 1))] [] G D1 Q))))))) : Go E d kc ks mX0_hang 3 [some (vR 12), some (vI x1), some (vI x2), some (vI x3), some (vI x4)] [] G D Q := by
  refine g_iload dX0_hang_3 rfl ?_
  refine g_bipush dX0_hang_5 bp_6 ?_
  refine g_icmp_ge 38 dX0_hang_7 (by decide) ⟨fun hc => ?_, fun hc => ?_⟩
  · replace h := h.1 hc
    exact g_vret dX0_hang_38 rfl h
  · replace h := h.2 hc
    refine g_iload_n dX0_hang_10 rfl rfl ?_
    refine g_iload dX0_hang_11 rfl ?_
    refine g_ishr dX0_hang_13 ?_
    refine g_iconst dX0_hang_14 ?_
    refine g_iand dX0_hang_15 ?_
    refine g_if_eq 32 dX0_hang_16 (by decide) ⟨fun hc => ?_, fun hc => ?_⟩
    · replace h := h.1 hc
      refine h_iinc (L' := [some (vR 12), some (vI x1), some (vI x2), some (vI x3), some (vI (x4 + 1))]) dX0_hang_32 (Nat.le_of_ble_eq_true rfl) rfl rfl rfl ?_
      refine g_goto 3 dX0_hang_35 (by decide) ?_
      exact Go.drop (by simp only [mm_sub, and_self]) h
    · replace h := h.2 hc
      refine g_aload_n dX0_hang_19 rfl rfl ?_
      refine h_getR (j := 4) dX0_hang_20 f_X0_21_0 rfl rfl (by decide) hG.k12 (by decide) (hG.lt (by decide)) hG.r12_4 ?_
      refine g_iload_n dX0_hang_23 rfl rfl ?_
      refine g_bipush dX0_hang_24 bp_6 ?_
      refine g_imul dX0_hang_26 ?_
      refine g_iload dX0_hang_27 rfl ?_
      refine g_iadd dX0_hang_29 ?_
      refine g_iload_n dX0_hang_30 rfl rfl ?_
      refine g_iast dX0_hang_31 hG.k16 (by decide) (hG.lt (by decide)) (by decide) ⟨h.1, ?_⟩
      generalize hD_D1 : up2 D 16 ((x1 * 6) + x4) x3 = D1
      replace h := h.2 _ hD_D1.symm
      refine h_iinc (L' := [some (vR 12), some (vI x1), some (vI x2), some (vI x3), some (vI (x4 + 1))]) dX0_hang_32 (Nat.le_of_ble_eq_true rfl) rfl rfl rfl ?_
      refine g_goto 3 dX0_hang_35 (by decide) ?_
      exact Go.drop (by simp only [mm_sub, and_self]) h
set_option maxRecDepth 20000 in
theorem w_X0_grow {E : mmE} {d kc ks : Nat} {G : mmG} {D : mmD} {Q : mmQ} {x1 x2 : Int} (hG : Sh G)  (h : (∀ D1 : mmD, D1 = up2 D 12 2 0 → Go E (d + 1) kc ks mX0_grow 10 [some (vR 12), some (vI x1), some (vI x2), some (vI 0), some (vI 0)] [] G D1 Q)) : Call E (d + 1) kc ks mX0_grow [vR 12, vI x1, vI x2] G D Q := by
  show Go E (d + 1) kc ks mX0_grow 0 [some (vR 12), some (vI x1), some (vI x2), none, none] [] G D Q
  refine g_aload_n dX0_grow_0 rfl rfl ?_
  refine g_iconst dX0_grow_1 ?_
  refine h_putI (j := 2) dX0_grow_2 f_X0_33_0 (Or.inl (mm_finI (by decide +kernel))) rfl rfl (by decide) hG.k12 (by decide) (hG.lt (by decide)) ?_
  generalize hD_D1 : up2 D 12 2 0 = D1
  replace h := h _ hD_D1.symm
  refine g_iconst dX0_grow_5 ?_
  refine h_istore_n (L' := [some (vR 12), some (vI x1), some (vI x2), some (vI 0), none]) dX0_grow_6 rfl (Nat.le_of_ble_eq_true rfl) rfl rfl ?_
  refine g_iconst dX0_grow_7 ?_
  refine h_istore (L' := [some (vR 12), some (vI x1), some (vI x2), some (vI 0), some (vI 0)]) dX0_grow_8 (Nat.le_of_ble_eq_true rfl) rfl rfl ?_
  exact Go.drop (by simp only [mm_sub, and_self]) h
set_option maxRecDepth 20000 in
theorem w_X0_grow_10 {E : mmE} {d kc ks : Nat} {G : mmG} {D : mmD} {Q : mmQ} {x1 x2 x3 x4 : Int} (hG : Sh G)  (h : ((iv 6 ≤ iv x4 → Call E d 0 0 mX0_orderOutward [vR 12] G D (retV G (fun D1 => Q none G D1))) ∧ (¬ iv 6 ≤ iv x4 → ((iv (iand (ishr x1 x4) 1) = iv 0 → Go E (d + 1) kc ks mX0_grow 10 [some (vR 12), some (vI x1), some (vI x2), some (vI x3), some (vI (x4 + 1))] [] G D Q) ∧ (¬ iv (iand (ishr x1 x4) 1) = iv 0 → ((iv 3 ≤ iv x3 → Call E d 0 0 mX0_digit [vI x1, vI x2, vI x3] G D (retI G (fun z4 D3 => Call E d 0 0 mX0_setOn [vR 12, vI z4, vI x4, vI ((6 + x3) - 2)] G D3 (retV G (fun D5 => Go E (d + 1) kc ks mX0_grow 10 [some (vR 12), some (vI x1), some (vI x2), some (vI (x3 + 1)), some (vI (x4 + 1))] [] G D5 Q))))) ∧ (¬ iv 3 ≤ iv x3 → Call E d 0 0 mX0_add [vR 12, vI 6, vI x4] G D (retV G (fun D7 => Go E (d + 1) kc ks mX0_grow 10 [some (vR 12), some (vI x1), some (vI x2), some (vI (x3 + 1)), some (vI (x4 + 1))] [] G D7 Q))))))))) : Go E (d + 1) kc ks mX0_grow 10 [some (vR 12), some (vI x1), some (vI x2), some (vI x3), some (vI x4)] [] G D Q := by
  refine g_iload dX0_grow_10 rfl ?_
  refine g_bipush dX0_grow_12 bp_6 ?_
  refine g_icmp_ge 69 dX0_grow_14 (by decide) ⟨fun hc => ?_, fun hc => ?_⟩
  · replace h := h.1 hc
    refine g_aload_n dX0_grow_69 rfl rfl ?_
    refine g_callV (kc := kc) (kc' := 0) (ks := ks) (ks' := 0) (as := []) (st := []) (ci := 0) dX0_grow_70 cB_X0_orderOutward lk_X0_49 in_X0_orderOutward se_X0_orderOutward (by decide) rfl rfl (Nat.le_of_ble_eq_true rfl) (Nat.le_of_ble_eq_true rfl) (by decide) (hG.lt (by decide)) (congrArg Prod.fst hG.k12) ?_
    refine Go.to (fun r G' D1 hr => ?_) h
    obtain ⟨rfl, rfl, h⟩ := hr
    show Go E (d + 1) kc ks mX0_grow 73 [some (vR 12), some (vI x1), some (vI x2), some (vI x3), some (vI x4)] [] G D1 Q
    exact g_vret dX0_grow_73 rfl h
  · replace h := h.2 hc
    refine g_iload_n dX0_grow_17 rfl rfl ?_
    refine g_iload dX0_grow_18 rfl ?_
    refine g_ishr dX0_grow_20 ?_
    refine g_iconst dX0_grow_21 ?_
    refine g_iand dX0_grow_22 ?_
    refine g_if_eq 63 dX0_grow_23 (by decide) ⟨fun hc => ?_, fun hc => ?_⟩
    · replace h := h.1 hc
      refine h_iinc (L' := [some (vR 12), some (vI x1), some (vI x2), some (vI x3), some (vI (x4 + 1))]) dX0_grow_63 (Nat.le_of_ble_eq_true rfl) rfl rfl rfl ?_
      refine g_goto 10 dX0_grow_66 (by decide) ?_
      exact Go.drop (by simp only [mm_sub, and_self]) h
    · replace h := h.2 hc
      refine g_iload_n dX0_grow_26 rfl rfl ?_
      refine g_iconst dX0_grow_27 ?_
      refine g_icmp_ge 42 dX0_grow_28 (by decide) ⟨fun hc => ?_, fun hc => ?_⟩
      · replace h := h.1 hc
        refine g_aload_n dX0_grow_42 rfl rfl ?_
        refine g_iload_n dX0_grow_43 rfl rfl ?_
        refine g_iload_n dX0_grow_44 rfl rfl ?_
        refine g_iload_n dX0_grow_45 rfl rfl ?_
        refine g_callS (kc := kc) (kc' := 0) (ks := ks) (ks' := 0) (as := [vI x1, vI x2, vI x3]) (st := [vR 12]) dX0_grow_46 cB_X0_digit lk_X0_41 st_X0_digit rfl (Nat.le_of_ble_eq_true rfl) (Nat.le_of_ble_eq_true rfl) ?_
        refine Go.to (fun r G' D3 hr => ?_) h
        obtain ⟨rfl, z4, rfl, h⟩ := hr
        show Go E (d + 1) kc ks mX0_grow 49 [some (vR 12), some (vI x1), some (vI x2), some (vI x3), some (vI x4)] [vI z4, vR 12] G D3 Q
        refine g_iload dX0_grow_49 rfl ?_
        refine g_bipush dX0_grow_51 bp_6 ?_
        refine g_iload_n dX0_grow_53 rfl rfl ?_
        refine g_iadd dX0_grow_54 ?_
        refine g_iconst dX0_grow_55 ?_
        refine g_isub dX0_grow_56 ?_
        refine g_callV (kc := kc) (kc' := 0) (ks := ks) (ks' := 0) (as := [vI z4, vI x4, vI ((6 + x3) - 2)]) (st := []) (ci := 0) dX0_grow_57 cB_X0_setOn lk_X0_45 in_X0_setOn se_X0_setOn (by decide) rfl rfl (Nat.le_of_ble_eq_true rfl) (Nat.le_of_ble_eq_true rfl) (by decide) (hG.lt (by decide)) (congrArg Prod.fst hG.k12) ?_
        refine Go.to (fun r G' D5 hr => ?_) h
        obtain ⟨rfl, rfl, h⟩ := hr
        show Go E (d + 1) kc ks mX0_grow 60 [some (vR 12), some (vI x1), some (vI x2), some (vI x3), some (vI x4)] [] G D5 Q
        refine h_iinc (L' := [some (vR 12), some (vI x1), some (vI x2), some (vI (x3 + 1)), some (vI x4)]) dX0_grow_60 (Nat.le_of_ble_eq_true rfl) rfl rfl rfl ?_
        refine h_iinc (L' := [some (vR 12), some (vI x1), some (vI x2), some (vI (x3 + 1)), some (vI (x4 + 1))]) dX0_grow_63 (Nat.le_of_ble_eq_true rfl) rfl rfl rfl ?_
        refine g_goto 10 dX0_grow_66 (by decide) ?_
        exact Go.drop (by simp only [mm_sub, and_self]) h
      · replace h := h.2 hc
        refine g_aload_n dX0_grow_31 rfl rfl ?_
        refine g_bipush dX0_grow_32 bp_6 ?_
        refine g_iload dX0_grow_34 rfl ?_
        refine g_callV (kc := kc) (kc' := 0) (ks := ks) (ks' := 0) (as := [vI 6, vI x4]) (st := []) (ci := 0) dX0_grow_36 cB_X0_add lk_X0_37 in_X0_add se_X0_add (by decide) rfl rfl (Nat.le_of_ble_eq_true rfl) (Nat.le_of_ble_eq_true rfl) (by decide) (hG.lt (by decide)) (congrArg Prod.fst hG.k12) ?_
        refine Go.to (fun r G' D7 hr => ?_) h
        obtain ⟨rfl, rfl, h⟩ := hr
        show Go E (d + 1) kc ks mX0_grow 39 [some (vR 12), some (vI x1), some (vI x2), some (vI x3), some (vI x4)] [] G D7 Q
        refine g_goto 60 dX0_grow_39 (by decide) ?_
        refine h_iinc (L' := [some (vR 12), some (vI x1), some (vI x2), some (vI (x3 + 1)), some (vI x4)]) dX0_grow_60 (Nat.le_of_ble_eq_true rfl) rfl rfl rfl ?_
        refine h_iinc (L' := [some (vR 12), some (vI x1), some (vI x2), some (vI (x3 + 1)), some (vI (x4 + 1))]) dX0_grow_63 (Nat.le_of_ble_eq_true rfl) rfl rfl rfl ?_
        refine g_goto 10 dX0_grow_66 (by decide) ?_
        exact Go.drop (by simp only [mm_sub, and_self]) h
set_option maxRecDepth 20000 in
theorem w_X0_digit {E : mmE} {d kc ks : Nat} {G : mmG} {D : mmD} {Q : mmQ} {x0 x1 x2 : Int} (hG : Sh G)  (h : Call E d 0 0 mJ6_bitCount_0f7a4 [vI x0] G D (retI G (fun z2 D1 => Go E (d + 1) kc ks mX0_digit 10 [none, none, some (vI x2), some (vI x1), some (vI (z2 - 1))] [] G D1 Q))) : Call E (d + 1) kc ks mX0_digit [vI x0, vI x1, vI x2] G D Q := by
  show Go E (d + 1) kc ks mX0_digit 0 [some (vI x0), some (vI x1), some (vI x2), none, none] [] G D Q
  refine g_iload_n dX0_digit_0 rfl rfl ?_
  refine h_istore_n (L' := [some (vI x0), some (vI x1), some (vI x2), some (vI x1), none]) dX0_digit_1 rfl (Nat.le_of_ble_eq_true rfl) rfl rfl ?_
  refine g_iload_n dX0_digit_2 rfl rfl ?_
  refine g_callS (kc := kc) (kc' := 0) (ks := ks) (ks' := 0) (as := [vI x0]) (st := []) dX0_digit_3 cB_J6_bitCount_0f7a4 lk_X0_52 st_J6_bitCount_0f7a4 rfl (Nat.le_of_ble_eq_true rfl) (Nat.le_of_ble_eq_true rfl) ?_
  refine Go.to (fun r G' D1 hr => ?_) h
  obtain ⟨rfl, z2, rfl, h⟩ := hr
  show Go E (d + 1) kc ks mX0_digit 6 [some (vI x0), some (vI x1), some (vI x2), some (vI x1), none] [vI z2] G D1 Q
  refine g_iconst dX0_digit_6 ?_
  refine g_isub dX0_digit_7 ?_
  refine h_istore (L' := [some (vI x0), some (vI x1), some (vI x2), some (vI x1), some (vI (z2 - 1))]) dX0_digit_8 (Nat.le_of_ble_eq_true rfl) rfl rfl ?_
  exact Go.drop (by simp only [mm_sub, and_self]) h
set_option maxRecDepth 20000 in
theorem w_X0_digit_10 {E : mmE} {d kc ks : Nat} {G : mmG} {D : mmD} {Q : mmQ} {x2 x3 x4 : Int} (hG : Sh G)  (h : ((iv x4 ≤ iv x2 → Call E d 0 0 mX0_whenSet [vI x2] G D (retI G (fun z2 D1 => (¬ iv z2 = 0 ∧ Q (some (vI (irem x3 z2))) G D1)))) ∧ (¬ iv x4 ≤ iv x2 → Call E d 0 0 mX0_whenSet [vI x4] G D (retI G (fun z4 D3 => (¬ iv z4 = 0 ∧ Go E (d + 1) kc ks mX0_digit 10 [none, none, some (vI x2), some (vI (idiv x3 z4)), some (vI (x4 + (-1)))] [] G D3 Q)))))) : Go E (d + 1) kc ks mX0_digit 10 [none, none, some (vI x2), some (vI x3), some (vI x4)] [] G D Q := by
  refine g_iload dX0_digit_10 rfl ?_
  refine g_iload_n dX0_digit_12 rfl rfl ?_
  refine g_icmp_le 30 dX0_digit_13 (by decide) ⟨fun hc => ?_, fun hc => ?_⟩
  · replace h := h.1 hc
    refine g_iload_n dX0_digit_30 rfl rfl ?_
    refine g_iload_n dX0_digit_31 rfl rfl ?_
    refine g_callS (kc := kc) (kc' := 0) (ks := ks) (ks' := 0) (as := [vI x2]) (st := [vI x3]) dX0_digit_32 cB_X0_whenSet lk_X0_58 st_X0_whenSet rfl (Nat.le_of_ble_eq_true rfl) (Nat.le_of_ble_eq_true rfl) ?_
    refine Go.to (fun r G' D1 hr => ?_) h
    obtain ⟨rfl, z2, rfl, h⟩ := hr
    show Go E (d + 1) kc ks mX0_digit 35 [none, none, some (vI x2), some (vI x3), some (vI x4)] [vI z2, vI x3] G D1 Q
    refine g_irem dX0_digit_35 h.1 ?_
    replace h := h.2
    exact g_iret dX0_digit_36 rfl h
  · replace h := h.2 hc
    refine g_iload_n dX0_digit_16 rfl rfl ?_
    refine g_iload dX0_digit_17 rfl ?_
    refine g_callS (kc := kc) (kc' := 0) (ks := ks) (ks' := 0) (as := [vI x4]) (st := [vI x3]) dX0_digit_19 cB_X0_whenSet lk_X0_58 st_X0_whenSet rfl (Nat.le_of_ble_eq_true rfl) (Nat.le_of_ble_eq_true rfl) ?_
    refine Go.to (fun r G' D3 hr => ?_) h
    obtain ⟨rfl, z4, rfl, h⟩ := hr
    show Go E (d + 1) kc ks mX0_digit 22 [none, none, some (vI x2), some (vI x3), some (vI x4)] [vI z4, vI x3] G D3 Q
    refine g_idiv dX0_digit_22 h.1 ?_
    replace h := h.2
    refine h_istore_n (L' := [none, none, some (vI x2), some (vI (idiv x3 z4)), some (vI x4)]) dX0_digit_23 rfl (Nat.le_of_ble_eq_true rfl) rfl rfl ?_
    refine h_iinc (L' := [none, none, some (vI x2), some (vI (idiv x3 z4)), some (vI (x4 + (-1)))]) dX0_digit_24 (Nat.le_of_ble_eq_true rfl) rfl rfl rfl ?_
    refine g_goto 10 dX0_digit_27 (by decide) ?_
    exact Go.drop (by simp only [mm_sub, and_self]) h
set_option maxRecDepth 20000 in
theorem w_X0_add {E : mmE} {d kc ks : Nat} {G : mmG} {D : mmD} {Q : mmQ} {x1 x2 : Int} (hG : Sh G)  (h : ((iv 9 ≤ iv (D 12 2) → Q none G D) ∧ (¬ iv 9 ≤ iv (D 12 2) → ((0 ≤ (D 12 2) ∧ (D 12 2) < 9) ∧ (∀ D1 : mmD, D1 = up2 D 13 (D 12 2) x1 → ((0 ≤ (D1 12 2) ∧ (D1 12 2) < 9) ∧ (∀ D2 : mmD, D2 = up2 D1 14 (D1 12 2) x2 → (∀ D3 : mmD, D3 = up2 D2 12 2 ((D2 12 2) + 1) → Q none G D3)))))))) : Call E d kc ks mX0_add [vR 12, vI x1, vI x2] G D Q := by
  show Go E d kc ks mX0_add 0 [some (vR 12), some (vI x1), some (vI x2)] [] G D Q
  refine g_aload_n dX0_add_0 rfl rfl ?_
  refine h_getI (j := 2) dX0_add_1 f_X0_33_0 rfl rfl (by decide) hG.k12 (by decide) (hG.lt (by decide)) ?_
  refine g_bipush dX0_add_4 bp_9 ?_
  refine g_icmp_ge 39 dX0_add_6 (by decide) ⟨fun hc => ?_, fun hc => ?_⟩
  · replace h := h.1 hc
    exact g_vret dX0_add_39 rfl h
  · replace h := h.2 hc
    refine g_aload_n dX0_add_9 rfl rfl ?_
    refine h_getR (j := 0) dX0_add_10 f_X0_11_0 rfl rfl (by decide) hG.k12 (by decide) (hG.lt (by decide)) hG.r12_0 ?_
    refine g_aload_n dX0_add_13 rfl rfl ?_
    refine h_getI (j := 2) dX0_add_14 f_X0_33_0 rfl rfl (by decide) hG.k12 (by decide) (hG.lt (by decide)) ?_
    refine g_iload_n dX0_add_17 rfl rfl ?_
    refine g_iast dX0_add_18 hG.k13 (by decide) (hG.lt (by decide)) (by decide) ⟨h.1, ?_⟩
    generalize hD_D1 : up2 D 13 (D 12 2) x1 = D1
    replace h := h.2 _ hD_D1.symm
    refine g_aload_n dX0_add_19 rfl rfl ?_
    refine h_getR (j := 1) dX0_add_20 f_X0_15_0 rfl rfl (by decide) hG.k12 (by decide) (hG.lt (by decide)) hG.r12_1 ?_
    refine g_aload_n dX0_add_23 rfl rfl ?_
    refine h_getI (j := 2) dX0_add_24 f_X0_33_0 rfl rfl (by decide) hG.k12 (by decide) (hG.lt (by decide)) ?_
    refine g_iload_n dX0_add_27 rfl rfl ?_
    refine g_iast dX0_add_28 hG.k14 (by decide) (hG.lt (by decide)) (by decide) ⟨h.1, ?_⟩
    generalize hD_D2 : up2 D1 14 (D1 12 2) x2 = D2
    replace h := h.2 _ hD_D2.symm
    refine g_aload_n dX0_add_29 rfl rfl ?_
    refine g_dup dX0_add_30 (fun _ h9 => by cases h9) ?_
    refine h_getI (j := 2) dX0_add_31 f_X0_33_0 rfl rfl (by decide) hG.k12 (by decide) (hG.lt (by decide)) ?_
    refine g_iconst dX0_add_34 ?_
    refine g_iadd dX0_add_35 ?_
    refine h_putI (j := 2) dX0_add_36 f_X0_33_0 (Or.inl (mm_finI (by decide +kernel))) rfl rfl (by decide) hG.k12 (by decide) (hG.lt (by decide)) ?_
    generalize hD_D3 : up2 D2 12 2 ((D2 12 2) + 1) = D3
    replace h := h _ hD_D3.symm
    exact g_vret dX0_add_39 rfl h
set_option maxRecDepth 20000 in
theorem w_X0_setOn {E : mmE} {d kc ks : Nat} {G : mmG} {D : mmD} {Q : mmQ} {x1 x2 x3 : Int} (hG : Sh G)  (h : ((iv x1 < iv 0 → Q none G D) ∧ (¬ iv x1 < iv 0 → ((iv (D 12 2) ≤ iv x1 → Q none G D) ∧ (¬ iv (D 12 2) ≤ iv x1 → ((0 ≤ x1 ∧ x1 < 9) ∧ ((0 ≤ x1 ∧ x1 < 9) ∧ (∀ D1 : mmD, D1 = up2 D 14 x1 x3 → Call E d 0 0 mX0_add [vR 12, vI x3, vI (D 14 x1)] G D1 (retV G (fun D2 => Call E d 0 0 mX0_add [vR 12, vI x3, vI x2] G D2 (retV G (fun D4 => Q none G D4)))))))))))) : Call E (d + 1) kc ks mX0_setOn [vR 12, vI x1, vI x2, vI x3] G D Q := by
  show Go E (d + 1) kc ks mX0_setOn 0 [some (vR 12), some (vI x1), some (vI x2), some (vI x3), none] [] G D Q
  refine g_iload_n dX0_setOn_0 rfl rfl ?_
  refine g_if_lt 40 dX0_setOn_1 (by decide) ⟨fun hc => ?_, fun hc => ?_⟩
  · replace h := h.1 hc
    exact g_vret dX0_setOn_40 rfl h
  · replace h := h.2 hc
    refine g_iload_n dX0_setOn_4 rfl rfl ?_
    refine g_aload_n dX0_setOn_5 rfl rfl ?_
    refine h_getI (j := 2) dX0_setOn_6 f_X0_33_0 rfl rfl (by decide) hG.k12 (by decide) (hG.lt (by decide)) ?_
    refine g_icmp_ge 40 dX0_setOn_9 (by decide) ⟨fun hc => ?_, fun hc => ?_⟩
    · replace h := h.1 hc
      exact g_vret dX0_setOn_40 rfl h
    · replace h := h.2 hc
      refine g_aload_n dX0_setOn_12 rfl rfl ?_
      refine h_getR (j := 1) dX0_setOn_13 f_X0_15_0 rfl rfl (by decide) hG.k12 (by decide) (hG.lt (by decide)) hG.r12_1 ?_
      refine g_iload_n dX0_setOn_16 rfl rfl ?_
      refine g_iald dX0_setOn_17 hG.k14 (by decide) (hG.lt (by decide)) (by decide) ⟨h.1, ?_⟩
      replace h := h.2
      refine h_istore (L' := [some (vR 12), some (vI x1), some (vI x2), some (vI x3), some (vI (D 14 x1))]) dX0_setOn_18 (Nat.le_of_ble_eq_true rfl) rfl rfl ?_
      refine g_aload_n dX0_setOn_20 rfl rfl ?_
      refine h_getR (j := 1) dX0_setOn_21 f_X0_15_0 rfl rfl (by decide) hG.k12 (by decide) (hG.lt (by decide)) hG.r12_1 ?_
      refine g_iload_n dX0_setOn_24 rfl rfl ?_
      refine g_iload_n dX0_setOn_25 rfl rfl ?_
      refine g_iast dX0_setOn_26 hG.k14 (by decide) (hG.lt (by decide)) (by decide) ⟨h.1, ?_⟩
      generalize hD_D1 : up2 D 14 x1 x3 = D1
      replace h := h.2 _ hD_D1.symm
      refine g_aload_n dX0_setOn_27 rfl rfl ?_
      refine g_iload_n dX0_setOn_28 rfl rfl ?_
      refine g_iload dX0_setOn_29 rfl ?_
      refine g_callV (kc := kc) (kc' := 0) (ks := ks) (ks' := 0) (as := [vI x3, vI (D 14 x1)]) (st := []) (ci := 0) dX0_setOn_31 cB_X0_add lk_X0_37 in_X0_add se_X0_add (by decide) rfl rfl (Nat.le_of_ble_eq_true rfl) (Nat.le_of_ble_eq_true rfl) (by decide) (hG.lt (by decide)) (congrArg Prod.fst hG.k12) ?_
      refine Go.to (fun r G' D2 hr => ?_) h
      obtain ⟨rfl, rfl, h⟩ := hr
      show Go E (d + 1) kc ks mX0_setOn 34 [some (vR 12), some (vI x1), some (vI x2), some (vI x3), some (vI (D 14 x1))] [] G D2 Q
      refine g_aload_n dX0_setOn_34 rfl rfl ?_
      refine g_iload_n dX0_setOn_35 rfl rfl ?_
      refine g_iload_n dX0_setOn_36 rfl rfl ?_
      refine g_callV (kc := kc) (kc' := 0) (ks := ks) (ks' := 0) (as := [vI x3, vI x2]) (st := []) (ci := 0) dX0_setOn_37 cB_X0_add lk_X0_37 in_X0_add se_X0_add (by decide) rfl rfl (Nat.le_of_ble_eq_true rfl) (Nat.le_of_ble_eq_true rfl) (by decide) (hG.lt (by decide)) (congrArg Prod.fst hG.k12) ?_
      refine Go.to (fun r G' D4 hr => ?_) h
      obtain ⟨rfl, rfl, h⟩ := hr
      show Go E (d + 1) kc ks mX0_setOn 40 [some (vR 12), some (vI x1), some (vI x2), some (vI x3), some (vI (D 14 x1))] [] G D4 Q
      exact g_vret dX0_setOn_40 rfl h
set_option maxRecDepth 20000 in
theorem w_X0_orderOutward {E : mmE} {d kc ks : Nat} {G : mmG} {D : mmD} {Q : mmQ} (hG : Sh G)  (h : Go E d kc ks mX0_orderOutward 4 [some (vR 12), some (vI 0), some (vI (-1)), none, none] [] G D Q) : Call E d kc ks mX0_orderOutward [vR 12] G D Q := by
  show Go E d kc ks mX0_orderOutward 0 [some (vR 12), none, none, none, none] [] G D Q
  refine g_iconst dX0_orderOutward_0 ?_
  refine h_istore_n (L' := [some (vR 12), some (vI 0), none, none, none]) dX0_orderOutward_1 rfl (Nat.le_of_ble_eq_true rfl) rfl rfl ?_
  refine g_iconst dX0_orderOutward_2 ?_
  refine h_istore_n (L' := [some (vR 12), some (vI 0), some (vI (-1)), none, none]) dX0_orderOutward_3 rfl (Nat.le_of_ble_eq_true rfl) rfl rfl ?_
  exact Go.drop (by simp only [mm_sub, and_self]) h
set_option maxRecDepth 20000 in
theorem w_X0_orderOutward_4 {E : mmE} {d kc ks : Nat} {G : mmG} {D : mmD} {Q : mmQ} {x1 x2 : Int} (hG : Sh G)  (h : ((iv x1 ≤ iv x2 → Q none G D) ∧ (¬ iv x1 ≤ iv x2 → ((iv 9 ≤ iv x2 → Q none G D) ∧ (¬ iv 9 ≤ iv x2 → ((iv 0 ≤ iv x2 → ((0 ≤ x2 ∧ x2 < 9) ∧ ((0 ≤ (D 15 x2) ∧ (D 15 x2) < 9) ∧ Go E d kc ks mX0_orderOutward 39 [some (vR 12), some (vI x1), some (vI x2), some (vI (D 14 (D 15 x2))), some (vI 0)] [] G D Q))) ∧ (¬ iv 0 ≤ iv x2 → Go E d kc ks mX0_orderOutward 39 [some (vR 12), some (vI x1), some (vI x2), some (vI 6), some (vI 0)] [] G D Q))))))) : Go E d kc ks mX0_orderOutward 4 [some (vR 12), some (vI x1), some (vI x2), none, none] [] G D Q := by
  refine g_iload_n dX0_orderOutward_4 rfl rfl ?_
  refine g_iload_n dX0_orderOutward_5 rfl rfl ?_
  refine g_icmp_ge 88 dX0_orderOutward_6 (by decide) ⟨fun hc => ?_, fun hc => ?_⟩
  · replace h := h.1 hc
    exact g_vret dX0_orderOutward_88 rfl h
  · replace h := h.2 hc
    refine g_iload_n dX0_orderOutward_9 rfl rfl ?_
    refine g_bipush dX0_orderOutward_10 bp_9 ?_
    refine g_icmp_ge 88 dX0_orderOutward_12 (by decide) ⟨fun hc => ?_, fun hc => ?_⟩
    · replace h := h.1 hc
      exact g_vret dX0_orderOutward_88 rfl h
    · replace h := h.2 hc
      refine g_iload_n dX0_orderOutward_15 rfl rfl ?_
      refine g_if_ge 24 dX0_orderOutward_16 (by decide) ⟨fun hc => ?_, fun hc => ?_⟩
      · replace h := h.1 hc
        refine g_aload_n dX0_orderOutward_24 rfl rfl ?_
        refine h_getR (j := 1) dX0_orderOutward_25 f_X0_15_0 rfl rfl (by decide) hG.k12 (by decide) (hG.lt (by decide)) hG.r12_1 ?_
        refine g_aload_n dX0_orderOutward_28 rfl rfl ?_
        refine h_getR (j := 3) dX0_orderOutward_29 f_X0_18_0 rfl rfl (by decide) hG.k12 (by decide) (hG.lt (by decide)) hG.r12_3 ?_
        refine g_iload_n dX0_orderOutward_32 rfl rfl ?_
        refine g_iald dX0_orderOutward_33 hG.k15 (by decide) (hG.lt (by decide)) (by decide) ⟨h.1, ?_⟩
        replace h := h.2
        refine g_iald dX0_orderOutward_34 hG.k14 (by decide) (hG.lt (by decide)) (by decide) ⟨h.1, ?_⟩
        replace h := h.2
        refine h_istore_n (L' := [some (vR 12), some (vI x1), some (vI x2), some (vI (D 14 (D 15 x2))), none]) dX0_orderOutward_35 rfl (Nat.le_of_ble_eq_true rfl) rfl rfl ?_
        refine g_iconst dX0_orderOutward_36 ?_
        refine h_istore (L' := [some (vR 12), some (vI x1), some (vI x2), some (vI (D 14 (D 15 x2))), some (vI 0)]) dX0_orderOutward_37 (Nat.le_of_ble_eq_true rfl) rfl rfl ?_
        exact Go.drop (by simp only [mm_sub, and_self]) h
      · replace h := h.2 hc
        refine g_bipush dX0_orderOutward_19 bp_6 ?_
        refine g_goto 35 dX0_orderOutward_21 (by decide) ?_
        refine h_istore_n (L' := [some (vR 12), some (vI x1), some (vI x2), some (vI 6), none]) dX0_orderOutward_35 rfl (Nat.le_of_ble_eq_true rfl) rfl rfl ?_
        refine g_iconst dX0_orderOutward_36 ?_
        refine h_istore (L' := [some (vR 12), some (vI x1), some (vI x2), some (vI 6), some (vI 0)]) dX0_orderOutward_37 (Nat.le_of_ble_eq_true rfl) rfl rfl ?_
        exact Go.drop (by simp only [mm_sub, and_self]) h
set_option maxRecDepth 20000 in
theorem w_X0_orderOutward_39 {E : mmE} {d kc ks : Nat} {G : mmG} {D : mmD} {Q : mmQ} {x1 x2 x3 x4 : Int} (hG : Sh G)  (h : ((iv (D 12 2) ≤ iv x4 → Go E d kc ks mX0_orderOutward 4 [some (vR 12), some (vI x1), some (vI (x2 + 1)), none, none] [] G D Q) ∧ (¬ iv (D 12 2) ≤ iv x4 → ((0 ≤ x4 ∧ x4 < 9) ∧ ((¬ iv (D 13 x4) = iv x3 → Go E d kc ks mX0_orderOutward 39 [some (vR 12), some (vI x1), some (vI x2), some (vI x3), some (vI (x4 + 1))] [] G D Q) ∧ (iv (D 13 x4) = iv x3 → ((iv 9 ≤ iv x1 → Go E d kc ks mX0_orderOutward 39 [some (vR 12), some (vI x1), some (vI x2), some (vI x3), some (vI (x4 + 1))] [] G D Q) ∧ (¬ iv 9 ≤ iv x1 → ((0 ≤ x1 ∧ x1 < 9) ∧ (∀ D1 : mmD, D1 = up2 D 15 x1 x4 → Go E d kc ks mX0_orderOutward 39 [some (vR 12), some (vI (x1 + 1)), some (vI x2), some (vI x3), some (vI (x4 + 1))] [] G D1 Q)))))))))) : Go E d kc ks mX0_orderOutward 39 [some (vR 12), some (vI x1), some (vI x2), some (vI x3), some (vI x4)] [] G D Q := by
  refine g_iload dX0_orderOutward_39 rfl ?_
  refine g_aload_n dX0_orderOutward_41 rfl rfl ?_
  refine h_getI (j := 2) dX0_orderOutward_42 f_X0_33_0 rfl rfl (by decide) hG.k12 (by decide) (hG.lt (by decide)) ?_
  refine g_icmp_ge 82 dX0_orderOutward_45 (by decide) ⟨fun hc => ?_, fun hc => ?_⟩
  · replace h := h.1 hc
    refine h_iinc (L' := [some (vR 12), some (vI x1), some (vI (x2 + 1)), some (vI x3), some (vI x4)]) dX0_orderOutward_82 (Nat.le_of_ble_eq_true rfl) rfl rfl rfl ?_
    refine g_goto 4 dX0_orderOutward_85 (by decide) ?_
    exact Go.drop (by simp only [mm_sub, and_self]) h
  · replace h := h.2 hc
    refine g_aload_n dX0_orderOutward_48 rfl rfl ?_
    refine h_getR (j := 0) dX0_orderOutward_49 f_X0_11_0 rfl rfl (by decide) hG.k12 (by decide) (hG.lt (by decide)) hG.r12_0 ?_
    refine g_iload dX0_orderOutward_52 rfl ?_
    refine g_iald dX0_orderOutward_54 hG.k13 (by decide) (hG.lt (by decide)) (by decide) ⟨h.1, ?_⟩
    replace h := h.2
    refine g_iload_n dX0_orderOutward_55 rfl rfl ?_
    refine g_icmp_ne 76 dX0_orderOutward_56 (by decide) ⟨fun hc => ?_, fun hc => ?_⟩
    · replace h := h.1 hc
      refine h_iinc (L' := [some (vR 12), some (vI x1), some (vI x2), some (vI x3), some (vI (x4 + 1))]) dX0_orderOutward_76 (Nat.le_of_ble_eq_true rfl) rfl rfl rfl ?_
      refine g_goto 39 dX0_orderOutward_79 (by decide) ?_
      exact Go.drop (by simp only [mm_sub, and_self]) h
    · replace h := h.2 hc
      refine g_iload_n dX0_orderOutward_59 rfl rfl ?_
      refine g_bipush dX0_orderOutward_60 bp_9 ?_
      refine g_icmp_ge 76 dX0_orderOutward_62 (by decide) ⟨fun hc => ?_, fun hc => ?_⟩
      · replace h := h.1 hc
        refine h_iinc (L' := [some (vR 12), some (vI x1), some (vI x2), some (vI x3), some (vI (x4 + 1))]) dX0_orderOutward_76 (Nat.le_of_ble_eq_true rfl) rfl rfl rfl ?_
        refine g_goto 39 dX0_orderOutward_79 (by decide) ?_
        exact Go.drop (by simp only [mm_sub, and_self]) h
      · replace h := h.2 hc
        refine g_aload_n dX0_orderOutward_65 rfl rfl ?_
        refine h_getR (j := 3) dX0_orderOutward_66 f_X0_18_0 rfl rfl (by decide) hG.k12 (by decide) (hG.lt (by decide)) hG.r12_3 ?_
        refine g_iload_n dX0_orderOutward_69 rfl rfl ?_
        refine g_iload dX0_orderOutward_70 rfl ?_
        refine g_iast dX0_orderOutward_72 hG.k15 (by decide) (hG.lt (by decide)) (by decide) ⟨h.1, ?_⟩
        generalize hD_D1 : up2 D 15 x1 x4 = D1
        replace h := h.2 _ hD_D1.symm
        refine h_iinc (L' := [some (vR 12), some (vI (x1 + 1)), some (vI x2), some (vI x3), some (vI x4)]) dX0_orderOutward_73 (Nat.le_of_ble_eq_true rfl) rfl rfl rfl ?_
        refine h_iinc (L' := [some (vR 12), some (vI (x1 + 1)), some (vI x2), some (vI x3), some (vI (x4 + 1))]) dX0_orderOutward_76 (Nat.le_of_ble_eq_true rfl) rfl rfl rfl ?_
        refine g_goto 39 dX0_orderOutward_79 (by decide) ?_
        exact Go.drop (by simp only [mm_sub, and_self]) h
set_option maxRecDepth 20000 in
theorem w_X0_fewestChanges {E : mmE} {d kc ks : Nat} {G : mmG} {D : mmD} {Q : mmQ} {x1 : Int} (hG : Sh G)  (h : Go E d kc ks mX0_fewestChanges 2 [some (vR 12), some (vI x1), some (vI 0), none, none, none, none] [] G D Q) : Call E d kc ks mX0_fewestChanges [vR 12, vI x1] G D Q := by
  show Go E d kc ks mX0_fewestChanges 0 [some (vR 12), some (vI x1), none, none, none, none, none] [] G D Q
  refine g_iconst dX0_fewestChanges_0 ?_
  refine h_istore_n (L' := [some (vR 12), some (vI x1), some (vI 0), none, none, none, none]) dX0_fewestChanges_1 rfl (Nat.le_of_ble_eq_true rfl) rfl rfl ?_
  exact Go.drop (by simp only [mm_sub, and_self]) h
set_option maxRecDepth 20000 in
theorem w_X0_fewestChanges_2 {E : mmE} {d kc ks : Nat} {G : mmG} {D : mmD} {Q : mmQ} {x1 x2 : Int} (hG : Sh G)  (h : ((iv 10 ≤ iv x2 → Go E d kc ks mX0_fewestChanges 51 [some (vR 12), none, some (vI 0), some (vI ((D 12 2) - 1)), none, none, none] [] G D Q) ∧ (¬ iv 10 ≤ iv x2 → ((iv 6 ≤ iv x2 → ((0 ≤ x2 ∧ x2 < 10) ∧ (∀ D1 : mmD, D1 = up2 D 17 x2 63 → Go E d kc ks mX0_fewestChanges 2 [some (vR 12), some (vI x1), some (vI (x2 + 1)), none, none, none, none] [] G D1 Q))) ∧ (¬ iv 6 ≤ iv x2 → ((0 ≤ ((x1 * 6) + x2) ∧ ((x1 * 6) + x2) < 60) ∧ ((0 ≤ x2 ∧ x2 < 10) ∧ (∀ D2 : mmD, D2 = up2 D 17 x2 (D 16 ((x1 * 6) + x2)) → Go E d kc ks mX0_fewestChanges 2 [some (vR 12), some (vI x1), some (vI (x2 + 1)), none, none, none, none] [] G D2 Q)))))))) : Go E d kc ks mX0_fewestChanges 2 [some (vR 12), some (vI x1), some (vI x2), none, none, none, none] [] G D Q := by
  refine g_iload_n dX0_fewestChanges_2 rfl rfl ?_
  refine g_bipush dX0_fewestChanges_3 bp_10 ?_
  refine g_icmp_ge 42 dX0_fewestChanges_5 (by decide) ⟨fun hc => ?_, fun hc => ?_⟩
  · replace h := h.1 hc
    refine g_iconst dX0_fewestChanges_42 ?_
    refine h_istore_n (L' := [some (vR 12), some (vI x1), some (vI 0), none, none, none, none]) dX0_fewestChanges_43 rfl (Nat.le_of_ble_eq_true rfl) rfl rfl ?_
    refine g_aload_n dX0_fewestChanges_44 rfl rfl ?_
    refine h_getI (j := 2) dX0_fewestChanges_45 f_X0_33_0 rfl rfl (by decide) hG.k12 (by decide) (hG.lt (by decide)) ?_
    refine g_iconst dX0_fewestChanges_48 ?_
    refine g_isub dX0_fewestChanges_49 ?_
    refine h_istore_n (L' := [some (vR 12), some (vI x1), some (vI 0), some (vI ((D 12 2) - 1)), none, none, none]) dX0_fewestChanges_50 rfl (Nat.le_of_ble_eq_true rfl) rfl rfl ?_
    exact Go.drop (by simp only [mm_sub, and_self]) h
  · replace h := h.2 hc
    refine g_aload_n dX0_fewestChanges_8 rfl rfl ?_
    refine h_getR (j := 5) dX0_fewestChanges_9 f_X0_24_0 rfl rfl (by decide) hG.k12 (by decide) (hG.lt (by decide)) hG.r12_5 ?_
    refine g_iload_n dX0_fewestChanges_12 rfl rfl ?_
    refine g_iload_n dX0_fewestChanges_13 rfl rfl ?_
    refine g_bipush dX0_fewestChanges_14 bp_6 ?_
    refine g_icmp_ge 33 dX0_fewestChanges_16 (by decide) ⟨fun hc => ?_, fun hc => ?_⟩
    · replace h := h.1 hc
      refine g_bipush dX0_fewestChanges_33 bp_63 ?_
      refine g_iast dX0_fewestChanges_35 hG.k17 (by decide) (hG.lt (by decide)) (by decide) ⟨h.1, ?_⟩
      generalize hD_D1 : up2 D 17 x2 63 = D1
      replace h := h.2 _ hD_D1.symm
      refine h_iinc (L' := [some (vR 12), some (vI x1), some (vI (x2 + 1)), none, none, none, none]) dX0_fewestChanges_36 (Nat.le_of_ble_eq_true rfl) rfl rfl rfl ?_
      refine g_goto 2 dX0_fewestChanges_39 (by decide) ?_
      exact Go.drop (by simp only [mm_sub, and_self]) h
    · replace h := h.2 hc
      refine g_aload_n dX0_fewestChanges_19 rfl rfl ?_
      refine h_getR (j := 4) dX0_fewestChanges_20 f_X0_21_0 rfl rfl (by decide) hG.k12 (by decide) (hG.lt (by decide)) hG.r12_4 ?_
      refine g_iload_n dX0_fewestChanges_23 rfl rfl ?_
      refine g_bipush dX0_fewestChanges_24 bp_6 ?_
      refine g_imul dX0_fewestChanges_26 ?_
      refine g_iload_n dX0_fewestChanges_27 rfl rfl ?_
      refine g_iadd dX0_fewestChanges_28 ?_
      refine g_iald dX0_fewestChanges_29 hG.k16 (by decide) (hG.lt (by decide)) (by decide) ⟨h.1, ?_⟩
      replace h := h.2
      refine g_goto 35 dX0_fewestChanges_30 (by decide) ?_
      refine g_iast dX0_fewestChanges_35 hG.k17 (by decide) (hG.lt (by decide)) (by decide) ⟨h.1, ?_⟩
      generalize hD_D2 : up2 D 17 x2 (D 16 ((x1 * 6) + x2)) = D2
      replace h := h.2 _ hD_D2.symm
      refine h_iinc (L' := [some (vR 12), some (vI x1), some (vI (x2 + 1)), none, none, none, none]) dX0_fewestChanges_36 (Nat.le_of_ble_eq_true rfl) rfl rfl rfl ?_
      refine g_goto 2 dX0_fewestChanges_39 (by decide) ?_
      exact Go.drop (by simp only [mm_sub, and_self]) h
set_option maxRecDepth 20000 in
theorem w_X0_fewestChanges_51 {E : mmE} {d kc ks : Nat} {G : mmG} {D : mmD} {Q : mmQ} {x2 x3 : Int} (hG : Sh G)  (h : ((iv x3 < iv 0 → Q (some (vI x2)) G D) ∧ (¬ iv x3 < iv 0 → ((0 ≤ x3 ∧ x3 < 9) ∧ ((0 ≤ (D 15 x3) ∧ (D 15 x3) < 9) ∧ ((0 ≤ x3 ∧ x3 < 9) ∧ ((0 ≤ (D 15 x3) ∧ (D 15 x3) < 9) ∧ ((0 ≤ (D 13 (D 15 x3)) ∧ (D 13 (D 15 x3)) < 10) ∧ ((0 ≤ (D 14 (D 15 x3)) ∧ (D 14 (D 15 x3)) < 10) ∧ ((¬ iv (iand (D 17 (D 13 (D 15 x3))) (D 17 (D 14 (D 15 x3)))) = iv 0 → ((0 ≤ (D 13 (D 15 x3)) ∧ (D 13 (D 15 x3)) < 10) ∧ (∀ D1 : mmD, D1 = up2 D 17 (D 13 (D 15 x3)) (iand (D 17 (D 13 (D 15 x3))) (D 17 (D 14 (D 15 x3)))) → Go E d kc ks mX0_fewestChanges 51 [some (vR 12), none, some (vI x2), some (vI (x3 + (-1))), none, none, none] [] G D1 Q))) ∧ (iv (iand (D 17 (D 13 (D 15 x3))) (D 17 (D 14 (D 15 x3)))) = iv 0 → ((0 ≤ (D 13 (D 15 x3)) ∧ (D 13 (D 15 x3)) < 10) ∧ ((0 ≤ (D 14 (D 15 x3)) ∧ (D 14 (D 15 x3)) < 10) ∧ ((0 ≤ (D 13 (D 15 x3)) ∧ (D 13 (D 15 x3)) < 10) ∧ (∀ D2 : mmD, D2 = up2 D 17 (D 13 (D 15 x3)) (ior (D 17 (D 13 (D 15 x3))) (D 17 (D 14 (D 15 x3)))) → Go E d kc ks mX0_fewestChanges 51 [some (vR 12), none, some (vI (x2 + 1)), some (vI (x3 + (-1))), none, none, none] [] G D2 Q))))))))))))))) : Go E d kc ks mX0_fewestChanges 51 [some (vR 12), none, some (vI x2), some (vI x3), none, none, none] [] G D Q := by
  refine g_iload_n dX0_fewestChanges_51 rfl rfl ?_
  refine g_if_lt 141 dX0_fewestChanges_52 (by decide) ⟨fun hc => ?_, fun hc => ?_⟩
  · replace h := h.1 hc
    refine g_iload_n dX0_fewestChanges_141 rfl rfl ?_
    exact g_iret dX0_fewestChanges_142 rfl h
  · replace h := h.2 hc
    refine g_aload_n dX0_fewestChanges_55 rfl rfl ?_
    refine h_getR (j := 0) dX0_fewestChanges_56 f_X0_11_0 rfl rfl (by decide) hG.k12 (by decide) (hG.lt (by decide)) hG.r12_0 ?_
    refine g_aload_n dX0_fewestChanges_59 rfl rfl ?_
    refine h_getR (j := 3) dX0_fewestChanges_60 f_X0_18_0 rfl rfl (by decide) hG.k12 (by decide) (hG.lt (by decide)) hG.r12_3 ?_
    refine g_iload_n dX0_fewestChanges_63 rfl rfl ?_
    refine g_iald dX0_fewestChanges_64 hG.k15 (by decide) (hG.lt (by decide)) (by decide) ⟨h.1, ?_⟩
    replace h := h.2
    refine g_iald dX0_fewestChanges_65 hG.k13 (by decide) (hG.lt (by decide)) (by decide) ⟨h.1, ?_⟩
    replace h := h.2
    refine h_istore (L' := [some (vR 12), none, some (vI x2), some (vI x3), some (vI (D 13 (D 15 x3))), none, none]) dX0_fewestChanges_66 (Nat.le_of_ble_eq_true rfl) rfl rfl ?_
    refine g_aload_n dX0_fewestChanges_68 rfl rfl ?_
    refine h_getR (j := 1) dX0_fewestChanges_69 f_X0_15_0 rfl rfl (by decide) hG.k12 (by decide) (hG.lt (by decide)) hG.r12_1 ?_
    refine g_aload_n dX0_fewestChanges_72 rfl rfl ?_
    refine h_getR (j := 3) dX0_fewestChanges_73 f_X0_18_0 rfl rfl (by decide) hG.k12 (by decide) (hG.lt (by decide)) hG.r12_3 ?_
    refine g_iload_n dX0_fewestChanges_76 rfl rfl ?_
    refine g_iald dX0_fewestChanges_77 hG.k15 (by decide) (hG.lt (by decide)) (by decide) ⟨h.1, ?_⟩
    replace h := h.2
    refine g_iald dX0_fewestChanges_78 hG.k14 (by decide) (hG.lt (by decide)) (by decide) ⟨h.1, ?_⟩
    replace h := h.2
    refine h_istore (L' := [some (vR 12), none, some (vI x2), some (vI x3), some (vI (D 13 (D 15 x3))), some (vI (D 14 (D 15 x3))), none]) dX0_fewestChanges_79 (Nat.le_of_ble_eq_true rfl) rfl rfl ?_
    refine g_aload_n dX0_fewestChanges_81 rfl rfl ?_
    refine h_getR (j := 5) dX0_fewestChanges_82 f_X0_24_0 rfl rfl (by decide) hG.k12 (by decide) (hG.lt (by decide)) hG.r12_5 ?_
    refine g_iload dX0_fewestChanges_85 rfl ?_
    refine g_iald dX0_fewestChanges_87 hG.k17 (by decide) (hG.lt (by decide)) (by decide) ⟨h.1, ?_⟩
    replace h := h.2
    refine g_aload_n dX0_fewestChanges_88 rfl rfl ?_
    refine h_getR (j := 5) dX0_fewestChanges_89 f_X0_24_0 rfl rfl (by decide) hG.k12 (by decide) (hG.lt (by decide)) hG.r12_5 ?_
    refine g_iload dX0_fewestChanges_92 rfl ?_
    refine g_iald dX0_fewestChanges_94 hG.k17 (by decide) (hG.lt (by decide)) (by decide) ⟨h.1, ?_⟩
    replace h := h.2
    refine g_iand dX0_fewestChanges_95 ?_
    refine h_istore (L' := [some (vR 12), none, some (vI x2), some (vI x3), some (vI (D 13 (D 15 x3))), some (vI (D 14 (D 15 x3))), some (vI (iand (D 17 (D 13 (D 15 x3))) (D 17 (D 14 (D 15 x3)))))]) dX0_fewestChanges_96 (Nat.le_of_ble_eq_true rfl) rfl rfl ?_
    refine g_iload dX0_fewestChanges_98 rfl ?_
    refine g_if_ne 126 dX0_fewestChanges_100 (by decide) ⟨fun hc => ?_, fun hc => ?_⟩
    · replace h := h.1 hc
      refine g_aload_n dX0_fewestChanges_126 rfl rfl ?_
      refine h_getR (j := 5) dX0_fewestChanges_127 f_X0_24_0 rfl rfl (by decide) hG.k12 (by decide) (hG.lt (by decide)) hG.r12_5 ?_
      refine g_iload dX0_fewestChanges_130 rfl ?_
      refine g_iload dX0_fewestChanges_132 rfl ?_
      refine g_iast dX0_fewestChanges_134 hG.k17 (by decide) (hG.lt (by decide)) (by decide) ⟨h.1, ?_⟩
      generalize hD_D1 : up2 D 17 (D 13 (D 15 x3)) (iand (D 17 (D 13 (D 15 x3))) (D 17 (D 14 (D 15 x3)))) = D1
      replace h := h.2 _ hD_D1.symm
      refine h_iinc (L' := [some (vR 12), none, some (vI x2), some (vI (x3 + (-1))), some (vI (D 13 (D 15 x3))), some (vI (D 14 (D 15 x3))), some (vI (iand (D 17 (D 13 (D 15 x3))) (D 17 (D 14 (D 15 x3)))))]) dX0_fewestChanges_135 (Nat.le_of_ble_eq_true rfl) rfl rfl rfl ?_
      refine g_goto 51 dX0_fewestChanges_138 (by decide) ?_
      exact Go.drop (by simp only [mm_sub, and_self]) h
    · replace h := h.2 hc
      refine h_iinc (L' := [some (vR 12), none, some (vI (x2 + 1)), some (vI x3), some (vI (D 13 (D 15 x3))), some (vI (D 14 (D 15 x3))), some (vI (iand (D 17 (D 13 (D 15 x3))) (D 17 (D 14 (D 15 x3)))))]) dX0_fewestChanges_103 (Nat.le_of_ble_eq_true rfl) rfl rfl rfl ?_
      refine g_aload_n dX0_fewestChanges_106 rfl rfl ?_
      refine h_getR (j := 5) dX0_fewestChanges_107 f_X0_24_0 rfl rfl (by decide) hG.k12 (by decide) (hG.lt (by decide)) hG.r12_5 ?_
      refine g_iload dX0_fewestChanges_110 rfl ?_
      refine g_dup2 dX0_fewestChanges_112 (fun _ h9 => by cases h9) (fun _ h9 => by cases h9) ?_
      refine g_iald dX0_fewestChanges_113 hG.k17 (by decide) (hG.lt (by decide)) (by decide) ⟨h.1, ?_⟩
      replace h := h.2
      refine g_aload_n dX0_fewestChanges_114 rfl rfl ?_
      refine h_getR (j := 5) dX0_fewestChanges_115 f_X0_24_0 rfl rfl (by decide) hG.k12 (by decide) (hG.lt (by decide)) hG.r12_5 ?_
      refine g_iload dX0_fewestChanges_118 rfl ?_
      refine g_iald dX0_fewestChanges_120 hG.k17 (by decide) (hG.lt (by decide)) (by decide) ⟨h.1, ?_⟩
      replace h := h.2
      refine g_ior dX0_fewestChanges_121 ?_
      refine g_iast dX0_fewestChanges_122 hG.k17 (by decide) (hG.lt (by decide)) (by decide) ⟨h.1, ?_⟩
      generalize hD_D2 : up2 D 17 (D 13 (D 15 x3)) (ior (D 17 (D 13 (D 15 x3))) (D 17 (D 14 (D 15 x3)))) = D2
      replace h := h.2 _ hD_D2.symm
      refine g_goto 135 dX0_fewestChanges_123 (by decide) ?_
      refine h_iinc (L' := [some (vR 12), none, some (vI (x2 + 1)), some (vI (x3 + (-1))), some (vI (D 13 (D 15 x3))), some (vI (D 14 (D 15 x3))), some (vI (iand (D 17 (D 13 (D 15 x3))) (D 17 (D 14 (D 15 x3)))))]) dX0_fewestChanges_135 (Nat.le_of_ble_eq_true rfl) rfl rfl rfl ?_
      refine g_goto 51 dX0_fewestChanges_138 (by decide) ?_
      exact Go.drop (by simp only [mm_sub, and_self]) h
set_option maxRecDepth 20000 in
theorem w_J6_bitCount_0f7a4 {E : mmE} {d kc ks : Nat} {G : mmG} {D : mmD} {Q : mmQ} {x0 : Int} (hG : Sh G)  (h : Q (some (vI (iand (((iand (((iand (x0 - (iand (iushr x0 1) 1431655765)) 858993459) + (iand (iushr (x0 - (iand (iushr x0 1) 1431655765)) 2) 858993459)) + (iushr ((iand (x0 - (iand (iushr x0 1) 1431655765)) 858993459) + (iand (iushr (x0 - (iand (iushr x0 1) 1431655765)) 2) 858993459)) 4)) 252645135) + (iushr (iand (((iand (x0 - (iand (iushr x0 1) 1431655765)) 858993459) + (iand (iushr (x0 - (iand (iushr x0 1) 1431655765)) 2) 858993459)) + (iushr ((iand (x0 - (iand (iushr x0 1) 1431655765)) 858993459) + (iand (iushr (x0 - (iand (iushr x0 1) 1431655765)) 2) 858993459)) 4)) 252645135) 8)) + (iushr ((iand (((iand (x0 - (iand (iushr x0 1) 1431655765)) 858993459) + (iand (iushr (x0 - (iand (iushr x0 1) 1431655765)) 2) 858993459)) + (iushr ((iand (x0 - (iand (iushr x0 1) 1431655765)) 858993459) + (iand (iushr (x0 - (iand (iushr x0 1) 1431655765)) 2) 858993459)) 4)) 252645135) + (iushr (iand (((iand (x0 - (iand (iushr x0 1) 1431655765)) 858993459) + (iand (iushr (x0 - (iand (iushr x0 1) 1431655765)) 2) 858993459)) + (iushr ((iand (x0 - (iand (iushr x0 1) 1431655765)) 858993459) + (iand (iushr (x0 - (iand (iushr x0 1) 1431655765)) 2) 858993459)) 4)) 252645135) 8)) 16)) 63))) G D) : Call E d kc ks mJ6_bitCount_0f7a4 [vI x0] G D Q := by
  show Go E d kc ks mJ6_bitCount_0f7a4 0 [some (vI x0)] [] G D Q
  refine g_iload_n dJ6_bitCount_0f7a4_0 rfl rfl ?_
  refine g_iload_n dJ6_bitCount_0f7a4_1 rfl rfl ?_
  refine g_iconst dJ6_bitCount_0f7a4_2 ?_
  refine g_iushr dJ6_bitCount_0f7a4_3 ?_
  refine g_ldcw (n := 1431655765) dJ6_bitCount_0f7a4_4 kc_J6_265 (by decide +kernel) ?_
  refine g_iand dJ6_bitCount_0f7a4_7 ?_
  refine g_isub dJ6_bitCount_0f7a4_8 ?_
  refine h_istore_n (L' := [some (vI (x0 - (iand (iushr x0 1) 1431655765)))]) dJ6_bitCount_0f7a4_9 rfl (Nat.le_of_ble_eq_true rfl) rfl rfl ?_
  refine g_iload_n dJ6_bitCount_0f7a4_10 rfl rfl ?_
  refine g_ldcw (n := 858993459) dJ6_bitCount_0f7a4_11 kc_J6_266 (by decide +kernel) ?_
  refine g_iand dJ6_bitCount_0f7a4_14 ?_
  refine g_iload_n dJ6_bitCount_0f7a4_15 rfl rfl ?_
  refine g_iconst dJ6_bitCount_0f7a4_16 ?_
  refine g_iushr dJ6_bitCount_0f7a4_17 ?_
  refine g_ldcw (n := 858993459) dJ6_bitCount_0f7a4_18 kc_J6_266 (by decide +kernel) ?_
  refine g_iand dJ6_bitCount_0f7a4_21 ?_
  refine g_iadd dJ6_bitCount_0f7a4_22 ?_
  refine h_istore_n (L' := [some (vI ((iand (x0 - (iand (iushr x0 1) 1431655765)) 858993459) + (iand (iushr (x0 - (iand (iushr x0 1) 1431655765)) 2) 858993459)))]) dJ6_bitCount_0f7a4_23 rfl (Nat.le_of_ble_eq_true rfl) rfl rfl ?_
  refine g_iload_n dJ6_bitCount_0f7a4_24 rfl rfl ?_
  refine g_iload_n dJ6_bitCount_0f7a4_25 rfl rfl ?_
  refine g_iconst dJ6_bitCount_0f7a4_26 ?_
  refine g_iushr dJ6_bitCount_0f7a4_27 ?_
  refine g_iadd dJ6_bitCount_0f7a4_28 ?_
  refine g_ldcw (n := 252645135) dJ6_bitCount_0f7a4_29 kc_J6_267 (by decide +kernel) ?_
  refine g_iand dJ6_bitCount_0f7a4_32 ?_
  refine h_istore_n (L' := [some (vI (iand (((iand (x0 - (iand (iushr x0 1) 1431655765)) 858993459) + (iand (iushr (x0 - (iand (iushr x0 1) 1431655765)) 2) 858993459)) + (iushr ((iand (x0 - (iand (iushr x0 1) 1431655765)) 858993459) + (iand (iushr (x0 - (iand (iushr x0 1) 1431655765)) 2) 858993459)) 4)) 252645135))]) dJ6_bitCount_0f7a4_33 rfl (Nat.le_of_ble_eq_true rfl) rfl rfl ?_
  refine g_iload_n dJ6_bitCount_0f7a4_34 rfl rfl ?_
  refine g_iload_n dJ6_bitCount_0f7a4_35 rfl rfl ?_
  refine g_bipush dJ6_bitCount_0f7a4_36 bp_8 ?_
  refine g_iushr dJ6_bitCount_0f7a4_38 ?_
  refine g_iadd dJ6_bitCount_0f7a4_39 ?_
  refine h_istore_n (L' := [some (vI ((iand (((iand (x0 - (iand (iushr x0 1) 1431655765)) 858993459) + (iand (iushr (x0 - (iand (iushr x0 1) 1431655765)) 2) 858993459)) + (iushr ((iand (x0 - (iand (iushr x0 1) 1431655765)) 858993459) + (iand (iushr (x0 - (iand (iushr x0 1) 1431655765)) 2) 858993459)) 4)) 252645135) + (iushr (iand (((iand (x0 - (iand (iushr x0 1) 1431655765)) 858993459) + (iand (iushr (x0 - (iand (iushr x0 1) 1431655765)) 2) 858993459)) + (iushr ((iand (x0 - (iand (iushr x0 1) 1431655765)) 858993459) + (iand (iushr (x0 - (iand (iushr x0 1) 1431655765)) 2) 858993459)) 4)) 252645135) 8)))]) dJ6_bitCount_0f7a4_40 rfl (Nat.le_of_ble_eq_true rfl) rfl rfl ?_
  refine g_iload_n dJ6_bitCount_0f7a4_41 rfl rfl ?_
  refine g_iload_n dJ6_bitCount_0f7a4_42 rfl rfl ?_
  refine g_bipush dJ6_bitCount_0f7a4_43 bp_16 ?_
  refine g_iushr dJ6_bitCount_0f7a4_45 ?_
  refine g_iadd dJ6_bitCount_0f7a4_46 ?_
  refine h_istore_n (L' := [some (vI (((iand (((iand (x0 - (iand (iushr x0 1) 1431655765)) 858993459) + (iand (iushr (x0 - (iand (iushr x0 1) 1431655765)) 2) 858993459)) + (iushr ((iand (x0 - (iand (iushr x0 1) 1431655765)) 858993459) + (iand (iushr (x0 - (iand (iushr x0 1) 1431655765)) 2) 858993459)) 4)) 252645135) + (iushr (iand (((iand (x0 - (iand (iushr x0 1) 1431655765)) 858993459) + (iand (iushr (x0 - (iand (iushr x0 1) 1431655765)) 2) 858993459)) + (iushr ((iand (x0 - (iand (iushr x0 1) 1431655765)) 858993459) + (iand (iushr (x0 - (iand (iushr x0 1) 1431655765)) 2) 858993459)) 4)) 252645135) 8)) + (iushr ((iand (((iand (x0 - (iand (iushr x0 1) 1431655765)) 858993459) + (iand (iushr (x0 - (iand (iushr x0 1) 1431655765)) 2) 858993459)) + (iushr ((iand (x0 - (iand (iushr x0 1) 1431655765)) 858993459) + (iand (iushr (x0 - (iand (iushr x0 1) 1431655765)) 2) 858993459)) 4)) 252645135) + (iushr (iand (((iand (x0 - (iand (iushr x0 1) 1431655765)) 858993459) + (iand (iushr (x0 - (iand (iushr x0 1) 1431655765)) 2) 858993459)) + (iushr ((iand (x0 - (iand (iushr x0 1) 1431655765)) 858993459) + (iand (iushr (x0 - (iand (iushr x0 1) 1431655765)) 2) 858993459)) 4)) 252645135) 8)) 16)))]) dJ6_bitCount_0f7a4_47 rfl (Nat.le_of_ble_eq_true rfl) rfl rfl ?_
  refine g_iload_n dJ6_bitCount_0f7a4_48 rfl rfl ?_
  refine g_bipush dJ6_bitCount_0f7a4_49 bp_63 ?_
  refine g_iand dJ6_bitCount_0f7a4_51 ?_
  exact g_iret dJ6_bitCount_0f7a4_52 rfl h
set_option maxRecDepth 20000 in
theorem w_J6_numberOfTrailingZeros_0f7a4 {E : mmE} {d kc ks : Nat} {G : mmG} {D : mmD} {Q : mmQ} {x0 : Int} (hG : Sh G)  (h : ((iv 0 < iv (iand (ixor x0 (-1)) (x0 - 1)) → ((iv (iand (ixor x0 (-1)) (x0 - 1)) ≤ iv 65536 → ((iv (iand (ixor x0 (-1)) (x0 - 1)) ≤ iv 256 → Go E d kc ks mJ6_numberOfTrailingZeros_0f7a4 49 [some (vI (iand (ixor x0 (-1)) (x0 - 1))), some (vI 1)] [] G D Q) ∧ (¬ iv (iand (ixor x0 (-1)) (x0 - 1)) ≤ iv 256 → Go E d kc ks mJ6_numberOfTrailingZeros_0f7a4 49 [some (vI (iushr (iand (ixor x0 (-1)) (x0 - 1)) 8)), some (vI (1 + 8))] [] G D Q))) ∧ (¬ iv (iand (ixor x0 (-1)) (x0 - 1)) ≤ iv 65536 → ((iv (iushr (iand (ixor x0 (-1)) (x0 - 1)) 16) ≤ iv 256 → Go E d kc ks mJ6_numberOfTrailingZeros_0f7a4 49 [some (vI (iushr (iand (ixor x0 (-1)) (x0 - 1)) 16)), some (vI (1 + 16))] [] G D Q) ∧ (¬ iv (iushr (iand (ixor x0 (-1)) (x0 - 1)) 16) ≤ iv 256 → Go E d kc ks mJ6_numberOfTrailingZeros_0f7a4 49 [some (vI (iushr (iushr (iand (ixor x0 (-1)) (x0 - 1)) 16) 8)), some (vI ((1 + 16) + 8))] [] G D Q))))) ∧ (¬ iv 0 < iv (iand (ixor x0 (-1)) (x0 - 1)) → Q (some (vI (iand (iand (ixor x0 (-1)) (x0 - 1)) 32))) G D))) : Call E d kc ks mJ6_numberOfTrailingZeros_0f7a4 [vI x0] G D Q := by
  show Go E d kc ks mJ6_numberOfTrailingZeros_0f7a4 0 [some (vI x0), none] [] G D Q
  refine g_iload_n dJ6_numberOfTrailingZeros_0f7a4_0 rfl rfl ?_
  refine g_iconst dJ6_numberOfTrailingZeros_0f7a4_1 ?_
  refine g_ixor dJ6_numberOfTrailingZeros_0f7a4_2 ?_
  refine g_iload_n dJ6_numberOfTrailingZeros_0f7a4_3 rfl rfl ?_
  refine g_iconst dJ6_numberOfTrailingZeros_0f7a4_4 ?_
  refine g_isub dJ6_numberOfTrailingZeros_0f7a4_5 ?_
  refine g_iand dJ6_numberOfTrailingZeros_0f7a4_6 ?_
  refine h_istore_n (L' := [some (vI (iand (ixor x0 (-1)) (x0 - 1))), none]) dJ6_numberOfTrailingZeros_0f7a4_7 rfl (Nat.le_of_ble_eq_true rfl) rfl rfl ?_
  refine g_iload_n dJ6_numberOfTrailingZeros_0f7a4_8 rfl rfl ?_
  refine g_if_gt 17 dJ6_numberOfTrailingZeros_0f7a4_9 (by decide) ⟨fun hc => ?_, fun hc => ?_⟩
  · replace h := h.1 hc
    refine g_iconst dJ6_numberOfTrailingZeros_0f7a4_17 ?_
    refine h_istore_n (L' := [some (vI (iand (ixor x0 (-1)) (x0 - 1))), some (vI 1)]) dJ6_numberOfTrailingZeros_0f7a4_18 rfl (Nat.le_of_ble_eq_true rfl) rfl rfl ?_
    refine g_iload_n dJ6_numberOfTrailingZeros_0f7a4_19 rfl rfl ?_
    refine g_ldcw (n := 65536) dJ6_numberOfTrailingZeros_0f7a4_20 kc_J6_264 (by decide +kernel) ?_
    refine g_icmp_le 34 dJ6_numberOfTrailingZeros_0f7a4_23 (by decide) ⟨fun hc => ?_, fun hc => ?_⟩
    · replace h := h.1 hc
      refine g_iload_n dJ6_numberOfTrailingZeros_0f7a4_34 rfl rfl ?_
      refine g_sipush dJ6_numberOfTrailingZeros_0f7a4_35 sp_256 ?_
      refine g_icmp_le 49 dJ6_numberOfTrailingZeros_0f7a4_38 (by decide) ⟨fun hc => ?_, fun hc => ?_⟩
      · replace h := h.1 hc
        exact Go.drop (by simp only [mm_sub, and_self]) h
      · replace h := h.2 hc
        refine h_iinc (L' := [some (vI (iand (ixor x0 (-1)) (x0 - 1))), some (vI (1 + 8))]) dJ6_numberOfTrailingZeros_0f7a4_41 (Nat.le_of_ble_eq_true rfl) rfl rfl rfl ?_
        refine g_iload_n dJ6_numberOfTrailingZeros_0f7a4_44 rfl rfl ?_
        refine g_bipush dJ6_numberOfTrailingZeros_0f7a4_45 bp_8 ?_
        refine g_iushr dJ6_numberOfTrailingZeros_0f7a4_47 ?_
        refine h_istore_n (L' := [some (vI (iushr (iand (ixor x0 (-1)) (x0 - 1)) 8)), some (vI (1 + 8))]) dJ6_numberOfTrailingZeros_0f7a4_48 rfl (Nat.le_of_ble_eq_true rfl) rfl rfl ?_
        exact Go.drop (by simp only [mm_sub, and_self]) h
    · replace h := h.2 hc
      refine h_iinc (L' := [some (vI (iand (ixor x0 (-1)) (x0 - 1))), some (vI (1 + 16))]) dJ6_numberOfTrailingZeros_0f7a4_26 (Nat.le_of_ble_eq_true rfl) rfl rfl rfl ?_
      refine g_iload_n dJ6_numberOfTrailingZeros_0f7a4_29 rfl rfl ?_
      refine g_bipush dJ6_numberOfTrailingZeros_0f7a4_30 bp_16 ?_
      refine g_iushr dJ6_numberOfTrailingZeros_0f7a4_32 ?_
      refine h_istore_n (L' := [some (vI (iushr (iand (ixor x0 (-1)) (x0 - 1)) 16)), some (vI (1 + 16))]) dJ6_numberOfTrailingZeros_0f7a4_33 rfl (Nat.le_of_ble_eq_true rfl) rfl rfl ?_
      refine g_iload_n dJ6_numberOfTrailingZeros_0f7a4_34 rfl rfl ?_
      refine g_sipush dJ6_numberOfTrailingZeros_0f7a4_35 sp_256 ?_
      refine g_icmp_le 49 dJ6_numberOfTrailingZeros_0f7a4_38 (by decide) ⟨fun hc => ?_, fun hc => ?_⟩
      · replace h := h.1 hc
        exact Go.drop (by simp only [mm_sub, and_self]) h
      · replace h := h.2 hc
        refine h_iinc (L' := [some (vI (iushr (iand (ixor x0 (-1)) (x0 - 1)) 16)), some (vI ((1 + 16) + 8))]) dJ6_numberOfTrailingZeros_0f7a4_41 (Nat.le_of_ble_eq_true rfl) rfl rfl rfl ?_
        refine g_iload_n dJ6_numberOfTrailingZeros_0f7a4_44 rfl rfl ?_
        refine g_bipush dJ6_numberOfTrailingZeros_0f7a4_45 bp_8 ?_
        refine g_iushr dJ6_numberOfTrailingZeros_0f7a4_47 ?_
        refine h_istore_n (L' := [some (vI (iushr (iushr (iand (ixor x0 (-1)) (x0 - 1)) 16) 8)), some (vI ((1 + 16) + 8))]) dJ6_numberOfTrailingZeros_0f7a4_48 rfl (Nat.le_of_ble_eq_true rfl) rfl rfl ?_
        exact Go.drop (by simp only [mm_sub, and_self]) h
  · replace h := h.2 hc
    refine g_iload_n dJ6_numberOfTrailingZeros_0f7a4_12 rfl rfl ?_
    refine g_bipush dJ6_numberOfTrailingZeros_0f7a4_13 bp_32 ?_
    refine g_iand dJ6_numberOfTrailingZeros_0f7a4_15 ?_
    exact g_iret dJ6_numberOfTrailingZeros_0f7a4_16 rfl h
set_option maxRecDepth 20000 in
theorem w_J6_numberOfTrailingZeros_0f7a4_49 {E : mmE} {d kc ks : Nat} {G : mmG} {D : mmD} {Q : mmQ} {x0 x1 : Int} (hG : Sh G)  (h : ((iv x0 ≤ iv 16 → ((iv x0 ≤ iv 4 → Q (some (vI (x1 + (iushr x0 1)))) G D) ∧ (¬ iv x0 ≤ iv 4 → Q (some (vI ((x1 + 2) + (iushr (iushr x0 2) 1)))) G D))) ∧ (¬ iv x0 ≤ iv 16 → ((iv (iushr x0 4) ≤ iv 4 → Q (some (vI ((x1 + 4) + (iushr (iushr x0 4) 1)))) G D) ∧ (¬ iv (iushr x0 4) ≤ iv 4 → Q (some (vI (((x1 + 4) + 2) + (iushr (iushr (iushr x0 4) 2) 1)))) G D))))) : Go E d kc ks mJ6_numberOfTrailingZeros_0f7a4 49 [some (vI x0), some (vI x1)] [] G D Q := by
  refine g_iload_n dJ6_numberOfTrailingZeros_0f7a4_49 rfl rfl ?_
  refine g_bipush dJ6_numberOfTrailingZeros_0f7a4_50 bp_16 ?_
  refine g_icmp_le 62 dJ6_numberOfTrailingZeros_0f7a4_52 (by decide) ⟨fun hc => ?_, fun hc => ?_⟩
  · replace h := h.1 hc
    refine g_iload_n dJ6_numberOfTrailingZeros_0f7a4_62 rfl rfl ?_
    refine g_iconst dJ6_numberOfTrailingZeros_0f7a4_63 ?_
    refine g_icmp_le 74 dJ6_numberOfTrailingZeros_0f7a4_64 (by decide) ⟨fun hc => ?_, fun hc => ?_⟩
    · replace h := h.1 hc
      refine g_iload_n dJ6_numberOfTrailingZeros_0f7a4_74 rfl rfl ?_
      refine g_iload_n dJ6_numberOfTrailingZeros_0f7a4_75 rfl rfl ?_
      refine g_iconst dJ6_numberOfTrailingZeros_0f7a4_76 ?_
      refine g_iushr dJ6_numberOfTrailingZeros_0f7a4_77 ?_
      refine g_iadd dJ6_numberOfTrailingZeros_0f7a4_78 ?_
      exact g_iret dJ6_numberOfTrailingZeros_0f7a4_79 rfl h
    · replace h := h.2 hc
      refine h_iinc (L' := [some (vI x0), some (vI (x1 + 2))]) dJ6_numberOfTrailingZeros_0f7a4_67 (Nat.le_of_ble_eq_true rfl) rfl rfl rfl ?_
      refine g_iload_n dJ6_numberOfTrailingZeros_0f7a4_70 rfl rfl ?_
      refine g_iconst dJ6_numberOfTrailingZeros_0f7a4_71 ?_
      refine g_iushr dJ6_numberOfTrailingZeros_0f7a4_72 ?_
      refine h_istore_n (L' := [some (vI (iushr x0 2)), some (vI (x1 + 2))]) dJ6_numberOfTrailingZeros_0f7a4_73 rfl (Nat.le_of_ble_eq_true rfl) rfl rfl ?_
      refine g_iload_n dJ6_numberOfTrailingZeros_0f7a4_74 rfl rfl ?_
      refine g_iload_n dJ6_numberOfTrailingZeros_0f7a4_75 rfl rfl ?_
      refine g_iconst dJ6_numberOfTrailingZeros_0f7a4_76 ?_
      refine g_iushr dJ6_numberOfTrailingZeros_0f7a4_77 ?_
      refine g_iadd dJ6_numberOfTrailingZeros_0f7a4_78 ?_
      exact g_iret dJ6_numberOfTrailingZeros_0f7a4_79 rfl h
  · replace h := h.2 hc
    refine h_iinc (L' := [some (vI x0), some (vI (x1 + 4))]) dJ6_numberOfTrailingZeros_0f7a4_55 (Nat.le_of_ble_eq_true rfl) rfl rfl rfl ?_
    refine g_iload_n dJ6_numberOfTrailingZeros_0f7a4_58 rfl rfl ?_
    refine g_iconst dJ6_numberOfTrailingZeros_0f7a4_59 ?_
    refine g_iushr dJ6_numberOfTrailingZeros_0f7a4_60 ?_
    refine h_istore_n (L' := [some (vI (iushr x0 4)), some (vI (x1 + 4))]) dJ6_numberOfTrailingZeros_0f7a4_61 rfl (Nat.le_of_ble_eq_true rfl) rfl rfl ?_
    refine g_iload_n dJ6_numberOfTrailingZeros_0f7a4_62 rfl rfl ?_
    refine g_iconst dJ6_numberOfTrailingZeros_0f7a4_63 ?_
    refine g_icmp_le 74 dJ6_numberOfTrailingZeros_0f7a4_64 (by decide) ⟨fun hc => ?_, fun hc => ?_⟩
    · replace h := h.1 hc
      refine g_iload_n dJ6_numberOfTrailingZeros_0f7a4_74 rfl rfl ?_
      refine g_iload_n dJ6_numberOfTrailingZeros_0f7a4_75 rfl rfl ?_
      refine g_iconst dJ6_numberOfTrailingZeros_0f7a4_76 ?_
      refine g_iushr dJ6_numberOfTrailingZeros_0f7a4_77 ?_
      refine g_iadd dJ6_numberOfTrailingZeros_0f7a4_78 ?_
      exact g_iret dJ6_numberOfTrailingZeros_0f7a4_79 rfl h
    · replace h := h.2 hc
      refine h_iinc (L' := [some (vI (iushr x0 4)), some (vI ((x1 + 4) + 2))]) dJ6_numberOfTrailingZeros_0f7a4_67 (Nat.le_of_ble_eq_true rfl) rfl rfl rfl ?_
      refine g_iload_n dJ6_numberOfTrailingZeros_0f7a4_70 rfl rfl ?_
      refine g_iconst dJ6_numberOfTrailingZeros_0f7a4_71 ?_
      refine g_iushr dJ6_numberOfTrailingZeros_0f7a4_72 ?_
      refine h_istore_n (L' := [some (vI (iushr (iushr x0 4) 2)), some (vI ((x1 + 4) + 2))]) dJ6_numberOfTrailingZeros_0f7a4_73 rfl (Nat.le_of_ble_eq_true rfl) rfl rfl ?_
      refine g_iload_n dJ6_numberOfTrailingZeros_0f7a4_74 rfl rfl ?_
      refine g_iload_n dJ6_numberOfTrailingZeros_0f7a4_75 rfl rfl ?_
      refine g_iconst dJ6_numberOfTrailingZeros_0f7a4_76 ?_
      refine g_iushr dJ6_numberOfTrailingZeros_0f7a4_77 ?_
      refine g_iadd dJ6_numberOfTrailingZeros_0f7a4_78 ?_
      exact g_iret dJ6_numberOfTrailingZeros_0f7a4_79 rfl h
