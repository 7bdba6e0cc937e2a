set_option maxRecDepth 20000 in
theorem w_X2_begin_k1 {E : mmE} {d kc ks : Nat} {G : mmG} {D : mmD} {Q : mmQ} {r0 x1 : Int} (hG : Sh G) (he0 : isEv G 1 r0) (h : ((iv (D r0 6) < iv 0 → (∀ D1 : mmD, D1 = up2 D r0 6 ((D r0 6) + 1) → Q none G D1)) ∧ (¬ iv (D r0 6) < iv 0 → ((iv 20 ≤ iv (D r0 6) → (∀ D2 : mmD, D2 = up2 D r0 6 ((D r0 6) + 1) → Q none G D2)) ∧ (¬ iv 20 ≤ iv (D r0 6) → ((0 ≤ (D r0 6) ∧ (D r0 6) < 20) ∧ (∀ D3 : mmD, D3 = up2 D (r0 + 1) (D r0 6) x1 → (∀ D4 : mmD, D4 = up2 D3 r0 6 ((D3 r0 6) + 1) → Q none G D4)))))))) : Call E d kc ks mX2_begin [vR r0, vI x1] G D Q := by
  show Go E d kc ks mX2_begin 0 [some (vR r0), some (vI x1)] [] G D Q
  refine g_aload_n dX2_begin_0 rfl rfl ?_
  refine h_getI (j := 6) dX2_begin_1 f_X2_42_1 rfl rfl (by decide) he0.2.2.1 he0.ge he0.lt ?_
  refine g_if_lt 26 dX2_begin_4 (by decide) ⟨fun hc => ?_, fun hc => ?_⟩
  · replace h := h.1 hc
    refine g_aload_n dX2_begin_26 rfl rfl ?_
    refine g_dup dX2_begin_27 (fun _ h9 => by cases h9) ?_
    refine h_getI (j := 6) dX2_begin_28 f_X2_42_1 rfl rfl (by decide) he0.2.2.1 he0.ge he0.lt ?_
    refine g_iconst dX2_begin_31 ?_
    refine g_iadd dX2_begin_32 ?_
    refine h_putI (j := 6) dX2_begin_33 f_X2_42_1 (Or.inl (mm_finI (by decide +kernel))) rfl rfl (by decide) he0.2.2.1 he0.ge he0.lt ?_
    generalize hD_D1 : up2 D r0 6 ((D r0 6) + 1) = D1
    replace h := h _ hD_D1.symm
    exact g_vret dX2_begin_36 rfl h
  · replace h := h.2 hc
    refine g_aload_n dX2_begin_7 rfl rfl ?_
    refine h_getI (j := 6) dX2_begin_8 f_X2_42_1 rfl rfl (by decide) he0.2.2.1 he0.ge he0.lt ?_
    refine g_bipush dX2_begin_11 bp_20 ?_
    refine g_icmp_ge 26 dX2_begin_13 (by decide) ⟨fun hc => ?_, fun hc => ?_⟩
    · replace h := h.1 hc
      refine g_aload_n dX2_begin_26 rfl rfl ?_
      refine g_dup dX2_begin_27 (fun _ h9 => by cases h9) ?_
      refine h_getI (j := 6) dX2_begin_28 f_X2_42_1 rfl rfl (by decide) he0.2.2.1 he0.ge he0.lt ?_
      refine g_iconst dX2_begin_31 ?_
      refine g_iadd dX2_begin_32 ?_
      refine h_putI (j := 6) dX2_begin_33 f_X2_42_1 (Or.inl (mm_finI (by decide +kernel))) rfl rfl (by decide) he0.2.2.1 he0.ge he0.lt ?_
      generalize hD_D2 : up2 D r0 6 ((D r0 6) + 1) = D2
      replace h := h _ hD_D2.symm
      exact g_vret dX2_begin_36 rfl h
    · replace h := h.2 hc
      refine g_aload_n dX2_begin_16 rfl rfl ?_
      refine h_getR (j := 5) dX2_begin_17 f_X2_9_1 rfl rfl (by decide) he0.2.2.1 he0.ge he0.lt he0.2.2.2.2 ?_
      refine g_aload_n dX2_begin_20 rfl rfl ?_
      refine h_getI (j := 6) dX2_begin_21 f_X2_42_1 rfl rfl (by decide) he0.2.2.1 he0.ge he0.lt ?_
      refine g_iload_n dX2_begin_24 rfl rfl ?_
      refine g_iast dX2_begin_25 he0.2.2.2.1 he0.gea he0.lta (by decide) ⟨h.1, ?_⟩
      generalize hD_D3 : up2 D (r0 + 1) (D r0 6) x1 = D3
      replace h := h.2 _ hD_D3.symm
      refine g_aload_n dX2_begin_26 rfl rfl ?_
      refine g_dup dX2_begin_27 (fun _ h9 => by cases h9) ?_
      refine h_getI (j := 6) dX2_begin_28 f_X2_42_1 rfl rfl (by decide) he0.2.2.1 he0.ge he0.lt ?_
      refine g_iconst dX2_begin_31 ?_
      refine g_iadd dX2_begin_32 ?_
      refine h_putI (j := 6) dX2_begin_33 f_X2_42_1 (Or.inl (mm_finI (by decide +kernel))) rfl rfl (by decide) he0.2.2.1 he0.ge he0.lt ?_
      generalize hD_D4 : up2 D3 r0 6 ((D3 r0 6) + 1) = D4
      replace h := h _ hD_D4.symm
      exact g_vret dX2_begin_36 rfl h
set_option maxRecDepth 20000 in
theorem w_X2_begin_k2 {E : mmE} {d kc ks : Nat} {G : mmG} {D : mmD} {Q : mmQ} {r0 x1 : Int} (hG : Sh G) (he0 : isEv G 2 r0) (h : ((iv (D r0 6) < iv 0 → (∀ D1 : mmD, D1 = up2 D r0 6 ((D r0 6) + 1) → Q none G D1)) ∧ (¬ iv (D r0 6) < iv 0 → ((iv 20 ≤ iv (D r0 6) → (∀ D2 : mmD, D2 = up2 D r0 6 ((D r0 6) + 1) → Q none G D2)) ∧ (¬ iv 20 ≤ iv (D r0 6) → ((0 ≤ (D r0 6) ∧ (D r0 6) < 20) ∧ (∀ D3 : mmD, D3 = up2 D (r0 + 1) (D r0 6) x1 → (∀ D4 : mmD, D4 = up2 D3 r0 6 ((D3 r0 6) + 1) → Q none G D4)))))))) : Call E d kc ks mX2_begin [vR r0, vI x1] G D Q := by
  show Go E d kc ks mX2_begin 0 [some (vR r0), some (vI x1)] [] G D Q
  refine g_aload_n dX2_begin_0 rfl rfl ?_
  refine h_getI (j := 6) dX2_begin_1 f_X2_42_2 rfl rfl (by decide) he0.2.2.1 he0.ge he0.lt ?_
  refine g_if_lt 26 dX2_begin_4 (by decide) ⟨fun hc => ?_, fun hc => ?_⟩
  · replace h := h.1 hc
    refine g_aload_n dX2_begin_26 rfl rfl ?_
    refine g_dup dX2_begin_27 (fun _ h9 => by cases h9) ?_
    refine h_getI (j := 6) dX2_begin_28 f_X2_42_2 rfl rfl (by decide) he0.2.2.1 he0.ge he0.lt ?_
    refine g_iconst dX2_begin_31 ?_
    refine g_iadd dX2_begin_32 ?_
    refine h_putI (j := 6) dX2_begin_33 f_X2_42_2 (Or.inl (mm_finI (by decide +kernel))) rfl rfl (by decide) he0.2.2.1 he0.ge he0.lt ?_
    generalize hD_D1 : up2 D r0 6 ((D r0 6) + 1) = D1
    replace h := h _ hD_D1.symm
    exact g_vret dX2_begin_36 rfl h
  · replace h := h.2 hc
    refine g_aload_n dX2_begin_7 rfl rfl ?_
    refine h_getI (j := 6) dX2_begin_8 f_X2_42_2 rfl rfl (by decide) he0.2.2.1 he0.ge he0.lt ?_
    refine g_bipush dX2_begin_11 bp_20 ?_
    refine g_icmp_ge 26 dX2_begin_13 (by decide) ⟨fun hc => ?_, fun hc => ?_⟩
    · replace h := h.1 hc
      refine g_aload_n dX2_begin_26 rfl rfl ?_
      refine g_dup dX2_begin_27 (fun _ h9 => by cases h9) ?_
      refine h_getI (j := 6) dX2_begin_28 f_X2_42_2 rfl rfl (by decide) he0.2.2.1 he0.ge he0.lt ?_
      refine g_iconst dX2_begin_31 ?_
      refine g_iadd dX2_begin_32 ?_
      refine h_putI (j := 6) dX2_begin_33 f_X2_42_2 (Or.inl (mm_finI (by decide +kernel))) rfl rfl (by decide) he0.2.2.1 he0.ge he0.lt ?_
      generalize hD_D2 : up2 D r0 6 ((D r0 6) + 1) = D2
      replace h := h _ hD_D2.symm
      exact g_vret dX2_begin_36 rfl h
    · replace h := h.2 hc
      refine g_aload_n dX2_begin_16 rfl rfl ?_
      refine h_getR (j := 5) dX2_begin_17 f_X2_9_2 rfl rfl (by decide) he0.2.2.1 he0.ge he0.lt he0.2.2.2.2 ?_
      refine g_aload_n dX2_begin_20 rfl rfl ?_
      refine h_getI (j := 6) dX2_begin_21 f_X2_42_2 rfl rfl (by decide) he0.2.2.1 he0.ge he0.lt ?_
      refine g_iload_n dX2_begin_24 rfl rfl ?_
      refine g_iast dX2_begin_25 he0.2.2.2.1 he0.gea he0.lta (by decide) ⟨h.1, ?_⟩
      generalize hD_D3 : up2 D (r0 + 1) (D r0 6) x1 = D3
      replace h := h.2 _ hD_D3.symm
      refine g_aload_n dX2_begin_26 rfl rfl ?_
      refine g_dup dX2_begin_27 (fun _ h9 => by cases h9) ?_
      refine h_getI (j := 6) dX2_begin_28 f_X2_42_2 rfl rfl (by decide) he0.2.2.1 he0.ge he0.lt ?_
      refine g_iconst dX2_begin_31 ?_
      refine g_iadd dX2_begin_32 ?_
      refine h_putI (j := 6) dX2_begin_33 f_X2_42_2 (Or.inl (mm_finI (by decide +kernel))) rfl rfl (by decide) he0.2.2.1 he0.ge he0.lt ?_
      generalize hD_D4 : up2 D3 r0 6 ((D3 r0 6) + 1) = D4
      replace h := h _ hD_D4.symm
      exact g_vret dX2_begin_36 rfl h
set_option maxRecDepth 20000 in
theorem w_X2_begin_k4 {E : mmE} {d kc ks : Nat} {G : mmG} {D : mmD} {Q : mmQ} {r0 x1 : Int} (hG : Sh G) (he0 : isEv G 4 r0) (h : ((iv (D r0 6) < iv 0 → (∀ D1 : mmD, D1 = up2 D r0 6 ((D r0 6) + 1) → Q none G D1)) ∧ (¬ iv (D r0 6) < iv 0 → ((iv 20 ≤ iv (D r0 6) → (∀ D2 : mmD, D2 = up2 D r0 6 ((D r0 6) + 1) → Q none G D2)) ∧ (¬ iv 20 ≤ iv (D r0 6) → ((0 ≤ (D r0 6) ∧ (D r0 6) < 20) ∧ (∀ D3 : mmD, D3 = up2 D (r0 + 1) (D r0 6) x1 → (∀ D4 : mmD, D4 = up2 D3 r0 6 ((D3 r0 6) + 1) → Q none G D4)))))))) : Call E d kc ks mX2_begin [vR r0, vI x1] G D Q := by
  show Go E d kc ks mX2_begin 0 [some (vR r0), some (vI x1)] [] G D Q
  refine g_aload_n dX2_begin_0 rfl rfl ?_
  refine h_getI (j := 6) dX2_begin_1 f_X2_42_4 rfl rfl (by decide) he0.2.2.1 he0.ge he0.lt ?_
  refine g_if_lt 26 dX2_begin_4 (by decide) ⟨fun hc => ?_, fun hc => ?_⟩
  · replace h := h.1 hc
    refine g_aload_n dX2_begin_26 rfl rfl ?_
    refine g_dup dX2_begin_27 (fun _ h9 => by cases h9) ?_
    refine h_getI (j := 6) dX2_begin_28 f_X2_42_4 rfl rfl (by decide) he0.2.2.1 he0.ge he0.lt ?_
    refine g_iconst dX2_begin_31 ?_
    refine g_iadd dX2_begin_32 ?_
    refine h_putI (j := 6) dX2_begin_33 f_X2_42_4 (Or.inl (mm_finI (by decide +kernel))) rfl rfl (by decide) he0.2.2.1 he0.ge he0.lt ?_
    generalize hD_D1 : up2 D r0 6 ((D r0 6) + 1) = D1
    replace h := h _ hD_D1.symm
    exact g_vret dX2_begin_36 rfl h
  · replace h := h.2 hc
    refine g_aload_n dX2_begin_7 rfl rfl ?_
    refine h_getI (j := 6) dX2_begin_8 f_X2_42_4 rfl rfl (by decide) he0.2.2.1 he0.ge he0.lt ?_
    refine g_bipush dX2_begin_11 bp_20 ?_
    refine g_icmp_ge 26 dX2_begin_13 (by decide) ⟨fun hc => ?_, fun hc => ?_⟩
    · replace h := h.1 hc
      refine g_aload_n dX2_begin_26 rfl rfl ?_
      refine g_dup dX2_begin_27 (fun _ h9 => by cases h9) ?_
      refine h_getI (j := 6) dX2_begin_28 f_X2_42_4 rfl rfl (by decide) he0.2.2.1 he0.ge he0.lt ?_
      refine g_iconst dX2_begin_31 ?_
      refine g_iadd dX2_begin_32 ?_
      refine h_putI (j := 6) dX2_begin_33 f_X2_42_4 (Or.inl (mm_finI (by decide +kernel))) rfl rfl (by decide) he0.2.2.1 he0.ge he0.lt ?_
      generalize hD_D2 : up2 D r0 6 ((D r0 6) + 1) = D2
      replace h := h _ hD_D2.symm
      exact g_vret dX2_begin_36 rfl h
    · replace h := h.2 hc
      refine g_aload_n dX2_begin_16 rfl rfl ?_
      refine h_getR (j := 5) dX2_begin_17 f_X2_9_4 rfl rfl (by decide) he0.2.2.1 he0.ge he0.lt he0.2.2.2.2 ?_
      refine g_aload_n dX2_begin_20 rfl rfl ?_
      refine h_getI (j := 6) dX2_begin_21 f_X2_42_4 rfl rfl (by decide) he0.2.2.1 he0.ge he0.lt ?_
      refine g_iload_n dX2_begin_24 rfl rfl ?_
      refine g_iast dX2_begin_25 he0.2.2.2.1 he0.gea he0.lta (by decide) ⟨h.1, ?_⟩
      generalize hD_D3 : up2 D (r0 + 1) (D r0 6) x1 = D3
      replace h := h.2 _ hD_D3.symm
      refine g_aload_n dX2_begin_26 rfl rfl ?_
      refine g_dup dX2_begin_27 (fun _ h9 => by cases h9) ?_
      refine h_getI (j := 6) dX2_begin_28 f_X2_42_4 rfl rfl (by decide) he0.2.2.1 he0.ge he0.lt ?_
      refine g_iconst dX2_begin_31 ?_
      refine g_iadd dX2_begin_32 ?_
      refine h_putI (j := 6) dX2_begin_33 f_X2_42_4 (Or.inl (mm_finI (by decide +kernel))) rfl rfl (by decide) he0.2.2.1 he0.ge he0.lt ?_
      generalize hD_D4 : up2 D3 r0 6 ((D3 r0 6) + 1) = D4
      replace h := h _ hD_D4.symm
      exact g_vret dX2_begin_36 rfl h
set_option maxRecDepth 20000 in
theorem w_X2_begin_k5 {E : mmE} {d kc ks : Nat} {G : mmG} {D : mmD} {Q : mmQ} {r0 x1 : Int} (hG : Sh G) (he0 : isEv G 5 r0) (h : ((iv (D r0 6) < iv 0 → (∀ D1 : mmD, D1 = up2 D r0 6 ((D r0 6) + 1) → Q none G D1)) ∧ (¬ iv (D r0 6) < iv 0 → ((iv 20 ≤ iv (D r0 6) → (∀ D2 : mmD, D2 = up2 D r0 6 ((D r0 6) + 1) → Q none G D2)) ∧ (¬ iv 20 ≤ iv (D r0 6) → ((0 ≤ (D r0 6) ∧ (D r0 6) < 20) ∧ (∀ D3 : mmD, D3 = up2 D (r0 + 1) (D r0 6) x1 → (∀ D4 : mmD, D4 = up2 D3 r0 6 ((D3 r0 6) + 1) → Q none G D4)))))))) : Call E d kc ks mX2_begin [vR r0, vI x1] G D Q := by
  show Go E d kc ks mX2_begin 0 [some (vR r0), some (vI x1)] [] G D Q
  refine g_aload_n dX2_begin_0 rfl rfl ?_
  refine h_getI (j := 6) dX2_begin_1 f_X2_42_5 rfl rfl (by decide) he0.2.2.1 he0.ge he0.lt ?_
  refine g_if_lt 26 dX2_begin_4 (by decide) ⟨fun hc => ?_, fun hc => ?_⟩
  · replace h := h.1 hc
    refine g_aload_n dX2_begin_26 rfl rfl ?_
    refine g_dup dX2_begin_27 (fun _ h9 => by cases h9) ?_
    refine h_getI (j := 6) dX2_begin_28 f_X2_42_5 rfl rfl (by decide) he0.2.2.1 he0.ge he0.lt ?_
    refine g_iconst dX2_begin_31 ?_
    refine g_iadd dX2_begin_32 ?_
    refine h_putI (j := 6) dX2_begin_33 f_X2_42_5 (Or.inl (mm_finI (by decide +kernel))) rfl rfl (by decide) he0.2.2.1 he0.ge he0.lt ?_
    generalize hD_D1 : up2 D r0 6 ((D r0 6) + 1) = D1
    replace h := h _ hD_D1.symm
    exact g_vret dX2_begin_36 rfl h
  · replace h := h.2 hc
    refine g_aload_n dX2_begin_7 rfl rfl ?_
    refine h_getI (j := 6) dX2_begin_8 f_X2_42_5 rfl rfl (by decide) he0.2.2.1 he0.ge he0.lt ?_
    refine g_bipush dX2_begin_11 bp_20 ?_
    refine g_icmp_ge 26 dX2_begin_13 (by decide) ⟨fun hc => ?_, fun hc => ?_⟩
    · replace h := h.1 hc
      refine g_aload_n dX2_begin_26 rfl rfl ?_
      refine g_dup dX2_begin_27 (fun _ h9 => by cases h9) ?_
      refine h_getI (j := 6) dX2_begin_28 f_X2_42_5 rfl rfl (by decide) he0.2.2.1 he0.ge he0.lt ?_
      refine g_iconst dX2_begin_31 ?_
      refine g_iadd dX2_begin_32 ?_
      refine h_putI (j := 6) dX2_begin_33 f_X2_42_5 (Or.inl (mm_finI (by decide +kernel))) rfl rfl (by decide) he0.2.2.1 he0.ge he0.lt ?_
      generalize hD_D2 : up2 D r0 6 ((D r0 6) + 1) = D2
      replace h := h _ hD_D2.symm
      exact g_vret dX2_begin_36 rfl h
    · replace h := h.2 hc
      refine g_aload_n dX2_begin_16 rfl rfl ?_
      refine h_getR (j := 5) dX2_begin_17 f_X2_9_5 rfl rfl (by decide) he0.2.2.1 he0.ge he0.lt he0.2.2.2.2 ?_
      refine g_aload_n dX2_begin_20 rfl rfl ?_
      refine h_getI (j := 6) dX2_begin_21 f_X2_42_5 rfl rfl (by decide) he0.2.2.1 he0.ge he0.lt ?_
      refine g_iload_n dX2_begin_24 rfl rfl ?_
      refine g_iast dX2_begin_25 he0.2.2.2.1 he0.gea he0.lta (by decide) ⟨h.1, ?_⟩
      generalize hD_D3 : up2 D (r0 + 1) (D r0 6) x1 = D3
      replace h := h.2 _ hD_D3.symm
      refine g_aload_n dX2_begin_26 rfl rfl ?_
      refine g_dup dX2_begin_27 (fun _ h9 => by cases h9) ?_
      refine h_getI (j := 6) dX2_begin_28 f_X2_42_5 rfl rfl (by decide) he0.2.2.1 he0.ge he0.lt ?_
      refine g_iconst dX2_begin_31 ?_
      refine g_iadd dX2_begin_32 ?_
      refine h_putI (j := 6) dX2_begin_33 f_X2_42_5 (Or.inl (mm_finI (by decide +kernel))) rfl rfl (by decide) he0.2.2.1 he0.ge he0.lt ?_
      generalize hD_D4 : up2 D3 r0 6 ((D3 r0 6) + 1) = D4
      replace h := h _ hD_D4.symm
      exact g_vret dX2_begin_36 rfl h
set_option maxRecDepth 20000 in
theorem w_X2_begin_k7 {E : mmE} {d kc ks : Nat} {G : mmG} {D : mmD} {Q : mmQ} {r0 x1 : Int} (hG : Sh G) (he0 : isEv G 7 r0) (h : ((iv (D r0 6) < iv 0 → (∀ D1 : mmD, D1 = up2 D r0 6 ((D r0 6) + 1) → Q none G D1)) ∧ (¬ iv (D r0 6) < iv 0 → ((iv 20 ≤ iv (D r0 6) → (∀ D2 : mmD, D2 = up2 D r0 6 ((D r0 6) + 1) → Q none G D2)) ∧ (¬ iv 20 ≤ iv (D r0 6) → ((0 ≤ (D r0 6) ∧ (D r0 6) < 20) ∧ (∀ D3 : mmD, D3 = up2 D (r0 + 1) (D r0 6) x1 → (∀ D4 : mmD, D4 = up2 D3 r0 6 ((D3 r0 6) + 1) → Q none G D4)))))))) : Call E d kc ks mX2_begin [vR r0, vI x1] G D Q := by
  show Go E d kc ks mX2_begin 0 [some (vR r0), some (vI x1)] [] G D Q
  refine g_aload_n dX2_begin_0 rfl rfl ?_
  refine h_getI (j := 6) dX2_begin_1 f_X2_42_7 rfl rfl (by decide) he0.2.2.1 he0.ge he0.lt ?_
  refine g_if_lt 26 dX2_begin_4 (by decide) ⟨fun hc => ?_, fun hc => ?_⟩
  · replace h := h.1 hc
    refine g_aload_n dX2_begin_26 rfl rfl ?_
    refine g_dup dX2_begin_27 (fun _ h9 => by cases h9) ?_
    refine h_getI (j := 6) dX2_begin_28 f_X2_42_7 rfl rfl (by decide) he0.2.2.1 he0.ge he0.lt ?_
    refine g_iconst dX2_begin_31 ?_
    refine g_iadd dX2_begin_32 ?_
    refine h_putI (j := 6) dX2_begin_33 f_X2_42_7 (Or.inl (mm_finI (by decide +kernel))) rfl rfl (by decide) he0.2.2.1 he0.ge he0.lt ?_
    generalize hD_D1 : up2 D r0 6 ((D r0 6) + 1) = D1
    replace h := h _ hD_D1.symm
    exact g_vret dX2_begin_36 rfl h
  · replace h := h.2 hc
    refine g_aload_n dX2_begin_7 rfl rfl ?_
    refine h_getI (j := 6) dX2_begin_8 f_X2_42_7 rfl rfl (by decide) he0.2.2.1 he0.ge he0.lt ?_
    refine g_bipush dX2_begin_11 bp_20 ?_
    refine g_icmp_ge 26 dX2_begin_13 (by decide) ⟨fun hc => ?_, fun hc => ?_⟩
    · replace h := h.1 hc
      refine g_aload_n dX2_begin_26 rfl rfl ?_
      refine g_dup dX2_begin_27 (fun _ h9 => by cases h9) ?_
      refine h_getI (j := 6) dX2_begin_28 f_X2_42_7 rfl rfl (by decide) he0.2.2.1 he0.ge he0.lt ?_
      refine g_iconst dX2_begin_31 ?_
      refine g_iadd dX2_begin_32 ?_
      refine h_putI (j := 6) dX2_begin_33 f_X2_42_7 (Or.inl (mm_finI (by decide +kernel))) rfl rfl (by decide) he0.2.2.1 he0.ge he0.lt ?_
      generalize hD_D2 : up2 D r0 6 ((D r0 6) + 1) = D2
      replace h := h _ hD_D2.symm
      exact g_vret dX2_begin_36 rfl h
    · replace h := h.2 hc
      refine g_aload_n dX2_begin_16 rfl rfl ?_
      refine h_getR (j := 5) dX2_begin_17 f_X2_9_7 rfl rfl (by decide) he0.2.2.1 he0.ge he0.lt he0.2.2.2.2 ?_
      refine g_aload_n dX2_begin_20 rfl rfl ?_
      refine h_getI (j := 6) dX2_begin_21 f_X2_42_7 rfl rfl (by decide) he0.2.2.1 he0.ge he0.lt ?_
      refine g_iload_n dX2_begin_24 rfl rfl ?_
      refine g_iast dX2_begin_25 he0.2.2.2.1 he0.gea he0.lta (by decide) ⟨h.1, ?_⟩
      generalize hD_D3 : up2 D (r0 + 1) (D r0 6) x1 = D3
      replace h := h.2 _ hD_D3.symm
      refine g_aload_n dX2_begin_26 rfl rfl ?_
      refine g_dup dX2_begin_27 (fun _ h9 => by cases h9) ?_
      refine h_getI (j := 6) dX2_begin_28 f_X2_42_7 rfl rfl (by decide) he0.2.2.1 he0.ge he0.lt ?_
      refine g_iconst dX2_begin_31 ?_
      refine g_iadd dX2_begin_32 ?_
      refine h_putI (j := 6) dX2_begin_33 f_X2_42_7 (Or.inl (mm_finI (by decide +kernel))) rfl rfl (by decide) he0.2.2.1 he0.ge he0.lt ?_
      generalize hD_D4 : up2 D3 r0 6 ((D3 r0 6) + 1) = D4
      replace h := h _ hD_D4.symm
      exact g_vret dX2_begin_36 rfl h
set_option maxRecDepth 20000 in
theorem w_X2_begin_k8 {E : mmE} {d kc ks : Nat} {G : mmG} {D : mmD} {Q : mmQ} {r0 x1 : Int} (hG : Sh G) (he0 : isEv G 8 r0) (h : ((iv (D r0 6) < iv 0 → (∀ D1 : mmD, D1 = up2 D r0 6 ((D r0 6) + 1) → Q none G D1)) ∧ (¬ iv (D r0 6) < iv 0 → ((iv 20 ≤ iv (D r0 6) → (∀ D2 : mmD, D2 = up2 D r0 6 ((D r0 6) + 1) → Q none G D2)) ∧ (¬ iv 20 ≤ iv (D r0 6) → ((0 ≤ (D r0 6) ∧ (D r0 6) < 20) ∧ (∀ D3 : mmD, D3 = up2 D (r0 + 1) (D r0 6) x1 → (∀ D4 : mmD, D4 = up2 D3 r0 6 ((D3 r0 6) + 1) → Q none G D4)))))))) : Call E d kc ks mX2_begin [vR r0, vI x1] G D Q := by
  show Go E d kc ks mX2_begin 0 [some (vR r0), some (vI x1)] [] G D Q
  refine g_aload_n dX2_begin_0 rfl rfl ?_
  refine h_getI (j := 6) dX2_begin_1 f_X2_42_8 rfl rfl (by decide) he0.2.2.1 he0.ge he0.lt ?_
  refine g_if_lt 26 dX2_begin_4 (by decide) ⟨fun hc => ?_, fun hc => ?_⟩
  · replace h := h.1 hc
    refine g_aload_n dX2_begin_26 rfl rfl ?_
    refine g_dup dX2_begin_27 (fun _ h9 => by cases h9) ?_
    refine h_getI (j := 6) dX2_begin_28 f_X2_42_8 rfl rfl (by decide) he0.2.2.1 he0.ge he0.lt ?_
    refine g_iconst dX2_begin_31 ?_
    refine g_iadd dX2_begin_32 ?_
    refine h_putI (j := 6) dX2_begin_33 f_X2_42_8 (Or.inl (mm_finI (by decide +kernel))) rfl rfl (by decide) he0.2.2.1 he0.ge he0.lt ?_
    generalize hD_D1 : up2 D r0 6 ((D r0 6) + 1) = D1
    replace h := h _ hD_D1.symm
    exact g_vret dX2_begin_36 rfl h
  · replace h := h.2 hc
    refine g_aload_n dX2_begin_7 rfl rfl ?_
    refine h_getI (j := 6) dX2_begin_8 f_X2_42_8 rfl rfl (by decide) he0.2.2.1 he0.ge he0.lt ?_
    refine g_bipush dX2_begin_11 bp_20 ?_
    refine g_icmp_ge 26 dX2_begin_13 (by decide) ⟨fun hc => ?_, fun hc => ?_⟩
    · replace h := h.1 hc
      refine g_aload_n dX2_begin_26 rfl rfl ?_
      refine g_dup dX2_begin_27 (fun _ h9 => by cases h9) ?_
      refine h_getI (j := 6) dX2_begin_28 f_X2_42_8 rfl rfl (by decide) he0.2.2.1 he0.ge he0.lt ?_
      refine g_iconst dX2_begin_31 ?_
      refine g_iadd dX2_begin_32 ?_
      refine h_putI (j := 6) dX2_begin_33 f_X2_42_8 (Or.inl (mm_finI (by decide +kernel))) rfl rfl (by decide) he0.2.2.1 he0.ge he0.lt ?_
      generalize hD_D2 : up2 D r0 6 ((D r0 6) + 1) = D2
      replace h := h _ hD_D2.symm
      exact g_vret dX2_begin_36 rfl h
    · replace h := h.2 hc
      refine g_aload_n dX2_begin_16 rfl rfl ?_
      refine h_getR (j := 5) dX2_begin_17 f_X2_9_8 rfl rfl (by decide) he0.2.2.1 he0.ge he0.lt he0.2.2.2.2 ?_
      refine g_aload_n dX2_begin_20 rfl rfl ?_
      refine h_getI (j := 6) dX2_begin_21 f_X2_42_8 rfl rfl (by decide) he0.2.2.1 he0.ge he0.lt ?_
      refine g_iload_n dX2_begin_24 rfl rfl ?_
      refine g_iast dX2_begin_25 he0.2.2.2.1 he0.gea he0.lta (by decide) ⟨h.1, ?_⟩
      generalize hD_D3 : up2 D (r0 + 1) (D r0 6) x1 = D3
      replace h := h.2 _ hD_D3.symm
      refine g_aload_n dX2_begin_26 rfl rfl ?_
      refine g_dup dX2_begin_27 (fun _ h9 => by cases h9) ?_
      refine h_getI (j := 6) dX2_begin_28 f_X2_42_8 rfl rfl (by decide) he0.2.2.1 he0.ge he0.lt ?_
      refine g_iconst dX2_begin_31 ?_
      refine g_iadd dX2_begin_32 ?_
      refine h_putI (j := 6) dX2_begin_33 f_X2_42_8 (Or.inl (mm_finI (by decide +kernel))) rfl rfl (by decide) he0.2.2.1 he0.ge he0.lt ?_
      generalize hD_D4 : up2 D3 r0 6 ((D3 r0 6) + 1) = D4
      replace h := h _ hD_D4.symm
      exact g_vret dX2_begin_36 rfl h
set_option maxRecDepth 20000 in
theorem w_X2_tells_k1 {E : mmE} {d kc ks : Nat} {G : mmG} {D : mmD} {Q : mmQ} {r0 x1 : Int} (hG : Sh G) (he0 : isEv G 1 r0) (h : Call E d 0 0 mX2_begin [vR r0, vI 1] G D (retV G (fun D1 => Q (some (vI (x1 + (D1 r0 0)))) G D1))) : Call E (d + 1) kc ks mX2_tells [vR r0, vI x1] G D Q := by
  show Go E (d + 1) kc ks mX2_tells 0 [some (vR r0), some (vI x1)] [] G D Q
  refine g_aload_n dX2_tells_0 rfl rfl ?_
  refine g_iconst dX2_tells_1 ?_
  refine g_callU (kc := kc) (kc' := 0) (ks := ks) (ks' := 0) (as := [vI 1]) (st := []) (ci := 1) (C := RX1) dX2_tells_2 cB_X2_begin lk_X2_31 sm_X2_begin (by decide) (by decide +kernel) (Or.inl ⟨in_X2_begin, _, _, _, cB_X2_begin.1⟩) in_X2_begin se_X2_begin_X1 (by decide) rfl rfl (Nat.le_of_ble_eq_true rfl) (Nat.le_of_ble_eq_true rfl) he0.ge he0.lt (congrArg Prod.fst he0.2.2.1) ?_
  refine Go.to (fun r G' D1 hr => ?_) h
  obtain ⟨rfl, rfl, h⟩ := hr
  show Go E (d + 1) kc ks mX2_tells 5 [some (vR r0), some (vI x1)] [] G D1 Q
  refine g_iload_n dX2_tells_5 rfl rfl ?_
  refine g_aload_n dX2_tells_6 rfl rfl ?_
  refine h_getI (j := 0) dX2_tells_7 f_X2_15_1 rfl rfl (by decide) he0.2.2.1 he0.ge he0.lt ?_
  refine g_iadd dX2_tells_10 ?_
  exact g_iret dX2_tells_11 rfl h
set_option maxRecDepth 20000 in
theorem w_X2_tells_k2 {E : mmE} {d kc ks : Nat} {G : mmG} {D : mmD} {Q : mmQ} {r0 x1 : Int} (hG : Sh G) (he0 : isEv G 2 r0) (h : Call E d 0 0 mX2_begin [vR r0, vI 1] G D (retV G (fun D1 => Q (some (vI (x1 + (D1 r0 0)))) G D1))) : Call E (d + 1) kc ks mX2_tells [vR r0, vI x1] G D Q := by
  show Go E (d + 1) kc ks mX2_tells 0 [some (vR r0), some (vI x1)] [] G D Q
  refine g_aload_n dX2_tells_0 rfl rfl ?_
  refine g_iconst dX2_tells_1 ?_
  refine g_callU (kc := kc) (kc' := 0) (ks := ks) (ks' := 0) (as := [vI 1]) (st := []) (ci := 2) (C := RX3) dX2_tells_2 cB_X2_begin lk_X2_31 sm_X2_begin (by decide) (by decide +kernel) (Or.inl ⟨in_X2_begin, _, _, _, cB_X2_begin.1⟩) in_X2_begin se_X2_begin_X3 (by decide) rfl rfl (Nat.le_of_ble_eq_true rfl) (Nat.le_of_ble_eq_true rfl) he0.ge he0.lt (congrArg Prod.fst he0.2.2.1) ?_
  refine Go.to (fun r G' D1 hr => ?_) h
  obtain ⟨rfl, rfl, h⟩ := hr
  show Go E (d + 1) kc ks mX2_tells 5 [some (vR r0), some (vI x1)] [] G D1 Q
  refine g_iload_n dX2_tells_5 rfl rfl ?_
  refine g_aload_n dX2_tells_6 rfl rfl ?_
  refine h_getI (j := 0) dX2_tells_7 f_X2_15_2 rfl rfl (by decide) he0.2.2.1 he0.ge he0.lt ?_
  refine g_iadd dX2_tells_10 ?_
  exact g_iret dX2_tells_11 rfl h
set_option maxRecDepth 20000 in
theorem w_X2_tells_k4 {E : mmE} {d kc ks : Nat} {G : mmG} {D : mmD} {Q : mmQ} {r0 x1 : Int} (hG : Sh G) (he0 : isEv G 4 r0) (h : Call E d 0 0 mX2_begin [vR r0, vI 1] G D (retV G (fun D1 => Q (some (vI (x1 + (D1 r0 0)))) G D1))) : Call E (d + 1) kc ks mX2_tells [vR r0, vI x1] G D Q := by
  show Go E (d + 1) kc ks mX2_tells 0 [some (vR r0), some (vI x1)] [] G D Q
  refine g_aload_n dX2_tells_0 rfl rfl ?_
  refine g_iconst dX2_tells_1 ?_
  refine g_callU (kc := kc) (kc' := 0) (ks := ks) (ks' := 0) (as := [vI 1]) (st := []) (ci := 4) (C := RX5) dX2_tells_2 cB_X2_begin lk_X2_31 sm_X2_begin (by decide) (by decide +kernel) (Or.inl ⟨in_X2_begin, _, _, _, cB_X2_begin.1⟩) in_X2_begin se_X2_begin_X5 (by decide) rfl rfl (Nat.le_of_ble_eq_true rfl) (Nat.le_of_ble_eq_true rfl) he0.ge he0.lt (congrArg Prod.fst he0.2.2.1) ?_
  refine Go.to (fun r G' D1 hr => ?_) h
  obtain ⟨rfl, rfl, h⟩ := hr
  show Go E (d + 1) kc ks mX2_tells 5 [some (vR r0), some (vI x1)] [] G D1 Q
  refine g_iload_n dX2_tells_5 rfl rfl ?_
  refine g_aload_n dX2_tells_6 rfl rfl ?_
  refine h_getI (j := 0) dX2_tells_7 f_X2_15_4 rfl rfl (by decide) he0.2.2.1 he0.ge he0.lt ?_
  refine g_iadd dX2_tells_10 ?_
  exact g_iret dX2_tells_11 rfl h
set_option maxRecDepth 20000 in
theorem w_X2_tells_k5 {E : mmE} {d kc ks : Nat} {G : mmG} {D : mmD} {Q : mmQ} {r0 x1 : Int} (hG : Sh G) (he0 : isEv G 5 r0) (h : Call E d 0 0 mX2_begin [vR r0, vI 1] G D (retV G (fun D1 => Q (some (vI (x1 + (D1 r0 0)))) G D1))) : Call E (d + 1) kc ks mX2_tells [vR r0, vI x1] G D Q := by
  show Go E (d + 1) kc ks mX2_tells 0 [some (vR r0), some (vI x1)] [] G D Q
  refine g_aload_n dX2_tells_0 rfl rfl ?_
  refine g_iconst dX2_tells_1 ?_
  refine g_callU (kc := kc) (kc' := 0) (ks := ks) (ks' := 0) (as := [vI 1]) (st := []) (ci := 5) (C := RX6) dX2_tells_2 cB_X2_begin lk_X2_31 sm_X2_begin (by decide) (by decide +kernel) (Or.inl ⟨in_X2_begin, _, _, _, cB_X2_begin.1⟩) in_X2_begin se_X2_begin_X6 (by decide) rfl rfl (Nat.le_of_ble_eq_true rfl) (Nat.le_of_ble_eq_true rfl) he0.ge he0.lt (congrArg Prod.fst he0.2.2.1) ?_
  refine Go.to (fun r G' D1 hr => ?_) h
  obtain ⟨rfl, rfl, h⟩ := hr
  show Go E (d + 1) kc ks mX2_tells 5 [some (vR r0), some (vI x1)] [] G D1 Q
  refine g_iload_n dX2_tells_5 rfl rfl ?_
  refine g_aload_n dX2_tells_6 rfl rfl ?_
  refine h_getI (j := 0) dX2_tells_7 f_X2_15_5 rfl rfl (by decide) he0.2.2.1 he0.ge he0.lt ?_
  refine g_iadd dX2_tells_10 ?_
  exact g_iret dX2_tells_11 rfl h
set_option maxRecDepth 20000 in
theorem w_X2_tells_k7 {E : mmE} {d kc ks : Nat} {G : mmG} {D : mmD} {Q : mmQ} {r0 x1 : Int} (hG : Sh G) (he0 : isEv G 7 r0) (h : Call E d 0 0 mX2_begin [vR r0, vI 1] G D (retV G (fun D1 => Q (some (vI (x1 + (D1 r0 0)))) G D1))) : Call E (d + 1) kc ks mX2_tells [vR r0, vI x1] G D Q := by
  show Go E (d + 1) kc ks mX2_tells 0 [some (vR r0), some (vI x1)] [] G D Q
  refine g_aload_n dX2_tells_0 rfl rfl ?_
  refine g_iconst dX2_tells_1 ?_
  refine g_callU (kc := kc) (kc' := 0) (ks := ks) (ks' := 0) (as := [vI 1]) (st := []) (ci := 7) (C := RX8) dX2_tells_2 cB_X2_begin lk_X2_31 sm_X2_begin (by decide) (by decide +kernel) (Or.inl ⟨in_X2_begin, _, _, _, cB_X2_begin.1⟩) in_X2_begin se_X2_begin_X8 (by decide) rfl rfl (Nat.le_of_ble_eq_true rfl) (Nat.le_of_ble_eq_true rfl) he0.ge he0.lt (congrArg Prod.fst he0.2.2.1) ?_
  refine Go.to (fun r G' D1 hr => ?_) h
  obtain ⟨rfl, rfl, h⟩ := hr
  show Go E (d + 1) kc ks mX2_tells 5 [some (vR r0), some (vI x1)] [] G D1 Q
  refine g_iload_n dX2_tells_5 rfl rfl ?_
  refine g_aload_n dX2_tells_6 rfl rfl ?_
  refine h_getI (j := 0) dX2_tells_7 f_X2_15_7 rfl rfl (by decide) he0.2.2.1 he0.ge he0.lt ?_
  refine g_iadd dX2_tells_10 ?_
  exact g_iret dX2_tells_11 rfl h
set_option maxRecDepth 20000 in
theorem w_X2_tells_k8 {E : mmE} {d kc ks : Nat} {G : mmG} {D : mmD} {Q : mmQ} {r0 x1 : Int} (hG : Sh G) (he0 : isEv G 8 r0) (h : Call E d 0 0 mX2_begin [vR r0, vI 1] G D (retV G (fun D1 => Q (some (vI (x1 + (D1 r0 0)))) G D1))) : Call E (d + 1) kc ks mX2_tells [vR r0, vI x1] G D Q := by
  show Go E (d + 1) kc ks mX2_tells 0 [some (vR r0), some (vI x1)] [] G D Q
  refine g_aload_n dX2_tells_0 rfl rfl ?_
  refine g_iconst dX2_tells_1 ?_
  refine g_callU (kc := kc) (kc' := 0) (ks := ks) (ks' := 0) (as := [vI 1]) (st := []) (ci := 8) (C := RX9) dX2_tells_2 cB_X2_begin lk_X2_31 sm_X2_begin (by decide) (by decide +kernel) (Or.inl ⟨in_X2_begin, _, _, _, cB_X2_begin.1⟩) in_X2_begin se_X2_begin_X9 (by decide) rfl rfl (Nat.le_of_ble_eq_true rfl) (Nat.le_of_ble_eq_true rfl) he0.ge he0.lt (congrArg Prod.fst he0.2.2.1) ?_
  refine Go.to (fun r G' D1 hr => ?_) h
  obtain ⟨rfl, rfl, h⟩ := hr
  show Go E (d + 1) kc ks mX2_tells 5 [some (vR r0), some (vI x1)] [] G D1 Q
  refine g_iload_n dX2_tells_5 rfl rfl ?_
  refine g_aload_n dX2_tells_6 rfl rfl ?_
  refine h_getI (j := 0) dX2_tells_7 f_X2_15_8 rfl rfl (by decide) he0.2.2.1 he0.ge he0.lt ?_
  refine g_iadd dX2_tells_10 ?_
  exact g_iret dX2_tells_11 rfl h
set_option maxRecDepth 20000 in
theorem w_X2_leads_k1 {E : mmE} {d kc ks : Nat} {G : mmG} {D : mmD} {Q : mmQ} {r0 x1 : Int} (hG : Sh G) (he0 : isEv G 1 r0) (h : Call E d 0 0 mX2_begin [vR r0, vI 2] G D (retV G (fun D1 => Call E d 0 0 mX2_tells [vR r0, vI x1] G D1 (retI G (fun z4 D3 => Q (some (vI (z4 - (D3 r0 1)))) G D3))))) : Call E (d + 1) kc ks mX2_leads [vR r0, vI x1] G D Q := by
  show Go E (d + 1) kc ks mX2_leads 0 [some (vR r0), some (vI x1)] [] G D Q
  refine g_aload_n dX2_leads_0 rfl rfl ?_
  refine g_iconst dX2_leads_1 ?_
  refine g_callU (kc := kc) (kc' := 0) (ks := ks) (ks' := 0) (as := [vI 2]) (st := []) (ci := 1) (C := RX1) dX2_leads_2 cB_X2_begin lk_X2_31 sm_X2_begin (by decide) (by decide +kernel) (Or.inl ⟨in_X2_begin, _, _, _, cB_X2_begin.1⟩) in_X2_begin se_X2_begin_X1 (by decide) rfl rfl (Nat.le_of_ble_eq_true rfl) (Nat.le_of_ble_eq_true rfl) he0.ge he0.lt (congrArg Prod.fst he0.2.2.1) ?_
  refine Go.to (fun r G' D1 hr => ?_) h
  obtain ⟨rfl, rfl, h⟩ := hr
  show Go E (d + 1) kc ks mX2_leads 5 [some (vR r0), some (vI x1)] [] G D1 Q
  refine g_aload_n dX2_leads_5 rfl rfl ?_
  refine g_iload_n dX2_leads_6 rfl rfl ?_
  refine g_callU (kc := kc) (kc' := 0) (ks := ks) (ks' := 0) (as := [vI x1]) (st := []) (ci := 1) (C := RX1) dX2_leads_7 cB_X2_tells lk_X2_35 sm_X2_tells (by decide) (by decide +kernel) (Or.inl ⟨in_X2_tells, _, _, _, cB_X2_tells.1⟩) in_X2_tells se_X2_tells_X1 (by decide) rfl rfl (Nat.le_of_ble_eq_true rfl) (Nat.le_of_ble_eq_true rfl) he0.ge he0.lt (congrArg Prod.fst he0.2.2.1) ?_
  refine Go.to (fun r G' D3 hr => ?_) h
  obtain ⟨rfl, z4, rfl, h⟩ := hr
  show Go E (d + 1) kc ks mX2_leads 10 [some (vR r0), some (vI x1)] [vI z4] G D3 Q
  refine g_aload_n dX2_leads_10 rfl rfl ?_
  refine h_getI (j := 1) dX2_leads_11 f_X2_19_1 rfl rfl (by decide) he0.2.2.1 he0.ge he0.lt ?_
  refine g_isub dX2_leads_14 ?_
  exact g_iret dX2_leads_15 rfl h
set_option maxRecDepth 20000 in
theorem w_X2_leads_k2 {E : mmE} {d kc ks : Nat} {G : mmG} {D : mmD} {Q : mmQ} {r0 x1 : Int} (hG : Sh G) (he0 : isEv G 2 r0) (h : Call E d 0 0 mX2_begin [vR r0, vI 2] G D (retV G (fun D1 => Call E d 0 0 mX3_tells [vR r0, vI x1] G D1 (retI G (fun z4 D3 => Q (some (vI (z4 - (D3 r0 1)))) G D3))))) : Call E (d + 1) kc ks mX2_leads [vR r0, vI x1] G D Q := by
  show Go E (d + 1) kc ks mX2_leads 0 [some (vR r0), some (vI x1)] [] G D Q
  refine g_aload_n dX2_leads_0 rfl rfl ?_
  refine g_iconst dX2_leads_1 ?_
  refine g_callU (kc := kc) (kc' := 0) (ks := ks) (ks' := 0) (as := [vI 2]) (st := []) (ci := 2) (C := RX3) dX2_leads_2 cB_X2_begin lk_X2_31 sm_X2_begin (by decide) (by decide +kernel) (Or.inl ⟨in_X2_begin, _, _, _, cB_X2_begin.1⟩) in_X2_begin se_X2_begin_X3 (by decide) rfl rfl (Nat.le_of_ble_eq_true rfl) (Nat.le_of_ble_eq_true rfl) he0.ge he0.lt (congrArg Prod.fst he0.2.2.1) ?_
  refine Go.to (fun r G' D1 hr => ?_) h
  obtain ⟨rfl, rfl, h⟩ := hr
  show Go E (d + 1) kc ks mX2_leads 5 [some (vR r0), some (vI x1)] [] G D1 Q
  refine g_aload_n dX2_leads_5 rfl rfl ?_
  refine g_iload_n dX2_leads_6 rfl rfl ?_
  refine g_callU (kc := kc) (kc' := 0) (ks := ks) (ks' := 0) (as := [vI x1]) (st := []) (ci := 2) (C := RX3) dX2_leads_7 cB_X3_tells lk_X2_35 sm_X2_tells (by decide) (by decide +kernel) (Or.inl ⟨in_X2_tells, _, _, _, cB_X2_tells.1⟩) in_X3_tells se_X2_tells_X3 (by decide) rfl rfl (Nat.le_of_ble_eq_true rfl) (Nat.le_of_ble_eq_true rfl) he0.ge he0.lt (congrArg Prod.fst he0.2.2.1) ?_
  refine Go.to (fun r G' D3 hr => ?_) h
  obtain ⟨rfl, z4, rfl, h⟩ := hr
  show Go E (d + 1) kc ks mX2_leads 10 [some (vR r0), some (vI x1)] [vI z4] G D3 Q
  refine g_aload_n dX2_leads_10 rfl rfl ?_
  refine h_getI (j := 1) dX2_leads_11 f_X2_19_2 rfl rfl (by decide) he0.2.2.1 he0.ge he0.lt ?_
  refine g_isub dX2_leads_14 ?_
  exact g_iret dX2_leads_15 rfl h
set_option maxRecDepth 20000 in
theorem w_X2_leads_k4 {E : mmE} {d kc ks : Nat} {G : mmG} {D : mmD} {Q : mmQ} {r0 x1 : Int} (hG : Sh G) (he0 : isEv G 4 r0) (h : Call E d 0 0 mX2_begin [vR r0, vI 2] G D (retV G (fun D1 => Call E d 0 0 mX2_tells [vR r0, vI x1] G D1 (retI G (fun z4 D3 => Q (some (vI (z4 - (D3 r0 1)))) G D3))))) : Call E (d + 1) kc ks mX2_leads [vR r0, vI x1] G D Q := by
  show Go E (d + 1) kc ks mX2_leads 0 [some (vR r0), some (vI x1)] [] G D Q
  refine g_aload_n dX2_leads_0 rfl rfl ?_
  refine g_iconst dX2_leads_1 ?_
  refine g_callU (kc := kc) (kc' := 0) (ks := ks) (ks' := 0) (as := [vI 2]) (st := []) (ci := 4) (C := RX5) dX2_leads_2 cB_X2_begin lk_X2_31 sm_X2_begin (by decide) (by decide +kernel) (Or.inl ⟨in_X2_begin, _, _, _, cB_X2_begin.1⟩) in_X2_begin se_X2_begin_X5 (by decide) rfl rfl (Nat.le_of_ble_eq_true rfl) (Nat.le_of_ble_eq_true rfl) he0.ge he0.lt (congrArg Prod.fst he0.2.2.1) ?_
  refine Go.to (fun r G' D1 hr => ?_) h
  obtain ⟨rfl, rfl, h⟩ := hr
  show Go E (d + 1) kc ks mX2_leads 5 [some (vR r0), some (vI x1)] [] G D1 Q
  refine g_aload_n dX2_leads_5 rfl rfl ?_
  refine g_iload_n dX2_leads_6 rfl rfl ?_
  refine g_callU (kc := kc) (kc' := 0) (ks := ks) (ks' := 0) (as := [vI x1]) (st := []) (ci := 4) (C := RX5) dX2_leads_7 cB_X2_tells lk_X2_35 sm_X2_tells (by decide) (by decide +kernel) (Or.inl ⟨in_X2_tells, _, _, _, cB_X2_tells.1⟩) in_X2_tells se_X2_tells_X5 (by decide) rfl rfl (Nat.le_of_ble_eq_true rfl) (Nat.le_of_ble_eq_true rfl) he0.ge he0.lt (congrArg Prod.fst he0.2.2.1) ?_
  refine Go.to (fun r G' D3 hr => ?_) h
  obtain ⟨rfl, z4, rfl, h⟩ := hr
  show Go E (d + 1) kc ks mX2_leads 10 [some (vR r0), some (vI x1)] [vI z4] G D3 Q
  refine g_aload_n dX2_leads_10 rfl rfl ?_
  refine h_getI (j := 1) dX2_leads_11 f_X2_19_4 rfl rfl (by decide) he0.2.2.1 he0.ge he0.lt ?_
  refine g_isub dX2_leads_14 ?_
  exact g_iret dX2_leads_15 rfl h
set_option maxRecDepth 20000 in
theorem w_X2_leads_k5 {E : mmE} {d kc ks : Nat} {G : mmG} {D : mmD} {Q : mmQ} {r0 x1 : Int} (hG : Sh G) (he0 : isEv G 5 r0) (h : Call E d 0 0 mX2_begin [vR r0, vI 2] G D (retV G (fun D1 => Call E d 0 0 mX8_tells [vR r0, vI x1] G D1 (retI G (fun z4 D3 => Q (some (vI (z4 - (D3 r0 1)))) G D3))))) : Call E (d + 1) kc ks mX2_leads [vR r0, vI x1] G D Q := by
  show Go E (d + 1) kc ks mX2_leads 0 [some (vR r0), some (vI x1)] [] G D Q
  refine g_aload_n dX2_leads_0 rfl rfl ?_
  refine g_iconst dX2_leads_1 ?_
  refine g_callU (kc := kc) (kc' := 0) (ks := ks) (ks' := 0) (as := [vI 2]) (st := []) (ci := 5) (C := RX6) dX2_leads_2 cB_X2_begin lk_X2_31 sm_X2_begin (by decide) (by decide +kernel) (Or.inl ⟨in_X2_begin, _, _, _, cB_X2_begin.1⟩) in_X2_begin se_X2_begin_X6 (by decide) rfl rfl (Nat.le_of_ble_eq_true rfl) (Nat.le_of_ble_eq_true rfl) he0.ge he0.lt (congrArg Prod.fst he0.2.2.1) ?_
  refine Go.to (fun r G' D1 hr => ?_) h
  obtain ⟨rfl, rfl, h⟩ := hr
  show Go E (d + 1) kc ks mX2_leads 5 [some (vR r0), some (vI x1)] [] G D1 Q
  refine g_aload_n dX2_leads_5 rfl rfl ?_
  refine g_iload_n dX2_leads_6 rfl rfl ?_
  refine g_callU (kc := kc) (kc' := 0) (ks := ks) (ks' := 0) (as := [vI x1]) (st := []) (ci := 5) (C := RX6) dX2_leads_7 cB_X8_tells lk_X2_35 sm_X2_tells (by decide) (by decide +kernel) (Or.inl ⟨in_X2_tells, _, _, _, cB_X2_tells.1⟩) in_X8_tells se_X2_tells_X6 (by decide) rfl rfl (Nat.le_of_ble_eq_true rfl) (Nat.le_of_ble_eq_true rfl) he0.ge he0.lt (congrArg Prod.fst he0.2.2.1) ?_
  refine Go.to (fun r G' D3 hr => ?_) h
  obtain ⟨rfl, z4, rfl, h⟩ := hr
  show Go E (d + 1) kc ks mX2_leads 10 [some (vR r0), some (vI x1)] [vI z4] G D3 Q
  refine g_aload_n dX2_leads_10 rfl rfl ?_
  refine h_getI (j := 1) dX2_leads_11 f_X2_19_5 rfl rfl (by decide) he0.2.2.1 he0.ge he0.lt ?_
  refine g_isub dX2_leads_14 ?_
  exact g_iret dX2_leads_15 rfl h
set_option maxRecDepth 20000 in
theorem w_X2_leads_k7 {E : mmE} {d kc ks : Nat} {G : mmG} {D : mmD} {Q : mmQ} {r0 x1 : Int} (hG : Sh G) (he0 : isEv G 7 r0) (h : Call E d 0 0 mX2_begin [vR r0, vI 2] G D (retV G (fun D1 => Call E d 0 0 mX8_tells [vR r0, vI x1] G D1 (retI G (fun z4 D3 => Q (some (vI (z4 - (D3 r0 1)))) G D3))))) : Call E (d + 1) kc ks mX2_leads [vR r0, vI x1] G D Q := by
  show Go E (d + 1) kc ks mX2_leads 0 [some (vR r0), some (vI x1)] [] G D Q
  refine g_aload_n dX2_leads_0 rfl rfl ?_
  refine g_iconst dX2_leads_1 ?_
  refine g_callU (kc := kc) (kc' := 0) (ks := ks) (ks' := 0) (as := [vI 2]) (st := []) (ci := 7) (C := RX8) dX2_leads_2 cB_X2_begin lk_X2_31 sm_X2_begin (by decide) (by decide +kernel) (Or.inl ⟨in_X2_begin, _, _, _, cB_X2_begin.1⟩) in_X2_begin se_X2_begin_X8 (by decide) rfl rfl (Nat.le_of_ble_eq_true rfl) (Nat.le_of_ble_eq_true rfl) he0.ge he0.lt (congrArg Prod.fst he0.2.2.1) ?_
  refine Go.to (fun r G' D1 hr => ?_) h
  obtain ⟨rfl, rfl, h⟩ := hr
  show Go E (d + 1) kc ks mX2_leads 5 [some (vR r0), some (vI x1)] [] G D1 Q
  refine g_aload_n dX2_leads_5 rfl rfl ?_
  refine g_iload_n dX2_leads_6 rfl rfl ?_
  refine g_callU (kc := kc) (kc' := 0) (ks := ks) (ks' := 0) (as := [vI x1]) (st := []) (ci := 7) (C := RX8) dX2_leads_7 cB_X8_tells lk_X2_35 sm_X2_tells (by decide) (by decide +kernel) (Or.inl ⟨in_X2_tells, _, _, _, cB_X2_tells.1⟩) in_X8_tells se_X2_tells_X8 (by decide) rfl rfl (Nat.le_of_ble_eq_true rfl) (Nat.le_of_ble_eq_true rfl) he0.ge he0.lt (congrArg Prod.fst he0.2.2.1) ?_
  refine Go.to (fun r G' D3 hr => ?_) h
  obtain ⟨rfl, z4, rfl, h⟩ := hr
  show Go E (d + 1) kc ks mX2_leads 10 [some (vR r0), some (vI x1)] [vI z4] G D3 Q
  refine g_aload_n dX2_leads_10 rfl rfl ?_
  refine h_getI (j := 1) dX2_leads_11 f_X2_19_7 rfl rfl (by decide) he0.2.2.1 he0.ge he0.lt ?_
  refine g_isub dX2_leads_14 ?_
  exact g_iret dX2_leads_15 rfl h
set_option maxRecDepth 20000 in
theorem w_X2_leads_k8 {E : mmE} {d kc ks : Nat} {G : mmG} {D : mmD} {Q : mmQ} {r0 x1 : Int} (hG : Sh G) (he0 : isEv G 8 r0) (h : Call E d 0 0 mX2_begin [vR r0, vI 2] G D (retV G (fun D1 => Call E d 0 0 mX2_tells [vR r0, vI x1] G D1 (retI G (fun z4 D3 => Q (some (vI (z4 - (D3 r0 1)))) G D3))))) : Call E (d + 1) kc ks mX2_leads [vR r0, vI x1] G D Q := by
  show Go E (d + 1) kc ks mX2_leads 0 [some (vR r0), some (vI x1)] [] G D Q
  refine g_aload_n dX2_leads_0 rfl rfl ?_
  refine g_iconst dX2_leads_1 ?_
  refine g_callU (kc := kc) (kc' := 0) (ks := ks) (ks' := 0) (as := [vI 2]) (st := []) (ci := 8) (C := RX9) dX2_leads_2 cB_X2_begin lk_X2_31 sm_X2_begin (by decide) (by decide +kernel) (Or.inl ⟨in_X2_begin, _, _, _, cB_X2_begin.1⟩) in_X2_begin se_X2_begin_X9 (by decide) rfl rfl (Nat.le_of_ble_eq_true rfl) (Nat.le_of_ble_eq_true rfl) he0.ge he0.lt (congrArg Prod.fst he0.2.2.1) ?_
  refine Go.to (fun r G' D1 hr => ?_) h
  obtain ⟨rfl, rfl, h⟩ := hr
  show Go E (d + 1) kc ks mX2_leads 5 [some (vR r0), some (vI x1)] [] G D1 Q
  refine g_aload_n dX2_leads_5 rfl rfl ?_
  refine g_iload_n dX2_leads_6 rfl rfl ?_
  refine g_callU (kc := kc) (kc' := 0) (ks := ks) (ks' := 0) (as := [vI x1]) (st := []) (ci := 8) (C := RX9) dX2_leads_7 cB_X2_tells lk_X2_35 sm_X2_tells (by decide) (by decide +kernel) (Or.inl ⟨in_X2_tells, _, _, _, cB_X2_tells.1⟩) in_X2_tells se_X2_tells_X9 (by decide) rfl rfl (Nat.le_of_ble_eq_true rfl) (Nat.le_of_ble_eq_true rfl) he0.ge he0.lt (congrArg Prod.fst he0.2.2.1) ?_
  refine Go.to (fun r G' D3 hr => ?_) h
  obtain ⟨rfl, z4, rfl, h⟩ := hr
  show Go E (d + 1) kc ks mX2_leads 10 [some (vR r0), some (vI x1)] [vI z4] G D3 Q
  refine g_aload_n dX2_leads_10 rfl rfl ?_
  refine h_getI (j := 1) dX2_leads_11 f_X2_19_8 rfl rfl (by decide) he0.2.2.1 he0.ge he0.lt ?_
  refine g_isub dX2_leads_14 ?_
  exact g_iret dX2_leads_15 rfl h
set_option maxRecDepth 20000 in
theorem w_X2_marks_k1 {E : mmE} {d kc ks : Nat} {G : mmG} {D : mmD} {Q : mmQ} {r0 x1 : Int} (hG : Sh G) (he0 : isEv G 1 r0) (h : Call E d 0 0 mX2_begin [vR r0, vI 3] G D (retV G (fun D1 => Call E d 0 0 mX5_leads [vR r0, vI x1] G D1 (retI G (fun z4 D3 => Q (some (vI (z4 * 2))) G D3))))) : Call E (d + 1) kc ks mX2_marks [vR r0, vI x1] G D Q := by
  show Go E (d + 1) kc ks mX2_marks 0 [some (vR r0), some (vI x1)] [] G D Q
  refine g_aload_n dX2_marks_0 rfl rfl ?_
  refine g_iconst dX2_marks_1 ?_
  refine g_callU (kc := kc) (kc' := 0) (ks := ks) (ks' := 0) (as := [vI 3]) (st := []) (ci := 1) (C := RX1) dX2_marks_2 cB_X2_begin lk_X2_31 sm_X2_begin (by decide) (by decide +kernel) (Or.inl ⟨in_X2_begin, _, _, _, cB_X2_begin.1⟩) in_X2_begin se_X2_begin_X1 (by decide) rfl rfl (Nat.le_of_ble_eq_true rfl) (Nat.le_of_ble_eq_true rfl) he0.ge he0.lt (congrArg Prod.fst he0.2.2.1) ?_
  refine Go.to (fun r G' D1 hr => ?_) h
  obtain ⟨rfl, rfl, h⟩ := hr
  show Go E (d + 1) kc ks mX2_marks 5 [some (vR r0), some (vI x1)] [] G D1 Q
  refine g_aload_n dX2_marks_5 rfl rfl ?_
  refine g_iload_n dX2_marks_6 rfl rfl ?_
  refine g_callU (kc := kc) (kc' := 0) (ks := ks) (ks' := 0) (as := [vI x1]) (st := []) (ci := 1) (C := RX1) dX2_marks_7 cB_X5_leads lk_X2_39 sm_X2_leads (by decide) (by decide +kernel) (Or.inl ⟨in_X2_leads, _, _, _, cB_X2_leads.1⟩) in_X5_leads se_X2_leads_X1 (by decide) rfl rfl (Nat.le_of_ble_eq_true rfl) (Nat.le_of_ble_eq_true rfl) he0.ge he0.lt (congrArg Prod.fst he0.2.2.1) ?_
  refine Go.to (fun r G' D3 hr => ?_) h
  obtain ⟨rfl, z4, rfl, h⟩ := hr
  show Go E (d + 1) kc ks mX2_marks 10 [some (vR r0), some (vI x1)] [vI z4] G D3 Q
  refine g_iconst dX2_marks_10 ?_
  refine g_imul dX2_marks_11 ?_
  exact g_iret dX2_marks_12 rfl h
set_option maxRecDepth 20000 in
theorem w_X2_marks_k2 {E : mmE} {d kc ks : Nat} {G : mmG} {D : mmD} {Q : mmQ} {r0 x1 : Int} (hG : Sh G) (he0 : isEv G 2 r0) (h : Call E d 0 0 mX2_begin [vR r0, vI 3] G D (retV G (fun D1 => Call E d 0 0 mX5_leads [vR r0, vI x1] G D1 (retI G (fun z4 D3 => Q (some (vI (z4 * 2))) G D3))))) : Call E (d + 1) kc ks mX2_marks [vR r0, vI x1] G D Q := by
  show Go E (d + 1) kc ks mX2_marks 0 [some (vR r0), some (vI x1)] [] G D Q
  refine g_aload_n dX2_marks_0 rfl rfl ?_
  refine g_iconst dX2_marks_1 ?_
  refine g_callU (kc := kc) (kc' := 0) (ks := ks) (ks' := 0) (as := [vI 3]) (st := []) (ci := 2) (C := RX3) dX2_marks_2 cB_X2_begin lk_X2_31 sm_X2_begin (by decide) (by decide +kernel) (Or.inl ⟨in_X2_begin, _, _, _, cB_X2_begin.1⟩) in_X2_begin se_X2_begin_X3 (by decide) rfl rfl (Nat.le_of_ble_eq_true rfl) (Nat.le_of_ble_eq_true rfl) he0.ge he0.lt (congrArg Prod.fst he0.2.2.1) ?_
  refine Go.to (fun r G' D1 hr => ?_) h
  obtain ⟨rfl, rfl, h⟩ := hr
  show Go E (d + 1) kc ks mX2_marks 5 [some (vR r0), some (vI x1)] [] G D1 Q
  refine g_aload_n dX2_marks_5 rfl rfl ?_
  refine g_iload_n dX2_marks_6 rfl rfl ?_
  refine g_callU (kc := kc) (kc' := 0) (ks := ks) (ks' := 0) (as := [vI x1]) (st := []) (ci := 2) (C := RX3) dX2_marks_7 cB_X5_leads lk_X2_39 sm_X2_leads (by decide) (by decide +kernel) (Or.inl ⟨in_X2_leads, _, _, _, cB_X2_leads.1⟩) in_X5_leads se_X2_leads_X3 (by decide) rfl rfl (Nat.le_of_ble_eq_true rfl) (Nat.le_of_ble_eq_true rfl) he0.ge he0.lt (congrArg Prod.fst he0.2.2.1) ?_
  refine Go.to (fun r G' D3 hr => ?_) h
  obtain ⟨rfl, z4, rfl, h⟩ := hr
  show Go E (d + 1) kc ks mX2_marks 10 [some (vR r0), some (vI x1)] [vI z4] G D3 Q
  refine g_iconst dX2_marks_10 ?_
  refine g_imul dX2_marks_11 ?_
  exact g_iret dX2_marks_12 rfl h
set_option maxRecDepth 20000 in
theorem w_X2_marks_k4 {E : mmE} {d kc ks : Nat} {G : mmG} {D : mmD} {Q : mmQ} {r0 x1 : Int} (hG : Sh G) (he0 : isEv G 4 r0) (h : Call E d 0 0 mX2_begin [vR r0, vI 3] G D (retV G (fun D1 => Call E d 0 0 mX5_leads [vR r0, vI x1] G D1 (retI G (fun z4 D3 => Q (some (vI (z4 * 2))) G D3))))) : Call E (d + 1) kc ks mX2_marks [vR r0, vI x1] G D Q := by
  show Go E (d + 1) kc ks mX2_marks 0 [some (vR r0), some (vI x1)] [] G D Q
  refine g_aload_n dX2_marks_0 rfl rfl ?_
  refine g_iconst dX2_marks_1 ?_
  refine g_callU (kc := kc) (kc' := 0) (ks := ks) (ks' := 0) (as := [vI 3]) (st := []) (ci := 4) (C := RX5) dX2_marks_2 cB_X2_begin lk_X2_31 sm_X2_begin (by decide) (by decide +kernel) (Or.inl ⟨in_X2_begin, _, _, _, cB_X2_begin.1⟩) in_X2_begin se_X2_begin_X5 (by decide) rfl rfl (Nat.le_of_ble_eq_true rfl) (Nat.le_of_ble_eq_true rfl) he0.ge he0.lt (congrArg Prod.fst he0.2.2.1) ?_
  refine Go.to (fun r G' D1 hr => ?_) h
  obtain ⟨rfl, rfl, h⟩ := hr
  show Go E (d + 1) kc ks mX2_marks 5 [some (vR r0), some (vI x1)] [] G D1 Q
  refine g_aload_n dX2_marks_5 rfl rfl ?_
  refine g_iload_n dX2_marks_6 rfl rfl ?_
  refine g_callU (kc := kc) (kc' := 0) (ks := ks) (ks' := 0) (as := [vI x1]) (st := []) (ci := 4) (C := RX5) dX2_marks_7 cB_X5_leads lk_X2_39 sm_X2_leads (by decide) (by decide +kernel) (Or.inl ⟨in_X2_leads, _, _, _, cB_X2_leads.1⟩) in_X5_leads se_X2_leads_X5 (by decide) rfl rfl (Nat.le_of_ble_eq_true rfl) (Nat.le_of_ble_eq_true rfl) he0.ge he0.lt (congrArg Prod.fst he0.2.2.1) ?_
  refine Go.to (fun r G' D3 hr => ?_) h
  obtain ⟨rfl, z4, rfl, h⟩ := hr
  show Go E (d + 1) kc ks mX2_marks 10 [some (vR r0), some (vI x1)] [vI z4] G D3 Q
  refine g_iconst dX2_marks_10 ?_
  refine g_imul dX2_marks_11 ?_
  exact g_iret dX2_marks_12 rfl h
set_option maxRecDepth 20000 in
theorem w_X2_marks_k5 {E : mmE} {d kc ks : Nat} {G : mmG} {D : mmD} {Q : mmQ} {r0 x1 : Int} (hG : Sh G) (he0 : isEv G 5 r0) (h : Call E d 0 0 mX2_begin [vR r0, vI 3] G D (retV G (fun D1 => Call E d 0 0 mX6_leads [vR r0, vI x1] G D1 (retI G (fun z4 D3 => Q (some (vI (z4 * 2))) G D3))))) : Call E (d + 1) kc ks mX2_marks [vR r0, vI x1] G D Q := by
  show Go E (d + 1) kc ks mX2_marks 0 [some (vR r0), some (vI x1)] [] G D Q
  refine g_aload_n dX2_marks_0 rfl rfl ?_
  refine g_iconst dX2_marks_1 ?_
  refine g_callU (kc := kc) (kc' := 0) (ks := ks) (ks' := 0) (as := [vI 3]) (st := []) (ci := 5) (C := RX6) dX2_marks_2 cB_X2_begin lk_X2_31 sm_X2_begin (by decide) (by decide +kernel) (Or.inl ⟨in_X2_begin, _, _, _, cB_X2_begin.1⟩) in_X2_begin se_X2_begin_X6 (by decide) rfl rfl (Nat.le_of_ble_eq_true rfl) (Nat.le_of_ble_eq_true rfl) he0.ge he0.lt (congrArg Prod.fst he0.2.2.1) ?_
  refine Go.to (fun r G' D1 hr => ?_) h
  obtain ⟨rfl, rfl, h⟩ := hr
  show Go E (d + 1) kc ks mX2_marks 5 [some (vR r0), some (vI x1)] [] G D1 Q
  refine g_aload_n dX2_marks_5 rfl rfl ?_
  refine g_iload_n dX2_marks_6 rfl rfl ?_
  refine g_callU (kc := kc) (kc' := 0) (ks := ks) (ks' := 0) (as := [vI x1]) (st := []) (ci := 5) (C := RX6) dX2_marks_7 cB_X6_leads lk_X2_39 sm_X2_leads (by decide) (by decide +kernel) (Or.inl ⟨in_X2_leads, _, _, _, cB_X2_leads.1⟩) in_X6_leads se_X2_leads_X6 (by decide) rfl rfl (Nat.le_of_ble_eq_true rfl) (Nat.le_of_ble_eq_true rfl) he0.ge he0.lt (congrArg Prod.fst he0.2.2.1) ?_
  refine Go.to (fun r G' D3 hr => ?_) h
  obtain ⟨rfl, z4, rfl, h⟩ := hr
  show Go E (d + 1) kc ks mX2_marks 10 [some (vR r0), some (vI x1)] [vI z4] G D3 Q
  refine g_iconst dX2_marks_10 ?_
  refine g_imul dX2_marks_11 ?_
  exact g_iret dX2_marks_12 rfl h
set_option maxRecDepth 20000 in
theorem w_X2_marks_k7 {E : mmE} {d kc ks : Nat} {G : mmG} {D : mmD} {Q : mmQ} {r0 x1 : Int} (hG : Sh G) (he0 : isEv G 7 r0) (h : Call E d 0 0 mX2_begin [vR r0, vI 3] G D (retV G (fun D1 => Call E d 0 0 mX2_leads [vR r0, vI x1] G D1 (retI G (fun z4 D3 => Q (some (vI (z4 * 2))) G D3))))) : Call E (d + 1) kc ks mX2_marks [vR r0, vI x1] G D Q := by
  show Go E (d + 1) kc ks mX2_marks 0 [some (vR r0), some (vI x1)] [] G D Q
  refine g_aload_n dX2_marks_0 rfl rfl ?_
  refine g_iconst dX2_marks_1 ?_
  refine g_callU (kc := kc) (kc' := 0) (ks := ks) (ks' := 0) (as := [vI 3]) (st := []) (ci := 7) (C := RX8) dX2_marks_2 cB_X2_begin lk_X2_31 sm_X2_begin (by decide) (by decide +kernel) (Or.inl ⟨in_X2_begin, _, _, _, cB_X2_begin.1⟩) in_X2_begin se_X2_begin_X8 (by decide) rfl rfl (Nat.le_of_ble_eq_true rfl) (Nat.le_of_ble_eq_true rfl) he0.ge he0.lt (congrArg Prod.fst he0.2.2.1) ?_
  refine Go.to (fun r G' D1 hr => ?_) h
  obtain ⟨rfl, rfl, h⟩ := hr
  show Go E (d + 1) kc ks mX2_marks 5 [some (vR r0), some (vI x1)] [] G D1 Q
  refine g_aload_n dX2_marks_5 rfl rfl ?_
  refine g_iload_n dX2_marks_6 rfl rfl ?_
  refine g_callU (kc := kc) (kc' := 0) (ks := ks) (ks' := 0) (as := [vI x1]) (st := []) (ci := 7) (C := RX8) dX2_marks_7 cB_X2_leads lk_X2_39 sm_X2_leads (by decide) (by decide +kernel) (Or.inl ⟨in_X2_leads, _, _, _, cB_X2_leads.1⟩) in_X2_leads se_X2_leads_X8 (by decide) rfl rfl (Nat.le_of_ble_eq_true rfl) (Nat.le_of_ble_eq_true rfl) he0.ge he0.lt (congrArg Prod.fst he0.2.2.1) ?_
  refine Go.to (fun r G' D3 hr => ?_) h
  obtain ⟨rfl, z4, rfl, h⟩ := hr
  show Go E (d + 1) kc ks mX2_marks 10 [some (vR r0), some (vI x1)] [vI z4] G D3 Q
  refine g_iconst dX2_marks_10 ?_
  refine g_imul dX2_marks_11 ?_
  exact g_iret dX2_marks_12 rfl h
set_option maxRecDepth 20000 in
theorem w_X2_marks_k8 {E : mmE} {d kc ks : Nat} {G : mmG} {D : mmD} {Q : mmQ} {r0 x1 : Int} (hG : Sh G) (he0 : isEv G 8 r0) (h : Call E d 0 0 mX2_begin [vR r0, vI 3] G D (retV G (fun D1 => Call E d 0 0 mX2_leads [vR r0, vI x1] G D1 (retI G (fun z4 D3 => Q (some (vI (z4 * 2))) G D3))))) : Call E (d + 1) kc ks mX2_marks [vR r0, vI x1] G D Q := by
  show Go E (d + 1) kc ks mX2_marks 0 [some (vR r0), some (vI x1)] [] G D Q
  refine g_aload_n dX2_marks_0 rfl rfl ?_
  refine g_iconst dX2_marks_1 ?_
  refine g_callU (kc := kc) (kc' := 0) (ks := ks) (ks' := 0) (as := [vI 3]) (st := []) (ci := 8) (C := RX9) dX2_marks_2 cB_X2_begin lk_X2_31 sm_X2_begin (by decide) (by decide +kernel) (Or.inl ⟨in_X2_begin, _, _, _, cB_X2_begin.1⟩) in_X2_begin se_X2_begin_X9 (by decide) rfl rfl (Nat.le_of_ble_eq_true rfl) (Nat.le_of_ble_eq_true rfl) he0.ge he0.lt (congrArg Prod.fst he0.2.2.1) ?_
  refine Go.to (fun r G' D1 hr => ?_) h
  obtain ⟨rfl, rfl, h⟩ := hr
  show Go E (d + 1) kc ks mX2_marks 5 [some (vR r0), some (vI x1)] [] G D1 Q
  refine g_aload_n dX2_marks_5 rfl rfl ?_
  refine g_iload_n dX2_marks_6 rfl rfl ?_
  refine g_callU (kc := kc) (kc' := 0) (ks := ks) (ks' := 0) (as := [vI x1]) (st := []) (ci := 8) (C := RX9) dX2_marks_7 cB_X2_leads lk_X2_39 sm_X2_leads (by decide) (by decide +kernel) (Or.inl ⟨in_X2_leads, _, _, _, cB_X2_leads.1⟩) in_X2_leads se_X2_leads_X9 (by decide) rfl rfl (Nat.le_of_ble_eq_true rfl) (Nat.le_of_ble_eq_true rfl) he0.ge he0.lt (congrArg Prod.fst he0.2.2.1) ?_
  refine Go.to (fun r G' D3 hr => ?_) h
  obtain ⟨rfl, z4, rfl, h⟩ := hr
  show Go E (d + 1) kc ks mX2_marks 10 [some (vR r0), some (vI x1)] [vI z4] G D3 Q
  refine g_iconst dX2_marks_10 ?_
  refine g_imul dX2_marks_11 ?_
  exact g_iret dX2_marks_12 rfl h
set_option maxRecDepth 20000 in
theorem w_X2_init_k1 {E : mmE} {d kc ks : Nat} {G : mmG} {D : mmD} {Q : mmQ} {r0 x1 x2 x3 x4 x5 : Int} (hG : Sh G) (he0 : isE0 G 1 r0) (h : (∀ G1 : mmG, G1 = mm_push G 12 20 → ∀ D3 : mmD, D3 = mm_zero D G.1 → (∀ G6 : mmG, G6 = (G1.1, G1.2.1, up2 G1.2.2 r0 5 (G.1)) → (∀ D9 : mmD, D9 = up2 D3 r0 0 x1 → (∀ D10 : mmD, D10 = up2 D9 r0 1 x2 → (∀ D11 : mmD, D11 = up2 D10 r0 2 x3 → (∀ D12 : mmD, D12 = up2 D11 r0 3 x4 → (∀ D13 : mmD, D13 = up2 D12 r0 4 x5 → Q none G6 D13)))))))) : Call E (d + 1) (kc + 1) (ks + 20) mX2_init [vR r0, vI x1, vI x2, vI x3, vI x4, vI x5] G D Q := by
  show Go E (d + 1) (kc + 1) (ks + 20) mX2_init 0 [some (vR r0), some (vI x1), some (vI x2), some (vI x3), some (vI x4), some (vI x5)] [] G D Q
  refine g_aload_n dX2_init_0 rfl rfl ?_
  refine g_objinit dX2_init_1 oi_X2_3 (Nat.le_of_ble_eq_true rfl) he0.ge ?_
  refine g_aload_n dX2_init_4 rfl rfl ?_
  refine g_bipush dX2_init_5 bp_20 ?_
  refine g_newa (at0 := .int) (kd := 12) (kc := kc) (ks := ks) dX2_init_7 (Or.inl ⟨rfl, rfl⟩) ka_I (by decide) (by decide) (N := 20) rfl ?_
  have hG2 := hG.push (kd := 12) (n := 20)
  have ha4 : True := trivial
  have hn5 : isE0 (mm_push G 12 20) 1 r0 := he0.push
  generalize hG_G1 : mm_push G 12 20 = G1 at hG2 hn5 ⊢
  generalize hD_D3 : mm_zero D G.1 = D3
  replace h := h _ hG_G1.symm _ hD_D3.symm
  refine h_putR (j := 5) dX2_init_9 f_X2_9_1 (Or.inr ⟨rfl, mm_finI (by decide +kernel), mm_decl (by decide +kernel)⟩) (Or.inr ⟨_, rfl⟩) rfl (by decide) hn5.2.2 hn5.ge hn5.2.1 ?_
  have hG7 := hG2.hi (a := r0) (j := 5) (x := (G.1)) hn5.1
  have hn8 : isE0 (G1.1, G1.2.1, up2 G1.2.2 r0 5 (G.1)) 1 r0 := hn5
  generalize hG_G6 : ((G1.1, G1.2.1, up2 G1.2.2 r0 5 (G.1)) : mmG) = G6 at hn8 hG7 ⊢
  replace h := h _ hG_G6.symm
  refine g_aload_n dX2_init_12 rfl rfl ?_
  refine g_iload_n dX2_init_13 rfl rfl ?_
  refine h_putI (j := 0) dX2_init_14 f_X2_15_1 (Or.inr ⟨rfl, mm_finI (by decide +kernel), mm_decl (by decide +kernel)⟩) rfl rfl (by decide) hn8.2.2 hn8.ge hn8.2.1 ?_
  generalize hD_D9 : up2 D3 r0 0 x1 = D9
  replace h := h _ hD_D9.symm
  refine g_aload_n dX2_init_17 rfl rfl ?_
  refine g_iload_n dX2_init_18 rfl rfl ?_
  refine h_putI (j := 1) dX2_init_19 f_X2_19_1 (Or.inr ⟨rfl, mm_finI (by decide +kernel), mm_decl (by decide +kernel)⟩) rfl rfl (by decide) hn8.2.2 hn8.ge hn8.2.1 ?_
  generalize hD_D10 : up2 D9 r0 1 x2 = D10
  replace h := h _ hD_D10.symm
  refine g_aload_n dX2_init_22 rfl rfl ?_
  refine g_iload_n dX2_init_23 rfl rfl ?_
  refine h_putI (j := 2) dX2_init_24 f_X2_22_1 (Or.inr ⟨rfl, mm_finI (by decide +kernel), mm_decl (by decide +kernel)⟩) rfl rfl (by decide) hn8.2.2 hn8.ge hn8.2.1 ?_
  generalize hD_D11 : up2 D10 r0 2 x3 = D11
  replace h := h _ hD_D11.symm
  refine g_aload_n dX2_init_27 rfl rfl ?_
  refine g_iload dX2_init_28 rfl ?_
  refine h_putI (j := 3) dX2_init_30 f_X2_25_1 (Or.inr ⟨rfl, mm_finI (by decide +kernel), mm_decl (by decide +kernel)⟩) rfl rfl (by decide) hn8.2.2 hn8.ge hn8.2.1 ?_
  generalize hD_D12 : up2 D11 r0 3 x4 = D12
  replace h := h _ hD_D12.symm
  refine g_aload_n dX2_init_33 rfl rfl ?_
  refine g_iload dX2_init_34 rfl ?_
  refine h_putI (j := 4) dX2_init_36 f_X2_28_1 (Or.inr ⟨rfl, mm_finI (by decide +kernel), mm_decl (by decide +kernel)⟩) rfl rfl (by decide) hn8.2.2 hn8.ge hn8.2.1 ?_
  generalize hD_D13 : up2 D12 r0 4 x5 = D13
  replace h := h _ hD_D13.symm
  exact g_vret dX2_init_39 rfl h
set_option maxRecDepth 20000 in
theorem w_X2_init_k2 {E : mmE} {d kc ks : Nat} {G : mmG} {D : mmD} {Q : mmQ} {r0 x1 x2 x3 x4 x5 : Int} (hG : Sh G) (he0 : isE0 G 2 r0) (h : (∀ G1 : mmG, G1 = mm_push G 12 20 → ∀ D3 : mmD, D3 = mm_zero D G.1 → (∀ G6 : mmG, G6 = (G1.1, G1.2.1, up2 G1.2.2 r0 5 (G.1)) → (∀ D9 : mmD, D9 = up2 D3 r0 0 x1 → (∀ D10 : mmD, D10 = up2 D9 r0 1 x2 → (∀ D11 : mmD, D11 = up2 D10 r0 2 x3 → (∀ D12 : mmD, D12 = up2 D11 r0 3 x4 → (∀ D13 : mmD, D13 = up2 D12 r0 4 x5 → Q none G6 D13)))))))) : Call E (d + 1) (kc + 1) (ks + 20) mX2_init [vR r0, vI x1, vI x2, vI x3, vI x4, vI x5] G D Q := by
  show Go E (d + 1) (kc + 1) (ks + 20) mX2_init 0 [some (vR r0), some (vI x1), some (vI x2), some (vI x3), some (vI x4), some (vI x5)] [] G D Q
  refine g_aload_n dX2_init_0 rfl rfl ?_
  refine g_objinit dX2_init_1 oi_X2_3 (Nat.le_of_ble_eq_true rfl) he0.ge ?_
  refine g_aload_n dX2_init_4 rfl rfl ?_
  refine g_bipush dX2_init_5 bp_20 ?_
  refine g_newa (at0 := .int) (kd := 12) (kc := kc) (ks := ks) dX2_init_7 (Or.inl ⟨rfl, rfl⟩) ka_I (by decide) (by decide) (N := 20) rfl ?_
  have hG2 := hG.push (kd := 12) (n := 20)
  have ha4 : True := trivial
  have hn5 : isE0 (mm_push G 12 20) 2 r0 := he0.push
  generalize hG_G1 : mm_push G 12 20 = G1 at hG2 hn5 ⊢
  generalize hD_D3 : mm_zero D G.1 = D3
  replace h := h _ hG_G1.symm _ hD_D3.symm
  refine h_putR (j := 5) dX2_init_9 f_X2_9_2 (Or.inr ⟨rfl, mm_finI (by decide +kernel), mm_decl (by decide +kernel)⟩) (Or.inr ⟨_, rfl⟩) rfl (by decide) hn5.2.2 hn5.ge hn5.2.1 ?_
  have hG7 := hG2.hi (a := r0) (j := 5) (x := (G.1)) hn5.1
  have hn8 : isE0 (G1.1, G1.2.1, up2 G1.2.2 r0 5 (G.1)) 2 r0 := hn5
  generalize hG_G6 : ((G1.1, G1.2.1, up2 G1.2.2 r0 5 (G.1)) : mmG) = G6 at hn8 hG7 ⊢
  replace h := h _ hG_G6.symm
  refine g_aload_n dX2_init_12 rfl rfl ?_
  refine g_iload_n dX2_init_13 rfl rfl ?_
  refine h_putI (j := 0) dX2_init_14 f_X2_15_2 (Or.inr ⟨rfl, mm_finI (by decide +kernel), mm_decl (by decide +kernel)⟩) rfl rfl (by decide) hn8.2.2 hn8.ge hn8.2.1 ?_
  generalize hD_D9 : up2 D3 r0 0 x1 = D9
  replace h := h _ hD_D9.symm
  refine g_aload_n dX2_init_17 rfl rfl ?_
  refine g_iload_n dX2_init_18 rfl rfl ?_
  refine h_putI (j := 1) dX2_init_19 f_X2_19_2 (Or.inr ⟨rfl, mm_finI (by decide +kernel), mm_decl (by decide +kernel)⟩) rfl rfl (by decide) hn8.2.2 hn8.ge hn8.2.1 ?_
  generalize hD_D10 : up2 D9 r0 1 x2 = D10
  replace h := h _ hD_D10.symm
  refine g_aload_n dX2_init_22 rfl rfl ?_
  refine g_iload_n dX2_init_23 rfl rfl ?_
  refine h_putI (j := 2) dX2_init_24 f_X2_22_2 (Or.inr ⟨rfl, mm_finI (by decide +kernel), mm_decl (by decide +kernel)⟩) rfl rfl (by decide) hn8.2.2 hn8.ge hn8.2.1 ?_
  generalize hD_D11 : up2 D10 r0 2 x3 = D11
  replace h := h _ hD_D11.symm
  refine g_aload_n dX2_init_27 rfl rfl ?_
  refine g_iload dX2_init_28 rfl ?_
  refine h_putI (j := 3) dX2_init_30 f_X2_25_2 (Or.inr ⟨rfl, mm_finI (by decide +kernel), mm_decl (by decide +kernel)⟩) rfl rfl (by decide) hn8.2.2 hn8.ge hn8.2.1 ?_
  generalize hD_D12 : up2 D11 r0 3 x4 = D12
  replace h := h _ hD_D12.symm
  refine g_aload_n dX2_init_33 rfl rfl ?_
  refine g_iload dX2_init_34 rfl ?_
  refine h_putI (j := 4) dX2_init_36 f_X2_28_2 (Or.inr ⟨rfl, mm_finI (by decide +kernel), mm_decl (by decide +kernel)⟩) rfl rfl (by decide) hn8.2.2 hn8.ge hn8.2.1 ?_
  generalize hD_D13 : up2 D12 r0 4 x5 = D13
  replace h := h _ hD_D13.symm
  exact g_vret dX2_init_39 rfl h
set_option maxRecDepth 20000 in
theorem w_X2_init_k4 {E : mmE} {d kc ks : Nat} {G : mmG} {D : mmD} {Q : mmQ} {r0 x1 x2 x3 x4 x5 : Int} (hG : Sh G) (he0 : isE0 G 4 r0) (h : (∀ G1 : mmG, G1 = mm_push G 12 20 → ∀ D3 : mmD, D3 = mm_zero D G.1 → (∀ G6 : mmG, G6 = (G1.1, G1.2.1, up2 G1.2.2 r0 5 (G.1)) → (∀ D9 : mmD, D9 = up2 D3 r0 0 x1 → (∀ D10 : mmD, D10 = up2 D9 r0 1 x2 → (∀ D11 : mmD, D11 = up2 D10 r0 2 x3 → (∀ D12 : mmD, D12 = up2 D11 r0 3 x4 → (∀ D13 : mmD, D13 = up2 D12 r0 4 x5 → Q none G6 D13)))))))) : Call E (d + 1) (kc + 1) (ks + 20) mX2_init [vR r0, vI x1, vI x2, vI x3, vI x4, vI x5] G D Q := by
  show Go E (d + 1) (kc + 1) (ks + 20) mX2_init 0 [some (vR r0), some (vI x1), some (vI x2), some (vI x3), some (vI x4), some (vI x5)] [] G D Q
  refine g_aload_n dX2_init_0 rfl rfl ?_
  refine g_objinit dX2_init_1 oi_X2_3 (Nat.le_of_ble_eq_true rfl) he0.ge ?_
  refine g_aload_n dX2_init_4 rfl rfl ?_
  refine g_bipush dX2_init_5 bp_20 ?_
  refine g_newa (at0 := .int) (kd := 12) (kc := kc) (ks := ks) dX2_init_7 (Or.inl ⟨rfl, rfl⟩) ka_I (by decide) (by decide) (N := 20) rfl ?_
  have hG2 := hG.push (kd := 12) (n := 20)
  have ha4 : True := trivial
  have hn5 : isE0 (mm_push G 12 20) 4 r0 := he0.push
  generalize hG_G1 : mm_push G 12 20 = G1 at hG2 hn5 ⊢
  generalize hD_D3 : mm_zero D G.1 = D3
  replace h := h _ hG_G1.symm _ hD_D3.symm
  refine h_putR (j := 5) dX2_init_9 f_X2_9_4 (Or.inr ⟨rfl, mm_finI (by decide +kernel), mm_decl (by decide +kernel)⟩) (Or.inr ⟨_, rfl⟩) rfl (by decide) hn5.2.2 hn5.ge hn5.2.1 ?_
  have hG7 := hG2.hi (a := r0) (j := 5) (x := (G.1)) hn5.1
  have hn8 : isE0 (G1.1, G1.2.1, up2 G1.2.2 r0 5 (G.1)) 4 r0 := hn5
  generalize hG_G6 : ((G1.1, G1.2.1, up2 G1.2.2 r0 5 (G.1)) : mmG) = G6 at hn8 hG7 ⊢
  replace h := h _ hG_G6.symm
  refine g_aload_n dX2_init_12 rfl rfl ?_
  refine g_iload_n dX2_init_13 rfl rfl ?_
  refine h_putI (j := 0) dX2_init_14 f_X2_15_4 (Or.inr ⟨rfl, mm_finI (by decide +kernel), mm_decl (by decide +kernel)⟩) rfl rfl (by decide) hn8.2.2 hn8.ge hn8.2.1 ?_
  generalize hD_D9 : up2 D3 r0 0 x1 = D9
  replace h := h _ hD_D9.symm
  refine g_aload_n dX2_init_17 rfl rfl ?_
  refine g_iload_n dX2_init_18 rfl rfl ?_
  refine h_putI (j := 1) dX2_init_19 f_X2_19_4 (Or.inr ⟨rfl, mm_finI (by decide +kernel), mm_decl (by decide +kernel)⟩) rfl rfl (by decide) hn8.2.2 hn8.ge hn8.2.1 ?_
  generalize hD_D10 : up2 D9 r0 1 x2 = D10
  replace h := h _ hD_D10.symm
  refine g_aload_n dX2_init_22 rfl rfl ?_
  refine g_iload_n dX2_init_23 rfl rfl ?_
  refine h_putI (j := 2) dX2_init_24 f_X2_22_4 (Or.inr ⟨rfl, mm_finI (by decide +kernel), mm_decl (by decide +kernel)⟩) rfl rfl (by decide) hn8.2.2 hn8.ge hn8.2.1 ?_
  generalize hD_D11 : up2 D10 r0 2 x3 = D11
  replace h := h _ hD_D11.symm
  refine g_aload_n dX2_init_27 rfl rfl ?_
  refine g_iload dX2_init_28 rfl ?_
  refine h_putI (j := 3) dX2_init_30 f_X2_25_4 (Or.inr ⟨rfl, mm_finI (by decide +kernel), mm_decl (by decide +kernel)⟩) rfl rfl (by decide) hn8.2.2 hn8.ge hn8.2.1 ?_
  generalize hD_D12 : up2 D11 r0 3 x4 = D12
  replace h := h _ hD_D12.symm
  refine g_aload_n dX2_init_33 rfl rfl ?_
  refine g_iload dX2_init_34 rfl ?_
  refine h_putI (j := 4) dX2_init_36 f_X2_28_4 (Or.inr ⟨rfl, mm_finI (by decide +kernel), mm_decl (by decide +kernel)⟩) rfl rfl (by decide) hn8.2.2 hn8.ge hn8.2.1 ?_
  generalize hD_D13 : up2 D12 r0 4 x5 = D13
  replace h := h _ hD_D13.symm
  exact g_vret dX2_init_39 rfl h
set_option maxRecDepth 20000 in
theorem w_X2_init_k5 {E : mmE} {d kc ks : Nat} {G : mmG} {D : mmD} {Q : mmQ} {r0 x1 x2 x3 x4 x5 : Int} (hG : Sh G) (he0 : isE0 G 5 r0) (h : (∀ G1 : mmG, G1 = mm_push G 12 20 → ∀ D3 : mmD, D3 = mm_zero D G.1 → (∀ G6 : mmG, G6 = (G1.1, G1.2.1, up2 G1.2.2 r0 5 (G.1)) → (∀ D9 : mmD, D9 = up2 D3 r0 0 x1 → (∀ D10 : mmD, D10 = up2 D9 r0 1 x2 → (∀ D11 : mmD, D11 = up2 D10 r0 2 x3 → (∀ D12 : mmD, D12 = up2 D11 r0 3 x4 → (∀ D13 : mmD, D13 = up2 D12 r0 4 x5 → Q none G6 D13)))))))) : Call E (d + 1) (kc + 1) (ks + 20) mX2_init [vR r0, vI x1, vI x2, vI x3, vI x4, vI x5] G D Q := by
  show Go E (d + 1) (kc + 1) (ks + 20) mX2_init 0 [some (vR r0), some (vI x1), some (vI x2), some (vI x3), some (vI x4), some (vI x5)] [] G D Q
  refine g_aload_n dX2_init_0 rfl rfl ?_
  refine g_objinit dX2_init_1 oi_X2_3 (Nat.le_of_ble_eq_true rfl) he0.ge ?_
  refine g_aload_n dX2_init_4 rfl rfl ?_
  refine g_bipush dX2_init_5 bp_20 ?_
  refine g_newa (at0 := .int) (kd := 12) (kc := kc) (ks := ks) dX2_init_7 (Or.inl ⟨rfl, rfl⟩) ka_I (by decide) (by decide) (N := 20) rfl ?_
  have hG2 := hG.push (kd := 12) (n := 20)
  have ha4 : True := trivial
  have hn5 : isE0 (mm_push G 12 20) 5 r0 := he0.push
  generalize hG_G1 : mm_push G 12 20 = G1 at hG2 hn5 ⊢
  generalize hD_D3 : mm_zero D G.1 = D3
  replace h := h _ hG_G1.symm _ hD_D3.symm
  refine h_putR (j := 5) dX2_init_9 f_X2_9_5 (Or.inr ⟨rfl, mm_finI (by decide +kernel), mm_decl (by decide +kernel)⟩) (Or.inr ⟨_, rfl⟩) rfl (by decide) hn5.2.2 hn5.ge hn5.2.1 ?_
  have hG7 := hG2.hi (a := r0) (j := 5) (x := (G.1)) hn5.1
  have hn8 : isE0 (G1.1, G1.2.1, up2 G1.2.2 r0 5 (G.1)) 5 r0 := hn5
  generalize hG_G6 : ((G1.1, G1.2.1, up2 G1.2.2 r0 5 (G.1)) : mmG) = G6 at hn8 hG7 ⊢
  replace h := h _ hG_G6.symm
  refine g_aload_n dX2_init_12 rfl rfl ?_
  refine g_iload_n dX2_init_13 rfl rfl ?_
  refine h_putI (j := 0) dX2_init_14 f_X2_15_5 (Or.inr ⟨rfl, mm_finI (by decide +kernel), mm_decl (by decide +kernel)⟩) rfl rfl (by decide) hn8.2.2 hn8.ge hn8.2.1 ?_
  generalize hD_D9 : up2 D3 r0 0 x1 = D9
  replace h := h _ hD_D9.symm
  refine g_aload_n dX2_init_17 rfl rfl ?_
  refine g_iload_n dX2_init_18 rfl rfl ?_
  refine h_putI (j := 1) dX2_init_19 f_X2_19_5 (Or.inr ⟨rfl, mm_finI (by decide +kernel), mm_decl (by decide +kernel)⟩) rfl rfl (by decide) hn8.2.2 hn8.ge hn8.2.1 ?_
  generalize hD_D10 : up2 D9 r0 1 x2 = D10
  replace h := h _ hD_D10.symm
  refine g_aload_n dX2_init_22 rfl rfl ?_
  refine g_iload_n dX2_init_23 rfl rfl ?_
  refine h_putI (j := 2) dX2_init_24 f_X2_22_5 (Or.inr ⟨rfl, mm_finI (by decide +kernel), mm_decl (by decide +kernel)⟩) rfl rfl (by decide) hn8.2.2 hn8.ge hn8.2.1 ?_
  generalize hD_D11 : up2 D10 r0 2 x3 = D11
  replace h := h _ hD_D11.symm
  refine g_aload_n dX2_init_27 rfl rfl ?_
  refine g_iload dX2_init_28 rfl ?_
  refine h_putI (j := 3) dX2_init_30 f_X2_25_5 (Or.inr ⟨rfl, mm_finI (by decide +kernel), mm_decl (by decide +kernel)⟩) rfl rfl (by decide) hn8.2.2 hn8.ge hn8.2.1 ?_
  generalize hD_D12 : up2 D11 r0 3 x4 = D12
  replace h := h _ hD_D12.symm
  refine g_aload_n dX2_init_33 rfl rfl ?_
  refine g_iload dX2_init_34 rfl ?_
  refine h_putI (j := 4) dX2_init_36 f_X2_28_5 (Or.inr ⟨rfl, mm_finI (by decide +kernel), mm_decl (by decide +kernel)⟩) rfl rfl (by decide) hn8.2.2 hn8.ge hn8.2.1 ?_
  generalize hD_D13 : up2 D12 r0 4 x5 = D13
  replace h := h _ hD_D13.symm
  exact g_vret dX2_init_39 rfl h
set_option maxRecDepth 20000 in
theorem w_X2_init_k7 {E : mmE} {d kc ks : Nat} {G : mmG} {D : mmD} {Q : mmQ} {r0 x1 x2 x3 x4 x5 : Int} (hG : Sh G) (he0 : isE0 G 7 r0) (h : (∀ G1 : mmG, G1 = mm_push G 12 20 → ∀ D3 : mmD, D3 = mm_zero D G.1 → (∀ G6 : mmG, G6 = (G1.1, G1.2.1, up2 G1.2.2 r0 5 (G.1)) → (∀ D9 : mmD, D9 = up2 D3 r0 0 x1 → (∀ D10 : mmD, D10 = up2 D9 r0 1 x2 → (∀ D11 : mmD, D11 = up2 D10 r0 2 x3 → (∀ D12 : mmD, D12 = up2 D11 r0 3 x4 → (∀ D13 : mmD, D13 = up2 D12 r0 4 x5 → Q none G6 D13)))))))) : Call E (d + 1) (kc + 1) (ks + 20) mX2_init [vR r0, vI x1, vI x2, vI x3, vI x4, vI x5] G D Q := by
  show Go E (d + 1) (kc + 1) (ks + 20) mX2_init 0 [some (vR r0), some (vI x1), some (vI x2), some (vI x3), some (vI x4), some (vI x5)] [] G D Q
  refine g_aload_n dX2_init_0 rfl rfl ?_
  refine g_objinit dX2_init_1 oi_X2_3 (Nat.le_of_ble_eq_true rfl) he0.ge ?_
  refine g_aload_n dX2_init_4 rfl rfl ?_
  refine g_bipush dX2_init_5 bp_20 ?_
  refine g_newa (at0 := .int) (kd := 12) (kc := kc) (ks := ks) dX2_init_7 (Or.inl ⟨rfl, rfl⟩) ka_I (by decide) (by decide) (N := 20) rfl ?_
  have hG2 := hG.push (kd := 12) (n := 20)
  have ha4 : True := trivial
  have hn5 : isE0 (mm_push G 12 20) 7 r0 := he0.push
  generalize hG_G1 : mm_push G 12 20 = G1 at hG2 hn5 ⊢
  generalize hD_D3 : mm_zero D G.1 = D3
  replace h := h _ hG_G1.symm _ hD_D3.symm
  refine h_putR (j := 5) dX2_init_9 f_X2_9_7 (Or.inr ⟨rfl, mm_finI (by decide +kernel), mm_decl (by decide +kernel)⟩) (Or.inr ⟨_, rfl⟩) rfl (by decide) hn5.2.2 hn5.ge hn5.2.1 ?_
  have hG7 := hG2.hi (a := r0) (j := 5) (x := (G.1)) hn5.1
  have hn8 : isE0 (G1.1, G1.2.1, up2 G1.2.2 r0 5 (G.1)) 7 r0 := hn5
  generalize hG_G6 : ((G1.1, G1.2.1, up2 G1.2.2 r0 5 (G.1)) : mmG) = G6 at hn8 hG7 ⊢
  replace h := h _ hG_G6.symm
  refine g_aload_n dX2_init_12 rfl rfl ?_
  refine g_iload_n dX2_init_13 rfl rfl ?_
  refine h_putI (j := 0) dX2_init_14 f_X2_15_7 (Or.inr ⟨rfl, mm_finI (by decide +kernel), mm_decl (by decide +kernel)⟩) rfl rfl (by decide) hn8.2.2 hn8.ge hn8.2.1 ?_
  generalize hD_D9 : up2 D3 r0 0 x1 = D9
  replace h := h _ hD_D9.symm
  refine g_aload_n dX2_init_17 rfl rfl ?_
  refine g_iload_n dX2_init_18 rfl rfl ?_
  refine h_putI (j := 1) dX2_init_19 f_X2_19_7 (Or.inr ⟨rfl, mm_finI (by decide +kernel), mm_decl (by decide +kernel)⟩) rfl rfl (by decide) hn8.2.2 hn8.ge hn8.2.1 ?_
  generalize hD_D10 : up2 D9 r0 1 x2 = D10
  replace h := h _ hD_D10.symm
  refine g_aload_n dX2_init_22 rfl rfl ?_
  refine g_iload_n dX2_init_23 rfl rfl ?_
  refine h_putI (j := 2) dX2_init_24 f_X2_22_7 (Or.inr ⟨rfl, mm_finI (by decide +kernel), mm_decl (by decide +kernel)⟩) rfl rfl (by decide) hn8.2.2 hn8.ge hn8.2.1 ?_
  generalize hD_D11 : up2 D10 r0 2 x3 = D11
  replace h := h _ hD_D11.symm
  refine g_aload_n dX2_init_27 rfl rfl ?_
  refine g_iload dX2_init_28 rfl ?_
  refine h_putI (j := 3) dX2_init_30 f_X2_25_7 (Or.inr ⟨rfl, mm_finI (by decide +kernel), mm_decl (by decide +kernel)⟩) rfl rfl (by decide) hn8.2.2 hn8.ge hn8.2.1 ?_
  generalize hD_D12 : up2 D11 r0 3 x4 = D12
  replace h := h _ hD_D12.symm
  refine g_aload_n dX2_init_33 rfl rfl ?_
  refine g_iload dX2_init_34 rfl ?_
  refine h_putI (j := 4) dX2_init_36 f_X2_28_7 (Or.inr ⟨rfl, mm_finI (by decide +kernel), mm_decl (by decide +kernel)⟩) rfl rfl (by decide) hn8.2.2 hn8.ge hn8.2.1 ?_
  generalize hD_D13 : up2 D12 r0 4 x5 = D13
  replace h := h _ hD_D13.symm
  exact g_vret dX2_init_39 rfl h
set_option maxRecDepth 20000 in
theorem w_X2_init_k8 {E : mmE} {d kc ks : Nat} {G : mmG} {D : mmD} {Q : mmQ} {r0 x1 x2 x3 x4 x5 : Int} (hG : Sh G) (he0 : isE0 G 8 r0) (h : (∀ G1 : mmG, G1 = mm_push G 12 20 → ∀ D3 : mmD, D3 = mm_zero D G.1 → (∀ G6 : mmG, G6 = (G1.1, G1.2.1, up2 G1.2.2 r0 5 (G.1)) → (∀ D9 : mmD, D9 = up2 D3 r0 0 x1 → (∀ D10 : mmD, D10 = up2 D9 r0 1 x2 → (∀ D11 : mmD, D11 = up2 D10 r0 2 x3 → (∀ D12 : mmD, D12 = up2 D11 r0 3 x4 → (∀ D13 : mmD, D13 = up2 D12 r0 4 x5 → Q none G6 D13)))))))) : Call E (d + 1) (kc + 1) (ks + 20) mX2_init [vR r0, vI x1, vI x2, vI x3, vI x4, vI x5] G D Q := by
  show Go E (d + 1) (kc + 1) (ks + 20) mX2_init 0 [some (vR r0), some (vI x1), some (vI x2), some (vI x3), some (vI x4), some (vI x5)] [] G D Q
  refine g_aload_n dX2_init_0 rfl rfl ?_
  refine g_objinit dX2_init_1 oi_X2_3 (Nat.le_of_ble_eq_true rfl) he0.ge ?_
  refine g_aload_n dX2_init_4 rfl rfl ?_
  refine g_bipush dX2_init_5 bp_20 ?_
  refine g_newa (at0 := .int) (kd := 12) (kc := kc) (ks := ks) dX2_init_7 (Or.inl ⟨rfl, rfl⟩) ka_I (by decide) (by decide) (N := 20) rfl ?_
  have hG2 := hG.push (kd := 12) (n := 20)
  have ha4 : True := trivial
  have hn5 : isE0 (mm_push G 12 20) 8 r0 := he0.push
  generalize hG_G1 : mm_push G 12 20 = G1 at hG2 hn5 ⊢
  generalize hD_D3 : mm_zero D G.1 = D3
  replace h := h _ hG_G1.symm _ hD_D3.symm
  refine h_putR (j := 5) dX2_init_9 f_X2_9_8 (Or.inr ⟨rfl, mm_finI (by decide +kernel), mm_decl (by decide +kernel)⟩) (Or.inr ⟨_, rfl⟩) rfl (by decide) hn5.2.2 hn5.ge hn5.2.1 ?_
  have hG7 := hG2.hi (a := r0) (j := 5) (x := (G.1)) hn5.1
  have hn8 : isE0 (G1.1, G1.2.1, up2 G1.2.2 r0 5 (G.1)) 8 r0 := hn5
  generalize hG_G6 : ((G1.1, G1.2.1, up2 G1.2.2 r0 5 (G.1)) : mmG) = G6 at hn8 hG7 ⊢
  replace h := h _ hG_G6.symm
  refine g_aload_n dX2_init_12 rfl rfl ?_
  refine g_iload_n dX2_init_13 rfl rfl ?_
  refine h_putI (j := 0) dX2_init_14 f_X2_15_8 (Or.inr ⟨rfl, mm_finI (by decide +kernel), mm_decl (by decide +kernel)⟩) rfl rfl (by decide) hn8.2.2 hn8.ge hn8.2.1 ?_
  generalize hD_D9 : up2 D3 r0 0 x1 = D9
  replace h := h _ hD_D9.symm
  refine g_aload_n dX2_init_17 rfl rfl ?_
  refine g_iload_n dX2_init_18 rfl rfl ?_
  refine h_putI (j := 1) dX2_init_19 f_X2_19_8 (Or.inr ⟨rfl, mm_finI (by decide +kernel), mm_decl (by decide +kernel)⟩) rfl rfl (by decide) hn8.2.2 hn8.ge hn8.2.1 ?_
  generalize hD_D10 : up2 D9 r0 1 x2 = D10
  replace h := h _ hD_D10.symm
  refine g_aload_n dX2_init_22 rfl rfl ?_
  refine g_iload_n dX2_init_23 rfl rfl ?_
  refine h_putI (j := 2) dX2_init_24 f_X2_22_8 (Or.inr ⟨rfl, mm_finI (by decide +kernel), mm_decl (by decide +kernel)⟩) rfl rfl (by decide) hn8.2.2 hn8.ge hn8.2.1 ?_
  generalize hD_D11 : up2 D10 r0 2 x3 = D11
  replace h := h _ hD_D11.symm
  refine g_aload_n dX2_init_27 rfl rfl ?_
  refine g_iload dX2_init_28 rfl ?_
  refine h_putI (j := 3) dX2_init_30 f_X2_25_8 (Or.inr ⟨rfl, mm_finI (by decide +kernel), mm_decl (by decide +kernel)⟩) rfl rfl (by decide) hn8.2.2 hn8.ge hn8.2.1 ?_
  generalize hD_D12 : up2 D11 r0 3 x4 = D12
  replace h := h _ hD_D12.symm
  refine g_aload_n dX2_init_33 rfl rfl ?_
  refine g_iload dX2_init_34 rfl ?_
  refine h_putI (j := 4) dX2_init_36 f_X2_28_8 (Or.inr ⟨rfl, mm_finI (by decide +kernel), mm_decl (by decide +kernel)⟩) rfl rfl (by decide) hn8.2.2 hn8.ge hn8.2.1 ?_
  generalize hD_D13 : up2 D12 r0 4 x5 = D13
  replace h := h _ hD_D13.symm
  exact g_vret dX2_init_39 rfl h
set_option maxRecDepth 20000 in
theorem w_X8_tells_k7 {E : mmE} {d kc ks : Nat} {G : mmG} {D : mmD} {Q : mmQ} {r0 x1 : Int} (hG : Sh G) (he0 : isEv G 7 r0) (h : Call E d 0 0 mX2_begin [vR r0, vI 11] G D (retV G (fun D1 => Call E d 0 0 mX2_tells [vR r0, vI (x1 * 3)] G D1 (retI G (fun z4 D3 => Q (some (vI z4)) G D3))))) : Call E (d + 1) kc ks mX8_tells [vR r0, vI x1] G D Q := by
  show Go E (d + 1) kc ks mX8_tells 0 [some (vR r0), some (vI x1)] [] G D Q
  refine g_aload_n dX8_tells_0 rfl rfl ?_
  refine g_bipush dX8_tells_1 bp_11 ?_
  refine g_callU (kc := kc) (kc' := 0) (ks := ks) (ks' := 0) (as := [vI 11]) (st := []) (ci := 7) (C := RX8) dX8_tells_3 cB_X2_begin lk_X8_7 sm_X8_begin (by decide) (by decide +kernel) (Or.inl ⟨in_X2_begin, _, _, _, cB_X2_begin.1⟩) in_X2_begin se_X8_begin_X8 (by decide) rfl rfl (Nat.le_of_ble_eq_true rfl) (Nat.le_of_ble_eq_true rfl) he0.ge he0.lt (congrArg Prod.fst he0.2.2.1) ?_
  refine Go.to (fun r G' D1 hr => ?_) h
  obtain ⟨rfl, rfl, h⟩ := hr
  show Go E (d + 1) kc ks mX8_tells 6 [some (vR r0), some (vI x1)] [] G D1 Q
  refine g_aload_n dX8_tells_6 rfl rfl ?_
  refine g_iload_n dX8_tells_7 rfl rfl ?_
  refine g_iconst dX8_tells_8 ?_
  refine g_imul dX8_tells_9 ?_
  refine g_callSU (kc := kc) (kc' := 0) (ks := ks) (ks' := 0) (as := [vI (x1 * 3)]) (st := []) (ci := 7) dX8_tells_10 cB_X2_tells lk_X8_13 sm_X2_tells rfl su_X8 (by decide) (Or.inl rfl) in_X2_tells (by decide) rfl (Nat.le_of_ble_eq_true rfl) (Nat.le_of_ble_eq_true rfl) he0.ge he0.lt (congrArg Prod.fst he0.2.2.1) ?_
  refine Go.to (fun r G' D3 hr => ?_) h
  obtain ⟨rfl, z4, rfl, h⟩ := hr
  show Go E (d + 1) kc ks mX8_tells 13 [some (vR r0), some (vI x1)] [vI z4] G D3 Q
  exact g_iret dX8_tells_13 rfl h
set_option maxRecDepth 20000 in
theorem w_X8_tells_k5 {E : mmE} {d kc ks : Nat} {G : mmG} {D : mmD} {Q : mmQ} {r0 x1 : Int} (hG : Sh G) (he0 : isEv G 5 r0) (h : Call E d 0 0 mX2_begin [vR r0, vI 11] G D (retV G (fun D1 => Call E d 0 0 mX2_tells [vR r0, vI (x1 * 3)] G D1 (retI G (fun z4 D3 => Q (some (vI z4)) G D3))))) : Call E (d + 1) kc ks mX8_tells [vR r0, vI x1] G D Q := by
  show Go E (d + 1) kc ks mX8_tells 0 [some (vR r0), some (vI x1)] [] G D Q
  refine g_aload_n dX8_tells_0 rfl rfl ?_
  refine g_bipush dX8_tells_1 bp_11 ?_
  refine g_callU (kc := kc) (kc' := 0) (ks := ks) (ks' := 0) (as := [vI 11]) (st := []) (ci := 5) (C := RX6) dX8_tells_3 cB_X2_begin lk_X8_7 sm_X8_begin (by decide) (by decide +kernel) (Or.inl ⟨in_X2_begin, _, _, _, cB_X2_begin.1⟩) in_X2_begin se_X8_begin_X6 (by decide) rfl rfl (Nat.le_of_ble_eq_true rfl) (Nat.le_of_ble_eq_true rfl) he0.ge he0.lt (congrArg Prod.fst he0.2.2.1) ?_
  refine Go.to (fun r G' D1 hr => ?_) h
  obtain ⟨rfl, rfl, h⟩ := hr
  show Go E (d + 1) kc ks mX8_tells 6 [some (vR r0), some (vI x1)] [] G D1 Q
  refine g_aload_n dX8_tells_6 rfl rfl ?_
  refine g_iload_n dX8_tells_7 rfl rfl ?_
  refine g_iconst dX8_tells_8 ?_
  refine g_imul dX8_tells_9 ?_
  refine g_callSU (kc := kc) (kc' := 0) (ks := ks) (ks' := 0) (as := [vI (x1 * 3)]) (st := []) (ci := 5) dX8_tells_10 cB_X2_tells lk_X8_13 sm_X2_tells rfl su_X8 (by decide) (Or.inl rfl) in_X2_tells (by decide) rfl (Nat.le_of_ble_eq_true rfl) (Nat.le_of_ble_eq_true rfl) he0.ge he0.lt (congrArg Prod.fst he0.2.2.1) ?_
  refine Go.to (fun r G' D3 hr => ?_) h
  obtain ⟨rfl, z4, rfl, h⟩ := hr
  show Go E (d + 1) kc ks mX8_tells 13 [some (vR r0), some (vI x1)] [vI z4] G D3 Q
  exact g_iret dX8_tells_13 rfl h
set_option maxRecDepth 20000 in
theorem w_X5_leads_k4 {E : mmE} {d kc ks : Nat} {G : mmG} {D : mmD} {Q : mmQ} {r0 x1 : Int} (hG : Sh G) (he0 : isEv G 4 r0) (h : Call E d 0 0 mX2_begin [vR r0, vI 21] G D (retV G (fun D1 => Call E d 0 0 mX2_leads [vR r0, vI x1] G D1 (retI G (fun z4 D3 => Q (some (vI (ixor z4 7))) G D3))))) : Call E (d + 1) kc ks mX5_leads [vR r0, vI x1] G D Q := by
  show Go E (d + 1) kc ks mX5_leads 0 [some (vR r0), some (vI x1)] [] G D Q
  refine g_aload_n dX5_leads_0 rfl rfl ?_
  refine g_bipush dX5_leads_1 bp_21 ?_
  refine g_callU (kc := kc) (kc' := 0) (ks := ks) (ks' := 0) (as := [vI 21]) (st := []) (ci := 4) (C := RX5) dX5_leads_3 cB_X2_begin lk_X5_7 sm_X5_begin (by decide) (by decide +kernel) (Or.inl ⟨in_X2_begin, _, _, _, cB_X2_begin.1⟩) in_X2_begin se_X5_begin_X5 (by decide) rfl rfl (Nat.le_of_ble_eq_true rfl) (Nat.le_of_ble_eq_true rfl) he0.ge he0.lt (congrArg Prod.fst he0.2.2.1) ?_
  refine Go.to (fun r G' D1 hr => ?_) h
  obtain ⟨rfl, rfl, h⟩ := hr
  show Go E (d + 1) kc ks mX5_leads 6 [some (vR r0), some (vI x1)] [] G D1 Q
  refine g_aload_n dX5_leads_6 rfl rfl ?_
  refine g_iload_n dX5_leads_7 rfl rfl ?_
  refine g_callSU (kc := kc) (kc' := 0) (ks := ks) (ks' := 0) (as := [vI x1]) (st := []) (ci := 4) dX5_leads_8 cB_X2_leads lk_X5_13 sm_X2_leads rfl su_X5 (by decide) (Or.inl rfl) in_X2_leads (by decide) rfl (Nat.le_of_ble_eq_true rfl) (Nat.le_of_ble_eq_true rfl) he0.ge he0.lt (congrArg Prod.fst he0.2.2.1) ?_
  refine Go.to (fun r G' D3 hr => ?_) h
  obtain ⟨rfl, z4, rfl, h⟩ := hr
  show Go E (d + 1) kc ks mX5_leads 11 [some (vR r0), some (vI x1)] [vI z4] G D3 Q
  refine g_bipush dX5_leads_11 bp_7 ?_
  refine g_ixor dX5_leads_13 ?_
  exact g_iret dX5_leads_14 rfl h
set_option maxRecDepth 20000 in
theorem w_X5_leads_k1 {E : mmE} {d kc ks : Nat} {G : mmG} {D : mmD} {Q : mmQ} {r0 x1 : Int} (hG : Sh G) (he0 : isEv G 1 r0) (h : Call E d 0 0 mX2_begin [vR r0, vI 21] G D (retV G (fun D1 => Call E d 0 0 mX2_leads [vR r0, vI x1] G D1 (retI G (fun z4 D3 => Q (some (vI (ixor z4 7))) G D3))))) : Call E (d + 1) kc ks mX5_leads [vR r0, vI x1] G D Q := by
  show Go E (d + 1) kc ks mX5_leads 0 [some (vR r0), some (vI x1)] [] G D Q
  refine g_aload_n dX5_leads_0 rfl rfl ?_
  refine g_bipush dX5_leads_1 bp_21 ?_
  refine g_callU (kc := kc) (kc' := 0) (ks := ks) (ks' := 0) (as := [vI 21]) (st := []) (ci := 1) (C := RX1) dX5_leads_3 cB_X2_begin lk_X5_7 sm_X5_begin (by decide) (by decide +kernel) (Or.inl ⟨in_X2_begin, _, _, _, cB_X2_begin.1⟩) in_X2_begin se_X5_begin_X1 (by decide) rfl rfl (Nat.le_of_ble_eq_true rfl) (Nat.le_of_ble_eq_true rfl) he0.ge he0.lt (congrArg Prod.fst he0.2.2.1) ?_
  refine Go.to (fun r G' D1 hr => ?_) h
  obtain ⟨rfl, rfl, h⟩ := hr
  show Go E (d + 1) kc ks mX5_leads 6 [some (vR r0), some (vI x1)] [] G D1 Q
  refine g_aload_n dX5_leads_6 rfl rfl ?_
  refine g_iload_n dX5_leads_7 rfl rfl ?_
  refine g_callSU (kc := kc) (kc' := 0) (ks := ks) (ks' := 0) (as := [vI x1]) (st := []) (ci := 1) dX5_leads_8 cB_X2_leads lk_X5_13 sm_X2_leads rfl su_X5 (by decide) (Or.inl rfl) in_X2_leads (by decide) rfl (Nat.le_of_ble_eq_true rfl) (Nat.le_of_ble_eq_true rfl) he0.ge he0.lt (congrArg Prod.fst he0.2.2.1) ?_
  refine Go.to (fun r G' D3 hr => ?_) h
  obtain ⟨rfl, z4, rfl, h⟩ := hr
  show Go E (d + 1) kc ks mX5_leads 11 [some (vR r0), some (vI x1)] [vI z4] G D3 Q
  refine g_bipush dX5_leads_11 bp_7 ?_
  refine g_ixor dX5_leads_13 ?_
  exact g_iret dX5_leads_14 rfl h
set_option maxRecDepth 20000 in
theorem w_X5_leads_k2 {E : mmE} {d kc ks : Nat} {G : mmG} {D : mmD} {Q : mmQ} {r0 x1 : Int} (hG : Sh G) (he0 : isEv G 2 r0) (h : Call E d 0 0 mX2_begin [vR r0, vI 21] G D (retV G (fun D1 => Call E d 0 0 mX2_leads [vR r0, vI x1] G D1 (retI G (fun z4 D3 => Q (some (vI (ixor z4 7))) G D3))))) : Call E (d + 1) kc ks mX5_leads [vR r0, vI x1] G D Q := by
  show Go E (d + 1) kc ks mX5_leads 0 [some (vR r0), some (vI x1)] [] G D Q
  refine g_aload_n dX5_leads_0 rfl rfl ?_
  refine g_bipush dX5_leads_1 bp_21 ?_
  refine g_callU (kc := kc) (kc' := 0) (ks := ks) (ks' := 0) (as := [vI 21]) (st := []) (ci := 2) (C := RX3) dX5_leads_3 cB_X2_begin lk_X5_7 sm_X5_begin (by decide) (by decide +kernel) (Or.inl ⟨in_X2_begin, _, _, _, cB_X2_begin.1⟩) in_X2_begin se_X5_begin_X3 (by decide) rfl rfl (Nat.le_of_ble_eq_true rfl) (Nat.le_of_ble_eq_true rfl) he0.ge he0.lt (congrArg Prod.fst he0.2.2.1) ?_
  refine Go.to (fun r G' D1 hr => ?_) h
  obtain ⟨rfl, rfl, h⟩ := hr
  show Go E (d + 1) kc ks mX5_leads 6 [some (vR r0), some (vI x1)] [] G D1 Q
  refine g_aload_n dX5_leads_6 rfl rfl ?_
  refine g_iload_n dX5_leads_7 rfl rfl ?_
  refine g_callSU (kc := kc) (kc' := 0) (ks := ks) (ks' := 0) (as := [vI x1]) (st := []) (ci := 2) dX5_leads_8 cB_X2_leads lk_X5_13 sm_X2_leads rfl su_X5 (by decide) (Or.inl rfl) in_X2_leads (by decide) rfl (Nat.le_of_ble_eq_true rfl) (Nat.le_of_ble_eq_true rfl) he0.ge he0.lt (congrArg Prod.fst he0.2.2.1) ?_
  refine Go.to (fun r G' D3 hr => ?_) h
  obtain ⟨rfl, z4, rfl, h⟩ := hr
  show Go E (d + 1) kc ks mX5_leads 11 [some (vR r0), some (vI x1)] [vI z4] G D3 Q
  refine g_bipush dX5_leads_11 bp_7 ?_
  refine g_ixor dX5_leads_13 ?_
  exact g_iret dX5_leads_14 rfl h
set_option maxRecDepth 20000 in
theorem w_X9_marks_k8 {E : mmE} {d kc ks : Nat} {G : mmG} {D : mmD} {Q : mmQ} {r0 x1 : Int} (hG : Sh G) (he0 : isEv G 8 r0) (h : Call E d 0 0 mX2_begin [vR r0, vI 31] G D (retV G (fun D1 => Call E d 0 0 mX2_marks [vR r0, vI x1] G D1 (retI G (fun z4 D3 => Q (some (vI (-z4))) G D3))))) : Call E (d + 1) kc ks mX9_marks [vR r0, vI x1] G D Q := by
  show Go E (d + 1) kc ks mX9_marks 0 [some (vR r0), some (vI x1)] [] G D Q
  refine g_aload_n dX9_marks_0 rfl rfl ?_
  refine g_bipush dX9_marks_1 bp_31 ?_
  refine g_callU (kc := kc) (kc' := 0) (ks := ks) (ks' := 0) (as := [vI 31]) (st := []) (ci := 8) (C := RX9) dX9_marks_3 cB_X2_begin lk_X9_7 sm_X9_begin (by decide) (by decide +kernel) (Or.inl ⟨in_X2_begin, _, _, _, cB_X2_begin.1⟩) in_X2_begin se_X9_begin_X9 (by decide) rfl rfl (Nat.le_of_ble_eq_true rfl) (Nat.le_of_ble_eq_true rfl) he0.ge he0.lt (congrArg Prod.fst he0.2.2.1) ?_
  refine Go.to (fun r G' D1 hr => ?_) h
  obtain ⟨rfl, rfl, h⟩ := hr
  show Go E (d + 1) kc ks mX9_marks 6 [some (vR r0), some (vI x1)] [] G D1 Q
  refine g_aload_n dX9_marks_6 rfl rfl ?_
  refine g_iload_n dX9_marks_7 rfl rfl ?_
  refine g_callSU (kc := kc) (kc' := 0) (ks := ks) (ks' := 0) (as := [vI x1]) (st := []) (ci := 8) dX9_marks_8 cB_X2_marks lk_X9_13 sm_X2_marks rfl su_X9 (by decide) (Or.inl rfl) in_X2_marks (by decide) rfl (Nat.le_of_ble_eq_true rfl) (Nat.le_of_ble_eq_true rfl) he0.ge he0.lt (congrArg Prod.fst he0.2.2.1) ?_
  refine Go.to (fun r G' D3 hr => ?_) h
  obtain ⟨rfl, z4, rfl, h⟩ := hr
  show Go E (d + 1) kc ks mX9_marks 11 [some (vR r0), some (vI x1)] [vI z4] G D3 Q
  refine g_ineg dX9_marks_11 ?_
  exact g_iret dX9_marks_12 rfl h
set_option maxRecDepth 20000 in
theorem w_X6_leads_k5 {E : mmE} {d kc ks : Nat} {G : mmG} {D : mmD} {Q : mmQ} {r0 x1 : Int} (hG : Sh G) (he0 : isEv G 5 r0) (h : Call E d 0 0 mX2_begin [vR r0, vI 41] G D (retV G (fun D1 => Call E d 0 0 mX2_leads [vR r0, vI (x1 - 1)] G D1 (retI G (fun z4 D3 => Call E d 0 0 mX8_tells [vR r0, vI 2] G D3 (retI G (fun z6 D5 => Q (some (vI (z4 + z6))) G D5))))))) : Call E (d + 1) kc ks mX6_leads [vR r0, vI x1] G D Q := by
  show Go E (d + 1) kc ks mX6_leads 0 [some (vR r0), some (vI x1)] [] G D Q
  refine g_aload_n dX6_leads_0 rfl rfl ?_
  refine g_bipush dX6_leads_1 bp_41 ?_
  refine g_callU (kc := kc) (kc' := 0) (ks := ks) (ks' := 0) (as := [vI 41]) (st := []) (ci := 5) (C := RX6) dX6_leads_3 cB_X2_begin lk_X6_7 sm_X6_begin (by decide) (by decide +kernel) (Or.inl ⟨in_X2_begin, _, _, _, cB_X2_begin.1⟩) in_X2_begin se_X6_begin_X6 (by decide) rfl rfl (Nat.le_of_ble_eq_true rfl) (Nat.le_of_ble_eq_true rfl) he0.ge he0.lt (congrArg Prod.fst he0.2.2.1) ?_
  refine Go.to (fun r G' D1 hr => ?_) h
  obtain ⟨rfl, rfl, h⟩ := hr
  show Go E (d + 1) kc ks mX6_leads 6 [some (vR r0), some (vI x1)] [] G D1 Q
  refine g_aload_n dX6_leads_6 rfl rfl ?_
  refine g_iload_n dX6_leads_7 rfl rfl ?_
  refine g_iconst dX6_leads_8 ?_
  refine g_isub dX6_leads_9 ?_
  refine g_callSU (kc := kc) (kc' := 0) (ks := ks) (ks' := 0) (as := [vI (x1 - 1)]) (st := []) (ci := 5) dX6_leads_10 cB_X2_leads lk_X6_13 sm_X8_leads rfl su_X6 (by decide) (Or.inr su_X8) in_X2_leads (by decide) rfl (Nat.le_of_ble_eq_true rfl) (Nat.le_of_ble_eq_true rfl) he0.ge he0.lt (congrArg Prod.fst he0.2.2.1) ?_
  refine Go.to (fun r G' D3 hr => ?_) h
  obtain ⟨rfl, z4, rfl, h⟩ := hr
  show Go E (d + 1) kc ks mX6_leads 13 [some (vR r0), some (vI x1)] [vI z4] G D3 Q
  refine g_aload_n dX6_leads_13 rfl rfl ?_
  refine g_iconst dX6_leads_14 ?_
  refine g_callU (kc := kc) (kc' := 0) (ks := ks) (ks' := 0) (as := [vI 2]) (st := [vI z4]) (ci := 5) (C := RX6) dX6_leads_15 cB_X8_tells lk_X6_17 sm_X6_tells (by decide) (by decide +kernel) (Or.inl ⟨in_X8_tells, _, _, _, cB_X8_tells.1⟩) in_X8_tells se_X6_tells_X6 (by decide) rfl rfl (Nat.le_of_ble_eq_true rfl) (Nat.le_of_ble_eq_true rfl) he0.ge he0.lt (congrArg Prod.fst he0.2.2.1) ?_
  refine Go.to (fun r G' D5 hr => ?_) h
  obtain ⟨rfl, z6, rfl, h⟩ := hr
  show Go E (d + 1) kc ks mX6_leads 18 [some (vR r0), some (vI x1)] [vI z6, vI z4] G D5 Q
  refine g_iadd dX6_leads_18 ?_
  exact g_iret dX6_leads_19 rfl h
set_option maxRecDepth 20000 in
theorem w_X3_tells_k2 {E : mmE} {d kc ks : Nat} {G : mmG} {D : mmD} {Q : mmQ} {r0 x1 : Int} (hG : Sh G) (he0 : isEv G 2 r0) (h : Call E d 0 0 mX2_begin [vR r0, vI 51] G D (retV G (fun D1 => Call E d 0 0 mX2_tells [vR r0, vI x1] G D1 (retI G (fun z4 D3 => Q (some (vI (z4 + (D3 r0 0)))) G D3))))) : Call E (d + 1) kc ks mX3_tells [vR r0, vI x1] G D Q := by
  show Go E (d + 1) kc ks mX3_tells 0 [some (vR r0), some (vI x1)] [] G D Q
  refine g_aload_n dX3_tells_0 rfl rfl ?_
  refine g_bipush dX3_tells_1 bp_51 ?_
  refine g_callU (kc := kc) (kc' := 0) (ks := ks) (ks' := 0) (as := [vI 51]) (st := []) (ci := 2) (C := RX3) dX3_tells_3 cB_X2_begin lk_X3_7 sm_X3_begin (by decide) (by decide +kernel) (Or.inl ⟨in_X2_begin, _, _, _, cB_X2_begin.1⟩) in_X2_begin se_X3_begin_X3 (by decide) rfl rfl (Nat.le_of_ble_eq_true rfl) (Nat.le_of_ble_eq_true rfl) he0.ge he0.lt (congrArg Prod.fst he0.2.2.1) ?_
  refine Go.to (fun r G' D1 hr => ?_) h
  obtain ⟨rfl, rfl, h⟩ := hr
  show Go E (d + 1) kc ks mX3_tells 6 [some (vR r0), some (vI x1)] [] G D1 Q
  refine g_aload_n dX3_tells_6 rfl rfl ?_
  refine g_iload_n dX3_tells_7 rfl rfl ?_
  refine g_callSU (kc := kc) (kc' := 0) (ks := ks) (ks' := 0) (as := [vI x1]) (st := []) (ci := 2) dX3_tells_8 cB_X2_tells lk_X3_13 sm_X5_tells rfl su_X3 (by decide) (Or.inr su_X5) in_X2_tells (by decide) rfl (Nat.le_of_ble_eq_true rfl) (Nat.le_of_ble_eq_true rfl) he0.ge he0.lt (congrArg Prod.fst he0.2.2.1) ?_
  refine Go.to (fun r G' D3 hr => ?_) h
  obtain ⟨rfl, z4, rfl, h⟩ := hr
  show Go E (d + 1) kc ks mX3_tells 11 [some (vR r0), some (vI x1)] [vI z4] G D3 Q
  refine g_aload_n dX3_tells_11 rfl rfl ?_
  refine h_getI (j := 0) dX3_tells_12 f_X3_17_2 rfl rfl (by decide) he0.2.2.1 he0.ge he0.lt ?_
  refine g_iadd dX3_tells_15 ?_
  exact g_iret dX3_tells_16 rfl h
set_option maxRecDepth 20000 in
theorem w_X1_marks_k1 {E : mmE} {d kc ks : Nat} {G : mmG} {D : mmD} {Q : mmQ} {r0 x1 : Int} (hG : Sh G) (he0 : isEv G 1 r0) (h : Call E d 0 0 mX2_begin [vR r0, vI 61] G D (retV G (fun D1 => Call E d 0 0 mX2_marks [vR r0, vI (x1 + 1)] G D1 (retI G (fun z4 D3 => Q (some (vI (ixor z4 3))) G D3))))) : Call E (d + 1) kc ks mX1_marks [vR r0, vI x1] G D Q := by
  show Go E (d + 1) kc ks mX1_marks 0 [some (vR r0), some (vI x1)] [] G D Q
  refine g_aload_n dX1_marks_0 rfl rfl ?_
  refine g_bipush dX1_marks_1 bp_61 ?_
  refine g_callU (kc := kc) (kc' := 0) (ks := ks) (ks' := 0) (as := [vI 61]) (st := []) (ci := 1) (C := RX1) dX1_marks_3 cB_X2_begin lk_X1_7 sm_X1_begin (by decide) (by decide +kernel) (Or.inl ⟨in_X2_begin, _, _, _, cB_X2_begin.1⟩) in_X2_begin se_X1_begin_X1 (by decide) rfl rfl (Nat.le_of_ble_eq_true rfl) (Nat.le_of_ble_eq_true rfl) he0.ge he0.lt (congrArg Prod.fst he0.2.2.1) ?_
  refine Go.to (fun r G' D1 hr => ?_) h
  obtain ⟨rfl, rfl, h⟩ := hr
  show Go E (d + 1) kc ks mX1_marks 6 [some (vR r0), some (vI x1)] [] G D1 Q
  refine g_aload_n dX1_marks_6 rfl rfl ?_
  refine g_iload_n dX1_marks_7 rfl rfl ?_
  refine g_iconst dX1_marks_8 ?_
  refine g_iadd dX1_marks_9 ?_
  refine g_callSU (kc := kc) (kc' := 0) (ks := ks) (ks' := 0) (as := [vI (x1 + 1)]) (st := []) (ci := 1) dX1_marks_10 cB_X2_marks lk_X1_13 sm_X5_marks rfl su_X1 (by decide) (Or.inr su_X5) in_X2_marks (by decide) rfl (Nat.le_of_ble_eq_true rfl) (Nat.le_of_ble_eq_true rfl) he0.ge he0.lt (congrArg Prod.fst he0.2.2.1) ?_
  refine Go.to (fun r G' D3 hr => ?_) h
  obtain ⟨rfl, z4, rfl, h⟩ := hr
  show Go E (d + 1) kc ks mX1_marks 13 [some (vR r0), some (vI x1)] [vI z4] G D3 Q
  refine g_iconst dX1_marks_13 ?_
  refine g_ixor dX1_marks_14 ?_
  exact g_iret dX1_marks_15 rfl h
set_option maxRecDepth 20000 in
theorem w_X1_kindNumber_k1 {E : mmE} {d kc ks : Nat} {G : mmG} {D : mmD} {Q : mmQ} {r0 : Int} (hG : Sh G) (he0 : isEv G 1 r0) (h : Q (some (vI 6)) G D) : Call E d kc ks mX1_kindNumber [vR r0] G D Q := by
  show Go E d kc ks mX1_kindNumber 0 [some (vR r0)] [] G D Q
  refine g_bipush dX1_kindNumber_0 bp_6 ?_
  exact g_iret dX1_kindNumber_2 rfl h
set_option maxRecDepth 20000 in
theorem w_X3_kindNumber_k2 {E : mmE} {d kc ks : Nat} {G : mmG} {D : mmD} {Q : mmQ} {r0 : Int} (hG : Sh G) (he0 : isEv G 2 r0) (h : Q (some (vI 5)) G D) : Call E d kc ks mX3_kindNumber [vR r0] G D Q := by
  show Go E d kc ks mX3_kindNumber 0 [some (vR r0)] [] G D Q
  refine g_iconst dX3_kindNumber_0 ?_
  exact g_iret dX3_kindNumber_1 rfl h
set_option maxRecDepth 20000 in
theorem w_X5_kindNumber_k4 {E : mmE} {d kc ks : Nat} {G : mmG} {D : mmD} {Q : mmQ} {r0 : Int} (hG : Sh G) (he0 : isEv G 4 r0) (h : Q (some (vI 2)) G D) : Call E d kc ks mX5_kindNumber [vR r0] G D Q := by
  show Go E d kc ks mX5_kindNumber 0 [some (vR r0)] [] G D Q
  refine g_iconst dX5_kindNumber_0 ?_
  exact g_iret dX5_kindNumber_1 rfl h
set_option maxRecDepth 20000 in
theorem w_X6_kindNumber_k5 {E : mmE} {d kc ks : Nat} {G : mmG} {D : mmD} {Q : mmQ} {r0 : Int} (hG : Sh G) (he0 : isEv G 5 r0) (h : Q (some (vI 4)) G D) : Call E d kc ks mX6_kindNumber [vR r0] G D Q := by
  show Go E d kc ks mX6_kindNumber 0 [some (vR r0)] [] G D Q
  refine g_iconst dX6_kindNumber_0 ?_
  exact g_iret dX6_kindNumber_1 rfl h
set_option maxRecDepth 20000 in
theorem w_X8_kindNumber_k7 {E : mmE} {d kc ks : Nat} {G : mmG} {D : mmD} {Q : mmQ} {r0 : Int} (hG : Sh G) (he0 : isEv G 7 r0) (h : Q (some (vI 1)) G D) : Call E d kc ks mX8_kindNumber [vR r0] G D Q := by
  show Go E d kc ks mX8_kindNumber 0 [some (vR r0)] [] G D Q
  refine g_iconst dX8_kindNumber_0 ?_
  exact g_iret dX8_kindNumber_1 rfl h
set_option maxRecDepth 20000 in
theorem w_X9_kindNumber_k8 {E : mmE} {d kc ks : Nat} {G : mmG} {D : mmD} {Q : mmQ} {r0 : Int} (hG : Sh G) (he0 : isEv G 8 r0) (h : Q (some (vI 3)) G D) : Call E d kc ks mX9_kindNumber [vR r0] G D Q := by
  show Go E d kc ks mX9_kindNumber 0 [some (vR r0)] [] G D Q
  refine g_iconst dX9_kindNumber_0 ?_
  exact g_iret dX9_kindNumber_1 rfl h
set_option maxRecDepth 20000 in
theorem w_X1_init_k1 {E : mmE} {d kc ks : Nat} {G : mmG} {D : mmD} {Q : mmQ} {r0 x1 x2 x3 x4 x5 : Int} (hG : Sh G) (he0 : isE0 G 1 r0) (h : Call E d 1 20 mX5_init [vR r0, vI x1, vI x2, vI x3, vI x4, vI x5] G D (retVG (fun G3 D1 => (Sh G3 ∧ Q none G3 D1)))) : Call E (d + 1) (kc + 1) (ks + 20) mX1_init [vR r0, vI x1, vI x2, vI x3, vI x4, vI x5] G D Q := by
  show Go E (d + 1) (kc + 1) (ks + 20) mX1_init 0 [some (vR r0), some (vI x1), some (vI x2), some (vI x3), some (vI x4), some (vI x5)] [] G D Q
  refine g_aload_n dX1_init_0 rfl rfl ?_
  refine g_iload_n dX1_init_1 rfl rfl ?_
  refine g_iload_n dX1_init_2 rfl rfl ?_
  refine g_iload_n dX1_init_3 rfl rfl ?_
  refine g_iload dX1_init_4 rfl ?_
  refine g_iload dX1_init_6 rfl ?_
  refine g_callI (kc := kc) (kc' := 1) (ks := ks) (ks' := 20) (as := [vI x1, vI x2, vI x3, vI x4, vI x5]) (st := []) dX1_init_8 cB_X5_init rfl lk_X1_1 in_X5_init rfl rfl (Nat.le_of_ble_eq_true rfl) (Nat.le_of_ble_eq_true rfl) he0.ge ?_
  refine Go.to (fun r G3 D1 hr => ?_) h
  obtain ⟨rfl, hG4, h⟩ := hr
  show Go E (d + 1) kc ks mX1_init 11 [some (vR r0), some (vI x1), some (vI x2), some (vI x3), some (vI x4), some (vI x5)] [] G3 D1 Q
  exact g_vret dX1_init_11 rfl h
set_option maxRecDepth 20000 in
theorem w_X3_init_k2 {E : mmE} {d kc ks : Nat} {G : mmG} {D : mmD} {Q : mmQ} {r0 x1 x2 x3 x4 x5 : Int} (hG : Sh G) (he0 : isE0 G 2 r0) (h : Call E d 1 20 mX5_init [vR r0, vI x1, vI x2, vI x3, vI x4, vI x5] G D (retVG (fun G3 D1 => (Sh G3 ∧ Q none G3 D1)))) : Call E (d + 1) (kc + 1) (ks + 20) mX3_init [vR r0, vI x1, vI x2, vI x3, vI x4, vI x5] G D Q := by
  show Go E (d + 1) (kc + 1) (ks + 20) mX3_init 0 [some (vR r0), some (vI x1), some (vI x2), some (vI x3), some (vI x4), some (vI x5)] [] G D Q
  refine g_aload_n dX3_init_0 rfl rfl ?_
  refine g_iload_n dX3_init_1 rfl rfl ?_
  refine g_iload_n dX3_init_2 rfl rfl ?_
  refine g_iload_n dX3_init_3 rfl rfl ?_
  refine g_iload dX3_init_4 rfl ?_
  refine g_iload dX3_init_6 rfl ?_
  refine g_callI (kc := kc) (kc' := 1) (ks := ks) (ks' := 20) (as := [vI x1, vI x2, vI x3, vI x4, vI x5]) (st := []) dX3_init_8 cB_X5_init rfl lk_X3_1 in_X5_init rfl rfl (Nat.le_of_ble_eq_true rfl) (Nat.le_of_ble_eq_true rfl) he0.ge ?_
  refine Go.to (fun r G3 D1 hr => ?_) h
  obtain ⟨rfl, hG4, h⟩ := hr
  show Go E (d + 1) kc ks mX3_init 11 [some (vR r0), some (vI x1), some (vI x2), some (vI x3), some (vI x4), some (vI x5)] [] G3 D1 Q
  exact g_vret dX3_init_11 rfl h
set_option maxRecDepth 20000 in
theorem w_X5_init_k4 {E : mmE} {d kc ks : Nat} {G : mmG} {D : mmD} {Q : mmQ} {r0 x1 x2 x3 x4 x5 : Int} (hG : Sh G) (he0 : isE0 G 4 r0) (h : Call E d 1 20 mX2_init [vR r0, vI x1, vI x2, vI x3, vI x4, vI x5] G D (retVG (fun G3 D1 => (Sh G3 ∧ Q none G3 D1)))) : Call E (d + 1) (kc + 1) (ks + 20) mX5_init [vR r0, vI x1, vI x2, vI x3, vI x4, vI x5] G D Q := by
  show Go E (d + 1) (kc + 1) (ks + 20) mX5_init 0 [some (vR r0), some (vI x1), some (vI x2), some (vI x3), some (vI x4), some (vI x5)] [] G D Q
  refine g_aload_n dX5_init_0 rfl rfl ?_
  refine g_iload_n dX5_init_1 rfl rfl ?_
  refine g_iload_n dX5_init_2 rfl rfl ?_
  refine g_iload_n dX5_init_3 rfl rfl ?_
  refine g_iload dX5_init_4 rfl ?_
  refine g_iload dX5_init_6 rfl ?_
  refine g_callI (kc := kc) (kc' := 1) (ks := ks) (ks' := 20) (as := [vI x1, vI x2, vI x3, vI x4, vI x5]) (st := []) dX5_init_8 cB_X2_init rfl lk_X5_1 in_X2_init rfl rfl (Nat.le_of_ble_eq_true rfl) (Nat.le_of_ble_eq_true rfl) he0.ge ?_
  refine Go.to (fun r G3 D1 hr => ?_) h
  obtain ⟨rfl, hG4, h⟩ := hr
  show Go E (d + 1) kc ks mX5_init 11 [some (vR r0), some (vI x1), some (vI x2), some (vI x3), some (vI x4), some (vI x5)] [] G3 D1 Q
  exact g_vret dX5_init_11 rfl h
set_option maxRecDepth 20000 in
theorem w_X5_init_k1 {E : mmE} {d kc ks : Nat} {G : mmG} {D : mmD} {Q : mmQ} {r0 x1 x2 x3 x4 x5 : Int} (hG : Sh G) (he0 : isE0 G 1 r0) (h : Call E d 1 20 mX2_init [vR r0, vI x1, vI x2, vI x3, vI x4, vI x5] G D (retVG (fun G3 D1 => (Sh G3 ∧ Q none G3 D1)))) : Call E (d + 1) (kc + 1) (ks + 20) mX5_init [vR r0, vI x1, vI x2, vI x3, vI x4, vI x5] G D Q := by
  show Go E (d + 1) (kc + 1) (ks + 20) mX5_init 0 [some (vR r0), some (vI x1), some (vI x2), some (vI x3), some (vI x4), some (vI x5)] [] G D Q
  refine g_aload_n dX5_init_0 rfl rfl ?_
  refine g_iload_n dX5_init_1 rfl rfl ?_
  refine g_iload_n dX5_init_2 rfl rfl ?_
  refine g_iload_n dX5_init_3 rfl rfl ?_
  refine g_iload dX5_init_4 rfl ?_
  refine g_iload dX5_init_6 rfl ?_
  refine g_callI (kc := kc) (kc' := 1) (ks := ks) (ks' := 20) (as := [vI x1, vI x2, vI x3, vI x4, vI x5]) (st := []) dX5_init_8 cB_X2_init rfl lk_X5_1 in_X2_init rfl rfl (Nat.le_of_ble_eq_true rfl) (Nat.le_of_ble_eq_true rfl) he0.ge ?_
  refine Go.to (fun r G3 D1 hr => ?_) h
  obtain ⟨rfl, hG4, h⟩ := hr
  show Go E (d + 1) kc ks mX5_init 11 [some (vR r0), some (vI x1), some (vI x2), some (vI x3), some (vI x4), some (vI x5)] [] G3 D1 Q
  exact g_vret dX5_init_11 rfl h
set_option maxRecDepth 20000 in
theorem w_X5_init_k2 {E : mmE} {d kc ks : Nat} {G : mmG} {D : mmD} {Q : mmQ} {r0 x1 x2 x3 x4 x5 : Int} (hG : Sh G) (he0 : isE0 G 2 r0) (h : Call E d 1 20 mX2_init [vR r0, vI x1, vI x2, vI x3, vI x4, vI x5] G D (retVG (fun G3 D1 => (Sh G3 ∧ Q none G3 D1)))) : Call E (d + 1) (kc + 1) (ks + 20) mX5_init [vR r0, vI x1, vI x2, vI x3, vI x4, vI x5] G D Q := by
  show Go E (d + 1) (kc + 1) (ks + 20) mX5_init 0 [some (vR r0), some (vI x1), some (vI x2), some (vI x3), some (vI x4), some (vI x5)] [] G D Q
  refine g_aload_n dX5_init_0 rfl rfl ?_
  refine g_iload_n dX5_init_1 rfl rfl ?_
  refine g_iload_n dX5_init_2 rfl rfl ?_
  refine g_iload_n dX5_init_3 rfl rfl ?_
  refine g_iload dX5_init_4 rfl ?_
  refine g_iload dX5_init_6 rfl ?_
  refine g_callI (kc := kc) (kc' := 1) (ks := ks) (ks' := 20) (as := [vI x1, vI x2, vI x3, vI x4, vI x5]) (st := []) dX5_init_8 cB_X2_init rfl lk_X5_1 in_X2_init rfl rfl (Nat.le_of_ble_eq_true rfl) (Nat.le_of_ble_eq_true rfl) he0.ge ?_
  refine Go.to (fun r G3 D1 hr => ?_) h
  obtain ⟨rfl, hG4, h⟩ := hr
  show Go E (d + 1) kc ks mX5_init 11 [some (vR r0), some (vI x1), some (vI x2), some (vI x3), some (vI x4), some (vI x5)] [] G3 D1 Q
  exact g_vret dX5_init_11 rfl h
set_option maxRecDepth 20000 in
theorem w_X6_init_k5 {E : mmE} {d kc ks : Nat} {G : mmG} {D : mmD} {Q : mmQ} {r0 x1 x2 x3 x4 x5 : Int} (hG : Sh G) (he0 : isE0 G 5 r0) (h : Call E d 1 20 mX8_init [vR r0, vI x1, vI x2, vI x3, vI x4, vI x5] G D (retVG (fun G3 D1 => (Sh G3 ∧ Q none G3 D1)))) : Call E (d + 1) (kc + 1) (ks + 20) mX6_init [vR r0, vI x1, vI x2, vI x3, vI x4, vI x5] G D Q := by
  show Go E (d + 1) (kc + 1) (ks + 20) mX6_init 0 [some (vR r0), some (vI x1), some (vI x2), some (vI x3), some (vI x4), some (vI x5)] [] G D Q
  refine g_aload_n dX6_init_0 rfl rfl ?_
  refine g_iload_n dX6_init_1 rfl rfl ?_
  refine g_iload_n dX6_init_2 rfl rfl ?_
  refine g_iload_n dX6_init_3 rfl rfl ?_
  refine g_iload dX6_init_4 rfl ?_
  refine g_iload dX6_init_6 rfl ?_
  refine g_callI (kc := kc) (kc' := 1) (ks := ks) (ks' := 20) (as := [vI x1, vI x2, vI x3, vI x4, vI x5]) (st := []) dX6_init_8 cB_X8_init rfl lk_X6_1 in_X8_init rfl rfl (Nat.le_of_ble_eq_true rfl) (Nat.le_of_ble_eq_true rfl) he0.ge ?_
  refine Go.to (fun r G3 D1 hr => ?_) h
  obtain ⟨rfl, hG4, h⟩ := hr
  show Go E (d + 1) kc ks mX6_init 11 [some (vR r0), some (vI x1), some (vI x2), some (vI x3), some (vI x4), some (vI x5)] [] G3 D1 Q
  exact g_vret dX6_init_11 rfl h
set_option maxRecDepth 20000 in
theorem w_X8_init_k7 {E : mmE} {d kc ks : Nat} {G : mmG} {D : mmD} {Q : mmQ} {r0 x1 x2 x3 x4 x5 : Int} (hG : Sh G) (he0 : isE0 G 7 r0) (h : Call E d 1 20 mX2_init [vR r0, vI x1, vI x2, vI x3, vI x4, vI x5] G D (retVG (fun G3 D1 => (Sh G3 ∧ Q none G3 D1)))) : Call E (d + 1) (kc + 1) (ks + 20) mX8_init [vR r0, vI x1, vI x2, vI x3, vI x4, vI x5] G D Q := by
  show Go E (d + 1) (kc + 1) (ks + 20) mX8_init 0 [some (vR r0), some (vI x1), some (vI x2), some (vI x3), some (vI x4), some (vI x5)] [] G D Q
  refine g_aload_n dX8_init_0 rfl rfl ?_
  refine g_iload_n dX8_init_1 rfl rfl ?_
  refine g_iload_n dX8_init_2 rfl rfl ?_
  refine g_iload_n dX8_init_3 rfl rfl ?_
  refine g_iload dX8_init_4 rfl ?_
  refine g_iload dX8_init_6 rfl ?_
  refine g_callI (kc := kc) (kc' := 1) (ks := ks) (ks' := 20) (as := [vI x1, vI x2, vI x3, vI x4, vI x5]) (st := []) dX8_init_8 cB_X2_init rfl lk_X8_1 in_X2_init rfl rfl (Nat.le_of_ble_eq_true rfl) (Nat.le_of_ble_eq_true rfl) he0.ge ?_
  refine Go.to (fun r G3 D1 hr => ?_) h
  obtain ⟨rfl, hG4, h⟩ := hr
  show Go E (d + 1) kc ks mX8_init 11 [some (vR r0), some (vI x1), some (vI x2), some (vI x3), some (vI x4), some (vI x5)] [] G3 D1 Q
  exact g_vret dX8_init_11 rfl h
set_option maxRecDepth 20000 in
theorem w_X8_init_k5 {E : mmE} {d kc ks : Nat} {G : mmG} {D : mmD} {Q : mmQ} {r0 x1 x2 x3 x4 x5 : Int} (hG : Sh G) (he0 : isE0 G 5 r0) (h : Call E d 1 20 mX2_init [vR r0, vI x1, vI x2, vI x3, vI x4, vI x5] G D (retVG (fun G3 D1 => (Sh G3 ∧ Q none G3 D1)))) : Call E (d + 1) (kc + 1) (ks + 20) mX8_init [vR r0, vI x1, vI x2, vI x3, vI x4, vI x5] G D Q := by
  show Go E (d + 1) (kc + 1) (ks + 20) mX8_init 0 [some (vR r0), some (vI x1), some (vI x2), some (vI x3), some (vI x4), some (vI x5)] [] G D Q
  refine g_aload_n dX8_init_0 rfl rfl ?_
  refine g_iload_n dX8_init_1 rfl rfl ?_
  refine g_iload_n dX8_init_2 rfl rfl ?_
  refine g_iload_n dX8_init_3 rfl rfl ?_
  refine g_iload dX8_init_4 rfl ?_
  refine g_iload dX8_init_6 rfl ?_
  refine g_callI (kc := kc) (kc' := 1) (ks := ks) (ks' := 20) (as := [vI x1, vI x2, vI x3, vI x4, vI x5]) (st := []) dX8_init_8 cB_X2_init rfl lk_X8_1 in_X2_init rfl rfl (Nat.le_of_ble_eq_true rfl) (Nat.le_of_ble_eq_true rfl) he0.ge ?_
  refine Go.to (fun r G3 D1 hr => ?_) h
  obtain ⟨rfl, hG4, h⟩ := hr
  show Go E (d + 1) kc ks mX8_init 11 [some (vR r0), some (vI x1), some (vI x2), some (vI x3), some (vI x4), some (vI x5)] [] G3 D1 Q
  exact g_vret dX8_init_11 rfl h
set_option maxRecDepth 20000 in
theorem w_X9_init_k8 {E : mmE} {d kc ks : Nat} {G : mmG} {D : mmD} {Q : mmQ} {r0 x1 x2 x3 x4 x5 : Int} (hG : Sh G) (he0 : isE0 G 8 r0) (h : Call E d 1 20 mX2_init [vR r0, vI x1, vI x2, vI x3, vI x4, vI x5] G D (retVG (fun G3 D1 => (Sh G3 ∧ Q none G3 D1)))) : Call E (d + 1) (kc + 1) (ks + 20) mX9_init [vR r0, vI x1, vI x2, vI x3, vI x4, vI x5] G D Q := by
  show Go E (d + 1) (kc + 1) (ks + 20) mX9_init 0 [some (vR r0), some (vI x1), some (vI x2), some (vI x3), some (vI x4), some (vI x5)] [] G D Q
  refine g_aload_n dX9_init_0 rfl rfl ?_
  refine g_iload_n dX9_init_1 rfl rfl ?_
  refine g_iload_n dX9_init_2 rfl rfl ?_
  refine g_iload_n dX9_init_3 rfl rfl ?_
  refine g_iload dX9_init_4 rfl ?_
  refine g_iload dX9_init_6 rfl ?_
  refine g_callI (kc := kc) (kc' := 1) (ks := ks) (ks' := 20) (as := [vI x1, vI x2, vI x3, vI x4, vI x5]) (st := []) dX9_init_8 cB_X2_init rfl lk_X9_1 in_X2_init rfl rfl (Nat.le_of_ble_eq_true rfl) (Nat.le_of_ble_eq_true rfl) he0.ge ?_
  refine Go.to (fun r G3 D1 hr => ?_) h
  obtain ⟨rfl, hG4, h⟩ := hr
  show Go E (d + 1) kc ks mX9_init 11 [some (vR r0), some (vI x1), some (vI x2), some (vI x3), some (vI x4), some (vI x5)] [] G3 D1 Q
  exact g_vret dX9_init_11 rfl h
set_option maxRecDepth 20000 in
theorem w_X11_event_k1 {E : mmE} {d kc ks : Nat} {G : mmG} {D : mmD} {Q : mmQ} {x1 x2 : Int} (hG : Sh G)  (h : Call E d 0 0 mX11_eventAt [vR 2, vI x1] G D (retR G (fun z2 D1 => ((z2 = 0 → Q (some (vI (-1))) G D1) ∧ (¬ z2 = 0 → ((iv x2 < iv 0 → Q (some (vI (-1))) G D1) ∧ (¬ iv x2 < iv 0 → ((iv x2 ≤ iv 4 → ((¬ iv (D1 2 12) = iv 0 → (((iv x2).toInt = 0 → (isEv G 1 z2 ∧ Call E d 0 0 mX1_kindNumber [vR z2] G D1 (retI G (fun z5 D4 => Q (some (vI z5)) G D4)))) ∧ ((iv x2).toInt = 1 → (isEv G 1 z2 ∧ Q (some (vI (D1 z2 1))) G D1)) ∧ ((iv x2).toInt = 2 → (isEv G 1 z2 ∧ Q (some (vI (D1 z2 2))) G D1)) ∧ ((iv x2).toInt = 3 → (isEv G 1 z2 ∧ Q (some (vI (D1 z2 3))) G D1)) ∧ (((iv x2).toInt < 0 ∨ 3 < (iv x2).toInt) → (isEv G 1 z2 ∧ Q (some (vI (D1 z2 4))) G D1)))) ∧ (iv (D1 2 12) = iv 0 → Q (some (vI (-3))) G D1))) ∧ (¬ iv x2 ≤ iv 4 → Q (some (vI (-1))) G D1))))))))) : Call E (d + 1) kc ks mX11_event [vR 2, vI x1, vI x2] G D Q := by
  show Go E (d + 1) kc ks mX11_event 0 [some (vR 2), some (vI x1), some (vI x2), none] [] G D Q
  refine g_aload_n dX11_event_0 rfl rfl ?_
  refine g_iload_n dX11_event_1 rfl rfl ?_
  refine g_callV (kc := kc) (kc' := 0) (ks := ks) (ks' := 0) (as := [vI x1]) (st := []) (ci := 10) dX11_event_2 cB_X11_eventAt lk_X11_167 in_X11_eventAt se_X11_eventAt (by decide) rfl rfl (Nat.le_of_ble_eq_true rfl) (Nat.le_of_ble_eq_true rfl) (by decide) (hG.lt (by decide)) (congrArg Prod.fst hG.k2) ?_
  refine Go.to (fun r G' D1 hr => ?_) h
  obtain ⟨rfl, z2, rfl, h⟩ := hr
  show Go E (d + 1) kc ks mX11_event 5 [some (vR 2), some (vI x1), some (vI x2), none] [vR z2] G D1 Q
  refine h_astore_n (L' := [some (vR 2), some (vI x1), some (vI x2), some (vR z2)]) dX11_event_5 rfl (Nat.le_of_ble_eq_true rfl) rfl rfl ?_
  refine g_aload_n dX11_event_6 rfl rfl ?_
  refine g_ifnull 19 dX11_event_7 (by decide) ⟨fun hc => ?_, fun hc => ?_⟩
  · replace h := h.1 hc
    refine g_iconst dX11_event_19 ?_
    exact g_iret dX11_event_20 rfl h
  · replace h := h.2 hc
    refine g_iload_n dX11_event_10 rfl rfl ?_
    refine g_if_lt 19 dX11_event_11 (by decide) ⟨fun hc => ?_, fun hc => ?_⟩
    · replace h := h.1 hc
      refine g_iconst dX11_event_19 ?_
      exact g_iret dX11_event_20 rfl h
    · replace h := h.2 hc
      refine g_iload_n dX11_event_14 rfl rfl ?_
      refine g_iconst dX11_event_15 ?_
      refine g_icmp_le 21 dX11_event_16 (by decide) ⟨fun hc => ?_, fun hc => ?_⟩
      · replace h := h.1 hc
        refine g_aload_n dX11_event_21 rfl rfl ?_
        refine h_getI (j := 12) dX11_event_22 f_X11_157_10 rfl rfl (by decide) hG.k2 (by decide) (hG.lt (by decide)) ?_
        refine g_if_ne 31 dX11_event_25 (by decide) ⟨fun hc => ?_, fun hc => ?_⟩
        · replace h := h.1 hc
          refine g_iload_n dX11_event_31 rfl rfl ?_
          refine g_tswitch 84 [64, 69, 74, 79] dX11_event_32 (by decide) (by decide) (by decide) (fun j hj t ht => ?_) (fun hc => ?_)
          · match j, hj, ht with
            | 0, hj, ht =>
              cases ht
              replace h := h.1 (hj.trans (by decide))
              refine g_aload_n dX11_event_64 rfl rfl ?_
              have hf3 := h.1
              replace h := h.2
              refine g_callU (kc := kc) (kc' := 0) (ks := ks) (ks' := 0) (as := []) (st := []) (ci := 1) (C := RX1) dX11_event_65 cB_X1_kindNumber lk_X11_171 sm_X2_kindNumber (by decide) (by decide +kernel) (Or.inr rfl) in_X1_kindNumber se_X2_kindNumber_X1 (by decide) rfl rfl (Nat.le_of_ble_eq_true rfl) (Nat.le_of_ble_eq_true rfl) hf3.ge hf3.lt (congrArg Prod.fst hf3.2.2.1) ?_
              refine Go.to (fun r G' D4 hr => ?_) h
              obtain ⟨rfl, z5, rfl, h⟩ := hr
              show Go E (d + 1) kc ks mX11_event 68 [some (vR 2), some (vI x1), some (vI x2), some (vR z2)] [vI z5] G D4 Q
              exact g_iret dX11_event_68 rfl h
            | 1, hj, ht =>
              cases ht
              replace h := h.2.1 (hj.trans (by decide))
              refine g_aload_n dX11_event_69 rfl rfl ?_
              have hf6 := h.1
              replace h := h.2
              refine h_getI (j := 1) dX11_event_70 f_X11_175_1 rfl rfl (by decide) hf6.2.2.1 hf6.ge hf6.lt ?_
              exact g_iret dX11_event_73 rfl h
            | 2, hj, ht =>
              cases ht
              replace h := h.2.2.1 (hj.trans (by decide))
              refine g_aload_n dX11_event_74 rfl rfl ?_
              have hf7 := h.1
              replace h := h.2
              refine h_getI (j := 2) dX11_event_75 f_X11_178_1 rfl rfl (by decide) hf7.2.2.1 hf7.ge hf7.lt ?_
              exact g_iret dX11_event_78 rfl h
            | 3, hj, ht =>
              cases ht
              replace h := h.2.2.2.1 (hj.trans (by decide))
              refine g_aload_n dX11_event_79 rfl rfl ?_
              have hf8 := h.1
              replace h := h.2
              refine h_getI (j := 3) dX11_event_80 f_X11_181_1 rfl rfl (by decide) hf8.2.2.1 hf8.ge hf8.lt ?_
              exact g_iret dX11_event_83 rfl h
            | j + 4, hj, ht => simp at ht
          · replace h := h.2.2.2.2 hc
            refine g_aload_n dX11_event_84 rfl rfl ?_
            have hf9 := h.1
            replace h := h.2
            refine h_getI (j := 4) dX11_event_85 f_X11_184_1 rfl rfl (by decide) hf9.2.2.1 hf9.ge hf9.lt ?_
            exact g_iret dX11_event_88 rfl h
        · replace h := h.2 hc
          refine g_bipush dX11_event_28 bp_m3 ?_
          exact g_iret dX11_event_30 rfl h
      · replace h := h.2 hc
        refine g_iconst dX11_event_19 ?_
        exact g_iret dX11_event_20 rfl h
set_option maxRecDepth 20000 in
theorem w_X11_event_k2 {E : mmE} {d kc ks : Nat} {G : mmG} {D : mmD} {Q : mmQ} {x1 x2 : Int} (hG : Sh G)  (h : Call E d 0 0 mX11_eventAt [vR 2, vI x1] G D (retR G (fun z2 D1 => ((z2 = 0 → Q (some (vI (-1))) G D1) ∧ (¬ z2 = 0 → ((iv x2 < iv 0 → Q (some (vI (-1))) G D1) ∧ (¬ iv x2 < iv 0 → ((iv x2 ≤ iv 4 → ((¬ iv (D1 2 12) = iv 0 → (((iv x2).toInt = 0 → (isEv G 2 z2 ∧ Call E d 0 0 mX3_kindNumber [vR z2] G D1 (retI G (fun z5 D4 => Q (some (vI z5)) G D4)))) ∧ ((iv x2).toInt = 1 → (isEv G 2 z2 ∧ Q (some (vI (D1 z2 1))) G D1)) ∧ ((iv x2).toInt = 2 → (isEv G 2 z2 ∧ Q (some (vI (D1 z2 2))) G D1)) ∧ ((iv x2).toInt = 3 → (isEv G 2 z2 ∧ Q (some (vI (D1 z2 3))) G D1)) ∧ (((iv x2).toInt < 0 ∨ 3 < (iv x2).toInt) → (isEv G 2 z2 ∧ Q (some (vI (D1 z2 4))) G D1)))) ∧ (iv (D1 2 12) = iv 0 → Q (some (vI (-3))) G D1))) ∧ (¬ iv x2 ≤ iv 4 → Q (some (vI (-1))) G D1))))))))) : Call E (d + 1) kc ks mX11_event [vR 2, vI x1, vI x2] G D Q := by
  show Go E (d + 1) kc ks mX11_event 0 [some (vR 2), some (vI x1), some (vI x2), none] [] G D Q
  refine g_aload_n dX11_event_0 rfl rfl ?_
  refine g_iload_n dX11_event_1 rfl rfl ?_
  refine g_callV (kc := kc) (kc' := 0) (ks := ks) (ks' := 0) (as := [vI x1]) (st := []) (ci := 10) dX11_event_2 cB_X11_eventAt lk_X11_167 in_X11_eventAt se_X11_eventAt (by decide) rfl rfl (Nat.le_of_ble_eq_true rfl) (Nat.le_of_ble_eq_true rfl) (by decide) (hG.lt (by decide)) (congrArg Prod.fst hG.k2) ?_
  refine Go.to (fun r G' D1 hr => ?_) h
  obtain ⟨rfl, z2, rfl, h⟩ := hr
  show Go E (d + 1) kc ks mX11_event 5 [some (vR 2), some (vI x1), some (vI x2), none] [vR z2] G D1 Q
  refine h_astore_n (L' := [some (vR 2), some (vI x1), some (vI x2), some (vR z2)]) dX11_event_5 rfl (Nat.le_of_ble_eq_true rfl) rfl rfl ?_
  refine g_aload_n dX11_event_6 rfl rfl ?_
  refine g_ifnull 19 dX11_event_7 (by decide) ⟨fun hc => ?_, fun hc => ?_⟩
  · replace h := h.1 hc
    refine g_iconst dX11_event_19 ?_
    exact g_iret dX11_event_20 rfl h
  · replace h := h.2 hc
    refine g_iload_n dX11_event_10 rfl rfl ?_
    refine g_if_lt 19 dX11_event_11 (by decide) ⟨fun hc => ?_, fun hc => ?_⟩
    · replace h := h.1 hc
      refine g_iconst dX11_event_19 ?_
      exact g_iret dX11_event_20 rfl h
    · replace h := h.2 hc
      refine g_iload_n dX11_event_14 rfl rfl ?_
      refine g_iconst dX11_event_15 ?_
      refine g_icmp_le 21 dX11_event_16 (by decide) ⟨fun hc => ?_, fun hc => ?_⟩
      · replace h := h.1 hc
        refine g_aload_n dX11_event_21 rfl rfl ?_
        refine h_getI (j := 12) dX11_event_22 f_X11_157_10 rfl rfl (by decide) hG.k2 (by decide) (hG.lt (by decide)) ?_
        refine g_if_ne 31 dX11_event_25 (by decide) ⟨fun hc => ?_, fun hc => ?_⟩
        · replace h := h.1 hc
          refine g_iload_n dX11_event_31 rfl rfl ?_
          refine g_tswitch 84 [64, 69, 74, 79] dX11_event_32 (by decide) (by decide) (by decide) (fun j hj t ht => ?_) (fun hc => ?_)
          · match j, hj, ht with
            | 0, hj, ht =>
              cases ht
              replace h := h.1 (hj.trans (by decide))
              refine g_aload_n dX11_event_64 rfl rfl ?_
              have hf3 := h.1
              replace h := h.2
              refine g_callU (kc := kc) (kc' := 0) (ks := ks) (ks' := 0) (as := []) (st := []) (ci := 2) (C := RX3) dX11_event_65 cB_X3_kindNumber lk_X11_171 sm_X2_kindNumber (by decide) (by decide +kernel) (Or.inr rfl) in_X3_kindNumber se_X2_kindNumber_X3 (by decide) rfl rfl (Nat.le_of_ble_eq_true rfl) (Nat.le_of_ble_eq_true rfl) hf3.ge hf3.lt (congrArg Prod.fst hf3.2.2.1) ?_
              refine Go.to (fun r G' D4 hr => ?_) h
              obtain ⟨rfl, z5, rfl, h⟩ := hr
              show Go E (d + 1) kc ks mX11_event 68 [some (vR 2), some (vI x1), some (vI x2), some (vR z2)] [vI z5] G D4 Q
              exact g_iret dX11_event_68 rfl h
            | 1, hj, ht =>
              cases ht
              replace h := h.2.1 (hj.trans (by decide))
              refine g_aload_n dX11_event_69 rfl rfl ?_
              have hf6 := h.1
              replace h := h.2
              refine h_getI (j := 1) dX11_event_70 f_X11_175_2 rfl rfl (by decide) hf6.2.2.1 hf6.ge hf6.lt ?_
              exact g_iret dX11_event_73 rfl h
            | 2, hj, ht =>
              cases ht
              replace h := h.2.2.1 (hj.trans (by decide))
              refine g_aload_n dX11_event_74 rfl rfl ?_
              have hf7 := h.1
              replace h := h.2
              refine h_getI (j := 2) dX11_event_75 f_X11_178_2 rfl rfl (by decide) hf7.2.2.1 hf7.ge hf7.lt ?_
              exact g_iret dX11_event_78 rfl h
            | 3, hj, ht =>
              cases ht
              replace h := h.2.2.2.1 (hj.trans (by decide))
              refine g_aload_n dX11_event_79 rfl rfl ?_
              have hf8 := h.1
              replace h := h.2
              refine h_getI (j := 3) dX11_event_80 f_X11_181_2 rfl rfl (by decide) hf8.2.2.1 hf8.ge hf8.lt ?_
              exact g_iret dX11_event_83 rfl h
            | j + 4, hj, ht => simp at ht
          · replace h := h.2.2.2.2 hc
            refine g_aload_n dX11_event_84 rfl rfl ?_
            have hf9 := h.1
            replace h := h.2
            refine h_getI (j := 4) dX11_event_85 f_X11_184_2 rfl rfl (by decide) hf9.2.2.1 hf9.ge hf9.lt ?_
            exact g_iret dX11_event_88 rfl h
        · replace h := h.2 hc
          refine g_bipush dX11_event_28 bp_m3 ?_
          exact g_iret dX11_event_30 rfl h
      · replace h := h.2 hc
        refine g_iconst dX11_event_19 ?_
        exact g_iret dX11_event_20 rfl h
set_option maxRecDepth 20000 in
theorem w_X11_event_k4 {E : mmE} {d kc ks : Nat} {G : mmG} {D : mmD} {Q : mmQ} {x1 x2 : Int} (hG : Sh G)  (h : Call E d 0 0 mX11_eventAt [vR 2, vI x1] G D (retR G (fun z2 D1 => ((z2 = 0 → Q (some (vI (-1))) G D1) ∧ (¬ z2 = 0 → ((iv x2 < iv 0 → Q (some (vI (-1))) G D1) ∧ (¬ iv x2 < iv 0 → ((iv x2 ≤ iv 4 → ((¬ iv (D1 2 12) = iv 0 → (((iv x2).toInt = 0 → (isEv G 4 z2 ∧ Call E d 0 0 mX5_kindNumber [vR z2] G D1 (retI G (fun z5 D4 => Q (some (vI z5)) G D4)))) ∧ ((iv x2).toInt = 1 → (isEv G 4 z2 ∧ Q (some (vI (D1 z2 1))) G D1)) ∧ ((iv x2).toInt = 2 → (isEv G 4 z2 ∧ Q (some (vI (D1 z2 2))) G D1)) ∧ ((iv x2).toInt = 3 → (isEv G 4 z2 ∧ Q (some (vI (D1 z2 3))) G D1)) ∧ (((iv x2).toInt < 0 ∨ 3 < (iv x2).toInt) → (isEv G 4 z2 ∧ Q (some (vI (D1 z2 4))) G D1)))) ∧ (iv (D1 2 12) = iv 0 → Q (some (vI (-3))) G D1))) ∧ (¬ iv x2 ≤ iv 4 → Q (some (vI (-1))) G D1))))))))) : Call E (d + 1) kc ks mX11_event [vR 2, vI x1, vI x2] G D Q := by
  show Go E (d + 1) kc ks mX11_event 0 [some (vR 2), some (vI x1), some (vI x2), none] [] G D Q
  refine g_aload_n dX11_event_0 rfl rfl ?_
  refine g_iload_n dX11_event_1 rfl rfl ?_
  refine g_callV (kc := kc) (kc' := 0) (ks := ks) (ks' := 0) (as := [vI x1]) (st := []) (ci := 10) dX11_event_2 cB_X11_eventAt lk_X11_167 in_X11_eventAt se_X11_eventAt (by decide) rfl rfl (Nat.le_of_ble_eq_true rfl) (Nat.le_of_ble_eq_true rfl) (by decide) (hG.lt (by decide)) (congrArg Prod.fst hG.k2) ?_
  refine Go.to (fun r G' D1 hr => ?_) h
  obtain ⟨rfl, z2, rfl, h⟩ := hr
  show Go E (d + 1) kc ks mX11_event 5 [some (vR 2), some (vI x1), some (vI x2), none] [vR z2] G D1 Q
  refine h_astore_n (L' := [some (vR 2), some (vI x1), some (vI x2), some (vR z2)]) dX11_event_5 rfl (Nat.le_of_ble_eq_true rfl) rfl rfl ?_
  refine g_aload_n dX11_event_6 rfl rfl ?_
  refine g_ifnull 19 dX11_event_7 (by decide) ⟨fun hc => ?_, fun hc => ?_⟩
  · replace h := h.1 hc
    refine g_iconst dX11_event_19 ?_
    exact g_iret dX11_event_20 rfl h
  · replace h := h.2 hc
    refine g_iload_n dX11_event_10 rfl rfl ?_
    refine g_if_lt 19 dX11_event_11 (by decide) ⟨fun hc => ?_, fun hc => ?_⟩
    · replace h := h.1 hc
      refine g_iconst dX11_event_19 ?_
      exact g_iret dX11_event_20 rfl h
    · replace h := h.2 hc
      refine g_iload_n dX11_event_14 rfl rfl ?_
      refine g_iconst dX11_event_15 ?_
      refine g_icmp_le 21 dX11_event_16 (by decide) ⟨fun hc => ?_, fun hc => ?_⟩
      · replace h := h.1 hc
        refine g_aload_n dX11_event_21 rfl rfl ?_
        refine h_getI (j := 12) dX11_event_22 f_X11_157_10 rfl rfl (by decide) hG.k2 (by decide) (hG.lt (by decide)) ?_
        refine g_if_ne 31 dX11_event_25 (by decide) ⟨fun hc => ?_, fun hc => ?_⟩
        · replace h := h.1 hc
          refine g_iload_n dX11_event_31 rfl rfl ?_
          refine g_tswitch 84 [64, 69, 74, 79] dX11_event_32 (by decide) (by decide) (by decide) (fun j hj t ht => ?_) (fun hc => ?_)
          · match j, hj, ht with
            | 0, hj, ht =>
              cases ht
              replace h := h.1 (hj.trans (by decide))
              refine g_aload_n dX11_event_64 rfl rfl ?_
              have hf3 := h.1
              replace h := h.2
              refine g_callU (kc := kc) (kc' := 0) (ks := ks) (ks' := 0) (as := []) (st := []) (ci := 4) (C := RX5) dX11_event_65 cB_X5_kindNumber lk_X11_171 sm_X2_kindNumber (by decide) (by decide +kernel) (Or.inr rfl) in_X5_kindNumber se_X2_kindNumber_X5 (by decide) rfl rfl (Nat.le_of_ble_eq_true rfl) (Nat.le_of_ble_eq_true rfl) hf3.ge hf3.lt (congrArg Prod.fst hf3.2.2.1) ?_
              refine Go.to (fun r G' D4 hr => ?_) h
              obtain ⟨rfl, z5, rfl, h⟩ := hr
              show Go E (d + 1) kc ks mX11_event 68 [some (vR 2), some (vI x1), some (vI x2), some (vR z2)] [vI z5] G D4 Q
              exact g_iret dX11_event_68 rfl h
            | 1, hj, ht =>
              cases ht
              replace h := h.2.1 (hj.trans (by decide))
              refine g_aload_n dX11_event_69 rfl rfl ?_
              have hf6 := h.1
              replace h := h.2
              refine h_getI (j := 1) dX11_event_70 f_X11_175_4 rfl rfl (by decide) hf6.2.2.1 hf6.ge hf6.lt ?_
              exact g_iret dX11_event_73 rfl h
            | 2, hj, ht =>
              cases ht
              replace h := h.2.2.1 (hj.trans (by decide))
              refine g_aload_n dX11_event_74 rfl rfl ?_
              have hf7 := h.1
              replace h := h.2
              refine h_getI (j := 2) dX11_event_75 f_X11_178_4 rfl rfl (by decide) hf7.2.2.1 hf7.ge hf7.lt ?_
              exact g_iret dX11_event_78 rfl h
            | 3, hj, ht =>
              cases ht
              replace h := h.2.2.2.1 (hj.trans (by decide))
              refine g_aload_n dX11_event_79 rfl rfl ?_
              have hf8 := h.1
              replace h := h.2
              refine h_getI (j := 3) dX11_event_80 f_X11_181_4 rfl rfl (by decide) hf8.2.2.1 hf8.ge hf8.lt ?_
              exact g_iret dX11_event_83 rfl h
            | j + 4, hj, ht => simp at ht
          · replace h := h.2.2.2.2 hc
            refine g_aload_n dX11_event_84 rfl rfl ?_
            have hf9 := h.1
            replace h := h.2
            refine h_getI (j := 4) dX11_event_85 f_X11_184_4 rfl rfl (by decide) hf9.2.2.1 hf9.ge hf9.lt ?_
            exact g_iret dX11_event_88 rfl h
        · replace h := h.2 hc
          refine g_bipush dX11_event_28 bp_m3 ?_
          exact g_iret dX11_event_30 rfl h
      · replace h := h.2 hc
        refine g_iconst dX11_event_19 ?_
        exact g_iret dX11_event_20 rfl h
set_option maxRecDepth 20000 in
theorem w_X11_event_k5 {E : mmE} {d kc ks : Nat} {G : mmG} {D : mmD} {Q : mmQ} {x1 x2 : Int} (hG : Sh G)  (h : Call E d 0 0 mX11_eventAt [vR 2, vI x1] G D (retR G (fun z2 D1 => ((z2 = 0 → Q (some (vI (-1))) G D1) ∧ (¬ z2 = 0 → ((iv x2 < iv 0 → Q (some (vI (-1))) G D1) ∧ (¬ iv x2 < iv 0 → ((iv x2 ≤ iv 4 → ((¬ iv (D1 2 12) = iv 0 → (((iv x2).toInt = 0 → (isEv G 5 z2 ∧ Call E d 0 0 mX6_kindNumber [vR z2] G D1 (retI G (fun z5 D4 => Q (some (vI z5)) G D4)))) ∧ ((iv x2).toInt = 1 → (isEv G 5 z2 ∧ Q (some (vI (D1 z2 1))) G D1)) ∧ ((iv x2).toInt = 2 → (isEv G 5 z2 ∧ Q (some (vI (D1 z2 2))) G D1)) ∧ ((iv x2).toInt = 3 → (isEv G 5 z2 ∧ Q (some (vI (D1 z2 3))) G D1)) ∧ (((iv x2).toInt < 0 ∨ 3 < (iv x2).toInt) → (isEv G 5 z2 ∧ Q (some (vI (D1 z2 4))) G D1)))) ∧ (iv (D1 2 12) = iv 0 → Q (some (vI (-3))) G D1))) ∧ (¬ iv x2 ≤ iv 4 → Q (some (vI (-1))) G D1))))))))) : Call E (d + 1) kc ks mX11_event [vR 2, vI x1, vI x2] G D Q := by
  show Go E (d + 1) kc ks mX11_event 0 [some (vR 2), some (vI x1), some (vI x2), none] [] G D Q
  refine g_aload_n dX11_event_0 rfl rfl ?_
  refine g_iload_n dX11_event_1 rfl rfl ?_
  refine g_callV (kc := kc) (kc' := 0) (ks := ks) (ks' := 0) (as := [vI x1]) (st := []) (ci := 10) dX11_event_2 cB_X11_eventAt lk_X11_167 in_X11_eventAt se_X11_eventAt (by decide) rfl rfl (Nat.le_of_ble_eq_true rfl) (Nat.le_of_ble_eq_true rfl) (by decide) (hG.lt (by decide)) (congrArg Prod.fst hG.k2) ?_
  refine Go.to (fun r G' D1 hr => ?_) h
  obtain ⟨rfl, z2, rfl, h⟩ := hr
  show Go E (d + 1) kc ks mX11_event 5 [some (vR 2), some (vI x1), some (vI x2), none] [vR z2] G D1 Q
  refine h_astore_n (L' := [some (vR 2), some (vI x1), some (vI x2), some (vR z2)]) dX11_event_5 rfl (Nat.le_of_ble_eq_true rfl) rfl rfl ?_
  refine g_aload_n dX11_event_6 rfl rfl ?_
  refine g_ifnull 19 dX11_event_7 (by decide) ⟨fun hc => ?_, fun hc => ?_⟩
  · replace h := h.1 hc
    refine g_iconst dX11_event_19 ?_
    exact g_iret dX11_event_20 rfl h
  · replace h := h.2 hc
    refine g_iload_n dX11_event_10 rfl rfl ?_
    refine g_if_lt 19 dX11_event_11 (by decide) ⟨fun hc => ?_, fun hc => ?_⟩
    · replace h := h.1 hc
      refine g_iconst dX11_event_19 ?_
      exact g_iret dX11_event_20 rfl h
    · replace h := h.2 hc
      refine g_iload_n dX11_event_14 rfl rfl ?_
      refine g_iconst dX11_event_15 ?_
      refine g_icmp_le 21 dX11_event_16 (by decide) ⟨fun hc => ?_, fun hc => ?_⟩
      · replace h := h.1 hc
        refine g_aload_n dX11_event_21 rfl rfl ?_
        refine h_getI (j := 12) dX11_event_22 f_X11_157_10 rfl rfl (by decide) hG.k2 (by decide) (hG.lt (by decide)) ?_
        refine g_if_ne 31 dX11_event_25 (by decide) ⟨fun hc => ?_, fun hc => ?_⟩
        · replace h := h.1 hc
          refine g_iload_n dX11_event_31 rfl rfl ?_
          refine g_tswitch 84 [64, 69, 74, 79] dX11_event_32 (by decide) (by decide) (by decide) (fun j hj t ht => ?_) (fun hc => ?_)
          · match j, hj, ht with
            | 0, hj, ht =>
              cases ht
              replace h := h.1 (hj.trans (by decide))
              refine g_aload_n dX11_event_64 rfl rfl ?_
              have hf3 := h.1
              replace h := h.2
              refine g_callU (kc := kc) (kc' := 0) (ks := ks) (ks' := 0) (as := []) (st := []) (ci := 5) (C := RX6) dX11_event_65 cB_X6_kindNumber lk_X11_171 sm_X2_kindNumber (by decide) (by decide +kernel) (Or.inr rfl) in_X6_kindNumber se_X2_kindNumber_X6 (by decide) rfl rfl (Nat.le_of_ble_eq_true rfl) (Nat.le_of_ble_eq_true rfl) hf3.ge hf3.lt (congrArg Prod.fst hf3.2.2.1) ?_
              refine Go.to (fun r G' D4 hr => ?_) h
              obtain ⟨rfl, z5, rfl, h⟩ := hr
              show Go E (d + 1) kc ks mX11_event 68 [some (vR 2), some (vI x1), some (vI x2), some (vR z2)] [vI z5] G D4 Q
              exact g_iret dX11_event_68 rfl h
            | 1, hj, ht =>
              cases ht
              replace h := h.2.1 (hj.trans (by decide))
              refine g_aload_n dX11_event_69 rfl rfl ?_
              have hf6 := h.1
              replace h := h.2
              refine h_getI (j := 1) dX11_event_70 f_X11_175_5 rfl rfl (by decide) hf6.2.2.1 hf6.ge hf6.lt ?_
              exact g_iret dX11_event_73 rfl h
            | 2, hj, ht =>
              cases ht
              replace h := h.2.2.1 (hj.trans (by decide))
              refine g_aload_n dX11_event_74 rfl rfl ?_
              have hf7 := h.1
              replace h := h.2
              refine h_getI (j := 2) dX11_event_75 f_X11_178_5 rfl rfl (by decide) hf7.2.2.1 hf7.ge hf7.lt ?_
              exact g_iret dX11_event_78 rfl h
            | 3, hj, ht =>
              cases ht
              replace h := h.2.2.2.1 (hj.trans (by decide))
              refine g_aload_n dX11_event_79 rfl rfl ?_
              have hf8 := h.1
              replace h := h.2
              refine h_getI (j := 3) dX11_event_80 f_X11_181_5 rfl rfl (by decide) hf8.2.2.1 hf8.ge hf8.lt ?_
              exact g_iret dX11_event_83 rfl h
            | j + 4, hj, ht => simp at ht
          · replace h := h.2.2.2.2 hc
            refine g_aload_n dX11_event_84 rfl rfl ?_
            have hf9 := h.1
            replace h := h.2
            refine h_getI (j := 4) dX11_event_85 f_X11_184_5 rfl rfl (by decide) hf9.2.2.1 hf9.ge hf9.lt ?_
            exact g_iret dX11_event_88 rfl h
        · replace h := h.2 hc
          refine g_bipush dX11_event_28 bp_m3 ?_
          exact g_iret dX11_event_30 rfl h
      · replace h := h.2 hc
        refine g_iconst dX11_event_19 ?_
        exact g_iret dX11_event_20 rfl h
set_option maxRecDepth 20000 in
theorem w_X11_event_k7 {E : mmE} {d kc ks : Nat} {G : mmG} {D : mmD} {Q : mmQ} {x1 x2 : Int} (hG : Sh G)  (h : Call E d 0 0 mX11_eventAt [vR 2, vI x1] G D (retR G (fun z2 D1 => ((z2 = 0 → Q (some (vI (-1))) G D1) ∧ (¬ z2 = 0 → ((iv x2 < iv 0 → Q (some (vI (-1))) G D1) ∧ (¬ iv x2 < iv 0 → ((iv x2 ≤ iv 4 → ((¬ iv (D1 2 12) = iv 0 → (((iv x2).toInt = 0 → (isEv G 7 z2 ∧ Call E d 0 0 mX8_kindNumber [vR z2] G D1 (retI G (fun z5 D4 => Q (some (vI z5)) G D4)))) ∧ ((iv x2).toInt = 1 → (isEv G 7 z2 ∧ Q (some (vI (D1 z2 1))) G D1)) ∧ ((iv x2).toInt = 2 → (isEv G 7 z2 ∧ Q (some (vI (D1 z2 2))) G D1)) ∧ ((iv x2).toInt = 3 → (isEv G 7 z2 ∧ Q (some (vI (D1 z2 3))) G D1)) ∧ (((iv x2).toInt < 0 ∨ 3 < (iv x2).toInt) → (isEv G 7 z2 ∧ Q (some (vI (D1 z2 4))) G D1)))) ∧ (iv (D1 2 12) = iv 0 → Q (some (vI (-3))) G D1))) ∧ (¬ iv x2 ≤ iv 4 → Q (some (vI (-1))) G D1))))))))) : Call E (d + 1) kc ks mX11_event [vR 2, vI x1, vI x2] G D Q := by
  show Go E (d + 1) kc ks mX11_event 0 [some (vR 2), some (vI x1), some (vI x2), none] [] G D Q
  refine g_aload_n dX11_event_0 rfl rfl ?_
  refine g_iload_n dX11_event_1 rfl rfl ?_
  refine g_callV (kc := kc) (kc' := 0) (ks := ks) (ks' := 0) (as := [vI x1]) (st := []) (ci := 10) dX11_event_2 cB_X11_eventAt lk_X11_167 in_X11_eventAt se_X11_eventAt (by decide) rfl rfl (Nat.le_of_ble_eq_true rfl) (Nat.le_of_ble_eq_true rfl) (by decide) (hG.lt (by decide)) (congrArg Prod.fst hG.k2) ?_
  refine Go.to (fun r G' D1 hr => ?_) h
  obtain ⟨rfl, z2, rfl, h⟩ := hr
  show Go E (d + 1) kc ks mX11_event 5 [some (vR 2), some (vI x1), some (vI x2), none] [vR z2] G D1 Q
  refine h_astore_n (L' := [some (vR 2), some (vI x1), some (vI x2), some (vR z2)]) dX11_event_5 rfl (Nat.le_of_ble_eq_true rfl) rfl rfl ?_
  refine g_aload_n dX11_event_6 rfl rfl ?_
  refine g_ifnull 19 dX11_event_7 (by decide) ⟨fun hc => ?_, fun hc => ?_⟩
  · replace h := h.1 hc
    refine g_iconst dX11_event_19 ?_
    exact g_iret dX11_event_20 rfl h
  · replace h := h.2 hc
    refine g_iload_n dX11_event_10 rfl rfl ?_
    refine g_if_lt 19 dX11_event_11 (by decide) ⟨fun hc => ?_, fun hc => ?_⟩
    · replace h := h.1 hc
      refine g_iconst dX11_event_19 ?_
      exact g_iret dX11_event_20 rfl h
    · replace h := h.2 hc
      refine g_iload_n dX11_event_14 rfl rfl ?_
      refine g_iconst dX11_event_15 ?_
      refine g_icmp_le 21 dX11_event_16 (by decide) ⟨fun hc => ?_, fun hc => ?_⟩
      · replace h := h.1 hc
        refine g_aload_n dX11_event_21 rfl rfl ?_
        refine h_getI (j := 12) dX11_event_22 f_X11_157_10 rfl rfl (by decide) hG.k2 (by decide) (hG.lt (by decide)) ?_
        refine g_if_ne 31 dX11_event_25 (by decide) ⟨fun hc => ?_, fun hc => ?_⟩
        · replace h := h.1 hc
          refine g_iload_n dX11_event_31 rfl rfl ?_
          refine g_tswitch 84 [64, 69, 74, 79] dX11_event_32 (by decide) (by decide) (by decide) (fun j hj t ht => ?_) (fun hc => ?_)
          · match j, hj, ht with
            | 0, hj, ht =>
              cases ht
              replace h := h.1 (hj.trans (by decide))
              refine g_aload_n dX11_event_64 rfl rfl ?_
              have hf3 := h.1
              replace h := h.2
              refine g_callU (kc := kc) (kc' := 0) (ks := ks) (ks' := 0) (as := []) (st := []) (ci := 7) (C := RX8) dX11_event_65 cB_X8_kindNumber lk_X11_171 sm_X2_kindNumber (by decide) (by decide +kernel) (Or.inr rfl) in_X8_kindNumber se_X2_kindNumber_X8 (by decide) rfl rfl (Nat.le_of_ble_eq_true rfl) (Nat.le_of_ble_eq_true rfl) hf3.ge hf3.lt (congrArg Prod.fst hf3.2.2.1) ?_
              refine Go.to (fun r G' D4 hr => ?_) h
              obtain ⟨rfl, z5, rfl, h⟩ := hr
              show Go E (d + 1) kc ks mX11_event 68 [some (vR 2), some (vI x1), some (vI x2), some (vR z2)] [vI z5] G D4 Q
              exact g_iret dX11_event_68 rfl h
            | 1, hj, ht =>
              cases ht
              replace h := h.2.1 (hj.trans (by decide))
              refine g_aload_n dX11_event_69 rfl rfl ?_
              have hf6 := h.1
              replace h := h.2
              refine h_getI (j := 1) dX11_event_70 f_X11_175_7 rfl rfl (by decide) hf6.2.2.1 hf6.ge hf6.lt ?_
              exact g_iret dX11_event_73 rfl h
            | 2, hj, ht =>
              cases ht
              replace h := h.2.2.1 (hj.trans (by decide))
              refine g_aload_n dX11_event_74 rfl rfl ?_
              have hf7 := h.1
              replace h := h.2
              refine h_getI (j := 2) dX11_event_75 f_X11_178_7 rfl rfl (by decide) hf7.2.2.1 hf7.ge hf7.lt ?_
              exact g_iret dX11_event_78 rfl h
            | 3, hj, ht =>
              cases ht
              replace h := h.2.2.2.1 (hj.trans (by decide))
              refine g_aload_n dX11_event_79 rfl rfl ?_
              have hf8 := h.1
              replace h := h.2
              refine h_getI (j := 3) dX11_event_80 f_X11_181_7 rfl rfl (by decide) hf8.2.2.1 hf8.ge hf8.lt ?_
              exact g_iret dX11_event_83 rfl h
            | j + 4, hj, ht => simp at ht
          · replace h := h.2.2.2.2 hc
            refine g_aload_n dX11_event_84 rfl rfl ?_
            have hf9 := h.1
            replace h := h.2
            refine h_getI (j := 4) dX11_event_85 f_X11_184_7 rfl rfl (by decide) hf9.2.2.1 hf9.ge hf9.lt ?_
            exact g_iret dX11_event_88 rfl h
        · replace h := h.2 hc
          refine g_bipush dX11_event_28 bp_m3 ?_
          exact g_iret dX11_event_30 rfl h
      · replace h := h.2 hc
        refine g_iconst dX11_event_19 ?_
        exact g_iret dX11_event_20 rfl h
set_option maxRecDepth 20000 in
theorem w_X11_event_k8 {E : mmE} {d kc ks : Nat} {G : mmG} {D : mmD} {Q : mmQ} {x1 x2 : Int} (hG : Sh G)  (h : Call E d 0 0 mX11_eventAt [vR 2, vI x1] G D (retR G (fun z2 D1 => ((z2 = 0 → Q (some (vI (-1))) G D1) ∧ (¬ z2 = 0 → ((iv x2 < iv 0 → Q (some (vI (-1))) G D1) ∧ (¬ iv x2 < iv 0 → ((iv x2 ≤ iv 4 → ((¬ iv (D1 2 12) = iv 0 → (((iv x2).toInt = 0 → (isEv G 8 z2 ∧ Call E d 0 0 mX9_kindNumber [vR z2] G D1 (retI G (fun z5 D4 => Q (some (vI z5)) G D4)))) ∧ ((iv x2).toInt = 1 → (isEv G 8 z2 ∧ Q (some (vI (D1 z2 1))) G D1)) ∧ ((iv x2).toInt = 2 → (isEv G 8 z2 ∧ Q (some (vI (D1 z2 2))) G D1)) ∧ ((iv x2).toInt = 3 → (isEv G 8 z2 ∧ Q (some (vI (D1 z2 3))) G D1)) ∧ (((iv x2).toInt < 0 ∨ 3 < (iv x2).toInt) → (isEv G 8 z2 ∧ Q (some (vI (D1 z2 4))) G D1)))) ∧ (iv (D1 2 12) = iv 0 → Q (some (vI (-3))) G D1))) ∧ (¬ iv x2 ≤ iv 4 → Q (some (vI (-1))) G D1))))))))) : Call E (d + 1) kc ks mX11_event [vR 2, vI x1, vI x2] G D Q := by
  show Go E (d + 1) kc ks mX11_event 0 [some (vR 2), some (vI x1), some (vI x2), none] [] G D Q
  refine g_aload_n dX11_event_0 rfl rfl ?_
  refine g_iload_n dX11_event_1 rfl rfl ?_
  refine g_callV (kc := kc) (kc' := 0) (ks := ks) (ks' := 0) (as := [vI x1]) (st := []) (ci := 10) dX11_event_2 cB_X11_eventAt lk_X11_167 in_X11_eventAt se_X11_eventAt (by decide) rfl rfl (Nat.le_of_ble_eq_true rfl) (Nat.le_of_ble_eq_true rfl) (by decide) (hG.lt (by decide)) (congrArg Prod.fst hG.k2) ?_
  refine Go.to (fun r G' D1 hr => ?_) h
  obtain ⟨rfl, z2, rfl, h⟩ := hr
  show Go E (d + 1) kc ks mX11_event 5 [some (vR 2), some (vI x1), some (vI x2), none] [vR z2] G D1 Q
  refine h_astore_n (L' := [some (vR 2), some (vI x1), some (vI x2), some (vR z2)]) dX11_event_5 rfl (Nat.le_of_ble_eq_true rfl) rfl rfl ?_
  refine g_aload_n dX11_event_6 rfl rfl ?_
  refine g_ifnull 19 dX11_event_7 (by decide) ⟨fun hc => ?_, fun hc => ?_⟩
  · replace h := h.1 hc
    refine g_iconst dX11_event_19 ?_
    exact g_iret dX11_event_20 rfl h
  · replace h := h.2 hc
    refine g_iload_n dX11_event_10 rfl rfl ?_
    refine g_if_lt 19 dX11_event_11 (by decide) ⟨fun hc => ?_, fun hc => ?_⟩
    · replace h := h.1 hc
      refine g_iconst dX11_event_19 ?_
      exact g_iret dX11_event_20 rfl h
    · replace h := h.2 hc
      refine g_iload_n dX11_event_14 rfl rfl ?_
      refine g_iconst dX11_event_15 ?_
      refine g_icmp_le 21 dX11_event_16 (by decide) ⟨fun hc => ?_, fun hc => ?_⟩
      · replace h := h.1 hc
        refine g_aload_n dX11_event_21 rfl rfl ?_
        refine h_getI (j := 12) dX11_event_22 f_X11_157_10 rfl rfl (by decide) hG.k2 (by decide) (hG.lt (by decide)) ?_
        refine g_if_ne 31 dX11_event_25 (by decide) ⟨fun hc => ?_, fun hc => ?_⟩
        · replace h := h.1 hc
          refine g_iload_n dX11_event_31 rfl rfl ?_
          refine g_tswitch 84 [64, 69, 74, 79] dX11_event_32 (by decide) (by decide) (by decide) (fun j hj t ht => ?_) (fun hc => ?_)
          · match j, hj, ht with
            | 0, hj, ht =>
              cases ht
              replace h := h.1 (hj.trans (by decide))
              refine g_aload_n dX11_event_64 rfl rfl ?_
              have hf3 := h.1
              replace h := h.2
              refine g_callU (kc := kc) (kc' := 0) (ks := ks) (ks' := 0) (as := []) (st := []) (ci := 8) (C := RX9) dX11_event_65 cB_X9_kindNumber lk_X11_171 sm_X2_kindNumber (by decide) (by decide +kernel) (Or.inr rfl) in_X9_kindNumber se_X2_kindNumber_X9 (by decide) rfl rfl (Nat.le_of_ble_eq_true rfl) (Nat.le_of_ble_eq_true rfl) hf3.ge hf3.lt (congrArg Prod.fst hf3.2.2.1) ?_
              refine Go.to (fun r G' D4 hr => ?_) h
              obtain ⟨rfl, z5, rfl, h⟩ := hr
              show Go E (d + 1) kc ks mX11_event 68 [some (vR 2), some (vI x1), some (vI x2), some (vR z2)] [vI z5] G D4 Q
              exact g_iret dX11_event_68 rfl h
            | 1, hj, ht =>
              cases ht
              replace h := h.2.1 (hj.trans (by decide))
              refine g_aload_n dX11_event_69 rfl rfl ?_
              have hf6 := h.1
              replace h := h.2
              refine h_getI (j := 1) dX11_event_70 f_X11_175_8 rfl rfl (by decide) hf6.2.2.1 hf6.ge hf6.lt ?_
              exact g_iret dX11_event_73 rfl h
            | 2, hj, ht =>
              cases ht
              replace h := h.2.2.1 (hj.trans (by decide))
              refine g_aload_n dX11_event_74 rfl rfl ?_
              have hf7 := h.1
              replace h := h.2
              refine h_getI (j := 2) dX11_event_75 f_X11_178_8 rfl rfl (by decide) hf7.2.2.1 hf7.ge hf7.lt ?_
              exact g_iret dX11_event_78 rfl h
            | 3, hj, ht =>
              cases ht
              replace h := h.2.2.2.1 (hj.trans (by decide))
              refine g_aload_n dX11_event_79 rfl rfl ?_
              have hf8 := h.1
              replace h := h.2
              refine h_getI (j := 3) dX11_event_80 f_X11_181_8 rfl rfl (by decide) hf8.2.2.1 hf8.ge hf8.lt ?_
              exact g_iret dX11_event_83 rfl h
            | j + 4, hj, ht => simp at ht
          · replace h := h.2.2.2.2 hc
            refine g_aload_n dX11_event_84 rfl rfl ?_
            have hf9 := h.1
            replace h := h.2
            refine h_getI (j := 4) dX11_event_85 f_X11_184_8 rfl rfl (by decide) hf9.2.2.1 hf9.ge hf9.lt ?_
            exact g_iret dX11_event_88 rfl h
        · replace h := h.2 hc
          refine g_bipush dX11_event_28 bp_m3 ?_
          exact g_iret dX11_event_30 rfl h
      · replace h := h.2 hc
        refine g_iconst dX11_event_19 ?_
        exact g_iret dX11_event_20 rfl h
set_option maxRecDepth 20000 in
theorem w_X11_act_k1 {E : mmE} {d kc ks : Nat} {G : mmG} {D : mmD} {Q : mmQ} {x1 x2 x3 : Int} (hG : Sh G)  (h : (∀ G1 : mmG, G1 = (G.1, G.2.1, up2 G.2.2 2 9 0) → Call E d 0 0 mX11_eventAt [vR 2, vI x1] G1 D (retR G1 (fun z4 D3 => ((z4 = 0 → Q (some (vI 0)) G1 D3) ∧ (¬ z4 = 0 → ((iv x2 < iv 0 → Q (some (vI 0)) G1 D3) ∧ (¬ iv x2 < iv 0 → ((iv x2 ≤ iv 2 → (∀ G5 : mmG, G5 = (G1.1, G1.2.1, up2 G1.2.2 2 9 z4) → (isEv G5 1 z4 ∧ (∀ D8 : mmD, D8 = up2 D3 z4 6 0 → (((iv x2).toInt = 0 → Call E d 0 0 mX2_tells [vR z4, vI x3] G5 D8 (retI G5 (fun z10 D9 => Q (some (vI z10)) G5 D9))) ∧ ((iv x2).toInt = 1 → Call E d 0 0 mX5_leads [vR z4, vI x3] G5 D8 (retI G5 (fun z12 D11 => Q (some (vI z12)) G5 D11))) ∧ (¬ (iv x2).toInt = 0 → ¬ (iv x2).toInt = 1 → Call E d 0 0 mX1_marks [vR z4, vI x3] G5 D8 (retI G5 (fun z14 D13 => Q (some (vI z14)) G5 D13)))))))) ∧ (¬ iv x2 ≤ iv 2 → Q (some (vI 0)) G1 D3)))))))))) : Call E (d + 1) kc ks mX11_act [vR 2, vI x1, vI x2, vI x3] G D Q := by
  show Go E (d + 1) kc ks mX11_act 0 [some (vR 2), some (vI x1), some (vI x2), some (vI x3), none] [] G D Q
  refine g_aload_n dX11_act_0 rfl rfl ?_
  refine g_null dX11_act_1 ?_
  refine h_putR (j := 9) dX11_act_2 f_X11_272_10 (Or.inl (mm_finI (by decide +kernel))) (Or.inl ⟨_, rfl⟩) rfl (by decide) hG.k2 (by decide) (hG.lt (by decide)) ?_
  have hG2 := hG.lat (x := 0)
  generalize hG_G1 : ((G.1, G.2.1, up2 G.2.2 2 9 0) : mmG) = G1 at hG2 ⊢
  replace h := h _ hG_G1.symm
  refine g_aload_n dX11_act_5 rfl rfl ?_
  refine g_iload_n dX11_act_6 rfl rfl ?_
  refine g_callV (kc := kc) (kc' := 0) (ks := ks) (ks' := 0) (as := [vI x1]) (st := []) (ci := 10) dX11_act_7 cB_X11_eventAt lk_X11_167 in_X11_eventAt se_X11_eventAt (by decide) rfl rfl (Nat.le_of_ble_eq_true rfl) (Nat.le_of_ble_eq_true rfl) (by decide) (hG2.lt (by decide)) (congrArg Prod.fst hG2.k2) ?_
  refine Go.to (fun r G' D3 hr => ?_) h
  obtain ⟨rfl, z4, rfl, h⟩ := hr
  show Go E (d + 1) kc ks mX11_act 10 [some (vR 2), some (vI x1), some (vI x2), some (vI x3), none] [vR z4] G1 D3 Q
  refine h_astore (L' := [some (vR 2), some (vI x1), some (vI x2), some (vI x3), some (vR z4)]) dX11_act_10 (Nat.le_of_ble_eq_true rfl) rfl rfl ?_
  refine g_aload dX11_act_12 rfl ?_
  refine g_ifnull 26 dX11_act_14 (by decide) ⟨fun hc => ?_, fun hc => ?_⟩
  · replace h := h.1 hc
    refine g_iconst dX11_act_26 ?_
    exact g_iret dX11_act_27 rfl h
  · replace h := h.2 hc
    refine g_iload_n dX11_act_17 rfl rfl ?_
    refine g_if_lt 26 dX11_act_18 (by decide) ⟨fun hc => ?_, fun hc => ?_⟩
    · replace h := h.1 hc
      refine g_iconst dX11_act_26 ?_
      exact g_iret dX11_act_27 rfl h
    · replace h := h.2 hc
      refine g_iload_n dX11_act_21 rfl rfl ?_
      refine g_iconst dX11_act_22 ?_
      refine g_icmp_le 28 dX11_act_23 (by decide) ⟨fun hc => ?_, fun hc => ?_⟩
      · replace h := h.1 hc
        refine g_aload_n dX11_act_28 rfl rfl ?_
        refine g_aload dX11_act_29 rfl ?_
        refine h_putR (j := 9) dX11_act_31 f_X11_272_10 (Or.inl (mm_finI (by decide +kernel))) (Or.inl ⟨_, rfl⟩) rfl (by decide) hG2.k2 (by decide) (hG2.lt (by decide)) ?_
        have hG6 := hG2.lat (x := z4)
        generalize hG_G5 : ((G1.1, G1.2.1, up2 G1.2.2 2 9 z4) : mmG) = G5 at hG6 ⊢
        replace h := h _ hG_G5.symm
        refine g_aload dX11_act_34 rfl ?_
        refine g_iconst dX11_act_36 ?_
        have hf7 := h.1
        replace h := h.2
        refine h_putI (j := 6) dX11_act_37 f_X11_276_1 (Or.inl (mm_finI (by decide +kernel))) rfl rfl (by decide) hf7.2.2.1 hf7.ge hf7.lt ?_
        generalize hD_D8 : up2 D3 z4 6 0 = D8
        replace h := h _ hD_D8.symm
        refine g_iload_n dX11_act_40 rfl rfl ?_
        refine g_lswitch2 82 68 75 dX11_act_41 (by decide) (by decide) (by decide) (by decide) (fun hc => ?_) (fun hc => ?_) (fun hc hc2 => ?_)
        · replace h := h.1 hc
          refine g_aload dX11_act_68 rfl ?_
          refine g_iload_n dX11_act_70 rfl rfl ?_
          refine g_callU (kc := kc) (kc' := 0) (ks := ks) (ks' := 0) (as := [vI x3]) (st := []) (ci := 1) (C := RX1) dX11_act_71 cB_X2_tells lk_X11_279 sm_X2_tells (by decide) (by decide +kernel) (Or.inl ⟨in_X2_tells, _, _, _, cB_X2_tells.1⟩) in_X2_tells se_X2_tells_X1 (by decide) rfl rfl (Nat.le_of_ble_eq_true rfl) (Nat.le_of_ble_eq_true rfl) hf7.ge hf7.lt (congrArg Prod.fst hf7.2.2.1) ?_
          refine Go.to (fun r G' D9 hr => ?_) h
          obtain ⟨rfl, z10, rfl, h⟩ := hr
          show Go E (d + 1) kc ks mX11_act 74 [some (vR 2), some (vI x1), some (vI x2), some (vI x3), some (vR z4)] [vI z10] G5 D9 Q
          exact g_iret dX11_act_74 rfl h
        · replace h := h.2.1 hc
          refine g_aload dX11_act_75 rfl ?_
          refine g_iload_n dX11_act_77 rfl rfl ?_
          refine g_callU (kc := kc) (kc' := 0) (ks := ks) (ks' := 0) (as := [vI x3]) (st := []) (ci := 1) (C := RX1) dX11_act_78 cB_X5_leads lk_X11_282 sm_X2_leads (by decide) (by decide +kernel) (Or.inl ⟨in_X2_leads, _, _, _, cB_X2_leads.1⟩) in_X5_leads se_X2_leads_X1 (by decide) rfl rfl (Nat.le_of_ble_eq_true rfl) (Nat.le_of_ble_eq_true rfl) hf7.ge hf7.lt (congrArg Prod.fst hf7.2.2.1) ?_
          refine Go.to (fun r G' D11 hr => ?_) h
          obtain ⟨rfl, z12, rfl, h⟩ := hr
          show Go E (d + 1) kc ks mX11_act 81 [some (vR 2), some (vI x1), some (vI x2), some (vI x3), some (vR z4)] [vI z12] G5 D11 Q
          exact g_iret dX11_act_81 rfl h
        · replace h := h.2.2 hc hc2
          refine g_aload dX11_act_82 rfl ?_
          refine g_iload_n dX11_act_84 rfl rfl ?_
          refine g_callU (kc := kc) (kc' := 0) (ks := ks) (ks' := 0) (as := [vI x3]) (st := []) (ci := 1) (C := RX1) dX11_act_85 cB_X1_marks lk_X11_285 sm_X2_marks (by decide) (by decide +kernel) (Or.inl ⟨in_X2_marks, _, _, _, cB_X2_marks.1⟩) in_X1_marks se_X2_marks_X1 (by decide) rfl rfl (Nat.le_of_ble_eq_true rfl) (Nat.le_of_ble_eq_true rfl) hf7.ge hf7.lt (congrArg Prod.fst hf7.2.2.1) ?_
          refine Go.to (fun r G' D13 hr => ?_) h
          obtain ⟨rfl, z14, rfl, h⟩ := hr
          show Go E (d + 1) kc ks mX11_act 88 [some (vR 2), some (vI x1), some (vI x2), some (vI x3), some (vR z4)] [vI z14] G5 D13 Q
          exact g_iret dX11_act_88 rfl h
      · replace h := h.2 hc
        refine g_iconst dX11_act_26 ?_
        exact g_iret dX11_act_27 rfl h
set_option maxRecDepth 20000 in
theorem w_X11_act_k2 {E : mmE} {d kc ks : Nat} {G : mmG} {D : mmD} {Q : mmQ} {x1 x2 x3 : Int} (hG : Sh G)  (h : (∀ G1 : mmG, G1 = (G.1, G.2.1, up2 G.2.2 2 9 0) → Call E d 0 0 mX11_eventAt [vR 2, vI x1] G1 D (retR G1 (fun z4 D3 => ((z4 = 0 → Q (some (vI 0)) G1 D3) ∧ (¬ z4 = 0 → ((iv x2 < iv 0 → Q (some (vI 0)) G1 D3) ∧ (¬ iv x2 < iv 0 → ((iv x2 ≤ iv 2 → (∀ G5 : mmG, G5 = (G1.1, G1.2.1, up2 G1.2.2 2 9 z4) → (isEv G5 2 z4 ∧ (∀ D8 : mmD, D8 = up2 D3 z4 6 0 → (((iv x2).toInt = 0 → Call E d 0 0 mX3_tells [vR z4, vI x3] G5 D8 (retI G5 (fun z10 D9 => Q (some (vI z10)) G5 D9))) ∧ ((iv x2).toInt = 1 → Call E d 0 0 mX5_leads [vR z4, vI x3] G5 D8 (retI G5 (fun z12 D11 => Q (some (vI z12)) G5 D11))) ∧ (¬ (iv x2).toInt = 0 → ¬ (iv x2).toInt = 1 → Call E d 0 0 mX2_marks [vR z4, vI x3] G5 D8 (retI G5 (fun z14 D13 => Q (some (vI z14)) G5 D13)))))))) ∧ (¬ iv x2 ≤ iv 2 → Q (some (vI 0)) G1 D3)))))))))) : Call E (d + 1) kc ks mX11_act [vR 2, vI x1, vI x2, vI x3] G D Q := by
  show Go E (d + 1) kc ks mX11_act 0 [some (vR 2), some (vI x1), some (vI x2), some (vI x3), none] [] G D Q
  refine g_aload_n dX11_act_0 rfl rfl ?_
  refine g_null dX11_act_1 ?_
  refine h_putR (j := 9) dX11_act_2 f_X11_272_10 (Or.inl (mm_finI (by decide +kernel))) (Or.inl ⟨_, rfl⟩) rfl (by decide) hG.k2 (by decide) (hG.lt (by decide)) ?_
  have hG2 := hG.lat (x := 0)
  generalize hG_G1 : ((G.1, G.2.1, up2 G.2.2 2 9 0) : mmG) = G1 at hG2 ⊢
  replace h := h _ hG_G1.symm
  refine g_aload_n dX11_act_5 rfl rfl ?_
  refine g_iload_n dX11_act_6 rfl rfl ?_
  refine g_callV (kc := kc) (kc' := 0) (ks := ks) (ks' := 0) (as := [vI x1]) (st := []) (ci := 10) dX11_act_7 cB_X11_eventAt lk_X11_167 in_X11_eventAt se_X11_eventAt (by decide) rfl rfl (Nat.le_of_ble_eq_true rfl) (Nat.le_of_ble_eq_true rfl) (by decide) (hG2.lt (by decide)) (congrArg Prod.fst hG2.k2) ?_
  refine Go.to (fun r G' D3 hr => ?_) h
  obtain ⟨rfl, z4, rfl, h⟩ := hr
  show Go E (d + 1) kc ks mX11_act 10 [some (vR 2), some (vI x1), some (vI x2), some (vI x3), none] [vR z4] G1 D3 Q
  refine h_astore (L' := [some (vR 2), some (vI x1), some (vI x2), some (vI x3), some (vR z4)]) dX11_act_10 (Nat.le_of_ble_eq_true rfl) rfl rfl ?_
  refine g_aload dX11_act_12 rfl ?_
  refine g_ifnull 26 dX11_act_14 (by decide) ⟨fun hc => ?_, fun hc => ?_⟩
  · replace h := h.1 hc
    refine g_iconst dX11_act_26 ?_
    exact g_iret dX11_act_27 rfl h
  · replace h := h.2 hc
    refine g_iload_n dX11_act_17 rfl rfl ?_
    refine g_if_lt 26 dX11_act_18 (by decide) ⟨fun hc => ?_, fun hc => ?_⟩
    · replace h := h.1 hc
      refine g_iconst dX11_act_26 ?_
      exact g_iret dX11_act_27 rfl h
    · replace h := h.2 hc
      refine g_iload_n dX11_act_21 rfl rfl ?_
      refine g_iconst dX11_act_22 ?_
      refine g_icmp_le 28 dX11_act_23 (by decide) ⟨fun hc => ?_, fun hc => ?_⟩
      · replace h := h.1 hc
        refine g_aload_n dX11_act_28 rfl rfl ?_
        refine g_aload dX11_act_29 rfl ?_
        refine h_putR (j := 9) dX11_act_31 f_X11_272_10 (Or.inl (mm_finI (by decide +kernel))) (Or.inl ⟨_, rfl⟩) rfl (by decide) hG2.k2 (by decide) (hG2.lt (by decide)) ?_
        have hG6 := hG2.lat (x := z4)
        generalize hG_G5 : ((G1.1, G1.2.1, up2 G1.2.2 2 9 z4) : mmG) = G5 at hG6 ⊢
        replace h := h _ hG_G5.symm
        refine g_aload dX11_act_34 rfl ?_
        refine g_iconst dX11_act_36 ?_
        have hf7 := h.1
        replace h := h.2
        refine h_putI (j := 6) dX11_act_37 f_X11_276_2 (Or.inl (mm_finI (by decide +kernel))) rfl rfl (by decide) hf7.2.2.1 hf7.ge hf7.lt ?_
        generalize hD_D8 : up2 D3 z4 6 0 = D8
        replace h := h _ hD_D8.symm
        refine g_iload_n dX11_act_40 rfl rfl ?_
        refine g_lswitch2 82 68 75 dX11_act_41 (by decide) (by decide) (by decide) (by decide) (fun hc => ?_) (fun hc => ?_) (fun hc hc2 => ?_)
        · replace h := h.1 hc
          refine g_aload dX11_act_68 rfl ?_
          refine g_iload_n dX11_act_70 rfl rfl ?_
          refine g_callU (kc := kc) (kc' := 0) (ks := ks) (ks' := 0) (as := [vI x3]) (st := []) (ci := 2) (C := RX3) dX11_act_71 cB_X3_tells lk_X11_279 sm_X2_tells (by decide) (by decide +kernel) (Or.inl ⟨in_X2_tells, _, _, _, cB_X2_tells.1⟩) in_X3_tells se_X2_tells_X3 (by decide) rfl rfl (Nat.le_of_ble_eq_true rfl) (Nat.le_of_ble_eq_true rfl) hf7.ge hf7.lt (congrArg Prod.fst hf7.2.2.1) ?_
          refine Go.to (fun r G' D9 hr => ?_) h
          obtain ⟨rfl, z10, rfl, h⟩ := hr
          show Go E (d + 1) kc ks mX11_act 74 [some (vR 2), some (vI x1), some (vI x2), some (vI x3), some (vR z4)] [vI z10] G5 D9 Q
          exact g_iret dX11_act_74 rfl h
        · replace h := h.2.1 hc
          refine g_aload dX11_act_75 rfl ?_
          refine g_iload_n dX11_act_77 rfl rfl ?_
          refine g_callU (kc := kc) (kc' := 0) (ks := ks) (ks' := 0) (as := [vI x3]) (st := []) (ci := 2) (C := RX3) dX11_act_78 cB_X5_leads lk_X11_282 sm_X2_leads (by decide) (by decide +kernel) (Or.inl ⟨in_X2_leads, _, _, _, cB_X2_leads.1⟩) in_X5_leads se_X2_leads_X3 (by decide) rfl rfl (Nat.le_of_ble_eq_true rfl) (Nat.le_of_ble_eq_true rfl) hf7.ge hf7.lt (congrArg Prod.fst hf7.2.2.1) ?_
          refine Go.to (fun r G' D11 hr => ?_) h
          obtain ⟨rfl, z12, rfl, h⟩ := hr
          show Go E (d + 1) kc ks mX11_act 81 [some (vR 2), some (vI x1), some (vI x2), some (vI x3), some (vR z4)] [vI z12] G5 D11 Q
          exact g_iret dX11_act_81 rfl h
        · replace h := h.2.2 hc hc2
          refine g_aload dX11_act_82 rfl ?_
          refine g_iload_n dX11_act_84 rfl rfl ?_
          refine g_callU (kc := kc) (kc' := 0) (ks := ks) (ks' := 0) (as := [vI x3]) (st := []) (ci := 2) (C := RX3) dX11_act_85 cB_X2_marks lk_X11_285 sm_X2_marks (by decide) (by decide +kernel) (Or.inl ⟨in_X2_marks, _, _, _, cB_X2_marks.1⟩) in_X2_marks se_X2_marks_X3 (by decide) rfl rfl (Nat.le_of_ble_eq_true rfl) (Nat.le_of_ble_eq_true rfl) hf7.ge hf7.lt (congrArg Prod.fst hf7.2.2.1) ?_
          refine Go.to (fun r G' D13 hr => ?_) h
          obtain ⟨rfl, z14, rfl, h⟩ := hr
          show Go E (d + 1) kc ks mX11_act 88 [some (vR 2), some (vI x1), some (vI x2), some (vI x3), some (vR z4)] [vI z14] G5 D13 Q
          exact g_iret dX11_act_88 rfl h
      · replace h := h.2 hc
        refine g_iconst dX11_act_26 ?_
        exact g_iret dX11_act_27 rfl h
set_option maxRecDepth 20000 in
theorem w_X11_act_k4 {E : mmE} {d kc ks : Nat} {G : mmG} {D : mmD} {Q : mmQ} {x1 x2 x3 : Int} (hG : Sh G)  (h : (∀ G1 : mmG, G1 = (G.1, G.2.1, up2 G.2.2 2 9 0) → Call E d 0 0 mX11_eventAt [vR 2, vI x1] G1 D (retR G1 (fun z4 D3 => ((z4 = 0 → Q (some (vI 0)) G1 D3) ∧ (¬ z4 = 0 → ((iv x2 < iv 0 → Q (some (vI 0)) G1 D3) ∧ (¬ iv x2 < iv 0 → ((iv x2 ≤ iv 2 → (∀ G5 : mmG, G5 = (G1.1, G1.2.1, up2 G1.2.2 2 9 z4) → (isEv G5 4 z4 ∧ (∀ D8 : mmD, D8 = up2 D3 z4 6 0 → (((iv x2).toInt = 0 → Call E d 0 0 mX2_tells [vR z4, vI x3] G5 D8 (retI G5 (fun z10 D9 => Q (some (vI z10)) G5 D9))) ∧ ((iv x2).toInt = 1 → Call E d 0 0 mX5_leads [vR z4, vI x3] G5 D8 (retI G5 (fun z12 D11 => Q (some (vI z12)) G5 D11))) ∧ (¬ (iv x2).toInt = 0 → ¬ (iv x2).toInt = 1 → Call E d 0 0 mX2_marks [vR z4, vI x3] G5 D8 (retI G5 (fun z14 D13 => Q (some (vI z14)) G5 D13)))))))) ∧ (¬ iv x2 ≤ iv 2 → Q (some (vI 0)) G1 D3)))))))))) : Call E (d + 1) kc ks mX11_act [vR 2, vI x1, vI x2, vI x3] G D Q := by
  show Go E (d + 1) kc ks mX11_act 0 [some (vR 2), some (vI x1), some (vI x2), some (vI x3), none] [] G D Q
  refine g_aload_n dX11_act_0 rfl rfl ?_
  refine g_null dX11_act_1 ?_
  refine h_putR (j := 9) dX11_act_2 f_X11_272_10 (Or.inl (mm_finI (by decide +kernel))) (Or.inl ⟨_, rfl⟩) rfl (by decide) hG.k2 (by decide) (hG.lt (by decide)) ?_
  have hG2 := hG.lat (x := 0)
  generalize hG_G1 : ((G.1, G.2.1, up2 G.2.2 2 9 0) : mmG) = G1 at hG2 ⊢
  replace h := h _ hG_G1.symm
  refine g_aload_n dX11_act_5 rfl rfl ?_
  refine g_iload_n dX11_act_6 rfl rfl ?_
  refine g_callV (kc := kc) (kc' := 0) (ks := ks) (ks' := 0) (as := [vI x1]) (st := []) (ci := 10) dX11_act_7 cB_X11_eventAt lk_X11_167 in_X11_eventAt se_X11_eventAt (by decide) rfl rfl (Nat.le_of_ble_eq_true rfl) (Nat.le_of_ble_eq_true rfl) (by decide) (hG2.lt (by decide)) (congrArg Prod.fst hG2.k2) ?_
  refine Go.to (fun r G' D3 hr => ?_) h
  obtain ⟨rfl, z4, rfl, h⟩ := hr
  show Go E (d + 1) kc ks mX11_act 10 [some (vR 2), some (vI x1), some (vI x2), some (vI x3), none] [vR z4] G1 D3 Q
  refine h_astore (L' := [some (vR 2), some (vI x1), some (vI x2), some (vI x3), some (vR z4)]) dX11_act_10 (Nat.le_of_ble_eq_true rfl) rfl rfl ?_
  refine g_aload dX11_act_12 rfl ?_
  refine g_ifnull 26 dX11_act_14 (by decide) ⟨fun hc => ?_, fun hc => ?_⟩
  · replace h := h.1 hc
    refine g_iconst dX11_act_26 ?_
    exact g_iret dX11_act_27 rfl h
  · replace h := h.2 hc
    refine g_iload_n dX11_act_17 rfl rfl ?_
    refine g_if_lt 26 dX11_act_18 (by decide) ⟨fun hc => ?_, fun hc => ?_⟩
    · replace h := h.1 hc
      refine g_iconst dX11_act_26 ?_
      exact g_iret dX11_act_27 rfl h
    · replace h := h.2 hc
      refine g_iload_n dX11_act_21 rfl rfl ?_
      refine g_iconst dX11_act_22 ?_
      refine g_icmp_le 28 dX11_act_23 (by decide) ⟨fun hc => ?_, fun hc => ?_⟩
      · replace h := h.1 hc
        refine g_aload_n dX11_act_28 rfl rfl ?_
        refine g_aload dX11_act_29 rfl ?_
        refine h_putR (j := 9) dX11_act_31 f_X11_272_10 (Or.inl (mm_finI (by decide +kernel))) (Or.inl ⟨_, rfl⟩) rfl (by decide) hG2.k2 (by decide) (hG2.lt (by decide)) ?_
        have hG6 := hG2.lat (x := z4)
        generalize hG_G5 : ((G1.1, G1.2.1, up2 G1.2.2 2 9 z4) : mmG) = G5 at hG6 ⊢
        replace h := h _ hG_G5.symm
        refine g_aload dX11_act_34 rfl ?_
        refine g_iconst dX11_act_36 ?_
        have hf7 := h.1
        replace h := h.2
        refine h_putI (j := 6) dX11_act_37 f_X11_276_4 (Or.inl (mm_finI (by decide +kernel))) rfl rfl (by decide) hf7.2.2.1 hf7.ge hf7.lt ?_
        generalize hD_D8 : up2 D3 z4 6 0 = D8
        replace h := h _ hD_D8.symm
        refine g_iload_n dX11_act_40 rfl rfl ?_
        refine g_lswitch2 82 68 75 dX11_act_41 (by decide) (by decide) (by decide) (by decide) (fun hc => ?_) (fun hc => ?_) (fun hc hc2 => ?_)
        · replace h := h.1 hc
          refine g_aload dX11_act_68 rfl ?_
          refine g_iload_n dX11_act_70 rfl rfl ?_
          refine g_callU (kc := kc) (kc' := 0) (ks := ks) (ks' := 0) (as := [vI x3]) (st := []) (ci := 4) (C := RX5) dX11_act_71 cB_X2_tells lk_X11_279 sm_X2_tells (by decide) (by decide +kernel) (Or.inl ⟨in_X2_tells, _, _, _, cB_X2_tells.1⟩) in_X2_tells se_X2_tells_X5 (by decide) rfl rfl (Nat.le_of_ble_eq_true rfl) (Nat.le_of_ble_eq_true rfl) hf7.ge hf7.lt (congrArg Prod.fst hf7.2.2.1) ?_
          refine Go.to (fun r G' D9 hr => ?_) h
          obtain ⟨rfl, z10, rfl, h⟩ := hr
          show Go E (d + 1) kc ks mX11_act 74 [some (vR 2), some (vI x1), some (vI x2), some (vI x3), some (vR z4)] [vI z10] G5 D9 Q
          exact g_iret dX11_act_74 rfl h
        · replace h := h.2.1 hc
          refine g_aload dX11_act_75 rfl ?_
          refine g_iload_n dX11_act_77 rfl rfl ?_
          refine g_callU (kc := kc) (kc' := 0) (ks := ks) (ks' := 0) (as := [vI x3]) (st := []) (ci := 4) (C := RX5) dX11_act_78 cB_X5_leads lk_X11_282 sm_X2_leads (by decide) (by decide +kernel) (Or.inl ⟨in_X2_leads, _, _, _, cB_X2_leads.1⟩) in_X5_leads se_X2_leads_X5 (by decide) rfl rfl (Nat.le_of_ble_eq_true rfl) (Nat.le_of_ble_eq_true rfl) hf7.ge hf7.lt (congrArg Prod.fst hf7.2.2.1) ?_
          refine Go.to (fun r G' D11 hr => ?_) h
          obtain ⟨rfl, z12, rfl, h⟩ := hr
          show Go E (d + 1) kc ks mX11_act 81 [some (vR 2), some (vI x1), some (vI x2), some (vI x3), some (vR z4)] [vI z12] G5 D11 Q
          exact g_iret dX11_act_81 rfl h
        · replace h := h.2.2 hc hc2
          refine g_aload dX11_act_82 rfl ?_
          refine g_iload_n dX11_act_84 rfl rfl ?_
          refine g_callU (kc := kc) (kc' := 0) (ks := ks) (ks' := 0) (as := [vI x3]) (st := []) (ci := 4) (C := RX5) dX11_act_85 cB_X2_marks lk_X11_285 sm_X2_marks (by decide) (by decide +kernel) (Or.inl ⟨in_X2_marks, _, _, _, cB_X2_marks.1⟩) in_X2_marks se_X2_marks_X5 (by decide) rfl rfl (Nat.le_of_ble_eq_true rfl) (Nat.le_of_ble_eq_true rfl) hf7.ge hf7.lt (congrArg Prod.fst hf7.2.2.1) ?_
          refine Go.to (fun r G' D13 hr => ?_) h
          obtain ⟨rfl, z14, rfl, h⟩ := hr
          show Go E (d + 1) kc ks mX11_act 88 [some (vR 2), some (vI x1), some (vI x2), some (vI x3), some (vR z4)] [vI z14] G5 D13 Q
          exact g_iret dX11_act_88 rfl h
      · replace h := h.2 hc
        refine g_iconst dX11_act_26 ?_
        exact g_iret dX11_act_27 rfl h
set_option maxRecDepth 20000 in
theorem w_X11_act_k5 {E : mmE} {d kc ks : Nat} {G : mmG} {D : mmD} {Q : mmQ} {x1 x2 x3 : Int} (hG : Sh G)  (h : (∀ G1 : mmG, G1 = (G.1, G.2.1, up2 G.2.2 2 9 0) → Call E d 0 0 mX11_eventAt [vR 2, vI x1] G1 D (retR G1 (fun z4 D3 => ((z4 = 0 → Q (some (vI 0)) G1 D3) ∧ (¬ z4 = 0 → ((iv x2 < iv 0 → Q (some (vI 0)) G1 D3) ∧ (¬ iv x2 < iv 0 → ((iv x2 ≤ iv 2 → (∀ G5 : mmG, G5 = (G1.1, G1.2.1, up2 G1.2.2 2 9 z4) → (isEv G5 5 z4 ∧ (∀ D8 : mmD, D8 = up2 D3 z4 6 0 → (((iv x2).toInt = 0 → Call E d 0 0 mX8_tells [vR z4, vI x3] G5 D8 (retI G5 (fun z10 D9 => Q (some (vI z10)) G5 D9))) ∧ ((iv x2).toInt = 1 → Call E d 0 0 mX6_leads [vR z4, vI x3] G5 D8 (retI G5 (fun z12 D11 => Q (some (vI z12)) G5 D11))) ∧ (¬ (iv x2).toInt = 0 → ¬ (iv x2).toInt = 1 → Call E d 0 0 mX2_marks [vR z4, vI x3] G5 D8 (retI G5 (fun z14 D13 => Q (some (vI z14)) G5 D13)))))))) ∧ (¬ iv x2 ≤ iv 2 → Q (some (vI 0)) G1 D3)))))))))) : Call E (d + 1) kc ks mX11_act [vR 2, vI x1, vI x2, vI x3] G D Q := by
  show Go E (d + 1) kc ks mX11_act 0 [some (vR 2), some (vI x1), some (vI x2), some (vI x3), none] [] G D Q
  refine g_aload_n dX11_act_0 rfl rfl ?_
  refine g_null dX11_act_1 ?_
  refine h_putR (j := 9) dX11_act_2 f_X11_272_10 (Or.inl (mm_finI (by decide +kernel))) (Or.inl ⟨_, rfl⟩) rfl (by decide) hG.k2 (by decide) (hG.lt (by decide)) ?_
  have hG2 := hG.lat (x := 0)
  generalize hG_G1 : ((G.1, G.2.1, up2 G.2.2 2 9 0) : mmG) = G1 at hG2 ⊢
  replace h := h _ hG_G1.symm
  refine g_aload_n dX11_act_5 rfl rfl ?_
  refine g_iload_n dX11_act_6 rfl rfl ?_
  refine g_callV (kc := kc) (kc' := 0) (ks := ks) (ks' := 0) (as := [vI x1]) (st := []) (ci := 10) dX11_act_7 cB_X11_eventAt lk_X11_167 in_X11_eventAt se_X11_eventAt (by decide) rfl rfl (Nat.le_of_ble_eq_true rfl) (Nat.le_of_ble_eq_true rfl) (by decide) (hG2.lt (by decide)) (congrArg Prod.fst hG2.k2) ?_
  refine Go.to (fun r G' D3 hr => ?_) h
  obtain ⟨rfl, z4, rfl, h⟩ := hr
  show Go E (d + 1) kc ks mX11_act 10 [some (vR 2), some (vI x1), some (vI x2), some (vI x3), none] [vR z4] G1 D3 Q
  refine h_astore (L' := [some (vR 2), some (vI x1), some (vI x2), some (vI x3), some (vR z4)]) dX11_act_10 (Nat.le_of_ble_eq_true rfl) rfl rfl ?_
  refine g_aload dX11_act_12 rfl ?_
  refine g_ifnull 26 dX11_act_14 (by decide) ⟨fun hc => ?_, fun hc => ?_⟩
  · replace h := h.1 hc
    refine g_iconst dX11_act_26 ?_
    exact g_iret dX11_act_27 rfl h
  · replace h := h.2 hc
    refine g_iload_n dX11_act_17 rfl rfl ?_
    refine g_if_lt 26 dX11_act_18 (by decide) ⟨fun hc => ?_, fun hc => ?_⟩
    · replace h := h.1 hc
      refine g_iconst dX11_act_26 ?_
      exact g_iret dX11_act_27 rfl h
    · replace h := h.2 hc
      refine g_iload_n dX11_act_21 rfl rfl ?_
      refine g_iconst dX11_act_22 ?_
      refine g_icmp_le 28 dX11_act_23 (by decide) ⟨fun hc => ?_, fun hc => ?_⟩
      · replace h := h.1 hc
        refine g_aload_n dX11_act_28 rfl rfl ?_
        refine g_aload dX11_act_29 rfl ?_
        refine h_putR (j := 9) dX11_act_31 f_X11_272_10 (Or.inl (mm_finI (by decide +kernel))) (Or.inl ⟨_, rfl⟩) rfl (by decide) hG2.k2 (by decide) (hG2.lt (by decide)) ?_
        have hG6 := hG2.lat (x := z4)
        generalize hG_G5 : ((G1.1, G1.2.1, up2 G1.2.2 2 9 z4) : mmG) = G5 at hG6 ⊢
        replace h := h _ hG_G5.symm
        refine g_aload dX11_act_34 rfl ?_
        refine g_iconst dX11_act_36 ?_
        have hf7 := h.1
        replace h := h.2
        refine h_putI (j := 6) dX11_act_37 f_X11_276_5 (Or.inl (mm_finI (by decide +kernel))) rfl rfl (by decide) hf7.2.2.1 hf7.ge hf7.lt ?_
        generalize hD_D8 : up2 D3 z4 6 0 = D8
        replace h := h _ hD_D8.symm
        refine g_iload_n dX11_act_40 rfl rfl ?_
        refine g_lswitch2 82 68 75 dX11_act_41 (by decide) (by decide) (by decide) (by decide) (fun hc => ?_) (fun hc => ?_) (fun hc hc2 => ?_)
        · replace h := h.1 hc
          refine g_aload dX11_act_68 rfl ?_
          refine g_iload_n dX11_act_70 rfl rfl ?_
          refine g_callU (kc := kc) (kc' := 0) (ks := ks) (ks' := 0) (as := [vI x3]) (st := []) (ci := 5) (C := RX6) dX11_act_71 cB_X8_tells lk_X11_279 sm_X2_tells (by decide) (by decide +kernel) (Or.inl ⟨in_X2_tells, _, _, _, cB_X2_tells.1⟩) in_X8_tells se_X2_tells_X6 (by decide) rfl rfl (Nat.le_of_ble_eq_true rfl) (Nat.le_of_ble_eq_true rfl) hf7.ge hf7.lt (congrArg Prod.fst hf7.2.2.1) ?_
          refine Go.to (fun r G' D9 hr => ?_) h
          obtain ⟨rfl, z10, rfl, h⟩ := hr
          show Go E (d + 1) kc ks mX11_act 74 [some (vR 2), some (vI x1), some (vI x2), some (vI x3), some (vR z4)] [vI z10] G5 D9 Q
          exact g_iret dX11_act_74 rfl h
        · replace h := h.2.1 hc
          refine g_aload dX11_act_75 rfl ?_
          refine g_iload_n dX11_act_77 rfl rfl ?_
          refine g_callU (kc := kc) (kc' := 0) (ks := ks) (ks' := 0) (as := [vI x3]) (st := []) (ci := 5) (C := RX6) dX11_act_78 cB_X6_leads lk_X11_282 sm_X2_leads (by decide) (by decide +kernel) (Or.inl ⟨in_X2_leads, _, _, _, cB_X2_leads.1⟩) in_X6_leads se_X2_leads_X6 (by decide) rfl rfl (Nat.le_of_ble_eq_true rfl) (Nat.le_of_ble_eq_true rfl) hf7.ge hf7.lt (congrArg Prod.fst hf7.2.2.1) ?_
          refine Go.to (fun r G' D11 hr => ?_) h
          obtain ⟨rfl, z12, rfl, h⟩ := hr
          show Go E (d + 1) kc ks mX11_act 81 [some (vR 2), some (vI x1), some (vI x2), some (vI x3), some (vR z4)] [vI z12] G5 D11 Q
          exact g_iret dX11_act_81 rfl h
        · replace h := h.2.2 hc hc2
          refine g_aload dX11_act_82 rfl ?_
          refine g_iload_n dX11_act_84 rfl rfl ?_
          refine g_callU (kc := kc) (kc' := 0) (ks := ks) (ks' := 0) (as := [vI x3]) (st := []) (ci := 5) (C := RX6) dX11_act_85 cB_X2_marks lk_X11_285 sm_X2_marks (by decide) (by decide +kernel) (Or.inl ⟨in_X2_marks, _, _, _, cB_X2_marks.1⟩) in_X2_marks se_X2_marks_X6 (by decide) rfl rfl (Nat.le_of_ble_eq_true rfl) (Nat.le_of_ble_eq_true rfl) hf7.ge hf7.lt (congrArg Prod.fst hf7.2.2.1) ?_
          refine Go.to (fun r G' D13 hr => ?_) h
          obtain ⟨rfl, z14, rfl, h⟩ := hr
          show Go E (d + 1) kc ks mX11_act 88 [some (vR 2), some (vI x1), some (vI x2), some (vI x3), some (vR z4)] [vI z14] G5 D13 Q
          exact g_iret dX11_act_88 rfl h
      · replace h := h.2 hc
        refine g_iconst dX11_act_26 ?_
        exact g_iret dX11_act_27 rfl h
set_option maxRecDepth 20000 in
theorem w_X11_act_k7 {E : mmE} {d kc ks : Nat} {G : mmG} {D : mmD} {Q : mmQ} {x1 x2 x3 : Int} (hG : Sh G)  (h : (∀ G1 : mmG, G1 = (G.1, G.2.1, up2 G.2.2 2 9 0) → Call E d 0 0 mX11_eventAt [vR 2, vI x1] G1 D (retR G1 (fun z4 D3 => ((z4 = 0 → Q (some (vI 0)) G1 D3) ∧ (¬ z4 = 0 → ((iv x2 < iv 0 → Q (some (vI 0)) G1 D3) ∧ (¬ iv x2 < iv 0 → ((iv x2 ≤ iv 2 → (∀ G5 : mmG, G5 = (G1.1, G1.2.1, up2 G1.2.2 2 9 z4) → (isEv G5 7 z4 ∧ (∀ D8 : mmD, D8 = up2 D3 z4 6 0 → (((iv x2).toInt = 0 → Call E d 0 0 mX8_tells [vR z4, vI x3] G5 D8 (retI G5 (fun z10 D9 => Q (some (vI z10)) G5 D9))) ∧ ((iv x2).toInt = 1 → Call E d 0 0 mX2_leads [vR z4, vI x3] G5 D8 (retI G5 (fun z12 D11 => Q (some (vI z12)) G5 D11))) ∧ (¬ (iv x2).toInt = 0 → ¬ (iv x2).toInt = 1 → Call E d 0 0 mX2_marks [vR z4, vI x3] G5 D8 (retI G5 (fun z14 D13 => Q (some (vI z14)) G5 D13)))))))) ∧ (¬ iv x2 ≤ iv 2 → Q (some (vI 0)) G1 D3)))))))))) : Call E (d + 1) kc ks mX11_act [vR 2, vI x1, vI x2, vI x3] G D Q := by
  show Go E (d + 1) kc ks mX11_act 0 [some (vR 2), some (vI x1), some (vI x2), some (vI x3), none] [] G D Q
  refine g_aload_n dX11_act_0 rfl rfl ?_
  refine g_null dX11_act_1 ?_
  refine h_putR (j := 9) dX11_act_2 f_X11_272_10 (Or.inl (mm_finI (by decide +kernel))) (Or.inl ⟨_, rfl⟩) rfl (by decide) hG.k2 (by decide) (hG.lt (by decide)) ?_
  have hG2 := hG.lat (x := 0)
  generalize hG_G1 : ((G.1, G.2.1, up2 G.2.2 2 9 0) : mmG) = G1 at hG2 ⊢
  replace h := h _ hG_G1.symm
  refine g_aload_n dX11_act_5 rfl rfl ?_
  refine g_iload_n dX11_act_6 rfl rfl ?_
  refine g_callV (kc := kc) (kc' := 0) (ks := ks) (ks' := 0) (as := [vI x1]) (st := []) (ci := 10) dX11_act_7 cB_X11_eventAt lk_X11_167 in_X11_eventAt se_X11_eventAt (by decide) rfl rfl (Nat.le_of_ble_eq_true rfl) (Nat.le_of_ble_eq_true rfl) (by decide) (hG2.lt (by decide)) (congrArg Prod.fst hG2.k2) ?_
  refine Go.to (fun r G' D3 hr => ?_) h
  obtain ⟨rfl, z4, rfl, h⟩ := hr
  show Go E (d + 1) kc ks mX11_act 10 [some (vR 2), some (vI x1), some (vI x2), some (vI x3), none] [vR z4] G1 D3 Q
  refine h_astore (L' := [some (vR 2), some (vI x1), some (vI x2), some (vI x3), some (vR z4)]) dX11_act_10 (Nat.le_of_ble_eq_true rfl) rfl rfl ?_
  refine g_aload dX11_act_12 rfl ?_
  refine g_ifnull 26 dX11_act_14 (by decide) ⟨fun hc => ?_, fun hc => ?_⟩
  · replace h := h.1 hc
    refine g_iconst dX11_act_26 ?_
    exact g_iret dX11_act_27 rfl h
  · replace h := h.2 hc
    refine g_iload_n dX11_act_17 rfl rfl ?_
    refine g_if_lt 26 dX11_act_18 (by decide) ⟨fun hc => ?_, fun hc => ?_⟩
    · replace h := h.1 hc
      refine g_iconst dX11_act_26 ?_
      exact g_iret dX11_act_27 rfl h
    · replace h := h.2 hc
      refine g_iload_n dX11_act_21 rfl rfl ?_
      refine g_iconst dX11_act_22 ?_
      refine g_icmp_le 28 dX11_act_23 (by decide) ⟨fun hc => ?_, fun hc => ?_⟩
      · replace h := h.1 hc
        refine g_aload_n dX11_act_28 rfl rfl ?_
        refine g_aload dX11_act_29 rfl ?_
        refine h_putR (j := 9) dX11_act_31 f_X11_272_10 (Or.inl (mm_finI (by decide +kernel))) (Or.inl ⟨_, rfl⟩) rfl (by decide) hG2.k2 (by decide) (hG2.lt (by decide)) ?_
        have hG6 := hG2.lat (x := z4)
        generalize hG_G5 : ((G1.1, G1.2.1, up2 G1.2.2 2 9 z4) : mmG) = G5 at hG6 ⊢
        replace h := h _ hG_G5.symm
        refine g_aload dX11_act_34 rfl ?_
        refine g_iconst dX11_act_36 ?_
        have hf7 := h.1
        replace h := h.2
        refine h_putI (j := 6) dX11_act_37 f_X11_276_7 (Or.inl (mm_finI (by decide +kernel))) rfl rfl (by decide) hf7.2.2.1 hf7.ge hf7.lt ?_
        generalize hD_D8 : up2 D3 z4 6 0 = D8
        replace h := h _ hD_D8.symm
        refine g_iload_n dX11_act_40 rfl rfl ?_
        refine g_lswitch2 82 68 75 dX11_act_41 (by decide) (by decide) (by decide) (by decide) (fun hc => ?_) (fun hc => ?_) (fun hc hc2 => ?_)
        · replace h := h.1 hc
          refine g_aload dX11_act_68 rfl ?_
          refine g_iload_n dX11_act_70 rfl rfl ?_
          refine g_callU (kc := kc) (kc' := 0) (ks := ks) (ks' := 0) (as := [vI x3]) (st := []) (ci := 7) (C := RX8) dX11_act_71 cB_X8_tells lk_X11_279 sm_X2_tells (by decide) (by decide +kernel) (Or.inl ⟨in_X2_tells, _, _, _, cB_X2_tells.1⟩) in_X8_tells se_X2_tells_X8 (by decide) rfl rfl (Nat.le_of_ble_eq_true rfl) (Nat.le_of_ble_eq_true rfl) hf7.ge hf7.lt (congrArg Prod.fst hf7.2.2.1) ?_
          refine Go.to (fun r G' D9 hr => ?_) h
          obtain ⟨rfl, z10, rfl, h⟩ := hr
          show Go E (d + 1) kc ks mX11_act 74 [some (vR 2), some (vI x1), some (vI x2), some (vI x3), some (vR z4)] [vI z10] G5 D9 Q
          exact g_iret dX11_act_74 rfl h
        · replace h := h.2.1 hc
          refine g_aload dX11_act_75 rfl ?_
          refine g_iload_n dX11_act_77 rfl rfl ?_
          refine g_callU (kc := kc) (kc' := 0) (ks := ks) (ks' := 0) (as := [vI x3]) (st := []) (ci := 7) (C := RX8) dX11_act_78 cB_X2_leads lk_X11_282 sm_X2_leads (by decide) (by decide +kernel) (Or.inl ⟨in_X2_leads, _, _, _, cB_X2_leads.1⟩) in_X2_leads se_X2_leads_X8 (by decide) rfl rfl (Nat.le_of_ble_eq_true rfl) (Nat.le_of_ble_eq_true rfl) hf7.ge hf7.lt (congrArg Prod.fst hf7.2.2.1) ?_
          refine Go.to (fun r G' D11 hr => ?_) h
          obtain ⟨rfl, z12, rfl, h⟩ := hr
          show Go E (d + 1) kc ks mX11_act 81 [some (vR 2), some (vI x1), some (vI x2), some (vI x3), some (vR z4)] [vI z12] G5 D11 Q
          exact g_iret dX11_act_81 rfl h
        · replace h := h.2.2 hc hc2
          refine g_aload dX11_act_82 rfl ?_
          refine g_iload_n dX11_act_84 rfl rfl ?_
          refine g_callU (kc := kc) (kc' := 0) (ks := ks) (ks' := 0) (as := [vI x3]) (st := []) (ci := 7) (C := RX8) dX11_act_85 cB_X2_marks lk_X11_285 sm_X2_marks (by decide) (by decide +kernel) (Or.inl ⟨in_X2_marks, _, _, _, cB_X2_marks.1⟩) in_X2_marks se_X2_marks_X8 (by decide) rfl rfl (Nat.le_of_ble_eq_true rfl) (Nat.le_of_ble_eq_true rfl) hf7.ge hf7.lt (congrArg Prod.fst hf7.2.2.1) ?_
          refine Go.to (fun r G' D13 hr => ?_) h
          obtain ⟨rfl, z14, rfl, h⟩ := hr
          show Go E (d + 1) kc ks mX11_act 88 [some (vR 2), some (vI x1), some (vI x2), some (vI x3), some (vR z4)] [vI z14] G5 D13 Q
          exact g_iret dX11_act_88 rfl h
      · replace h := h.2 hc
        refine g_iconst dX11_act_26 ?_
        exact g_iret dX11_act_27 rfl h
set_option maxRecDepth 20000 in
theorem w_X11_act_k8 {E : mmE} {d kc ks : Nat} {G : mmG} {D : mmD} {Q : mmQ} {x1 x2 x3 : Int} (hG : Sh G)  (h : (∀ G1 : mmG, G1 = (G.1, G.2.1, up2 G.2.2 2 9 0) → Call E d 0 0 mX11_eventAt [vR 2, vI x1] G1 D (retR G1 (fun z4 D3 => ((z4 = 0 → Q (some (vI 0)) G1 D3) ∧ (¬ z4 = 0 → ((iv x2 < iv 0 → Q (some (vI 0)) G1 D3) ∧ (¬ iv x2 < iv 0 → ((iv x2 ≤ iv 2 → (∀ G5 : mmG, G5 = (G1.1, G1.2.1, up2 G1.2.2 2 9 z4) → (isEv G5 8 z4 ∧ (∀ D8 : mmD, D8 = up2 D3 z4 6 0 → (((iv x2).toInt = 0 → Call E d 0 0 mX2_tells [vR z4, vI x3] G5 D8 (retI G5 (fun z10 D9 => Q (some (vI z10)) G5 D9))) ∧ ((iv x2).toInt = 1 → Call E d 0 0 mX2_leads [vR z4, vI x3] G5 D8 (retI G5 (fun z12 D11 => Q (some (vI z12)) G5 D11))) ∧ (¬ (iv x2).toInt = 0 → ¬ (iv x2).toInt = 1 → Call E d 0 0 mX9_marks [vR z4, vI x3] G5 D8 (retI G5 (fun z14 D13 => Q (some (vI z14)) G5 D13)))))))) ∧ (¬ iv x2 ≤ iv 2 → Q (some (vI 0)) G1 D3)))))))))) : Call E (d + 1) kc ks mX11_act [vR 2, vI x1, vI x2, vI x3] G D Q := by
  show Go E (d + 1) kc ks mX11_act 0 [some (vR 2), some (vI x1), some (vI x2), some (vI x3), none] [] G D Q
  refine g_aload_n dX11_act_0 rfl rfl ?_
  refine g_null dX11_act_1 ?_
  refine h_putR (j := 9) dX11_act_2 f_X11_272_10 (Or.inl (mm_finI (by decide +kernel))) (Or.inl ⟨_, rfl⟩) rfl (by decide) hG.k2 (by decide) (hG.lt (by decide)) ?_
  have hG2 := hG.lat (x := 0)
  generalize hG_G1 : ((G.1, G.2.1, up2 G.2.2 2 9 0) : mmG) = G1 at hG2 ⊢
  replace h := h _ hG_G1.symm
  refine g_aload_n dX11_act_5 rfl rfl ?_
  refine g_iload_n dX11_act_6 rfl rfl ?_
  refine g_callV (kc := kc) (kc' := 0) (ks := ks) (ks' := 0) (as := [vI x1]) (st := []) (ci := 10) dX11_act_7 cB_X11_eventAt lk_X11_167 in_X11_eventAt se_X11_eventAt (by decide) rfl rfl (Nat.le_of_ble_eq_true rfl) (Nat.le_of_ble_eq_true rfl) (by decide) (hG2.lt (by decide)) (congrArg Prod.fst hG2.k2) ?_
  refine Go.to (fun r G' D3 hr => ?_) h
  obtain ⟨rfl, z4, rfl, h⟩ := hr
  show Go E (d + 1) kc ks mX11_act 10 [some (vR 2), some (vI x1), some (vI x2), some (vI x3), none] [vR z4] G1 D3 Q
  refine h_astore (L' := [some (vR 2), some (vI x1), some (vI x2), some (vI x3), some (vR z4)]) dX11_act_10 (Nat.le_of_ble_eq_true rfl) rfl rfl ?_
  refine g_aload dX11_act_12 rfl ?_
  refine g_ifnull 26 dX11_act_14 (by decide) ⟨fun hc => ?_, fun hc => ?_⟩
  · replace h := h.1 hc
    refine g_iconst dX11_act_26 ?_
    exact g_iret dX11_act_27 rfl h
  · replace h := h.2 hc
    refine g_iload_n dX11_act_17 rfl rfl ?_
    refine g_if_lt 26 dX11_act_18 (by decide) ⟨fun hc => ?_, fun hc => ?_⟩
    · replace h := h.1 hc
      refine g_iconst dX11_act_26 ?_
      exact g_iret dX11_act_27 rfl h
    · replace h := h.2 hc
      refine g_iload_n dX11_act_21 rfl rfl ?_
      refine g_iconst dX11_act_22 ?_
      refine g_icmp_le 28 dX11_act_23 (by decide) ⟨fun hc => ?_, fun hc => ?_⟩
      · replace h := h.1 hc
        refine g_aload_n dX11_act_28 rfl rfl ?_
        refine g_aload dX11_act_29 rfl ?_
        refine h_putR (j := 9) dX11_act_31 f_X11_272_10 (Or.inl (mm_finI (by decide +kernel))) (Or.inl ⟨_, rfl⟩) rfl (by decide) hG2.k2 (by decide) (hG2.lt (by decide)) ?_
        have hG6 := hG2.lat (x := z4)
        generalize hG_G5 : ((G1.1, G1.2.1, up2 G1.2.2 2 9 z4) : mmG) = G5 at hG6 ⊢
        replace h := h _ hG_G5.symm
        refine g_aload dX11_act_34 rfl ?_
        refine g_iconst dX11_act_36 ?_
        have hf7 := h.1
        replace h := h.2
        refine h_putI (j := 6) dX11_act_37 f_X11_276_8 (Or.inl (mm_finI (by decide +kernel))) rfl rfl (by decide) hf7.2.2.1 hf7.ge hf7.lt ?_
        generalize hD_D8 : up2 D3 z4 6 0 = D8
        replace h := h _ hD_D8.symm
        refine g_iload_n dX11_act_40 rfl rfl ?_
        refine g_lswitch2 82 68 75 dX11_act_41 (by decide) (by decide) (by decide) (by decide) (fun hc => ?_) (fun hc => ?_) (fun hc hc2 => ?_)
        · replace h := h.1 hc
          refine g_aload dX11_act_68 rfl ?_
          refine g_iload_n dX11_act_70 rfl rfl ?_
          refine g_callU (kc := kc) (kc' := 0) (ks := ks) (ks' := 0) (as := [vI x3]) (st := []) (ci := 8) (C := RX9) dX11_act_71 cB_X2_tells lk_X11_279 sm_X2_tells (by decide) (by decide +kernel) (Or.inl ⟨in_X2_tells, _, _, _, cB_X2_tells.1⟩) in_X2_tells se_X2_tells_X9 (by decide) rfl rfl (Nat.le_of_ble_eq_true rfl) (Nat.le_of_ble_eq_true rfl) hf7.ge hf7.lt (congrArg Prod.fst hf7.2.2.1) ?_
          refine Go.to (fun r G' D9 hr => ?_) h
          obtain ⟨rfl, z10, rfl, h⟩ := hr
          show Go E (d + 1) kc ks mX11_act 74 [some (vR 2), some (vI x1), some (vI x2), some (vI x3), some (vR z4)] [vI z10] G5 D9 Q
          exact g_iret dX11_act_74 rfl h
        · replace h := h.2.1 hc
          refine g_aload dX11_act_75 rfl ?_
          refine g_iload_n dX11_act_77 rfl rfl ?_
          refine g_callU (kc := kc) (kc' := 0) (ks := ks) (ks' := 0) (as := [vI x3]) (st := []) (ci := 8) (C := RX9) dX11_act_78 cB_X2_leads lk_X11_282 sm_X2_leads (by decide) (by decide +kernel) (Or.inl ⟨in_X2_leads, _, _, _, cB_X2_leads.1⟩) in_X2_leads se_X2_leads_X9 (by decide) rfl rfl (Nat.le_of_ble_eq_true rfl) (Nat.le_of_ble_eq_true rfl) hf7.ge hf7.lt (congrArg Prod.fst hf7.2.2.1) ?_
          refine Go.to (fun r G' D11 hr => ?_) h
          obtain ⟨rfl, z12, rfl, h⟩ := hr
          show Go E (d + 1) kc ks mX11_act 81 [some (vR 2), some (vI x1), some (vI x2), some (vI x3), some (vR z4)] [vI z12] G5 D11 Q
          exact g_iret dX11_act_81 rfl h
        · replace h := h.2.2 hc hc2
          refine g_aload dX11_act_82 rfl ?_
          refine g_iload_n dX11_act_84 rfl rfl ?_
          refine g_callU (kc := kc) (kc' := 0) (ks := ks) (ks' := 0) (as := [vI x3]) (st := []) (ci := 8) (C := RX9) dX11_act_85 cB_X9_marks lk_X11_285 sm_X2_marks (by decide) (by decide +kernel) (Or.inl ⟨in_X2_marks, _, _, _, cB_X2_marks.1⟩) in_X9_marks se_X2_marks_X9 (by decide) rfl rfl (Nat.le_of_ble_eq_true rfl) (Nat.le_of_ble_eq_true rfl) hf7.ge hf7.lt (congrArg Prod.fst hf7.2.2.1) ?_
          refine Go.to (fun r G' D13 hr => ?_) h
          obtain ⟨rfl, z14, rfl, h⟩ := hr
          show Go E (d + 1) kc ks mX11_act 88 [some (vR 2), some (vI x1), some (vI x2), some (vI x3), some (vR z4)] [vI z14] G5 D13 Q
          exact g_iret dX11_act_88 rfl h
      · replace h := h.2 hc
        refine g_iconst dX11_act_26 ?_
        exact g_iret dX11_act_27 rfl h
set_option maxRecDepth 20000 in
theorem w_X11_as_k1 {E : mmE} {d kc ks : Nat} {G : mmG} {D : mmD} {Q : mmQ} {x1 x2 : Int} (hG : Sh G)  (h : Call E d 0 0 mX11_eventAt [vR 2, vI x1] G D (retR G (fun z2 D1 => ((z2 = 0 → Q (some (vI (-1))) G D1) ∧ (¬ z2 = 0 → ((iv x2 < iv 0 → Q (some (vI (-1))) G D1) ∧ (¬ iv x2 < iv 0 → ((iv x2 ≤ iv 6 → Call E d 0 0 mX11_isOfKind [vR z2, vI x2] G D1 (retI G (fun z4 D3 => ((iv z4 = iv 0 → Q (some (vI (-6))) G D3) ∧ (¬ iv z4 = iv 0 → (isEv G 1 z2 ∧ Q (some (vI (D3 z2 1))) G D3)))))) ∧ (¬ iv x2 ≤ iv 6 → Q (some (vI (-1))) G D1))))))))) : Call E (d + 1) kc ks mX11_as [vR 2, vI x1, vI x2] G D Q := by
  show Go E (d + 1) kc ks mX11_as 0 [some (vR 2), some (vI x1), some (vI x2), none] [] G D Q
  refine g_aload_n dX11_as_0 rfl rfl ?_
  refine g_iload_n dX11_as_1 rfl rfl ?_
  refine g_callV (kc := kc) (kc' := 0) (ks := ks) (ks' := 0) (as := [vI x1]) (st := []) (ci := 10) dX11_as_2 cB_X11_eventAt lk_X11_167 in_X11_eventAt se_X11_eventAt (by decide) rfl rfl (Nat.le_of_ble_eq_true rfl) (Nat.le_of_ble_eq_true rfl) (by decide) (hG.lt (by decide)) (congrArg Prod.fst hG.k2) ?_
  refine Go.to (fun r G' D1 hr => ?_) h
  obtain ⟨rfl, z2, rfl, h⟩ := hr
  show Go E (d + 1) kc ks mX11_as 5 [some (vR 2), some (vI x1), some (vI x2), none] [vR z2] G D1 Q
  refine h_astore_n (L' := [some (vR 2), some (vI x1), some (vI x2), some (vR z2)]) dX11_as_5 rfl (Nat.le_of_ble_eq_true rfl) rfl rfl ?_
  refine g_aload_n dX11_as_6 rfl rfl ?_
  refine g_ifnull 20 dX11_as_7 (by decide) ⟨fun hc => ?_, fun hc => ?_⟩
  · replace h := h.1 hc
    refine g_iconst dX11_as_20 ?_
    exact g_iret dX11_as_21 rfl h
  · replace h := h.2 hc
    refine g_iload_n dX11_as_10 rfl rfl ?_
    refine g_if_lt 20 dX11_as_11 (by decide) ⟨fun hc => ?_, fun hc => ?_⟩
    · replace h := h.1 hc
      refine g_iconst dX11_as_20 ?_
      exact g_iret dX11_as_21 rfl h
    · replace h := h.2 hc
      refine g_iload_n dX11_as_14 rfl rfl ?_
      refine g_bipush dX11_as_15 bp_6 ?_
      refine g_icmp_le 22 dX11_as_17 (by decide) ⟨fun hc => ?_, fun hc => ?_⟩
      · replace h := h.1 hc
        refine g_aload_n dX11_as_22 rfl rfl ?_
        refine g_iload_n dX11_as_23 rfl rfl ?_
        refine g_callS (kc := kc) (kc' := 0) (ks := ks) (ks' := 0) (as := [vR z2, vI x2]) (st := []) dX11_as_24 cB_X11_isOfKind lk_X11_291 st_X11_isOfKind rfl (Nat.le_of_ble_eq_true rfl) (Nat.le_of_ble_eq_true rfl) ?_
        refine Go.to (fun r G' D3 hr => ?_) h
        obtain ⟨rfl, z4, rfl, h⟩ := hr
        show Go E (d + 1) kc ks mX11_as 27 [some (vR 2), some (vI x1), some (vI x2), some (vR z2)] [vI z4] G D3 Q
        refine g_if_eq 37 dX11_as_27 (by decide) ⟨fun hc => ?_, fun hc => ?_⟩
        · replace h := h.1 hc
          refine g_bipush dX11_as_37 bp_m6 ?_
          exact g_iret dX11_as_39 rfl h
        · replace h := h.2 hc
          refine g_aload_n dX11_as_30 rfl rfl ?_
          have hf5 := h.1
          replace h := h.2
          refine h_getI (j := 1) dX11_as_31 f_X11_175_1 rfl rfl (by decide) hf5.2.2.1 hf5.ge hf5.lt ?_
          refine g_goto 39 dX11_as_34 (by decide) ?_
          exact g_iret dX11_as_39 rfl h
      · replace h := h.2 hc
        refine g_iconst dX11_as_20 ?_
        exact g_iret dX11_as_21 rfl h
set_option maxRecDepth 20000 in
theorem w_X11_as_k2 {E : mmE} {d kc ks : Nat} {G : mmG} {D : mmD} {Q : mmQ} {x1 x2 : Int} (hG : Sh G)  (h : Call E d 0 0 mX11_eventAt [vR 2, vI x1] G D (retR G (fun z2 D1 => ((z2 = 0 → Q (some (vI (-1))) G D1) ∧ (¬ z2 = 0 → ((iv x2 < iv 0 → Q (some (vI (-1))) G D1) ∧ (¬ iv x2 < iv 0 → ((iv x2 ≤ iv 6 → Call E d 0 0 mX11_isOfKind [vR z2, vI x2] G D1 (retI G (fun z4 D3 => ((iv z4 = iv 0 → Q (some (vI (-6))) G D3) ∧ (¬ iv z4 = iv 0 → (isEv G 2 z2 ∧ Q (some (vI (D3 z2 1))) G D3)))))) ∧ (¬ iv x2 ≤ iv 6 → Q (some (vI (-1))) G D1))))))))) : Call E (d + 1) kc ks mX11_as [vR 2, vI x1, vI x2] G D Q := by
  show Go E (d + 1) kc ks mX11_as 0 [some (vR 2), some (vI x1), some (vI x2), none] [] G D Q
  refine g_aload_n dX11_as_0 rfl rfl ?_
  refine g_iload_n dX11_as_1 rfl rfl ?_
  refine g_callV (kc := kc) (kc' := 0) (ks := ks) (ks' := 0) (as := [vI x1]) (st := []) (ci := 10) dX11_as_2 cB_X11_eventAt lk_X11_167 in_X11_eventAt se_X11_eventAt (by decide) rfl rfl (Nat.le_of_ble_eq_true rfl) (Nat.le_of_ble_eq_true rfl) (by decide) (hG.lt (by decide)) (congrArg Prod.fst hG.k2) ?_
  refine Go.to (fun r G' D1 hr => ?_) h
  obtain ⟨rfl, z2, rfl, h⟩ := hr
  show Go E (d + 1) kc ks mX11_as 5 [some (vR 2), some (vI x1), some (vI x2), none] [vR z2] G D1 Q
  refine h_astore_n (L' := [some (vR 2), some (vI x1), some (vI x2), some (vR z2)]) dX11_as_5 rfl (Nat.le_of_ble_eq_true rfl) rfl rfl ?_
  refine g_aload_n dX11_as_6 rfl rfl ?_
  refine g_ifnull 20 dX11_as_7 (by decide) ⟨fun hc => ?_, fun hc => ?_⟩
  · replace h := h.1 hc
    refine g_iconst dX11_as_20 ?_
    exact g_iret dX11_as_21 rfl h
  · replace h := h.2 hc
    refine g_iload_n dX11_as_10 rfl rfl ?_
    refine g_if_lt 20 dX11_as_11 (by decide) ⟨fun hc => ?_, fun hc => ?_⟩
    · replace h := h.1 hc
      refine g_iconst dX11_as_20 ?_
      exact g_iret dX11_as_21 rfl h
    · replace h := h.2 hc
      refine g_iload_n dX11_as_14 rfl rfl ?_
      refine g_bipush dX11_as_15 bp_6 ?_
      refine g_icmp_le 22 dX11_as_17 (by decide) ⟨fun hc => ?_, fun hc => ?_⟩
      · replace h := h.1 hc
        refine g_aload_n dX11_as_22 rfl rfl ?_
        refine g_iload_n dX11_as_23 rfl rfl ?_
        refine g_callS (kc := kc) (kc' := 0) (ks := ks) (ks' := 0) (as := [vR z2, vI x2]) (st := []) dX11_as_24 cB_X11_isOfKind lk_X11_291 st_X11_isOfKind rfl (Nat.le_of_ble_eq_true rfl) (Nat.le_of_ble_eq_true rfl) ?_
        refine Go.to (fun r G' D3 hr => ?_) h
        obtain ⟨rfl, z4, rfl, h⟩ := hr
        show Go E (d + 1) kc ks mX11_as 27 [some (vR 2), some (vI x1), some (vI x2), some (vR z2)] [vI z4] G D3 Q
        refine g_if_eq 37 dX11_as_27 (by decide) ⟨fun hc => ?_, fun hc => ?_⟩
        · replace h := h.1 hc
          refine g_bipush dX11_as_37 bp_m6 ?_
          exact g_iret dX11_as_39 rfl h
        · replace h := h.2 hc
          refine g_aload_n dX11_as_30 rfl rfl ?_
          have hf5 := h.1
          replace h := h.2
          refine h_getI (j := 1) dX11_as_31 f_X11_175_2 rfl rfl (by decide) hf5.2.2.1 hf5.ge hf5.lt ?_
          refine g_goto 39 dX11_as_34 (by decide) ?_
          exact g_iret dX11_as_39 rfl h
      · replace h := h.2 hc
        refine g_iconst dX11_as_20 ?_
        exact g_iret dX11_as_21 rfl h
set_option maxRecDepth 20000 in
theorem w_X11_as_k4 {E : mmE} {d kc ks : Nat} {G : mmG} {D : mmD} {Q : mmQ} {x1 x2 : Int} (hG : Sh G)  (h : Call E d 0 0 mX11_eventAt [vR 2, vI x1] G D (retR G (fun z2 D1 => ((z2 = 0 → Q (some (vI (-1))) G D1) ∧ (¬ z2 = 0 → ((iv x2 < iv 0 → Q (some (vI (-1))) G D1) ∧ (¬ iv x2 < iv 0 → ((iv x2 ≤ iv 6 → Call E d 0 0 mX11_isOfKind [vR z2, vI x2] G D1 (retI G (fun z4 D3 => ((iv z4 = iv 0 → Q (some (vI (-6))) G D3) ∧ (¬ iv z4 = iv 0 → (isEv G 4 z2 ∧ Q (some (vI (D3 z2 1))) G D3)))))) ∧ (¬ iv x2 ≤ iv 6 → Q (some (vI (-1))) G D1))))))))) : Call E (d + 1) kc ks mX11_as [vR 2, vI x1, vI x2] G D Q := by
  show Go E (d + 1) kc ks mX11_as 0 [some (vR 2), some (vI x1), some (vI x2), none] [] G D Q
  refine g_aload_n dX11_as_0 rfl rfl ?_
  refine g_iload_n dX11_as_1 rfl rfl ?_
  refine g_callV (kc := kc) (kc' := 0) (ks := ks) (ks' := 0) (as := [vI x1]) (st := []) (ci := 10) dX11_as_2 cB_X11_eventAt lk_X11_167 in_X11_eventAt se_X11_eventAt (by decide) rfl rfl (Nat.le_of_ble_eq_true rfl) (Nat.le_of_ble_eq_true rfl) (by decide) (hG.lt (by decide)) (congrArg Prod.fst hG.k2) ?_
  refine Go.to (fun r G' D1 hr => ?_) h
  obtain ⟨rfl, z2, rfl, h⟩ := hr
  show Go E (d + 1) kc ks mX11_as 5 [some (vR 2), some (vI x1), some (vI x2), none] [vR z2] G D1 Q
  refine h_astore_n (L' := [some (vR 2), some (vI x1), some (vI x2), some (vR z2)]) dX11_as_5 rfl (Nat.le_of_ble_eq_true rfl) rfl rfl ?_
  refine g_aload_n dX11_as_6 rfl rfl ?_
  refine g_ifnull 20 dX11_as_7 (by decide) ⟨fun hc => ?_, fun hc => ?_⟩
  · replace h := h.1 hc
    refine g_iconst dX11_as_20 ?_
    exact g_iret dX11_as_21 rfl h
  · replace h := h.2 hc
    refine g_iload_n dX11_as_10 rfl rfl ?_
    refine g_if_lt 20 dX11_as_11 (by decide) ⟨fun hc => ?_, fun hc => ?_⟩
    · replace h := h.1 hc
      refine g_iconst dX11_as_20 ?_
      exact g_iret dX11_as_21 rfl h
    · replace h := h.2 hc
      refine g_iload_n dX11_as_14 rfl rfl ?_
      refine g_bipush dX11_as_15 bp_6 ?_
      refine g_icmp_le 22 dX11_as_17 (by decide) ⟨fun hc => ?_, fun hc => ?_⟩
      · replace h := h.1 hc
        refine g_aload_n dX11_as_22 rfl rfl ?_
        refine g_iload_n dX11_as_23 rfl rfl ?_
        refine g_callS (kc := kc) (kc' := 0) (ks := ks) (ks' := 0) (as := [vR z2, vI x2]) (st := []) dX11_as_24 cB_X11_isOfKind lk_X11_291 st_X11_isOfKind rfl (Nat.le_of_ble_eq_true rfl) (Nat.le_of_ble_eq_true rfl) ?_
        refine Go.to (fun r G' D3 hr => ?_) h
        obtain ⟨rfl, z4, rfl, h⟩ := hr
        show Go E (d + 1) kc ks mX11_as 27 [some (vR 2), some (vI x1), some (vI x2), some (vR z2)] [vI z4] G D3 Q
        refine g_if_eq 37 dX11_as_27 (by decide) ⟨fun hc => ?_, fun hc => ?_⟩
        · replace h := h.1 hc
          refine g_bipush dX11_as_37 bp_m6 ?_
          exact g_iret dX11_as_39 rfl h
        · replace h := h.2 hc
          refine g_aload_n dX11_as_30 rfl rfl ?_
          have hf5 := h.1
          replace h := h.2
          refine h_getI (j := 1) dX11_as_31 f_X11_175_4 rfl rfl (by decide) hf5.2.2.1 hf5.ge hf5.lt ?_
          refine g_goto 39 dX11_as_34 (by decide) ?_
          exact g_iret dX11_as_39 rfl h
      · replace h := h.2 hc
        refine g_iconst dX11_as_20 ?_
        exact g_iret dX11_as_21 rfl h
set_option maxRecDepth 20000 in
theorem w_X11_as_k5 {E : mmE} {d kc ks : Nat} {G : mmG} {D : mmD} {Q : mmQ} {x1 x2 : Int} (hG : Sh G)  (h : Call E d 0 0 mX11_eventAt [vR 2, vI x1] G D (retR G (fun z2 D1 => ((z2 = 0 → Q (some (vI (-1))) G D1) ∧ (¬ z2 = 0 → ((iv x2 < iv 0 → Q (some (vI (-1))) G D1) ∧ (¬ iv x2 < iv 0 → ((iv x2 ≤ iv 6 → Call E d 0 0 mX11_isOfKind [vR z2, vI x2] G D1 (retI G (fun z4 D3 => ((iv z4 = iv 0 → Q (some (vI (-6))) G D3) ∧ (¬ iv z4 = iv 0 → (isEv G 5 z2 ∧ Q (some (vI (D3 z2 1))) G D3)))))) ∧ (¬ iv x2 ≤ iv 6 → Q (some (vI (-1))) G D1))))))))) : Call E (d + 1) kc ks mX11_as [vR 2, vI x1, vI x2] G D Q := by
  show Go E (d + 1) kc ks mX11_as 0 [some (vR 2), some (vI x1), some (vI x2), none] [] G D Q
  refine g_aload_n dX11_as_0 rfl rfl ?_
  refine g_iload_n dX11_as_1 rfl rfl ?_
  refine g_callV (kc := kc) (kc' := 0) (ks := ks) (ks' := 0) (as := [vI x1]) (st := []) (ci := 10) dX11_as_2 cB_X11_eventAt lk_X11_167 in_X11_eventAt se_X11_eventAt (by decide) rfl rfl (Nat.le_of_ble_eq_true rfl) (Nat.le_of_ble_eq_true rfl) (by decide) (hG.lt (by decide)) (congrArg Prod.fst hG.k2) ?_
  refine Go.to (fun r G' D1 hr => ?_) h
  obtain ⟨rfl, z2, rfl, h⟩ := hr
  show Go E (d + 1) kc ks mX11_as 5 [some (vR 2), some (vI x1), some (vI x2), none] [vR z2] G D1 Q
  refine h_astore_n (L' := [some (vR 2), some (vI x1), some (vI x2), some (vR z2)]) dX11_as_5 rfl (Nat.le_of_ble_eq_true rfl) rfl rfl ?_
  refine g_aload_n dX11_as_6 rfl rfl ?_
  refine g_ifnull 20 dX11_as_7 (by decide) ⟨fun hc => ?_, fun hc => ?_⟩
  · replace h := h.1 hc
    refine g_iconst dX11_as_20 ?_
    exact g_iret dX11_as_21 rfl h
  · replace h := h.2 hc
    refine g_iload_n dX11_as_10 rfl rfl ?_
    refine g_if_lt 20 dX11_as_11 (by decide) ⟨fun hc => ?_, fun hc => ?_⟩
    · replace h := h.1 hc
      refine g_iconst dX11_as_20 ?_
      exact g_iret dX11_as_21 rfl h
    · replace h := h.2 hc
      refine g_iload_n dX11_as_14 rfl rfl ?_
      refine g_bipush dX11_as_15 bp_6 ?_
      refine g_icmp_le 22 dX11_as_17 (by decide) ⟨fun hc => ?_, fun hc => ?_⟩
      · replace h := h.1 hc
        refine g_aload_n dX11_as_22 rfl rfl ?_
        refine g_iload_n dX11_as_23 rfl rfl ?_
        refine g_callS (kc := kc) (kc' := 0) (ks := ks) (ks' := 0) (as := [vR z2, vI x2]) (st := []) dX11_as_24 cB_X11_isOfKind lk_X11_291 st_X11_isOfKind rfl (Nat.le_of_ble_eq_true rfl) (Nat.le_of_ble_eq_true rfl) ?_
        refine Go.to (fun r G' D3 hr => ?_) h
        obtain ⟨rfl, z4, rfl, h⟩ := hr
        show Go E (d + 1) kc ks mX11_as 27 [some (vR 2), some (vI x1), some (vI x2), some (vR z2)] [vI z4] G D3 Q
        refine g_if_eq 37 dX11_as_27 (by decide) ⟨fun hc => ?_, fun hc => ?_⟩
        · replace h := h.1 hc
          refine g_bipush dX11_as_37 bp_m6 ?_
          exact g_iret dX11_as_39 rfl h
        · replace h := h.2 hc
          refine g_aload_n dX11_as_30 rfl rfl ?_
          have hf5 := h.1
          replace h := h.2
          refine h_getI (j := 1) dX11_as_31 f_X11_175_5 rfl rfl (by decide) hf5.2.2.1 hf5.ge hf5.lt ?_
          refine g_goto 39 dX11_as_34 (by decide) ?_
          exact g_iret dX11_as_39 rfl h
      · replace h := h.2 hc
        refine g_iconst dX11_as_20 ?_
        exact g_iret dX11_as_21 rfl h
set_option maxRecDepth 20000 in
theorem w_X11_as_k7 {E : mmE} {d kc ks : Nat} {G : mmG} {D : mmD} {Q : mmQ} {x1 x2 : Int} (hG : Sh G)  (h : Call E d 0 0 mX11_eventAt [vR 2, vI x1] G D (retR G (fun z2 D1 => ((z2 = 0 → Q (some (vI (-1))) G D1) ∧ (¬ z2 = 0 → ((iv x2 < iv 0 → Q (some (vI (-1))) G D1) ∧ (¬ iv x2 < iv 0 → ((iv x2 ≤ iv 6 → Call E d 0 0 mX11_isOfKind [vR z2, vI x2] G D1 (retI G (fun z4 D3 => ((iv z4 = iv 0 → Q (some (vI (-6))) G D3) ∧ (¬ iv z4 = iv 0 → (isEv G 7 z2 ∧ Q (some (vI (D3 z2 1))) G D3)))))) ∧ (¬ iv x2 ≤ iv 6 → Q (some (vI (-1))) G D1))))))))) : Call E (d + 1) kc ks mX11_as [vR 2, vI x1, vI x2] G D Q := by
  show Go E (d + 1) kc ks mX11_as 0 [some (vR 2), some (vI x1), some (vI x2), none] [] G D Q
  refine g_aload_n dX11_as_0 rfl rfl ?_
  refine g_iload_n dX11_as_1 rfl rfl ?_
  refine g_callV (kc := kc) (kc' := 0) (ks := ks) (ks' := 0) (as := [vI x1]) (st := []) (ci := 10) dX11_as_2 cB_X11_eventAt lk_X11_167 in_X11_eventAt se_X11_eventAt (by decide) rfl rfl (Nat.le_of_ble_eq_true rfl) (Nat.le_of_ble_eq_true rfl) (by decide) (hG.lt (by decide)) (congrArg Prod.fst hG.k2) ?_
  refine Go.to (fun r G' D1 hr => ?_) h
  obtain ⟨rfl, z2, rfl, h⟩ := hr
  show Go E (d + 1) kc ks mX11_as 5 [some (vR 2), some (vI x1), some (vI x2), none] [vR z2] G D1 Q
  refine h_astore_n (L' := [some (vR 2), some (vI x1), some (vI x2), some (vR z2)]) dX11_as_5 rfl (Nat.le_of_ble_eq_true rfl) rfl rfl ?_
  refine g_aload_n dX11_as_6 rfl rfl ?_
  refine g_ifnull 20 dX11_as_7 (by decide) ⟨fun hc => ?_, fun hc => ?_⟩
  · replace h := h.1 hc
    refine g_iconst dX11_as_20 ?_
    exact g_iret dX11_as_21 rfl h
  · replace h := h.2 hc
    refine g_iload_n dX11_as_10 rfl rfl ?_
    refine g_if_lt 20 dX11_as_11 (by decide) ⟨fun hc => ?_, fun hc => ?_⟩
    · replace h := h.1 hc
      refine g_iconst dX11_as_20 ?_
      exact g_iret dX11_as_21 rfl h
    · replace h := h.2 hc
      refine g_iload_n dX11_as_14 rfl rfl ?_
      refine g_bipush dX11_as_15 bp_6 ?_
      refine g_icmp_le 22 dX11_as_17 (by decide) ⟨fun hc => ?_, fun hc => ?_⟩
      · replace h := h.1 hc
        refine g_aload_n dX11_as_22 rfl rfl ?_
        refine g_iload_n dX11_as_23 rfl rfl ?_
        refine g_callS (kc := kc) (kc' := 0) (ks := ks) (ks' := 0) (as := [vR z2, vI x2]) (st := []) dX11_as_24 cB_X11_isOfKind lk_X11_291 st_X11_isOfKind rfl (Nat.le_of_ble_eq_true rfl) (Nat.le_of_ble_eq_true rfl) ?_
        refine Go.to (fun r G' D3 hr => ?_) h
        obtain ⟨rfl, z4, rfl, h⟩ := hr
        show Go E (d + 1) kc ks mX11_as 27 [some (vR 2), some (vI x1), some (vI x2), some (vR z2)] [vI z4] G D3 Q
        refine g_if_eq 37 dX11_as_27 (by decide) ⟨fun hc => ?_, fun hc => ?_⟩
        · replace h := h.1 hc
          refine g_bipush dX11_as_37 bp_m6 ?_
          exact g_iret dX11_as_39 rfl h
        · replace h := h.2 hc
          refine g_aload_n dX11_as_30 rfl rfl ?_
          have hf5 := h.1
          replace h := h.2
          refine h_getI (j := 1) dX11_as_31 f_X11_175_7 rfl rfl (by decide) hf5.2.2.1 hf5.ge hf5.lt ?_
          refine g_goto 39 dX11_as_34 (by decide) ?_
          exact g_iret dX11_as_39 rfl h
      · replace h := h.2 hc
        refine g_iconst dX11_as_20 ?_
        exact g_iret dX11_as_21 rfl h
set_option maxRecDepth 20000 in
theorem w_X11_as_k8 {E : mmE} {d kc ks : Nat} {G : mmG} {D : mmD} {Q : mmQ} {x1 x2 : Int} (hG : Sh G)  (h : Call E d 0 0 mX11_eventAt [vR 2, vI x1] G D (retR G (fun z2 D1 => ((z2 = 0 → Q (some (vI (-1))) G D1) ∧ (¬ z2 = 0 → ((iv x2 < iv 0 → Q (some (vI (-1))) G D1) ∧ (¬ iv x2 < iv 0 → ((iv x2 ≤ iv 6 → Call E d 0 0 mX11_isOfKind [vR z2, vI x2] G D1 (retI G (fun z4 D3 => ((iv z4 = iv 0 → Q (some (vI (-6))) G D3) ∧ (¬ iv z4 = iv 0 → (isEv G 8 z2 ∧ Q (some (vI (D3 z2 1))) G D3)))))) ∧ (¬ iv x2 ≤ iv 6 → Q (some (vI (-1))) G D1))))))))) : Call E (d + 1) kc ks mX11_as [vR 2, vI x1, vI x2] G D Q := by
  show Go E (d + 1) kc ks mX11_as 0 [some (vR 2), some (vI x1), some (vI x2), none] [] G D Q
  refine g_aload_n dX11_as_0 rfl rfl ?_
  refine g_iload_n dX11_as_1 rfl rfl ?_
  refine g_callV (kc := kc) (kc' := 0) (ks := ks) (ks' := 0) (as := [vI x1]) (st := []) (ci := 10) dX11_as_2 cB_X11_eventAt lk_X11_167 in_X11_eventAt se_X11_eventAt (by decide) rfl rfl (Nat.le_of_ble_eq_true rfl) (Nat.le_of_ble_eq_true rfl) (by decide) (hG.lt (by decide)) (congrArg Prod.fst hG.k2) ?_
  refine Go.to (fun r G' D1 hr => ?_) h
  obtain ⟨rfl, z2, rfl, h⟩ := hr
  show Go E (d + 1) kc ks mX11_as 5 [some (vR 2), some (vI x1), some (vI x2), none] [vR z2] G D1 Q
  refine h_astore_n (L' := [some (vR 2), some (vI x1), some (vI x2), some (vR z2)]) dX11_as_5 rfl (Nat.le_of_ble_eq_true rfl) rfl rfl ?_
  refine g_aload_n dX11_as_6 rfl rfl ?_
  refine g_ifnull 20 dX11_as_7 (by decide) ⟨fun hc => ?_, fun hc => ?_⟩
  · replace h := h.1 hc
    refine g_iconst dX11_as_20 ?_
    exact g_iret dX11_as_21 rfl h
  · replace h := h.2 hc
    refine g_iload_n dX11_as_10 rfl rfl ?_
    refine g_if_lt 20 dX11_as_11 (by decide) ⟨fun hc => ?_, fun hc => ?_⟩
    · replace h := h.1 hc
      refine g_iconst dX11_as_20 ?_
      exact g_iret dX11_as_21 rfl h
    · replace h := h.2 hc
      refine g_iload_n dX11_as_14 rfl rfl ?_
      refine g_bipush dX11_as_15 bp_6 ?_
      refine g_icmp_le 22 dX11_as_17 (by decide) ⟨fun hc => ?_, fun hc => ?_⟩
      · replace h := h.1 hc
        refine g_aload_n dX11_as_22 rfl rfl ?_
        refine g_iload_n dX11_as_23 rfl rfl ?_
        refine g_callS (kc := kc) (kc' := 0) (ks := ks) (ks' := 0) (as := [vR z2, vI x2]) (st := []) dX11_as_24 cB_X11_isOfKind lk_X11_291 st_X11_isOfKind rfl (Nat.le_of_ble_eq_true rfl) (Nat.le_of_ble_eq_true rfl) ?_
        refine Go.to (fun r G' D3 hr => ?_) h
        obtain ⟨rfl, z4, rfl, h⟩ := hr
        show Go E (d + 1) kc ks mX11_as 27 [some (vR 2), some (vI x1), some (vI x2), some (vR z2)] [vI z4] G D3 Q
        refine g_if_eq 37 dX11_as_27 (by decide) ⟨fun hc => ?_, fun hc => ?_⟩
        · replace h := h.1 hc
          refine g_bipush dX11_as_37 bp_m6 ?_
          exact g_iret dX11_as_39 rfl h
        · replace h := h.2 hc
          refine g_aload_n dX11_as_30 rfl rfl ?_
          have hf5 := h.1
          replace h := h.2
          refine h_getI (j := 1) dX11_as_31 f_X11_175_8 rfl rfl (by decide) hf5.2.2.1 hf5.ge hf5.lt ?_
          refine g_goto 39 dX11_as_34 (by decide) ?_
          exact g_iret dX11_as_39 rfl h
      · replace h := h.2 hc
        refine g_iconst dX11_as_20 ?_
        exact g_iret dX11_as_21 rfl h
set_option maxRecDepth 20000 in
theorem w_X11_happen_k1 {E : mmE} {d kc ks : Nat} {G : mmG} {D : mmD} {Q : mmQ} {r1 : Int} (hG : Sh G) (he1 : isEv G 1 r1) (h : ((iv 80 ≤ iv (D 2 8) → Q none G D) ∧ (¬ iv 80 ≤ iv (D 2 8) → ((0 ≤ (D 2 8) ∧ (D 2 8) < 80) ∧ (∀ G1 : mmG, G1 = (G.1, G.2.1, up2 G.2.2 7 (D 2 8) r1) → (∀ D3 : mmD, D3 = up2 D 2 8 ((D 2 8) + 1) → Q none G1 D3)))))) : Call E d kc ks mX11_happen [vR 2, vR r1] G D Q := by
  show Go E d kc ks mX11_happen 0 [some (vR 2), some (vR r1)] [] G D Q
  refine g_aload_n dX11_happen_0 rfl rfl ?_
  refine h_getI (j := 8) dX11_happen_1 f_X11_91_10 rfl rfl (by decide) hG.k2 (by decide) (hG.lt (by decide)) ?_
  refine g_bipush dX11_happen_4 bp_80 ?_
  refine g_icmp_ge 29 dX11_happen_6 (by decide) ⟨fun hc => ?_, fun hc => ?_⟩
  · replace h := h.1 hc
    exact g_vret dX11_happen_29 rfl h
  · replace h := h.2 hc
    refine g_aload_n dX11_happen_9 rfl rfl ?_
    refine h_getR (j := 7) dX11_happen_10 f_X11_30_10 rfl rfl (by decide) hG.k2 (by decide) (hG.lt (by decide)) hG.r2_7 ?_
    refine g_aload_n dX11_happen_13 rfl rfl ?_
    refine h_getI (j := 8) dX11_happen_14 f_X11_91_10 rfl rfl (by decide) hG.k2 (by decide) (hG.lt (by decide)) ?_
    refine g_aload_n dX11_happen_17 rfl rfl ?_
    refine g_aast dX11_happen_18 (Or.inr (Or.inr ⟨rfl, rfl⟩)) hG.k7 (by decide) (hG.lt (by decide)) (by decide) he1.ge he1.lt (congrArg Prod.fst he1.2.2.1) (by decide) rfl (Or.inr (by decide +kernel)) ⟨h.1, ?_⟩
    have hG2 := hG.ev (i := (D 2 8)) (x := r1)
    generalize hG_G1 : ((G.1, G.2.1, up2 G.2.2 7 (D 2 8) r1) : mmG) = G1 at hG2 ⊢
    replace h := h.2 _ hG_G1.symm
    refine g_aload_n dX11_happen_19 rfl rfl ?_
    refine g_dup dX11_happen_20 (fun _ h9 => by cases h9) ?_
    refine h_getI (j := 8) dX11_happen_21 f_X11_91_10 rfl rfl (by decide) hG2.k2 (by decide) (hG2.lt (by decide)) ?_
    refine g_iconst dX11_happen_24 ?_
    refine g_iadd dX11_happen_25 ?_
    refine h_putI (j := 8) dX11_happen_26 f_X11_91_10 (Or.inl (mm_finI (by decide +kernel))) rfl rfl (by decide) hG2.k2 (by decide) (hG2.lt (by decide)) ?_
    generalize hD_D3 : up2 D 2 8 ((D 2 8) + 1) = D3
    replace h := h _ hD_D3.symm
    exact g_vret dX11_happen_29 rfl h
set_option maxRecDepth 20000 in
theorem w_X11_happen_k2 {E : mmE} {d kc ks : Nat} {G : mmG} {D : mmD} {Q : mmQ} {r1 : Int} (hG : Sh G) (he1 : isEv G 2 r1) (h : ((iv 80 ≤ iv (D 2 8) → Q none G D) ∧ (¬ iv 80 ≤ iv (D 2 8) → ((0 ≤ (D 2 8) ∧ (D 2 8) < 80) ∧ (∀ G1 : mmG, G1 = (G.1, G.2.1, up2 G.2.2 7 (D 2 8) r1) → (∀ D3 : mmD, D3 = up2 D 2 8 ((D 2 8) + 1) → Q none G1 D3)))))) : Call E d kc ks mX11_happen [vR 2, vR r1] G D Q := by
  show Go E d kc ks mX11_happen 0 [some (vR 2), some (vR r1)] [] G D Q
  refine g_aload_n dX11_happen_0 rfl rfl ?_
  refine h_getI (j := 8) dX11_happen_1 f_X11_91_10 rfl rfl (by decide) hG.k2 (by decide) (hG.lt (by decide)) ?_
  refine g_bipush dX11_happen_4 bp_80 ?_
  refine g_icmp_ge 29 dX11_happen_6 (by decide) ⟨fun hc => ?_, fun hc => ?_⟩
  · replace h := h.1 hc
    exact g_vret dX11_happen_29 rfl h
  · replace h := h.2 hc
    refine g_aload_n dX11_happen_9 rfl rfl ?_
    refine h_getR (j := 7) dX11_happen_10 f_X11_30_10 rfl rfl (by decide) hG.k2 (by decide) (hG.lt (by decide)) hG.r2_7 ?_
    refine g_aload_n dX11_happen_13 rfl rfl ?_
    refine h_getI (j := 8) dX11_happen_14 f_X11_91_10 rfl rfl (by decide) hG.k2 (by decide) (hG.lt (by decide)) ?_
    refine g_aload_n dX11_happen_17 rfl rfl ?_
    refine g_aast dX11_happen_18 (Or.inr (Or.inr ⟨rfl, rfl⟩)) hG.k7 (by decide) (hG.lt (by decide)) (by decide) he1.ge he1.lt (congrArg Prod.fst he1.2.2.1) (by decide) rfl (Or.inr (by decide +kernel)) ⟨h.1, ?_⟩
    have hG2 := hG.ev (i := (D 2 8)) (x := r1)
    generalize hG_G1 : ((G.1, G.2.1, up2 G.2.2 7 (D 2 8) r1) : mmG) = G1 at hG2 ⊢
    replace h := h.2 _ hG_G1.symm
    refine g_aload_n dX11_happen_19 rfl rfl ?_
    refine g_dup dX11_happen_20 (fun _ h9 => by cases h9) ?_
    refine h_getI (j := 8) dX11_happen_21 f_X11_91_10 rfl rfl (by decide) hG2.k2 (by decide) (hG2.lt (by decide)) ?_
    refine g_iconst dX11_happen_24 ?_
    refine g_iadd dX11_happen_25 ?_
    refine h_putI (j := 8) dX11_happen_26 f_X11_91_10 (Or.inl (mm_finI (by decide +kernel))) rfl rfl (by decide) hG2.k2 (by decide) (hG2.lt (by decide)) ?_
    generalize hD_D3 : up2 D 2 8 ((D 2 8) + 1) = D3
    replace h := h _ hD_D3.symm
    exact g_vret dX11_happen_29 rfl h
set_option maxRecDepth 20000 in
theorem w_X11_happen_k4 {E : mmE} {d kc ks : Nat} {G : mmG} {D : mmD} {Q : mmQ} {r1 : Int} (hG : Sh G) (he1 : isEv G 4 r1) (h : ((iv 80 ≤ iv (D 2 8) → Q none G D) ∧ (¬ iv 80 ≤ iv (D 2 8) → ((0 ≤ (D 2 8) ∧ (D 2 8) < 80) ∧ (∀ G1 : mmG, G1 = (G.1, G.2.1, up2 G.2.2 7 (D 2 8) r1) → (∀ D3 : mmD, D3 = up2 D 2 8 ((D 2 8) + 1) → Q none G1 D3)))))) : Call E d kc ks mX11_happen [vR 2, vR r1] G D Q := by
  show Go E d kc ks mX11_happen 0 [some (vR 2), some (vR r1)] [] G D Q
  refine g_aload_n dX11_happen_0 rfl rfl ?_
  refine h_getI (j := 8) dX11_happen_1 f_X11_91_10 rfl rfl (by decide) hG.k2 (by decide) (hG.lt (by decide)) ?_
  refine g_bipush dX11_happen_4 bp_80 ?_
  refine g_icmp_ge 29 dX11_happen_6 (by decide) ⟨fun hc => ?_, fun hc => ?_⟩
  · replace h := h.1 hc
    exact g_vret dX11_happen_29 rfl h
  · replace h := h.2 hc
    refine g_aload_n dX11_happen_9 rfl rfl ?_
    refine h_getR (j := 7) dX11_happen_10 f_X11_30_10 rfl rfl (by decide) hG.k2 (by decide) (hG.lt (by decide)) hG.r2_7 ?_
    refine g_aload_n dX11_happen_13 rfl rfl ?_
    refine h_getI (j := 8) dX11_happen_14 f_X11_91_10 rfl rfl (by decide) hG.k2 (by decide) (hG.lt (by decide)) ?_
    refine g_aload_n dX11_happen_17 rfl rfl ?_
    refine g_aast dX11_happen_18 (Or.inr (Or.inr ⟨rfl, rfl⟩)) hG.k7 (by decide) (hG.lt (by decide)) (by decide) he1.ge he1.lt (congrArg Prod.fst he1.2.2.1) (by decide) rfl (Or.inr (by decide +kernel)) ⟨h.1, ?_⟩
    have hG2 := hG.ev (i := (D 2 8)) (x := r1)
    generalize hG_G1 : ((G.1, G.2.1, up2 G.2.2 7 (D 2 8) r1) : mmG) = G1 at hG2 ⊢
    replace h := h.2 _ hG_G1.symm
    refine g_aload_n dX11_happen_19 rfl rfl ?_
    refine g_dup dX11_happen_20 (fun _ h9 => by cases h9) ?_
    refine h_getI (j := 8) dX11_happen_21 f_X11_91_10 rfl rfl (by decide) hG2.k2 (by decide) (hG2.lt (by decide)) ?_
    refine g_iconst dX11_happen_24 ?_
    refine g_iadd dX11_happen_25 ?_
    refine h_putI (j := 8) dX11_happen_26 f_X11_91_10 (Or.inl (mm_finI (by decide +kernel))) rfl rfl (by decide) hG2.k2 (by decide) (hG2.lt (by decide)) ?_
    generalize hD_D3 : up2 D 2 8 ((D 2 8) + 1) = D3
    replace h := h _ hD_D3.symm
    exact g_vret dX11_happen_29 rfl h
set_option maxRecDepth 20000 in
theorem w_X11_happen_k5 {E : mmE} {d kc ks : Nat} {G : mmG} {D : mmD} {Q : mmQ} {r1 : Int} (hG : Sh G) (he1 : isEv G 5 r1) (h : ((iv 80 ≤ iv (D 2 8) → Q none G D) ∧ (¬ iv 80 ≤ iv (D 2 8) → ((0 ≤ (D 2 8) ∧ (D 2 8) < 80) ∧ (∀ G1 : mmG, G1 = (G.1, G.2.1, up2 G.2.2 7 (D 2 8) r1) → (∀ D3 : mmD, D3 = up2 D 2 8 ((D 2 8) + 1) → Q none G1 D3)))))) : Call E d kc ks mX11_happen [vR 2, vR r1] G D Q := by
  show Go E d kc ks mX11_happen 0 [some (vR 2), some (vR r1)] [] G D Q
  refine g_aload_n dX11_happen_0 rfl rfl ?_
  refine h_getI (j := 8) dX11_happen_1 f_X11_91_10 rfl rfl (by decide) hG.k2 (by decide) (hG.lt (by decide)) ?_
  refine g_bipush dX11_happen_4 bp_80 ?_
  refine g_icmp_ge 29 dX11_happen_6 (by decide) ⟨fun hc => ?_, fun hc => ?_⟩
  · replace h := h.1 hc
    exact g_vret dX11_happen_29 rfl h
  · replace h := h.2 hc
    refine g_aload_n dX11_happen_9 rfl rfl ?_
    refine h_getR (j := 7) dX11_happen_10 f_X11_30_10 rfl rfl (by decide) hG.k2 (by decide) (hG.lt (by decide)) hG.r2_7 ?_
    refine g_aload_n dX11_happen_13 rfl rfl ?_
    refine h_getI (j := 8) dX11_happen_14 f_X11_91_10 rfl rfl (by decide) hG.k2 (by decide) (hG.lt (by decide)) ?_
    refine g_aload_n dX11_happen_17 rfl rfl ?_
    refine g_aast dX11_happen_18 (Or.inr (Or.inr ⟨rfl, rfl⟩)) hG.k7 (by decide) (hG.lt (by decide)) (by decide) he1.ge he1.lt (congrArg Prod.fst he1.2.2.1) (by decide) rfl (Or.inr (by decide +kernel)) ⟨h.1, ?_⟩
    have hG2 := hG.ev (i := (D 2 8)) (x := r1)
    generalize hG_G1 : ((G.1, G.2.1, up2 G.2.2 7 (D 2 8) r1) : mmG) = G1 at hG2 ⊢
    replace h := h.2 _ hG_G1.symm
    refine g_aload_n dX11_happen_19 rfl rfl ?_
    refine g_dup dX11_happen_20 (fun _ h9 => by cases h9) ?_
    refine h_getI (j := 8) dX11_happen_21 f_X11_91_10 rfl rfl (by decide) hG2.k2 (by decide) (hG2.lt (by decide)) ?_
    refine g_iconst dX11_happen_24 ?_
    refine g_iadd dX11_happen_25 ?_
    refine h_putI (j := 8) dX11_happen_26 f_X11_91_10 (Or.inl (mm_finI (by decide +kernel))) rfl rfl (by decide) hG2.k2 (by decide) (hG2.lt (by decide)) ?_
    generalize hD_D3 : up2 D 2 8 ((D 2 8) + 1) = D3
    replace h := h _ hD_D3.symm
    exact g_vret dX11_happen_29 rfl h
set_option maxRecDepth 20000 in
theorem w_X11_happen_k7 {E : mmE} {d kc ks : Nat} {G : mmG} {D : mmD} {Q : mmQ} {r1 : Int} (hG : Sh G) (he1 : isEv G 7 r1) (h : ((iv 80 ≤ iv (D 2 8) → Q none G D) ∧ (¬ iv 80 ≤ iv (D 2 8) → ((0 ≤ (D 2 8) ∧ (D 2 8) < 80) ∧ (∀ G1 : mmG, G1 = (G.1, G.2.1, up2 G.2.2 7 (D 2 8) r1) → (∀ D3 : mmD, D3 = up2 D 2 8 ((D 2 8) + 1) → Q none G1 D3)))))) : Call E d kc ks mX11_happen [vR 2, vR r1] G D Q := by
  show Go E d kc ks mX11_happen 0 [some (vR 2), some (vR r1)] [] G D Q
  refine g_aload_n dX11_happen_0 rfl rfl ?_
  refine h_getI (j := 8) dX11_happen_1 f_X11_91_10 rfl rfl (by decide) hG.k2 (by decide) (hG.lt (by decide)) ?_
  refine g_bipush dX11_happen_4 bp_80 ?_
  refine g_icmp_ge 29 dX11_happen_6 (by decide) ⟨fun hc => ?_, fun hc => ?_⟩
  · replace h := h.1 hc
    exact g_vret dX11_happen_29 rfl h
  · replace h := h.2 hc
    refine g_aload_n dX11_happen_9 rfl rfl ?_
    refine h_getR (j := 7) dX11_happen_10 f_X11_30_10 rfl rfl (by decide) hG.k2 (by decide) (hG.lt (by decide)) hG.r2_7 ?_
    refine g_aload_n dX11_happen_13 rfl rfl ?_
    refine h_getI (j := 8) dX11_happen_14 f_X11_91_10 rfl rfl (by decide) hG.k2 (by decide) (hG.lt (by decide)) ?_
    refine g_aload_n dX11_happen_17 rfl rfl ?_
    refine g_aast dX11_happen_18 (Or.inr (Or.inr ⟨rfl, rfl⟩)) hG.k7 (by decide) (hG.lt (by decide)) (by decide) he1.ge he1.lt (congrArg Prod.fst he1.2.2.1) (by decide) rfl (Or.inr (by decide +kernel)) ⟨h.1, ?_⟩
    have hG2 := hG.ev (i := (D 2 8)) (x := r1)
    generalize hG_G1 : ((G.1, G.2.1, up2 G.2.2 7 (D 2 8) r1) : mmG) = G1 at hG2 ⊢
    replace h := h.2 _ hG_G1.symm
    refine g_aload_n dX11_happen_19 rfl rfl ?_
    refine g_dup dX11_happen_20 (fun _ h9 => by cases h9) ?_
    refine h_getI (j := 8) dX11_happen_21 f_X11_91_10 rfl rfl (by decide) hG2.k2 (by decide) (hG2.lt (by decide)) ?_
    refine g_iconst dX11_happen_24 ?_
    refine g_iadd dX11_happen_25 ?_
    refine h_putI (j := 8) dX11_happen_26 f_X11_91_10 (Or.inl (mm_finI (by decide +kernel))) rfl rfl (by decide) hG2.k2 (by decide) (hG2.lt (by decide)) ?_
    generalize hD_D3 : up2 D 2 8 ((D 2 8) + 1) = D3
    replace h := h _ hD_D3.symm
    exact g_vret dX11_happen_29 rfl h
set_option maxRecDepth 20000 in
theorem w_X11_happen_k8 {E : mmE} {d kc ks : Nat} {G : mmG} {D : mmD} {Q : mmQ} {r1 : Int} (hG : Sh G) (he1 : isEv G 8 r1) (h : ((iv 80 ≤ iv (D 2 8) → Q none G D) ∧ (¬ iv 80 ≤ iv (D 2 8) → ((0 ≤ (D 2 8) ∧ (D 2 8) < 80) ∧ (∀ G1 : mmG, G1 = (G.1, G.2.1, up2 G.2.2 7 (D 2 8) r1) → (∀ D3 : mmD, D3 = up2 D 2 8 ((D 2 8) + 1) → Q none G1 D3)))))) : Call E d kc ks mX11_happen [vR 2, vR r1] G D Q := by
  show Go E d kc ks mX11_happen 0 [some (vR 2), some (vR r1)] [] G D Q
  refine g_aload_n dX11_happen_0 rfl rfl ?_
  refine h_getI (j := 8) dX11_happen_1 f_X11_91_10 rfl rfl (by decide) hG.k2 (by decide) (hG.lt (by decide)) ?_
  refine g_bipush dX11_happen_4 bp_80 ?_
  refine g_icmp_ge 29 dX11_happen_6 (by decide) ⟨fun hc => ?_, fun hc => ?_⟩
  · replace h := h.1 hc
    exact g_vret dX11_happen_29 rfl h
  · replace h := h.2 hc
    refine g_aload_n dX11_happen_9 rfl rfl ?_
    refine h_getR (j := 7) dX11_happen_10 f_X11_30_10 rfl rfl (by decide) hG.k2 (by decide) (hG.lt (by decide)) hG.r2_7 ?_
    refine g_aload_n dX11_happen_13 rfl rfl ?_
    refine h_getI (j := 8) dX11_happen_14 f_X11_91_10 rfl rfl (by decide) hG.k2 (by decide) (hG.lt (by decide)) ?_
    refine g_aload_n dX11_happen_17 rfl rfl ?_
    refine g_aast dX11_happen_18 (Or.inr (Or.inr ⟨rfl, rfl⟩)) hG.k7 (by decide) (hG.lt (by decide)) (by decide) he1.ge he1.lt (congrArg Prod.fst he1.2.2.1) (by decide) rfl (Or.inr (by decide +kernel)) ⟨h.1, ?_⟩
    have hG2 := hG.ev (i := (D 2 8)) (x := r1)
    generalize hG_G1 : ((G.1, G.2.1, up2 G.2.2 7 (D 2 8) r1) : mmG) = G1 at hG2 ⊢
    replace h := h.2 _ hG_G1.symm
    refine g_aload_n dX11_happen_19 rfl rfl ?_
    refine g_dup dX11_happen_20 (fun _ h9 => by cases h9) ?_
    refine h_getI (j := 8) dX11_happen_21 f_X11_91_10 rfl rfl (by decide) hG2.k2 (by decide) (hG2.lt (by decide)) ?_
    refine g_iconst dX11_happen_24 ?_
    refine g_iadd dX11_happen_25 ?_
    refine h_putI (j := 8) dX11_happen_26 f_X11_91_10 (Or.inl (mm_finI (by decide +kernel))) rfl rfl (by decide) hG2.k2 (by decide) (hG2.lt (by decide)) ?_
    generalize hD_D3 : up2 D 2 8 ((D 2 8) + 1) = D3
    replace h := h _ hD_D3.symm
    exact g_vret dX11_happen_29 rfl h
set_option maxRecDepth 20000 in
theorem w_X11_isOfKind_k1 {E : mmE} {d kc ks : Nat} {G : mmG} {D : mmD} {Q : mmQ} {r0 x1 : Int} (hG : Sh G) (he0 : isEv G 1 r0) (h : (((iv x1).toInt = 0 → Q (some (vI 1)) G D) ∧ ((iv x1).toInt = 1 → Q (some (vI 0)) G D) ∧ ((iv x1).toInt = 2 → Q (some (vI 1)) G D) ∧ ((iv x1).toInt = 3 → Q (some (vI 0)) G D) ∧ ((iv x1).toInt = 4 → Q (some (vI 0)) G D) ∧ ((iv x1).toInt = 5 → Q (some (vI 0)) G D) ∧ ((iv x1).toInt = 6 → Q (some (vI 1)) G D) ∧ (((iv x1).toInt < 0 ∨ 6 < (iv x1).toInt) → Q (some (vI 0)) G D))) : Call E d kc ks mX11_isOfKind [vR r0, vI x1] G D Q := by
  show Go E d kc ks mX11_isOfKind 0 [some (vR r0), some (vI x1)] [] G D Q
  refine g_iload_n dX11_isOfKind_0 rfl rfl ?_
  refine g_tswitch 76 [44, 46, 51, 56, 61, 66, 71] dX11_isOfKind_1 (by decide) (by decide) (by decide) (fun j hj t ht => ?_) (fun hc => ?_)
  · match j, hj, ht with
    | 0, hj, ht =>
      cases ht
      replace h := h.1 (hj.trans (by decide))
      refine g_iconst dX11_isOfKind_44 ?_
      exact g_zret dX11_isOfKind_45 rfl ⟨Or.inr rfl, h⟩
    | 1, hj, ht =>
      cases ht
      replace h := h.2.1 (hj.trans (by decide))
      refine g_aload_n dX11_isOfKind_46 rfl rfl ?_
      refine g_inst (b := false) dX11_isOfKind_47 cl_X11_128 he0.ge he0.lt (congrArg Prod.fst he0.2.2.1) (by decide) rfl (Or.inr ⟨rfl, by decide +kernel⟩) ?_
      show Go E d kc ks mX11_isOfKind 50 [some (vR r0), some (vI x1)] [vI 0] G _ Q
      exact g_zret dX11_isOfKind_50 rfl ⟨Or.inl rfl, h⟩
    | 2, hj, ht =>
      cases ht
      replace h := h.2.2.1 (hj.trans (by decide))
      refine g_aload_n dX11_isOfKind_51 rfl rfl ?_
      refine g_inst (b := true) dX11_isOfKind_52 cl_X11_145 he0.ge he0.lt (congrArg Prod.fst he0.2.2.1) (by decide) rfl (Or.inl ⟨rfl, Or.inr (by decide +kernel)⟩) ?_
      show Go E d kc ks mX11_isOfKind 55 [some (vR r0), some (vI x1)] [vI 1] G _ Q
      exact g_zret dX11_isOfKind_55 rfl ⟨Or.inr rfl, h⟩
    | 3, hj, ht =>
      cases ht
      replace h := h.2.2.2.1 (hj.trans (by decide))
      refine g_aload_n dX11_isOfKind_56 rfl rfl ?_
      refine g_inst (b := false) dX11_isOfKind_57 cl_X11_151 he0.ge he0.lt (congrArg Prod.fst he0.2.2.1) (by decide) rfl (Or.inr ⟨rfl, by decide +kernel⟩) ?_
      show Go E d kc ks mX11_isOfKind 60 [some (vR r0), some (vI x1)] [vI 0] G _ Q
      exact g_zret dX11_isOfKind_60 rfl ⟨Or.inl rfl, h⟩
    | 4, hj, ht =>
      cases ht
      replace h := h.2.2.2.2.1 (hj.trans (by decide))
      refine g_aload_n dX11_isOfKind_61 rfl rfl ?_
      refine g_inst (b := false) dX11_isOfKind_62 cl_X11_138 he0.ge he0.lt (congrArg Prod.fst he0.2.2.1) (by decide) rfl (Or.inr ⟨rfl, by decide +kernel⟩) ?_
      show Go E d kc ks mX11_isOfKind 65 [some (vR r0), some (vI x1)] [vI 0] G _ Q
      exact g_zret dX11_isOfKind_65 rfl ⟨Or.inl rfl, h⟩
    | 5, hj, ht =>
      cases ht
      replace h := h.2.2.2.2.2.1 (hj.trans (by decide))
      refine g_aload_n dX11_isOfKind_66 rfl rfl ?_
      refine g_inst (b := false) dX11_isOfKind_67 cl_X11_148 he0.ge he0.lt (congrArg Prod.fst he0.2.2.1) (by decide) rfl (Or.inr ⟨rfl, by decide +kernel⟩) ?_
      show Go E d kc ks mX11_isOfKind 70 [some (vR r0), some (vI x1)] [vI 0] G _ Q
      exact g_zret dX11_isOfKind_70 rfl ⟨Or.inl rfl, h⟩
    | 6, hj, ht =>
      cases ht
      replace h := h.2.2.2.2.2.2.1 (hj.trans (by decide))
      refine g_aload_n dX11_isOfKind_71 rfl rfl ?_
      refine g_inst (b := true) dX11_isOfKind_72 cl_X11_112 he0.ge he0.lt (congrArg Prod.fst he0.2.2.1) (by decide) rfl (Or.inl ⟨rfl, Or.inl rfl⟩) ?_
      show Go E d kc ks mX11_isOfKind 75 [some (vR r0), some (vI x1)] [vI 1] G _ Q
      exact g_zret dX11_isOfKind_75 rfl ⟨Or.inr rfl, h⟩
    | j + 7, hj, ht => simp at ht
  · replace h := h.2.2.2.2.2.2.2 hc
    refine g_iconst dX11_isOfKind_76 ?_
    exact g_zret dX11_isOfKind_77 rfl ⟨Or.inl rfl, h⟩
set_option maxRecDepth 20000 in
theorem w_X11_isOfKind_k2 {E : mmE} {d kc ks : Nat} {G : mmG} {D : mmD} {Q : mmQ} {r0 x1 : Int} (hG : Sh G) (he0 : isEv G 2 r0) (h : (((iv x1).toInt = 0 → Q (some (vI 1)) G D) ∧ ((iv x1).toInt = 1 → Q (some (vI 0)) G D) ∧ ((iv x1).toInt = 2 → Q (some (vI 1)) G D) ∧ ((iv x1).toInt = 3 → Q (some (vI 0)) G D) ∧ ((iv x1).toInt = 4 → Q (some (vI 0)) G D) ∧ ((iv x1).toInt = 5 → Q (some (vI 1)) G D) ∧ ((iv x1).toInt = 6 → Q (some (vI 0)) G D) ∧ (((iv x1).toInt < 0 ∨ 6 < (iv x1).toInt) → Q (some (vI 0)) G D))) : Call E d kc ks mX11_isOfKind [vR r0, vI x1] G D Q := by
  show Go E d kc ks mX11_isOfKind 0 [some (vR r0), some (vI x1)] [] G D Q
  refine g_iload_n dX11_isOfKind_0 rfl rfl ?_
  refine g_tswitch 76 [44, 46, 51, 56, 61, 66, 71] dX11_isOfKind_1 (by decide) (by decide) (by decide) (fun j hj t ht => ?_) (fun hc => ?_)
  · match j, hj, ht with
    | 0, hj, ht =>
      cases ht
      replace h := h.1 (hj.trans (by decide))
      refine g_iconst dX11_isOfKind_44 ?_
      exact g_zret dX11_isOfKind_45 rfl ⟨Or.inr rfl, h⟩
    | 1, hj, ht =>
      cases ht
      replace h := h.2.1 (hj.trans (by decide))
      refine g_aload_n dX11_isOfKind_46 rfl rfl ?_
      refine g_inst (b := false) dX11_isOfKind_47 cl_X11_128 he0.ge he0.lt (congrArg Prod.fst he0.2.2.1) (by decide) rfl (Or.inr ⟨rfl, by decide +kernel⟩) ?_
      show Go E d kc ks mX11_isOfKind 50 [some (vR r0), some (vI x1)] [vI 0] G _ Q
      exact g_zret dX11_isOfKind_50 rfl ⟨Or.inl rfl, h⟩
    | 2, hj, ht =>
      cases ht
      replace h := h.2.2.1 (hj.trans (by decide))
      refine g_aload_n dX11_isOfKind_51 rfl rfl ?_
      refine g_inst (b := true) dX11_isOfKind_52 cl_X11_145 he0.ge he0.lt (congrArg Prod.fst he0.2.2.1) (by decide) rfl (Or.inl ⟨rfl, Or.inr (by decide +kernel)⟩) ?_
      show Go E d kc ks mX11_isOfKind 55 [some (vR r0), some (vI x1)] [vI 1] G _ Q
      exact g_zret dX11_isOfKind_55 rfl ⟨Or.inr rfl, h⟩
    | 3, hj, ht =>
      cases ht
      replace h := h.2.2.2.1 (hj.trans (by decide))
      refine g_aload_n dX11_isOfKind_56 rfl rfl ?_
      refine g_inst (b := false) dX11_isOfKind_57 cl_X11_151 he0.ge he0.lt (congrArg Prod.fst he0.2.2.1) (by decide) rfl (Or.inr ⟨rfl, by decide +kernel⟩) ?_
      show Go E d kc ks mX11_isOfKind 60 [some (vR r0), some (vI x1)] [vI 0] G _ Q
      exact g_zret dX11_isOfKind_60 rfl ⟨Or.inl rfl, h⟩
    | 4, hj, ht =>
      cases ht
      replace h := h.2.2.2.2.1 (hj.trans (by decide))
      refine g_aload_n dX11_isOfKind_61 rfl rfl ?_
      refine g_inst (b := false) dX11_isOfKind_62 cl_X11_138 he0.ge he0.lt (congrArg Prod.fst he0.2.2.1) (by decide) rfl (Or.inr ⟨rfl, by decide +kernel⟩) ?_
      show Go E d kc ks mX11_isOfKind 65 [some (vR r0), some (vI x1)] [vI 0] G _ Q
      exact g_zret dX11_isOfKind_65 rfl ⟨Or.inl rfl, h⟩
    | 5, hj, ht =>
      cases ht
      replace h := h.2.2.2.2.2.1 (hj.trans (by decide))
      refine g_aload_n dX11_isOfKind_66 rfl rfl ?_
      refine g_inst (b := true) dX11_isOfKind_67 cl_X11_148 he0.ge he0.lt (congrArg Prod.fst he0.2.2.1) (by decide) rfl (Or.inl ⟨rfl, Or.inl rfl⟩) ?_
      show Go E d kc ks mX11_isOfKind 70 [some (vR r0), some (vI x1)] [vI 1] G _ Q
      exact g_zret dX11_isOfKind_70 rfl ⟨Or.inr rfl, h⟩
    | 6, hj, ht =>
      cases ht
      replace h := h.2.2.2.2.2.2.1 (hj.trans (by decide))
      refine g_aload_n dX11_isOfKind_71 rfl rfl ?_
      refine g_inst (b := false) dX11_isOfKind_72 cl_X11_112 he0.ge he0.lt (congrArg Prod.fst he0.2.2.1) (by decide) rfl (Or.inr ⟨rfl, by decide +kernel⟩) ?_
      show Go E d kc ks mX11_isOfKind 75 [some (vR r0), some (vI x1)] [vI 0] G _ Q
      exact g_zret dX11_isOfKind_75 rfl ⟨Or.inl rfl, h⟩
    | j + 7, hj, ht => simp at ht
  · replace h := h.2.2.2.2.2.2.2 hc
    refine g_iconst dX11_isOfKind_76 ?_
    exact g_zret dX11_isOfKind_77 rfl ⟨Or.inl rfl, h⟩
set_option maxRecDepth 20000 in
theorem w_X11_isOfKind_k4 {E : mmE} {d kc ks : Nat} {G : mmG} {D : mmD} {Q : mmQ} {r0 x1 : Int} (hG : Sh G) (he0 : isEv G 4 r0) (h : (((iv x1).toInt = 0 → Q (some (vI 1)) G D) ∧ ((iv x1).toInt = 1 → Q (some (vI 0)) G D) ∧ ((iv x1).toInt = 2 → Q (some (vI 1)) G D) ∧ ((iv x1).toInt = 3 → Q (some (vI 0)) G D) ∧ ((iv x1).toInt = 4 → Q (some (vI 0)) G D) ∧ ((iv x1).toInt = 5 → Q (some (vI 0)) G D) ∧ ((iv x1).toInt = 6 → Q (some (vI 0)) G D) ∧ (((iv x1).toInt < 0 ∨ 6 < (iv x1).toInt) → Q (some (vI 0)) G D))) : Call E d kc ks mX11_isOfKind [vR r0, vI x1] G D Q := by
  show Go E d kc ks mX11_isOfKind 0 [some (vR r0), some (vI x1)] [] G D Q
  refine g_iload_n dX11_isOfKind_0 rfl rfl ?_
  refine g_tswitch 76 [44, 46, 51, 56, 61, 66, 71] dX11_isOfKind_1 (by decide) (by decide) (by decide) (fun j hj t ht => ?_) (fun hc => ?_)
  · match j, hj, ht with
    | 0, hj, ht =>
      cases ht
      replace h := h.1 (hj.trans (by decide))
      refine g_iconst dX11_isOfKind_44 ?_
      exact g_zret dX11_isOfKind_45 rfl ⟨Or.inr rfl, h⟩
    | 1, hj, ht =>
      cases ht
      replace h := h.2.1 (hj.trans (by decide))
      refine g_aload_n dX11_isOfKind_46 rfl rfl ?_
      refine g_inst (b := false) dX11_isOfKind_47 cl_X11_128 he0.ge he0.lt (congrArg Prod.fst he0.2.2.1) (by decide) rfl (Or.inr ⟨rfl, by decide +kernel⟩) ?_
      show Go E d kc ks mX11_isOfKind 50 [some (vR r0), some (vI x1)] [vI 0] G _ Q
      exact g_zret dX11_isOfKind_50 rfl ⟨Or.inl rfl, h⟩
    | 2, hj, ht =>
      cases ht
      replace h := h.2.2.1 (hj.trans (by decide))
      refine g_aload_n dX11_isOfKind_51 rfl rfl ?_
      refine g_inst (b := true) dX11_isOfKind_52 cl_X11_145 he0.ge he0.lt (congrArg Prod.fst he0.2.2.1) (by decide) rfl (Or.inl ⟨rfl, Or.inl rfl⟩) ?_
      show Go E d kc ks mX11_isOfKind 55 [some (vR r0), some (vI x1)] [vI 1] G _ Q
      exact g_zret dX11_isOfKind_55 rfl ⟨Or.inr rfl, h⟩
    | 3, hj, ht =>
      cases ht
      replace h := h.2.2.2.1 (hj.trans (by decide))
      refine g_aload_n dX11_isOfKind_56 rfl rfl ?_
      refine g_inst (b := false) dX11_isOfKind_57 cl_X11_151 he0.ge he0.lt (congrArg Prod.fst he0.2.2.1) (by decide) rfl (Or.inr ⟨rfl, by decide +kernel⟩) ?_
      show Go E d kc ks mX11_isOfKind 60 [some (vR r0), some (vI x1)] [vI 0] G _ Q
      exact g_zret dX11_isOfKind_60 rfl ⟨Or.inl rfl, h⟩
    | 4, hj, ht =>
      cases ht
      replace h := h.2.2.2.2.1 (hj.trans (by decide))
      refine g_aload_n dX11_isOfKind_61 rfl rfl ?_
      refine g_inst (b := false) dX11_isOfKind_62 cl_X11_138 he0.ge he0.lt (congrArg Prod.fst he0.2.2.1) (by decide) rfl (Or.inr ⟨rfl, by decide +kernel⟩) ?_
      show Go E d kc ks mX11_isOfKind 65 [some (vR r0), some (vI x1)] [vI 0] G _ Q
      exact g_zret dX11_isOfKind_65 rfl ⟨Or.inl rfl, h⟩
    | 5, hj, ht =>
      cases ht
      replace h := h.2.2.2.2.2.1 (hj.trans (by decide))
      refine g_aload_n dX11_isOfKind_66 rfl rfl ?_
      refine g_inst (b := false) dX11_isOfKind_67 cl_X11_148 he0.ge he0.lt (congrArg Prod.fst he0.2.2.1) (by decide) rfl (Or.inr ⟨rfl, by decide +kernel⟩) ?_
      show Go E d kc ks mX11_isOfKind 70 [some (vR r0), some (vI x1)] [vI 0] G _ Q
      exact g_zret dX11_isOfKind_70 rfl ⟨Or.inl rfl, h⟩
    | 6, hj, ht =>
      cases ht
      replace h := h.2.2.2.2.2.2.1 (hj.trans (by decide))
      refine g_aload_n dX11_isOfKind_71 rfl rfl ?_
      refine g_inst (b := false) dX11_isOfKind_72 cl_X11_112 he0.ge he0.lt (congrArg Prod.fst he0.2.2.1) (by decide) rfl (Or.inr ⟨rfl, by decide +kernel⟩) ?_
      show Go E d kc ks mX11_isOfKind 75 [some (vR r0), some (vI x1)] [vI 0] G _ Q
      exact g_zret dX11_isOfKind_75 rfl ⟨Or.inl rfl, h⟩
    | j + 7, hj, ht => simp at ht
  · replace h := h.2.2.2.2.2.2.2 hc
    refine g_iconst dX11_isOfKind_76 ?_
    exact g_zret dX11_isOfKind_77 rfl ⟨Or.inl rfl, h⟩
set_option maxRecDepth 20000 in
theorem w_X11_isOfKind_k5 {E : mmE} {d kc ks : Nat} {G : mmG} {D : mmD} {Q : mmQ} {r0 x1 : Int} (hG : Sh G) (he0 : isEv G 5 r0) (h : (((iv x1).toInt = 0 → Q (some (vI 1)) G D) ∧ ((iv x1).toInt = 1 → Q (some (vI 1)) G D) ∧ ((iv x1).toInt = 2 → Q (some (vI 0)) G D) ∧ ((iv x1).toInt = 3 → Q (some (vI 0)) G D) ∧ ((iv x1).toInt = 4 → Q (some (vI 1)) G D) ∧ ((iv x1).toInt = 5 → Q (some (vI 0)) G D) ∧ ((iv x1).toInt = 6 → Q (some (vI 0)) G D) ∧ (((iv x1).toInt < 0 ∨ 6 < (iv x1).toInt) → Q (some (vI 0)) G D))) : Call E d kc ks mX11_isOfKind [vR r0, vI x1] G D Q := by
  show Go E d kc ks mX11_isOfKind 0 [some (vR r0), some (vI x1)] [] G D Q
  refine g_iload_n dX11_isOfKind_0 rfl rfl ?_
  refine g_tswitch 76 [44, 46, 51, 56, 61, 66, 71] dX11_isOfKind_1 (by decide) (by decide) (by decide) (fun j hj t ht => ?_) (fun hc => ?_)
  · match j, hj, ht with
    | 0, hj, ht =>
      cases ht
      replace h := h.1 (hj.trans (by decide))
      refine g_iconst dX11_isOfKind_44 ?_
      exact g_zret dX11_isOfKind_45 rfl ⟨Or.inr rfl, h⟩
    | 1, hj, ht =>
      cases ht
      replace h := h.2.1 (hj.trans (by decide))
      refine g_aload_n dX11_isOfKind_46 rfl rfl ?_
      refine g_inst (b := true) dX11_isOfKind_47 cl_X11_128 he0.ge he0.lt (congrArg Prod.fst he0.2.2.1) (by decide) rfl (Or.inl ⟨rfl, Or.inr (by decide +kernel)⟩) ?_
      show Go E d kc ks mX11_isOfKind 50 [some (vR r0), some (vI x1)] [vI 1] G _ Q
      exact g_zret dX11_isOfKind_50 rfl ⟨Or.inr rfl, h⟩
    | 2, hj, ht =>
      cases ht
      replace h := h.2.2.1 (hj.trans (by decide))
      refine g_aload_n dX11_isOfKind_51 rfl rfl ?_
      refine g_inst (b := false) dX11_isOfKind_52 cl_X11_145 he0.ge he0.lt (congrArg Prod.fst he0.2.2.1) (by decide) rfl (Or.inr ⟨rfl, by decide +kernel⟩) ?_
      show Go E d kc ks mX11_isOfKind 55 [some (vR r0), some (vI x1)] [vI 0] G _ Q
      exact g_zret dX11_isOfKind_55 rfl ⟨Or.inl rfl, h⟩
    | 3, hj, ht =>
      cases ht
      replace h := h.2.2.2.1 (hj.trans (by decide))
      refine g_aload_n dX11_isOfKind_56 rfl rfl ?_
      refine g_inst (b := false) dX11_isOfKind_57 cl_X11_151 he0.ge he0.lt (congrArg Prod.fst he0.2.2.1) (by decide) rfl (Or.inr ⟨rfl, by decide +kernel⟩) ?_
      show Go E d kc ks mX11_isOfKind 60 [some (vR r0), some (vI x1)] [vI 0] G _ Q
      exact g_zret dX11_isOfKind_60 rfl ⟨Or.inl rfl, h⟩
    | 4, hj, ht =>
      cases ht
      replace h := h.2.2.2.2.1 (hj.trans (by decide))
      refine g_aload_n dX11_isOfKind_61 rfl rfl ?_
      refine g_inst (b := true) dX11_isOfKind_62 cl_X11_138 he0.ge he0.lt (congrArg Prod.fst he0.2.2.1) (by decide) rfl (Or.inl ⟨rfl, Or.inl rfl⟩) ?_
      show Go E d kc ks mX11_isOfKind 65 [some (vR r0), some (vI x1)] [vI 1] G _ Q
      exact g_zret dX11_isOfKind_65 rfl ⟨Or.inr rfl, h⟩
    | 5, hj, ht =>
      cases ht
      replace h := h.2.2.2.2.2.1 (hj.trans (by decide))
      refine g_aload_n dX11_isOfKind_66 rfl rfl ?_
      refine g_inst (b := false) dX11_isOfKind_67 cl_X11_148 he0.ge he0.lt (congrArg Prod.fst he0.2.2.1) (by decide) rfl (Or.inr ⟨rfl, by decide +kernel⟩) ?_
      show Go E d kc ks mX11_isOfKind 70 [some (vR r0), some (vI x1)] [vI 0] G _ Q
      exact g_zret dX11_isOfKind_70 rfl ⟨Or.inl rfl, h⟩
    | 6, hj, ht =>
      cases ht
      replace h := h.2.2.2.2.2.2.1 (hj.trans (by decide))
      refine g_aload_n dX11_isOfKind_71 rfl rfl ?_
      refine g_inst (b := false) dX11_isOfKind_72 cl_X11_112 he0.ge he0.lt (congrArg Prod.fst he0.2.2.1) (by decide) rfl (Or.inr ⟨rfl, by decide +kernel⟩) ?_
      show Go E d kc ks mX11_isOfKind 75 [some (vR r0), some (vI x1)] [vI 0] G _ Q
      exact g_zret dX11_isOfKind_75 rfl ⟨Or.inl rfl, h⟩
    | j + 7, hj, ht => simp at ht
  · replace h := h.2.2.2.2.2.2.2 hc
    refine g_iconst dX11_isOfKind_76 ?_
    exact g_zret dX11_isOfKind_77 rfl ⟨Or.inl rfl, h⟩
set_option maxRecDepth 20000 in
theorem w_X11_isOfKind_k7 {E : mmE} {d kc ks : Nat} {G : mmG} {D : mmD} {Q : mmQ} {r0 x1 : Int} (hG : Sh G) (he0 : isEv G 7 r0) (h : (((iv x1).toInt = 0 → Q (some (vI 1)) G D) ∧ ((iv x1).toInt = 1 → Q (some (vI 1)) G D) ∧ ((iv x1).toInt = 2 → Q (some (vI 0)) G D) ∧ ((iv x1).toInt = 3 → Q (some (vI 0)) G D) ∧ ((iv x1).toInt = 4 → Q (some (vI 0)) G D) ∧ ((iv x1).toInt = 5 → Q (some (vI 0)) G D) ∧ ((iv x1).toInt = 6 → Q (some (vI 0)) G D) ∧ (((iv x1).toInt < 0 ∨ 6 < (iv x1).toInt) → Q (some (vI 0)) G D))) : Call E d kc ks mX11_isOfKind [vR r0, vI x1] G D Q := by
  show Go E d kc ks mX11_isOfKind 0 [some (vR r0), some (vI x1)] [] G D Q
  refine g_iload_n dX11_isOfKind_0 rfl rfl ?_
  refine g_tswitch 76 [44, 46, 51, 56, 61, 66, 71] dX11_isOfKind_1 (by decide) (by decide) (by decide) (fun j hj t ht => ?_) (fun hc => ?_)
  · match j, hj, ht with
    | 0, hj, ht =>
      cases ht
      replace h := h.1 (hj.trans (by decide))
      refine g_iconst dX11_isOfKind_44 ?_
      exact g_zret dX11_isOfKind_45 rfl ⟨Or.inr rfl, h⟩
    | 1, hj, ht =>
      cases ht
      replace h := h.2.1 (hj.trans (by decide))
      refine g_aload_n dX11_isOfKind_46 rfl rfl ?_
      refine g_inst (b := true) dX11_isOfKind_47 cl_X11_128 he0.ge he0.lt (congrArg Prod.fst he0.2.2.1) (by decide) rfl (Or.inl ⟨rfl, Or.inl rfl⟩) ?_
      show Go E d kc ks mX11_isOfKind 50 [some (vR r0), some (vI x1)] [vI 1] G _ Q
      exact g_zret dX11_isOfKind_50 rfl ⟨Or.inr rfl, h⟩
    | 2, hj, ht =>
      cases ht
      replace h := h.2.2.1 (hj.trans (by decide))
      refine g_aload_n dX11_isOfKind_51 rfl rfl ?_
      refine g_inst (b := false) dX11_isOfKind_52 cl_X11_145 he0.ge he0.lt (congrArg Prod.fst he0.2.2.1) (by decide) rfl (Or.inr ⟨rfl, by decide +kernel⟩) ?_
      show Go E d kc ks mX11_isOfKind 55 [some (vR r0), some (vI x1)] [vI 0] G _ Q
      exact g_zret dX11_isOfKind_55 rfl ⟨Or.inl rfl, h⟩
    | 3, hj, ht =>
      cases ht
      replace h := h.2.2.2.1 (hj.trans (by decide))
      refine g_aload_n dX11_isOfKind_56 rfl rfl ?_
      refine g_inst (b := false) dX11_isOfKind_57 cl_X11_151 he0.ge he0.lt (congrArg Prod.fst he0.2.2.1) (by decide) rfl (Or.inr ⟨rfl, by decide +kernel⟩) ?_
      show Go E d kc ks mX11_isOfKind 60 [some (vR r0), some (vI x1)] [vI 0] G _ Q
      exact g_zret dX11_isOfKind_60 rfl ⟨Or.inl rfl, h⟩
    | 4, hj, ht =>
      cases ht
      replace h := h.2.2.2.2.1 (hj.trans (by decide))
      refine g_aload_n dX11_isOfKind_61 rfl rfl ?_
      refine g_inst (b := false) dX11_isOfKind_62 cl_X11_138 he0.ge he0.lt (congrArg Prod.fst he0.2.2.1) (by decide) rfl (Or.inr ⟨rfl, by decide +kernel⟩) ?_
      show Go E d kc ks mX11_isOfKind 65 [some (vR r0), some (vI x1)] [vI 0] G _ Q
      exact g_zret dX11_isOfKind_65 rfl ⟨Or.inl rfl, h⟩
    | 5, hj, ht =>
      cases ht
      replace h := h.2.2.2.2.2.1 (hj.trans (by decide))
      refine g_aload_n dX11_isOfKind_66 rfl rfl ?_
      refine g_inst (b := false) dX11_isOfKind_67 cl_X11_148 he0.ge he0.lt (congrArg Prod.fst he0.2.2.1) (by decide) rfl (Or.inr ⟨rfl, by decide +kernel⟩) ?_
      show Go E d kc ks mX11_isOfKind 70 [some (vR r0), some (vI x1)] [vI 0] G _ Q
      exact g_zret dX11_isOfKind_70 rfl ⟨Or.inl rfl, h⟩
    | 6, hj, ht =>
      cases ht
      replace h := h.2.2.2.2.2.2.1 (hj.trans (by decide))
      refine g_aload_n dX11_isOfKind_71 rfl rfl ?_
      refine g_inst (b := false) dX11_isOfKind_72 cl_X11_112 he0.ge he0.lt (congrArg Prod.fst he0.2.2.1) (by decide) rfl (Or.inr ⟨rfl, by decide +kernel⟩) ?_
      show Go E d kc ks mX11_isOfKind 75 [some (vR r0), some (vI x1)] [vI 0] G _ Q
      exact g_zret dX11_isOfKind_75 rfl ⟨Or.inl rfl, h⟩
    | j + 7, hj, ht => simp at ht
  · replace h := h.2.2.2.2.2.2.2 hc
    refine g_iconst dX11_isOfKind_76 ?_
    exact g_zret dX11_isOfKind_77 rfl ⟨Or.inl rfl, h⟩
set_option maxRecDepth 20000 in
theorem w_X11_isOfKind_k8 {E : mmE} {d kc ks : Nat} {G : mmG} {D : mmD} {Q : mmQ} {r0 x1 : Int} (hG : Sh G) (he0 : isEv G 8 r0) (h : (((iv x1).toInt = 0 → Q (some (vI 1)) G D) ∧ ((iv x1).toInt = 1 → Q (some (vI 0)) G D) ∧ ((iv x1).toInt = 2 → Q (some (vI 0)) G D) ∧ ((iv x1).toInt = 3 → Q (some (vI 1)) G D) ∧ ((iv x1).toInt = 4 → Q (some (vI 0)) G D) ∧ ((iv x1).toInt = 5 → Q (some (vI 0)) G D) ∧ ((iv x1).toInt = 6 → Q (some (vI 0)) G D) ∧ (((iv x1).toInt < 0 ∨ 6 < (iv x1).toInt) → Q (some (vI 0)) G D))) : Call E d kc ks mX11_isOfKind [vR r0, vI x1] G D Q := by
  show Go E d kc ks mX11_isOfKind 0 [some (vR r0), some (vI x1)] [] G D Q
  refine g_iload_n dX11_isOfKind_0 rfl rfl ?_
  refine g_tswitch 76 [44, 46, 51, 56, 61, 66, 71] dX11_isOfKind_1 (by decide) (by decide) (by decide) (fun j hj t ht => ?_) (fun hc => ?_)
  · match j, hj, ht with
    | 0, hj, ht =>
      cases ht
      replace h := h.1 (hj.trans (by decide))
      refine g_iconst dX11_isOfKind_44 ?_
      exact g_zret dX11_isOfKind_45 rfl ⟨Or.inr rfl, h⟩
    | 1, hj, ht =>
      cases ht
      replace h := h.2.1 (hj.trans (by decide))
      refine g_aload_n dX11_isOfKind_46 rfl rfl ?_
      refine g_inst (b := false) dX11_isOfKind_47 cl_X11_128 he0.ge he0.lt (congrArg Prod.fst he0.2.2.1) (by decide) rfl (Or.inr ⟨rfl, by decide +kernel⟩) ?_
      show Go E d kc ks mX11_isOfKind 50 [some (vR r0), some (vI x1)] [vI 0] G _ Q
      exact g_zret dX11_isOfKind_50 rfl ⟨Or.inl rfl, h⟩
    | 2, hj, ht =>
      cases ht
      replace h := h.2.2.1 (hj.trans (by decide))
      refine g_aload_n dX11_isOfKind_51 rfl rfl ?_
      refine g_inst (b := false) dX11_isOfKind_52 cl_X11_145 he0.ge he0.lt (congrArg Prod.fst he0.2.2.1) (by decide) rfl (Or.inr ⟨rfl, by decide +kernel⟩) ?_
      show Go E d kc ks mX11_isOfKind 55 [some (vR r0), some (vI x1)] [vI 0] G _ Q
      exact g_zret dX11_isOfKind_55 rfl ⟨Or.inl rfl, h⟩
    | 3, hj, ht =>
      cases ht
      replace h := h.2.2.2.1 (hj.trans (by decide))
      refine g_aload_n dX11_isOfKind_56 rfl rfl ?_
      refine g_inst (b := true) dX11_isOfKind_57 cl_X11_151 he0.ge he0.lt (congrArg Prod.fst he0.2.2.1) (by decide) rfl (Or.inl ⟨rfl, Or.inl rfl⟩) ?_
      show Go E d kc ks mX11_isOfKind 60 [some (vR r0), some (vI x1)] [vI 1] G _ Q
      exact g_zret dX11_isOfKind_60 rfl ⟨Or.inr rfl, h⟩
    | 4, hj, ht =>
      cases ht
      replace h := h.2.2.2.2.1 (hj.trans (by decide))
      refine g_aload_n dX11_isOfKind_61 rfl rfl ?_
      refine g_inst (b := false) dX11_isOfKind_62 cl_X11_138 he0.ge he0.lt (congrArg Prod.fst he0.2.2.1) (by decide) rfl (Or.inr ⟨rfl, by decide +kernel⟩) ?_
      show Go E d kc ks mX11_isOfKind 65 [some (vR r0), some (vI x1)] [vI 0] G _ Q
      exact g_zret dX11_isOfKind_65 rfl ⟨Or.inl rfl, h⟩
    | 5, hj, ht =>
      cases ht
      replace h := h.2.2.2.2.2.1 (hj.trans (by decide))
      refine g_aload_n dX11_isOfKind_66 rfl rfl ?_
      refine g_inst (b := false) dX11_isOfKind_67 cl_X11_148 he0.ge he0.lt (congrArg Prod.fst he0.2.2.1) (by decide) rfl (Or.inr ⟨rfl, by decide +kernel⟩) ?_
      show Go E d kc ks mX11_isOfKind 70 [some (vR r0), some (vI x1)] [vI 0] G _ Q
      exact g_zret dX11_isOfKind_70 rfl ⟨Or.inl rfl, h⟩
    | 6, hj, ht =>
      cases ht
      replace h := h.2.2.2.2.2.2.1 (hj.trans (by decide))
      refine g_aload_n dX11_isOfKind_71 rfl rfl ?_
      refine g_inst (b := false) dX11_isOfKind_72 cl_X11_112 he0.ge he0.lt (congrArg Prod.fst he0.2.2.1) (by decide) rfl (Or.inr ⟨rfl, by decide +kernel⟩) ?_
      show Go E d kc ks mX11_isOfKind 75 [some (vR r0), some (vI x1)] [vI 0] G _ Q
      exact g_zret dX11_isOfKind_75 rfl ⟨Or.inl rfl, h⟩
    | j + 7, hj, ht => simp at ht
  · replace h := h.2.2.2.2.2.2.2 hc
    refine g_iconst dX11_isOfKind_76 ?_
    exact g_zret dX11_isOfKind_77 rfl ⟨Or.inl rfl, h⟩
set_option maxRecDepth 20000 in
theorem w_X11_count_k1 {E : mmE} {d kc ks : Nat} {G : mmG} {D : mmD} {Q : mmQ} {x1 : Int} (hG : Sh G)  (h : (((iv x1).toInt = 0 → Q (some (vI (D 2 3))) G D) ∧ ((iv x1).toInt = 1 → Q (some (vI (D 2 6))) G D) ∧ ((iv x1).toInt = 2 → Q (some (vI (D 2 8))) G D) ∧ ((iv x1).toInt = 3 → Q (some (vI (D 2 10))) G D) ∧ ((iv x1).toInt = 4 → Q (some (vI (D 2 15))) G D) ∧ ((iv x1).toInt = 5 → Q (some (vI (D 2 11))) G D) ∧ ((iv x1).toInt = 6 → Q (some (vI (D 2 1))) G D) ∧ ((iv x1).toInt = 7 → ((¬ (G.2.2 2 9) = 0 → (isEv G 1 (G.2.2 2 9) ∧ Q (some (vI (D (G.2.2 2 9) 6))) G D)) ∧ ((G.2.2 2 9) = 0 → Q (some (vI 0)) G D))) ∧ (((iv x1).toInt < 0 ∨ 7 < (iv x1).toInt) → Q (some (vI (-1))) G D))) : Call E d kc ks mX11_count [vR 2, vI x1] G D Q := by
  show Go E d kc ks mX11_count 0 [some (vR 2), some (vI x1)] [] G D Q
  refine g_iload_n dX11_count_0 rfl rfl ?_
  refine g_tswitch 102 [48, 53, 58, 63, 68, 73, 78, 83] dX11_count_1 (by decide) (by decide) (by decide) (fun j hj t ht => ?_) (fun hc => ?_)
  · match j, hj, ht with
    | 0, hj, ht =>
      cases ht
      replace h := h.1 (hj.trans (by decide))
      refine g_aload_n dX11_count_48 rfl rfl ?_
      refine h_getI (j := 3) dX11_count_49 f_X11_64_10 rfl rfl (by decide) hG.k2 (by decide) (hG.lt (by decide)) ?_
      exact g_iret dX11_count_52 rfl h
    | 1, hj, ht =>
      cases ht
      replace h := h.2.1 (hj.trans (by decide))
      refine g_aload_n dX11_count_53 rfl rfl ?_
      refine h_getI (j := 6) dX11_count_54 f_X11_77_10 rfl rfl (by decide) hG.k2 (by decide) (hG.lt (by decide)) ?_
      exact g_iret dX11_count_57 rfl h
    | 2, hj, ht =>
      cases ht
      replace h := h.2.2.1 (hj.trans (by decide))
      refine g_aload_n dX11_count_58 rfl rfl ?_
      refine h_getI (j := 8) dX11_count_59 f_X11_91_10 rfl rfl (by decide) hG.k2 (by decide) (hG.lt (by decide)) ?_
      exact g_iret dX11_count_62 rfl h
    | 3, hj, ht =>
      cases ht
      replace h := h.2.2.2.1 (hj.trans (by decide))
      refine g_aload_n dX11_count_63 rfl rfl ?_
      refine h_getI (j := 10) dX11_count_64 f_X11_102_10 rfl rfl (by decide) hG.k2 (by decide) (hG.lt (by decide)) ?_
      exact g_iret dX11_count_67 rfl h
    | 4, hj, ht =>
      cases ht
      replace h := h.2.2.2.2.1 (hj.trans (by decide))
      refine g_aload_n dX11_count_68 rfl rfl ?_
      refine h_getI (j := 15) dX11_count_69 f_X11_160_10 rfl rfl (by decide) hG.k2 (by decide) (hG.lt (by decide)) ?_
      exact g_iret dX11_count_72 rfl h
    | 5, hj, ht =>
      cases ht
      replace h := h.2.2.2.2.2.1 (hj.trans (by decide))
      refine g_aload_n dX11_count_73 rfl rfl ?_
      refine h_getI (j := 11) dX11_count_74 f_X11_71_10 rfl rfl (by decide) hG.k2 (by decide) (hG.lt (by decide)) ?_
      exact g_iret dX11_count_77 rfl h
    | 6, hj, ht =>
      cases ht
      replace h := h.2.2.2.2.2.2.1 (hj.trans (by decide))
      refine g_aload_n dX11_count_78 rfl rfl ?_
      refine h_getI (j := 1) dX11_count_79 f_X11_74_10 rfl rfl (by decide) hG.k2 (by decide) (hG.lt (by decide)) ?_
      exact g_iret dX11_count_82 rfl h
    | 7, hj, ht =>
      cases ht
      replace h := h.2.2.2.2.2.2.2.1 (hj.trans (by decide))
      refine g_aload_n dX11_count_83 rfl rfl ?_
      refine h_getR (j := 9) dX11_count_84 f_X11_272_10 rfl rfl (by decide) hG.k2 (by decide) (hG.lt (by decide)) rfl ?_
      refine g_ifnonnull 94 dX11_count_87 (by decide) ⟨fun hc => ?_, fun hc => ?_⟩
      · replace h := h.1 hc
        refine g_aload_n dX11_count_94 rfl rfl ?_
        refine h_getR (j := 9) dX11_count_95 f_X11_272_10 rfl rfl (by decide) hG.k2 (by decide) (hG.lt (by decide)) rfl ?_
        have hf1 := h.1
        replace h := h.2
        refine h_getI (j := 6) dX11_count_98 f_X11_276_1 rfl rfl (by decide) hf1.2.2.1 hf1.ge hf1.lt ?_
        exact g_iret dX11_count_101 rfl h
      · replace h := h.2 hc
        refine g_iconst dX11_count_90 ?_
        refine g_goto 101 dX11_count_91 (by decide) ?_
        exact g_iret dX11_count_101 rfl h
    | j + 8, hj, ht => simp at ht
  · replace h := h.2.2.2.2.2.2.2.2 hc
    refine g_iconst dX11_count_102 ?_
    exact g_iret dX11_count_103 rfl h
set_option maxRecDepth 20000 in
theorem w_X11_count_k2 {E : mmE} {d kc ks : Nat} {G : mmG} {D : mmD} {Q : mmQ} {x1 : Int} (hG : Sh G)  (h : (((iv x1).toInt = 0 → Q (some (vI (D 2 3))) G D) ∧ ((iv x1).toInt = 1 → Q (some (vI (D 2 6))) G D) ∧ ((iv x1).toInt = 2 → Q (some (vI (D 2 8))) G D) ∧ ((iv x1).toInt = 3 → Q (some (vI (D 2 10))) G D) ∧ ((iv x1).toInt = 4 → Q (some (vI (D 2 15))) G D) ∧ ((iv x1).toInt = 5 → Q (some (vI (D 2 11))) G D) ∧ ((iv x1).toInt = 6 → Q (some (vI (D 2 1))) G D) ∧ ((iv x1).toInt = 7 → ((¬ (G.2.2 2 9) = 0 → (isEv G 2 (G.2.2 2 9) ∧ Q (some (vI (D (G.2.2 2 9) 6))) G D)) ∧ ((G.2.2 2 9) = 0 → Q (some (vI 0)) G D))) ∧ (((iv x1).toInt < 0 ∨ 7 < (iv x1).toInt) → Q (some (vI (-1))) G D))) : Call E d kc ks mX11_count [vR 2, vI x1] G D Q := by
  show Go E d kc ks mX11_count 0 [some (vR 2), some (vI x1)] [] G D Q
  refine g_iload_n dX11_count_0 rfl rfl ?_
  refine g_tswitch 102 [48, 53, 58, 63, 68, 73, 78, 83] dX11_count_1 (by decide) (by decide) (by decide) (fun j hj t ht => ?_) (fun hc => ?_)
  · match j, hj, ht with
    | 0, hj, ht =>
      cases ht
      replace h := h.1 (hj.trans (by decide))
      refine g_aload_n dX11_count_48 rfl rfl ?_
      refine h_getI (j := 3) dX11_count_49 f_X11_64_10 rfl rfl (by decide) hG.k2 (by decide) (hG.lt (by decide)) ?_
      exact g_iret dX11_count_52 rfl h
    | 1, hj, ht =>
      cases ht
      replace h := h.2.1 (hj.trans (by decide))
      refine g_aload_n dX11_count_53 rfl rfl ?_
      refine h_getI (j := 6) dX11_count_54 f_X11_77_10 rfl rfl (by decide) hG.k2 (by decide) (hG.lt (by decide)) ?_
      exact g_iret dX11_count_57 rfl h
    | 2, hj, ht =>
      cases ht
      replace h := h.2.2.1 (hj.trans (by decide))
      refine g_aload_n dX11_count_58 rfl rfl ?_
      refine h_getI (j := 8) dX11_count_59 f_X11_91_10 rfl rfl (by decide) hG.k2 (by decide) (hG.lt (by decide)) ?_
      exact g_iret dX11_count_62 rfl h
    | 3, hj, ht =>
      cases ht
      replace h := h.2.2.2.1 (hj.trans (by decide))
      refine g_aload_n dX11_count_63 rfl rfl ?_
      refine h_getI (j := 10) dX11_count_64 f_X11_102_10 rfl rfl (by decide) hG.k2 (by decide) (hG.lt (by decide)) ?_
      exact g_iret dX11_count_67 rfl h
    | 4, hj, ht =>
      cases ht
      replace h := h.2.2.2.2.1 (hj.trans (by decide))
      refine g_aload_n dX11_count_68 rfl rfl ?_
      refine h_getI (j := 15) dX11_count_69 f_X11_160_10 rfl rfl (by decide) hG.k2 (by decide) (hG.lt (by decide)) ?_
      exact g_iret dX11_count_72 rfl h
    | 5, hj, ht =>
      cases ht
      replace h := h.2.2.2.2.2.1 (hj.trans (by decide))
      refine g_aload_n dX11_count_73 rfl rfl ?_
      refine h_getI (j := 11) dX11_count_74 f_X11_71_10 rfl rfl (by decide) hG.k2 (by decide) (hG.lt (by decide)) ?_
      exact g_iret dX11_count_77 rfl h
    | 6, hj, ht =>
      cases ht
      replace h := h.2.2.2.2.2.2.1 (hj.trans (by decide))
      refine g_aload_n dX11_count_78 rfl rfl ?_
      refine h_getI (j := 1) dX11_count_79 f_X11_74_10 rfl rfl (by decide) hG.k2 (by decide) (hG.lt (by decide)) ?_
      exact g_iret dX11_count_82 rfl h
    | 7, hj, ht =>
      cases ht
      replace h := h.2.2.2.2.2.2.2.1 (hj.trans (by decide))
      refine g_aload_n dX11_count_83 rfl rfl ?_
      refine h_getR (j := 9) dX11_count_84 f_X11_272_10 rfl rfl (by decide) hG.k2 (by decide) (hG.lt (by decide)) rfl ?_
      refine g_ifnonnull 94 dX11_count_87 (by decide) ⟨fun hc => ?_, fun hc => ?_⟩
      · replace h := h.1 hc
        refine g_aload_n dX11_count_94 rfl rfl ?_
        refine h_getR (j := 9) dX11_count_95 f_X11_272_10 rfl rfl (by decide) hG.k2 (by decide) (hG.lt (by decide)) rfl ?_
        have hf1 := h.1
        replace h := h.2
        refine h_getI (j := 6) dX11_count_98 f_X11_276_2 rfl rfl (by decide) hf1.2.2.1 hf1.ge hf1.lt ?_
        exact g_iret dX11_count_101 rfl h
      · replace h := h.2 hc
        refine g_iconst dX11_count_90 ?_
        refine g_goto 101 dX11_count_91 (by decide) ?_
        exact g_iret dX11_count_101 rfl h
    | j + 8, hj, ht => simp at ht
  · replace h := h.2.2.2.2.2.2.2.2 hc
    refine g_iconst dX11_count_102 ?_
    exact g_iret dX11_count_103 rfl h
set_option maxRecDepth 20000 in
theorem w_X11_count_k4 {E : mmE} {d kc ks : Nat} {G : mmG} {D : mmD} {Q : mmQ} {x1 : Int} (hG : Sh G)  (h : (((iv x1).toInt = 0 → Q (some (vI (D 2 3))) G D) ∧ ((iv x1).toInt = 1 → Q (some (vI (D 2 6))) G D) ∧ ((iv x1).toInt = 2 → Q (some (vI (D 2 8))) G D) ∧ ((iv x1).toInt = 3 → Q (some (vI (D 2 10))) G D) ∧ ((iv x1).toInt = 4 → Q (some (vI (D 2 15))) G D) ∧ ((iv x1).toInt = 5 → Q (some (vI (D 2 11))) G D) ∧ ((iv x1).toInt = 6 → Q (some (vI (D 2 1))) G D) ∧ ((iv x1).toInt = 7 → ((¬ (G.2.2 2 9) = 0 → (isEv G 4 (G.2.2 2 9) ∧ Q (some (vI (D (G.2.2 2 9) 6))) G D)) ∧ ((G.2.2 2 9) = 0 → Q (some (vI 0)) G D))) ∧ (((iv x1).toInt < 0 ∨ 7 < (iv x1).toInt) → Q (some (vI (-1))) G D))) : Call E d kc ks mX11_count [vR 2, vI x1] G D Q := by
  show Go E d kc ks mX11_count 0 [some (vR 2), some (vI x1)] [] G D Q
  refine g_iload_n dX11_count_0 rfl rfl ?_
  refine g_tswitch 102 [48, 53, 58, 63, 68, 73, 78, 83] dX11_count_1 (by decide) (by decide) (by decide) (fun j hj t ht => ?_) (fun hc => ?_)
  · match j, hj, ht with
    | 0, hj, ht =>
      cases ht
      replace h := h.1 (hj.trans (by decide))
      refine g_aload_n dX11_count_48 rfl rfl ?_
      refine h_getI (j := 3) dX11_count_49 f_X11_64_10 rfl rfl (by decide) hG.k2 (by decide) (hG.lt (by decide)) ?_
      exact g_iret dX11_count_52 rfl h
    | 1, hj, ht =>
      cases ht
      replace h := h.2.1 (hj.trans (by decide))
      refine g_aload_n dX11_count_53 rfl rfl ?_
      refine h_getI (j := 6) dX11_count_54 f_X11_77_10 rfl rfl (by decide) hG.k2 (by decide) (hG.lt (by decide)) ?_
      exact g_iret dX11_count_57 rfl h
    | 2, hj, ht =>
      cases ht
      replace h := h.2.2.1 (hj.trans (by decide))
      refine g_aload_n dX11_count_58 rfl rfl ?_
      refine h_getI (j := 8) dX11_count_59 f_X11_91_10 rfl rfl (by decide) hG.k2 (by decide) (hG.lt (by decide)) ?_
      exact g_iret dX11_count_62 rfl h
    | 3, hj, ht =>
      cases ht
      replace h := h.2.2.2.1 (hj.trans (by decide))
      refine g_aload_n dX11_count_63 rfl rfl ?_
      refine h_getI (j := 10) dX11_count_64 f_X11_102_10 rfl rfl (by decide) hG.k2 (by decide) (hG.lt (by decide)) ?_
      exact g_iret dX11_count_67 rfl h
    | 4, hj, ht =>
      cases ht
      replace h := h.2.2.2.2.1 (hj.trans (by decide))
      refine g_aload_n dX11_count_68 rfl rfl ?_
      refine h_getI (j := 15) dX11_count_69 f_X11_160_10 rfl rfl (by decide) hG.k2 (by decide) (hG.lt (by decide)) ?_
      exact g_iret dX11_count_72 rfl h
    | 5, hj, ht =>
      cases ht
      replace h := h.2.2.2.2.2.1 (hj.trans (by decide))
      refine g_aload_n dX11_count_73 rfl rfl ?_
      refine h_getI (j := 11) dX11_count_74 f_X11_71_10 rfl rfl (by decide) hG.k2 (by decide) (hG.lt (by decide)) ?_
      exact g_iret dX11_count_77 rfl h
    | 6, hj, ht =>
      cases ht
      replace h := h.2.2.2.2.2.2.1 (hj.trans (by decide))
      refine g_aload_n dX11_count_78 rfl rfl ?_
      refine h_getI (j := 1) dX11_count_79 f_X11_74_10 rfl rfl (by decide) hG.k2 (by decide) (hG.lt (by decide)) ?_
      exact g_iret dX11_count_82 rfl h
    | 7, hj, ht =>
      cases ht
      replace h := h.2.2.2.2.2.2.2.1 (hj.trans (by decide))
      refine g_aload_n dX11_count_83 rfl rfl ?_
      refine h_getR (j := 9) dX11_count_84 f_X11_272_10 rfl rfl (by decide) hG.k2 (by decide) (hG.lt (by decide)) rfl ?_
      refine g_ifnonnull 94 dX11_count_87 (by decide) ⟨fun hc => ?_, fun hc => ?_⟩
      · replace h := h.1 hc
        refine g_aload_n dX11_count_94 rfl rfl ?_
        refine h_getR (j := 9) dX11_count_95 f_X11_272_10 rfl rfl (by decide) hG.k2 (by decide) (hG.lt (by decide)) rfl ?_
        have hf1 := h.1
        replace h := h.2
        refine h_getI (j := 6) dX11_count_98 f_X11_276_4 rfl rfl (by decide) hf1.2.2.1 hf1.ge hf1.lt ?_
        exact g_iret dX11_count_101 rfl h
      · replace h := h.2 hc
        refine g_iconst dX11_count_90 ?_
        refine g_goto 101 dX11_count_91 (by decide) ?_
        exact g_iret dX11_count_101 rfl h
    | j + 8, hj, ht => simp at ht
  · replace h := h.2.2.2.2.2.2.2.2 hc
    refine g_iconst dX11_count_102 ?_
    exact g_iret dX11_count_103 rfl h
set_option maxRecDepth 20000 in
theorem w_X11_count_k5 {E : mmE} {d kc ks : Nat} {G : mmG} {D : mmD} {Q : mmQ} {x1 : Int} (hG : Sh G)  (h : (((iv x1).toInt = 0 → Q (some (vI (D 2 3))) G D) ∧ ((iv x1).toInt = 1 → Q (some (vI (D 2 6))) G D) ∧ ((iv x1).toInt = 2 → Q (some (vI (D 2 8))) G D) ∧ ((iv x1).toInt = 3 → Q (some (vI (D 2 10))) G D) ∧ ((iv x1).toInt = 4 → Q (some (vI (D 2 15))) G D) ∧ ((iv x1).toInt = 5 → Q (some (vI (D 2 11))) G D) ∧ ((iv x1).toInt = 6 → Q (some (vI (D 2 1))) G D) ∧ ((iv x1).toInt = 7 → ((¬ (G.2.2 2 9) = 0 → (isEv G 5 (G.2.2 2 9) ∧ Q (some (vI (D (G.2.2 2 9) 6))) G D)) ∧ ((G.2.2 2 9) = 0 → Q (some (vI 0)) G D))) ∧ (((iv x1).toInt < 0 ∨ 7 < (iv x1).toInt) → Q (some (vI (-1))) G D))) : Call E d kc ks mX11_count [vR 2, vI x1] G D Q := by
  show Go E d kc ks mX11_count 0 [some (vR 2), some (vI x1)] [] G D Q
  refine g_iload_n dX11_count_0 rfl rfl ?_
  refine g_tswitch 102 [48, 53, 58, 63, 68, 73, 78, 83] dX11_count_1 (by decide) (by decide) (by decide) (fun j hj t ht => ?_) (fun hc => ?_)
  · match j, hj, ht with
    | 0, hj, ht =>
      cases ht
      replace h := h.1 (hj.trans (by decide))
      refine g_aload_n dX11_count_48 rfl rfl ?_
      refine h_getI (j := 3) dX11_count_49 f_X11_64_10 rfl rfl (by decide) hG.k2 (by decide) (hG.lt (by decide)) ?_
      exact g_iret dX11_count_52 rfl h
    | 1, hj, ht =>
      cases ht
      replace h := h.2.1 (hj.trans (by decide))
      refine g_aload_n dX11_count_53 rfl rfl ?_
      refine h_getI (j := 6) dX11_count_54 f_X11_77_10 rfl rfl (by decide) hG.k2 (by decide) (hG.lt (by decide)) ?_
      exact g_iret dX11_count_57 rfl h
    | 2, hj, ht =>
      cases ht
      replace h := h.2.2.1 (hj.trans (by decide))
      refine g_aload_n dX11_count_58 rfl rfl ?_
      refine h_getI (j := 8) dX11_count_59 f_X11_91_10 rfl rfl (by decide) hG.k2 (by decide) (hG.lt (by decide)) ?_
      exact g_iret dX11_count_62 rfl h
    | 3, hj, ht =>
      cases ht
      replace h := h.2.2.2.1 (hj.trans (by decide))
      refine g_aload_n dX11_count_63 rfl rfl ?_
      refine h_getI (j := 10) dX11_count_64 f_X11_102_10 rfl rfl (by decide) hG.k2 (by decide) (hG.lt (by decide)) ?_
      exact g_iret dX11_count_67 rfl h
    | 4, hj, ht =>
      cases ht
      replace h := h.2.2.2.2.1 (hj.trans (by decide))
      refine g_aload_n dX11_count_68 rfl rfl ?_
      refine h_getI (j := 15) dX11_count_69 f_X11_160_10 rfl rfl (by decide) hG.k2 (by decide) (hG.lt (by decide)) ?_
      exact g_iret dX11_count_72 rfl h
    | 5, hj, ht =>
      cases ht
      replace h := h.2.2.2.2.2.1 (hj.trans (by decide))
      refine g_aload_n dX11_count_73 rfl rfl ?_
      refine h_getI (j := 11) dX11_count_74 f_X11_71_10 rfl rfl (by decide) hG.k2 (by decide) (hG.lt (by decide)) ?_
      exact g_iret dX11_count_77 rfl h
    | 6, hj, ht =>
      cases ht
      replace h := h.2.2.2.2.2.2.1 (hj.trans (by decide))
      refine g_aload_n dX11_count_78 rfl rfl ?_
      refine h_getI (j := 1) dX11_count_79 f_X11_74_10 rfl rfl (by decide) hG.k2 (by decide) (hG.lt (by decide)) ?_
      exact g_iret dX11_count_82 rfl h
    | 7, hj, ht =>
      cases ht
      replace h := h.2.2.2.2.2.2.2.1 (hj.trans (by decide))
      refine g_aload_n dX11_count_83 rfl rfl ?_
      refine h_getR (j := 9) dX11_count_84 f_X11_272_10 rfl rfl (by decide) hG.k2 (by decide) (hG.lt (by decide)) rfl ?_
      refine g_ifnonnull 94 dX11_count_87 (by decide) ⟨fun hc => ?_, fun hc => ?_⟩
      · replace h := h.1 hc
        refine g_aload_n dX11_count_94 rfl rfl ?_
        refine h_getR (j := 9) dX11_count_95 f_X11_272_10 rfl rfl (by decide) hG.k2 (by decide) (hG.lt (by decide)) rfl ?_
        have hf1 := h.1
        replace h := h.2
        refine h_getI (j := 6) dX11_count_98 f_X11_276_5 rfl rfl (by decide) hf1.2.2.1 hf1.ge hf1.lt ?_
        exact g_iret dX11_count_101 rfl h
      · replace h := h.2 hc
        refine g_iconst dX11_count_90 ?_
        refine g_goto 101 dX11_count_91 (by decide) ?_
        exact g_iret dX11_count_101 rfl h
    | j + 8, hj, ht => simp at ht
  · replace h := h.2.2.2.2.2.2.2.2 hc
    refine g_iconst dX11_count_102 ?_
    exact g_iret dX11_count_103 rfl h
set_option maxRecDepth 20000 in
theorem w_X11_count_k7 {E : mmE} {d kc ks : Nat} {G : mmG} {D : mmD} {Q : mmQ} {x1 : Int} (hG : Sh G)  (h : (((iv x1).toInt = 0 → Q (some (vI (D 2 3))) G D) ∧ ((iv x1).toInt = 1 → Q (some (vI (D 2 6))) G D) ∧ ((iv x1).toInt = 2 → Q (some (vI (D 2 8))) G D) ∧ ((iv x1).toInt = 3 → Q (some (vI (D 2 10))) G D) ∧ ((iv x1).toInt = 4 → Q (some (vI (D 2 15))) G D) ∧ ((iv x1).toInt = 5 → Q (some (vI (D 2 11))) G D) ∧ ((iv x1).toInt = 6 → Q (some (vI (D 2 1))) G D) ∧ ((iv x1).toInt = 7 → ((¬ (G.2.2 2 9) = 0 → (isEv G 7 (G.2.2 2 9) ∧ Q (some (vI (D (G.2.2 2 9) 6))) G D)) ∧ ((G.2.2 2 9) = 0 → Q (some (vI 0)) G D))) ∧ (((iv x1).toInt < 0 ∨ 7 < (iv x1).toInt) → Q (some (vI (-1))) G D))) : Call E d kc ks mX11_count [vR 2, vI x1] G D Q := by
  show Go E d kc ks mX11_count 0 [some (vR 2), some (vI x1)] [] G D Q
  refine g_iload_n dX11_count_0 rfl rfl ?_
  refine g_tswitch 102 [48, 53, 58, 63, 68, 73, 78, 83] dX11_count_1 (by decide) (by decide) (by decide) (fun j hj t ht => ?_) (fun hc => ?_)
  · match j, hj, ht with
    | 0, hj, ht =>
      cases ht
      replace h := h.1 (hj.trans (by decide))
      refine g_aload_n dX11_count_48 rfl rfl ?_
      refine h_getI (j := 3) dX11_count_49 f_X11_64_10 rfl rfl (by decide) hG.k2 (by decide) (hG.lt (by decide)) ?_
      exact g_iret dX11_count_52 rfl h
    | 1, hj, ht =>
      cases ht
      replace h := h.2.1 (hj.trans (by decide))
      refine g_aload_n dX11_count_53 rfl rfl ?_
      refine h_getI (j := 6) dX11_count_54 f_X11_77_10 rfl rfl (by decide) hG.k2 (by decide) (hG.lt (by decide)) ?_
      exact g_iret dX11_count_57 rfl h
    | 2, hj, ht =>
      cases ht
      replace h := h.2.2.1 (hj.trans (by decide))
      refine g_aload_n dX11_count_58 rfl rfl ?_
      refine h_getI (j := 8) dX11_count_59 f_X11_91_10 rfl rfl (by decide) hG.k2 (by decide) (hG.lt (by decide)) ?_
      exact g_iret dX11_count_62 rfl h
    | 3, hj, ht =>
      cases ht
      replace h := h.2.2.2.1 (hj.trans (by decide))
      refine g_aload_n dX11_count_63 rfl rfl ?_
      refine h_getI (j := 10) dX11_count_64 f_X11_102_10 rfl rfl (by decide) hG.k2 (by decide) (hG.lt (by decide)) ?_
      exact g_iret dX11_count_67 rfl h
    | 4, hj, ht =>
      cases ht
      replace h := h.2.2.2.2.1 (hj.trans (by decide))
      refine g_aload_n dX11_count_68 rfl rfl ?_
      refine h_getI (j := 15) dX11_count_69 f_X11_160_10 rfl rfl (by decide) hG.k2 (by decide) (hG.lt (by decide)) ?_
      exact g_iret dX11_count_72 rfl h
    | 5, hj, ht =>
      cases ht
      replace h := h.2.2.2.2.2.1 (hj.trans (by decide))
      refine g_aload_n dX11_count_73 rfl rfl ?_
      refine h_getI (j := 11) dX11_count_74 f_X11_71_10 rfl rfl (by decide) hG.k2 (by decide) (hG.lt (by decide)) ?_
      exact g_iret dX11_count_77 rfl h
    | 6, hj, ht =>
      cases ht
      replace h := h.2.2.2.2.2.2.1 (hj.trans (by decide))
      refine g_aload_n dX11_count_78 rfl rfl ?_
      refine h_getI (j := 1) dX11_count_79 f_X11_74_10 rfl rfl (by decide) hG.k2 (by decide) (hG.lt (by decide)) ?_
      exact g_iret dX11_count_82 rfl h
    | 7, hj, ht =>
      cases ht
      replace h := h.2.2.2.2.2.2.2.1 (hj.trans (by decide))
      refine g_aload_n dX11_count_83 rfl rfl ?_
      refine h_getR (j := 9) dX11_count_84 f_X11_272_10 rfl rfl (by decide) hG.k2 (by decide) (hG.lt (by decide)) rfl ?_
      refine g_ifnonnull 94 dX11_count_87 (by decide) ⟨fun hc => ?_, fun hc => ?_⟩
      · replace h := h.1 hc
        refine g_aload_n dX11_count_94 rfl rfl ?_
        refine h_getR (j := 9) dX11_count_95 f_X11_272_10 rfl rfl (by decide) hG.k2 (by decide) (hG.lt (by decide)) rfl ?_
        have hf1 := h.1
        replace h := h.2
        refine h_getI (j := 6) dX11_count_98 f_X11_276_7 rfl rfl (by decide) hf1.2.2.1 hf1.ge hf1.lt ?_
        exact g_iret dX11_count_101 rfl h
      · replace h := h.2 hc
        refine g_iconst dX11_count_90 ?_
        refine g_goto 101 dX11_count_91 (by decide) ?_
        exact g_iret dX11_count_101 rfl h
    | j + 8, hj, ht => simp at ht
  · replace h := h.2.2.2.2.2.2.2.2 hc
    refine g_iconst dX11_count_102 ?_
    exact g_iret dX11_count_103 rfl h
set_option maxRecDepth 20000 in
theorem w_X11_count_k8 {E : mmE} {d kc ks : Nat} {G : mmG} {D : mmD} {Q : mmQ} {x1 : Int} (hG : Sh G)  (h : (((iv x1).toInt = 0 → Q (some (vI (D 2 3))) G D) ∧ ((iv x1).toInt = 1 → Q (some (vI (D 2 6))) G D) ∧ ((iv x1).toInt = 2 → Q (some (vI (D 2 8))) G D) ∧ ((iv x1).toInt = 3 → Q (some (vI (D 2 10))) G D) ∧ ((iv x1).toInt = 4 → Q (some (vI (D 2 15))) G D) ∧ ((iv x1).toInt = 5 → Q (some (vI (D 2 11))) G D) ∧ ((iv x1).toInt = 6 → Q (some (vI (D 2 1))) G D) ∧ ((iv x1).toInt = 7 → ((¬ (G.2.2 2 9) = 0 → (isEv G 8 (G.2.2 2 9) ∧ Q (some (vI (D (G.2.2 2 9) 6))) G D)) ∧ ((G.2.2 2 9) = 0 → Q (some (vI 0)) G D))) ∧ (((iv x1).toInt < 0 ∨ 7 < (iv x1).toInt) → Q (some (vI (-1))) G D))) : Call E d kc ks mX11_count [vR 2, vI x1] G D Q := by
  show Go E d kc ks mX11_count 0 [some (vR 2), some (vI x1)] [] G D Q
  refine g_iload_n dX11_count_0 rfl rfl ?_
  refine g_tswitch 102 [48, 53, 58, 63, 68, 73, 78, 83] dX11_count_1 (by decide) (by decide) (by decide) (fun j hj t ht => ?_) (fun hc => ?_)
  · match j, hj, ht with
    | 0, hj, ht =>
      cases ht
      replace h := h.1 (hj.trans (by decide))
      refine g_aload_n dX11_count_48 rfl rfl ?_
      refine h_getI (j := 3) dX11_count_49 f_X11_64_10 rfl rfl (by decide) hG.k2 (by decide) (hG.lt (by decide)) ?_
      exact g_iret dX11_count_52 rfl h
    | 1, hj, ht =>
      cases ht
      replace h := h.2.1 (hj.trans (by decide))
      refine g_aload_n dX11_count_53 rfl rfl ?_
      refine h_getI (j := 6) dX11_count_54 f_X11_77_10 rfl rfl (by decide) hG.k2 (by decide) (hG.lt (by decide)) ?_
      exact g_iret dX11_count_57 rfl h
    | 2, hj, ht =>
      cases ht
      replace h := h.2.2.1 (hj.trans (by decide))
      refine g_aload_n dX11_count_58 rfl rfl ?_
      refine h_getI (j := 8) dX11_count_59 f_X11_91_10 rfl rfl (by decide) hG.k2 (by decide) (hG.lt (by decide)) ?_
      exact g_iret dX11_count_62 rfl h
    | 3, hj, ht =>
      cases ht
      replace h := h.2.2.2.1 (hj.trans (by decide))
      refine g_aload_n dX11_count_63 rfl rfl ?_
      refine h_getI (j := 10) dX11_count_64 f_X11_102_10 rfl rfl (by decide) hG.k2 (by decide) (hG.lt (by decide)) ?_
      exact g_iret dX11_count_67 rfl h
    | 4, hj, ht =>
      cases ht
      replace h := h.2.2.2.2.1 (hj.trans (by decide))
      refine g_aload_n dX11_count_68 rfl rfl ?_
      refine h_getI (j := 15) dX11_count_69 f_X11_160_10 rfl rfl (by decide) hG.k2 (by decide) (hG.lt (by decide)) ?_
      exact g_iret dX11_count_72 rfl h
    | 5, hj, ht =>
      cases ht
      replace h := h.2.2.2.2.2.1 (hj.trans (by decide))
      refine g_aload_n dX11_count_73 rfl rfl ?_
      refine h_getI (j := 11) dX11_count_74 f_X11_71_10 rfl rfl (by decide) hG.k2 (by decide) (hG.lt (by decide)) ?_
      exact g_iret dX11_count_77 rfl h
    | 6, hj, ht =>
      cases ht
      replace h := h.2.2.2.2.2.2.1 (hj.trans (by decide))
      refine g_aload_n dX11_count_78 rfl rfl ?_
      refine h_getI (j := 1) dX11_count_79 f_X11_74_10 rfl rfl (by decide) hG.k2 (by decide) (hG.lt (by decide)) ?_
      exact g_iret dX11_count_82 rfl h
    | 7, hj, ht =>
      cases ht
      replace h := h.2.2.2.2.2.2.2.1 (hj.trans (by decide))
      refine g_aload_n dX11_count_83 rfl rfl ?_
      refine h_getR (j := 9) dX11_count_84 f_X11_272_10 rfl rfl (by decide) hG.k2 (by decide) (hG.lt (by decide)) rfl ?_
      refine g_ifnonnull 94 dX11_count_87 (by decide) ⟨fun hc => ?_, fun hc => ?_⟩
      · replace h := h.1 hc
        refine g_aload_n dX11_count_94 rfl rfl ?_
        refine h_getR (j := 9) dX11_count_95 f_X11_272_10 rfl rfl (by decide) hG.k2 (by decide) (hG.lt (by decide)) rfl ?_
        have hf1 := h.1
        replace h := h.2
        refine h_getI (j := 6) dX11_count_98 f_X11_276_8 rfl rfl (by decide) hf1.2.2.1 hf1.ge hf1.lt ?_
        exact g_iret dX11_count_101 rfl h
      · replace h := h.2 hc
        refine g_iconst dX11_count_90 ?_
        refine g_goto 101 dX11_count_91 (by decide) ?_
        exact g_iret dX11_count_101 rfl h
    | j + 8, hj, ht => simp at ht
  · replace h := h.2.2.2.2.2.2.2.2 hc
    refine g_iconst dX11_count_102 ?_
    exact g_iret dX11_count_103 rfl h
set_option maxRecDepth 20000 in
theorem w_X11_trace_k1 {E : mmE} {d kc ks : Nat} {G : mmG} {D : mmD} {Q : mmQ} {x1 : Int} (hG : Sh G)  (h : (((G.2.2 2 9) = 0 → Q (some (vI (-1))) G D) ∧ (¬ (G.2.2 2 9) = 0 → ((iv x1 < iv 0 → Q (some (vI (-1))) G D) ∧ (¬ iv x1 < iv 0 → (isEv G 1 (G.2.2 2 9) ∧ ((iv (D (G.2.2 2 9) 6) ≤ iv x1 → Q (some (vI (-1))) G D) ∧ (¬ iv (D (G.2.2 2 9) 6) ≤ iv x1 → ((iv x1 < iv 20 → (isEv G 1 (G.2.2 2 9) ∧ ((0 ≤ x1 ∧ x1 < 20) ∧ Q (some (vI (D ((G.2.2 2 9) + 1) x1))) G D))) ∧ (¬ iv x1 < iv 20 → Q (some (vI (-1))) G D)))))))))) : Call E d kc ks mX11_trace [vR 2, vI x1] G D Q := by
  show Go E d kc ks mX11_trace 0 [some (vR 2), some (vI x1)] [] G D Q
  refine g_aload_n dX11_trace_0 rfl rfl ?_
  refine h_getR (j := 9) dX11_trace_1 f_X11_272_10 rfl rfl (by decide) hG.k2 (by decide) (hG.lt (by decide)) rfl ?_
  refine g_ifnull 28 dX11_trace_4 (by decide) ⟨fun hc => ?_, fun hc => ?_⟩
  · replace h := h.1 hc
    refine g_iconst dX11_trace_28 ?_
    exact g_iret dX11_trace_29 rfl h
  · replace h := h.2 hc
    refine g_iload_n dX11_trace_7 rfl rfl ?_
    refine g_if_lt 28 dX11_trace_8 (by decide) ⟨fun hc => ?_, fun hc => ?_⟩
    · replace h := h.1 hc
      refine g_iconst dX11_trace_28 ?_
      exact g_iret dX11_trace_29 rfl h
    · replace h := h.2 hc
      refine g_iload_n dX11_trace_11 rfl rfl ?_
      refine g_aload_n dX11_trace_12 rfl rfl ?_
      refine h_getR (j := 9) dX11_trace_13 f_X11_272_10 rfl rfl (by decide) hG.k2 (by decide) (hG.lt (by decide)) rfl ?_
      have hf1 := h.1
      replace h := h.2
      refine h_getI (j := 6) dX11_trace_16 f_X11_276_1 rfl rfl (by decide) hf1.2.2.1 hf1.ge hf1.lt ?_
      refine g_icmp_ge 28 dX11_trace_19 (by decide) ⟨fun hc => ?_, fun hc => ?_⟩
      · replace h := h.1 hc
        refine g_iconst dX11_trace_28 ?_
        exact g_iret dX11_trace_29 rfl h
      · replace h := h.2 hc
        refine g_iload_n dX11_trace_22 rfl rfl ?_
        refine g_bipush dX11_trace_23 bp_20 ?_
        refine g_icmp_lt 30 dX11_trace_25 (by decide) ⟨fun hc => ?_, fun hc => ?_⟩
        · replace h := h.1 hc
          refine g_aload_n dX11_trace_30 rfl rfl ?_
          refine h_getR (j := 9) dX11_trace_31 f_X11_272_10 rfl rfl (by decide) hG.k2 (by decide) (hG.lt (by decide)) rfl ?_
          have hf2 := h.1
          replace h := h.2
          refine h_getR (j := 5) dX11_trace_34 f_X11_288_1 rfl rfl (by decide) hf2.2.2.1 hf2.ge hf2.lt hf2.2.2.2.2 ?_
          refine g_iload_n dX11_trace_37 rfl rfl ?_
          refine g_iald dX11_trace_38 hf2.2.2.2.1 hf2.gea hf2.lta (by decide) ⟨h.1, ?_⟩
          replace h := h.2
          exact g_iret dX11_trace_39 rfl h
        · replace h := h.2 hc
          refine g_iconst dX11_trace_28 ?_
          exact g_iret dX11_trace_29 rfl h
set_option maxRecDepth 20000 in
theorem w_X11_trace_k2 {E : mmE} {d kc ks : Nat} {G : mmG} {D : mmD} {Q : mmQ} {x1 : Int} (hG : Sh G)  (h : (((G.2.2 2 9) = 0 → Q (some (vI (-1))) G D) ∧ (¬ (G.2.2 2 9) = 0 → ((iv x1 < iv 0 → Q (some (vI (-1))) G D) ∧ (¬ iv x1 < iv 0 → (isEv G 2 (G.2.2 2 9) ∧ ((iv (D (G.2.2 2 9) 6) ≤ iv x1 → Q (some (vI (-1))) G D) ∧ (¬ iv (D (G.2.2 2 9) 6) ≤ iv x1 → ((iv x1 < iv 20 → (isEv G 2 (G.2.2 2 9) ∧ ((0 ≤ x1 ∧ x1 < 20) ∧ Q (some (vI (D ((G.2.2 2 9) + 1) x1))) G D))) ∧ (¬ iv x1 < iv 20 → Q (some (vI (-1))) G D)))))))))) : Call E d kc ks mX11_trace [vR 2, vI x1] G D Q := by
  show Go E d kc ks mX11_trace 0 [some (vR 2), some (vI x1)] [] G D Q
  refine g_aload_n dX11_trace_0 rfl rfl ?_
  refine h_getR (j := 9) dX11_trace_1 f_X11_272_10 rfl rfl (by decide) hG.k2 (by decide) (hG.lt (by decide)) rfl ?_
  refine g_ifnull 28 dX11_trace_4 (by decide) ⟨fun hc => ?_, fun hc => ?_⟩
  · replace h := h.1 hc
    refine g_iconst dX11_trace_28 ?_
    exact g_iret dX11_trace_29 rfl h
  · replace h := h.2 hc
    refine g_iload_n dX11_trace_7 rfl rfl ?_
    refine g_if_lt 28 dX11_trace_8 (by decide) ⟨fun hc => ?_, fun hc => ?_⟩
    · replace h := h.1 hc
      refine g_iconst dX11_trace_28 ?_
      exact g_iret dX11_trace_29 rfl h
    · replace h := h.2 hc
      refine g_iload_n dX11_trace_11 rfl rfl ?_
      refine g_aload_n dX11_trace_12 rfl rfl ?_
      refine h_getR (j := 9) dX11_trace_13 f_X11_272_10 rfl rfl (by decide) hG.k2 (by decide) (hG.lt (by decide)) rfl ?_
      have hf1 := h.1
      replace h := h.2
      refine h_getI (j := 6) dX11_trace_16 f_X11_276_2 rfl rfl (by decide) hf1.2.2.1 hf1.ge hf1.lt ?_
      refine g_icmp_ge 28 dX11_trace_19 (by decide) ⟨fun hc => ?_, fun hc => ?_⟩
      · replace h := h.1 hc
        refine g_iconst dX11_trace_28 ?_
        exact g_iret dX11_trace_29 rfl h
      · replace h := h.2 hc
        refine g_iload_n dX11_trace_22 rfl rfl ?_
        refine g_bipush dX11_trace_23 bp_20 ?_
        refine g_icmp_lt 30 dX11_trace_25 (by decide) ⟨fun hc => ?_, fun hc => ?_⟩
        · replace h := h.1 hc
          refine g_aload_n dX11_trace_30 rfl rfl ?_
          refine h_getR (j := 9) dX11_trace_31 f_X11_272_10 rfl rfl (by decide) hG.k2 (by decide) (hG.lt (by decide)) rfl ?_
          have hf2 := h.1
          replace h := h.2
          refine h_getR (j := 5) dX11_trace_34 f_X11_288_2 rfl rfl (by decide) hf2.2.2.1 hf2.ge hf2.lt hf2.2.2.2.2 ?_
          refine g_iload_n dX11_trace_37 rfl rfl ?_
          refine g_iald dX11_trace_38 hf2.2.2.2.1 hf2.gea hf2.lta (by decide) ⟨h.1, ?_⟩
          replace h := h.2
          exact g_iret dX11_trace_39 rfl h
        · replace h := h.2 hc
          refine g_iconst dX11_trace_28 ?_
          exact g_iret dX11_trace_29 rfl h
set_option maxRecDepth 20000 in
theorem w_X11_trace_k4 {E : mmE} {d kc ks : Nat} {G : mmG} {D : mmD} {Q : mmQ} {x1 : Int} (hG : Sh G)  (h : (((G.2.2 2 9) = 0 → Q (some (vI (-1))) G D) ∧ (¬ (G.2.2 2 9) = 0 → ((iv x1 < iv 0 → Q (some (vI (-1))) G D) ∧ (¬ iv x1 < iv 0 → (isEv G 4 (G.2.2 2 9) ∧ ((iv (D (G.2.2 2 9) 6) ≤ iv x1 → Q (some (vI (-1))) G D) ∧ (¬ iv (D (G.2.2 2 9) 6) ≤ iv x1 → ((iv x1 < iv 20 → (isEv G 4 (G.2.2 2 9) ∧ ((0 ≤ x1 ∧ x1 < 20) ∧ Q (some (vI (D ((G.2.2 2 9) + 1) x1))) G D))) ∧ (¬ iv x1 < iv 20 → Q (some (vI (-1))) G D)))))))))) : Call E d kc ks mX11_trace [vR 2, vI x1] G D Q := by
  show Go E d kc ks mX11_trace 0 [some (vR 2), some (vI x1)] [] G D Q
  refine g_aload_n dX11_trace_0 rfl rfl ?_
  refine h_getR (j := 9) dX11_trace_1 f_X11_272_10 rfl rfl (by decide) hG.k2 (by decide) (hG.lt (by decide)) rfl ?_
  refine g_ifnull 28 dX11_trace_4 (by decide) ⟨fun hc => ?_, fun hc => ?_⟩
  · replace h := h.1 hc
    refine g_iconst dX11_trace_28 ?_
    exact g_iret dX11_trace_29 rfl h
  · replace h := h.2 hc
    refine g_iload_n dX11_trace_7 rfl rfl ?_
    refine g_if_lt 28 dX11_trace_8 (by decide) ⟨fun hc => ?_, fun hc => ?_⟩
    · replace h := h.1 hc
      refine g_iconst dX11_trace_28 ?_
      exact g_iret dX11_trace_29 rfl h
    · replace h := h.2 hc
      refine g_iload_n dX11_trace_11 rfl rfl ?_
      refine g_aload_n dX11_trace_12 rfl rfl ?_
      refine h_getR (j := 9) dX11_trace_13 f_X11_272_10 rfl rfl (by decide) hG.k2 (by decide) (hG.lt (by decide)) rfl ?_
      have hf1 := h.1
      replace h := h.2
      refine h_getI (j := 6) dX11_trace_16 f_X11_276_4 rfl rfl (by decide) hf1.2.2.1 hf1.ge hf1.lt ?_
      refine g_icmp_ge 28 dX11_trace_19 (by decide) ⟨fun hc => ?_, fun hc => ?_⟩
      · replace h := h.1 hc
        refine g_iconst dX11_trace_28 ?_
        exact g_iret dX11_trace_29 rfl h
      · replace h := h.2 hc
        refine g_iload_n dX11_trace_22 rfl rfl ?_
        refine g_bipush dX11_trace_23 bp_20 ?_
        refine g_icmp_lt 30 dX11_trace_25 (by decide) ⟨fun hc => ?_, fun hc => ?_⟩
        · replace h := h.1 hc
          refine g_aload_n dX11_trace_30 rfl rfl ?_
          refine h_getR (j := 9) dX11_trace_31 f_X11_272_10 rfl rfl (by decide) hG.k2 (by decide) (hG.lt (by decide)) rfl ?_
          have hf2 := h.1
          replace h := h.2
          refine h_getR (j := 5) dX11_trace_34 f_X11_288_4 rfl rfl (by decide) hf2.2.2.1 hf2.ge hf2.lt hf2.2.2.2.2 ?_
          refine g_iload_n dX11_trace_37 rfl rfl ?_
          refine g_iald dX11_trace_38 hf2.2.2.2.1 hf2.gea hf2.lta (by decide) ⟨h.1, ?_⟩
          replace h := h.2
          exact g_iret dX11_trace_39 rfl h
        · replace h := h.2 hc
          refine g_iconst dX11_trace_28 ?_
          exact g_iret dX11_trace_29 rfl h
set_option maxRecDepth 20000 in
theorem w_X11_trace_k5 {E : mmE} {d kc ks : Nat} {G : mmG} {D : mmD} {Q : mmQ} {x1 : Int} (hG : Sh G)  (h : (((G.2.2 2 9) = 0 → Q (some (vI (-1))) G D) ∧ (¬ (G.2.2 2 9) = 0 → ((iv x1 < iv 0 → Q (some (vI (-1))) G D) ∧ (¬ iv x1 < iv 0 → (isEv G 5 (G.2.2 2 9) ∧ ((iv (D (G.2.2 2 9) 6) ≤ iv x1 → Q (some (vI (-1))) G D) ∧ (¬ iv (D (G.2.2 2 9) 6) ≤ iv x1 → ((iv x1 < iv 20 → (isEv G 5 (G.2.2 2 9) ∧ ((0 ≤ x1 ∧ x1 < 20) ∧ Q (some (vI (D ((G.2.2 2 9) + 1) x1))) G D))) ∧ (¬ iv x1 < iv 20 → Q (some (vI (-1))) G D)))))))))) : Call E d kc ks mX11_trace [vR 2, vI x1] G D Q := by
  show Go E d kc ks mX11_trace 0 [some (vR 2), some (vI x1)] [] G D Q
  refine g_aload_n dX11_trace_0 rfl rfl ?_
  refine h_getR (j := 9) dX11_trace_1 f_X11_272_10 rfl rfl (by decide) hG.k2 (by decide) (hG.lt (by decide)) rfl ?_
  refine g_ifnull 28 dX11_trace_4 (by decide) ⟨fun hc => ?_, fun hc => ?_⟩
  · replace h := h.1 hc
    refine g_iconst dX11_trace_28 ?_
    exact g_iret dX11_trace_29 rfl h
  · replace h := h.2 hc
    refine g_iload_n dX11_trace_7 rfl rfl ?_
    refine g_if_lt 28 dX11_trace_8 (by decide) ⟨fun hc => ?_, fun hc => ?_⟩
    · replace h := h.1 hc
      refine g_iconst dX11_trace_28 ?_
      exact g_iret dX11_trace_29 rfl h
    · replace h := h.2 hc
      refine g_iload_n dX11_trace_11 rfl rfl ?_
      refine g_aload_n dX11_trace_12 rfl rfl ?_
      refine h_getR (j := 9) dX11_trace_13 f_X11_272_10 rfl rfl (by decide) hG.k2 (by decide) (hG.lt (by decide)) rfl ?_
      have hf1 := h.1
      replace h := h.2
      refine h_getI (j := 6) dX11_trace_16 f_X11_276_5 rfl rfl (by decide) hf1.2.2.1 hf1.ge hf1.lt ?_
      refine g_icmp_ge 28 dX11_trace_19 (by decide) ⟨fun hc => ?_, fun hc => ?_⟩
      · replace h := h.1 hc
        refine g_iconst dX11_trace_28 ?_
        exact g_iret dX11_trace_29 rfl h
      · replace h := h.2 hc
        refine g_iload_n dX11_trace_22 rfl rfl ?_
        refine g_bipush dX11_trace_23 bp_20 ?_
        refine g_icmp_lt 30 dX11_trace_25 (by decide) ⟨fun hc => ?_, fun hc => ?_⟩
        · replace h := h.1 hc
          refine g_aload_n dX11_trace_30 rfl rfl ?_
          refine h_getR (j := 9) dX11_trace_31 f_X11_272_10 rfl rfl (by decide) hG.k2 (by decide) (hG.lt (by decide)) rfl ?_
          have hf2 := h.1
          replace h := h.2
          refine h_getR (j := 5) dX11_trace_34 f_X11_288_5 rfl rfl (by decide) hf2.2.2.1 hf2.ge hf2.lt hf2.2.2.2.2 ?_
          refine g_iload_n dX11_trace_37 rfl rfl ?_
          refine g_iald dX11_trace_38 hf2.2.2.2.1 hf2.gea hf2.lta (by decide) ⟨h.1, ?_⟩
          replace h := h.2
          exact g_iret dX11_trace_39 rfl h
        · replace h := h.2 hc
          refine g_iconst dX11_trace_28 ?_
          exact g_iret dX11_trace_29 rfl h
set_option maxRecDepth 20000 in
theorem w_X11_trace_k7 {E : mmE} {d kc ks : Nat} {G : mmG} {D : mmD} {Q : mmQ} {x1 : Int} (hG : Sh G)  (h : (((G.2.2 2 9) = 0 → Q (some (vI (-1))) G D) ∧ (¬ (G.2.2 2 9) = 0 → ((iv x1 < iv 0 → Q (some (vI (-1))) G D) ∧ (¬ iv x1 < iv 0 → (isEv G 7 (G.2.2 2 9) ∧ ((iv (D (G.2.2 2 9) 6) ≤ iv x1 → Q (some (vI (-1))) G D) ∧ (¬ iv (D (G.2.2 2 9) 6) ≤ iv x1 → ((iv x1 < iv 20 → (isEv G 7 (G.2.2 2 9) ∧ ((0 ≤ x1 ∧ x1 < 20) ∧ Q (some (vI (D ((G.2.2 2 9) + 1) x1))) G D))) ∧ (¬ iv x1 < iv 20 → Q (some (vI (-1))) G D)))))))))) : Call E d kc ks mX11_trace [vR 2, vI x1] G D Q := by
  show Go E d kc ks mX11_trace 0 [some (vR 2), some (vI x1)] [] G D Q
  refine g_aload_n dX11_trace_0 rfl rfl ?_
  refine h_getR (j := 9) dX11_trace_1 f_X11_272_10 rfl rfl (by decide) hG.k2 (by decide) (hG.lt (by decide)) rfl ?_
  refine g_ifnull 28 dX11_trace_4 (by decide) ⟨fun hc => ?_, fun hc => ?_⟩
  · replace h := h.1 hc
    refine g_iconst dX11_trace_28 ?_
    exact g_iret dX11_trace_29 rfl h
  · replace h := h.2 hc
    refine g_iload_n dX11_trace_7 rfl rfl ?_
    refine g_if_lt 28 dX11_trace_8 (by decide) ⟨fun hc => ?_, fun hc => ?_⟩
    · replace h := h.1 hc
      refine g_iconst dX11_trace_28 ?_
      exact g_iret dX11_trace_29 rfl h
    · replace h := h.2 hc
      refine g_iload_n dX11_trace_11 rfl rfl ?_
      refine g_aload_n dX11_trace_12 rfl rfl ?_
      refine h_getR (j := 9) dX11_trace_13 f_X11_272_10 rfl rfl (by decide) hG.k2 (by decide) (hG.lt (by decide)) rfl ?_
      have hf1 := h.1
      replace h := h.2
      refine h_getI (j := 6) dX11_trace_16 f_X11_276_7 rfl rfl (by decide) hf1.2.2.1 hf1.ge hf1.lt ?_
      refine g_icmp_ge 28 dX11_trace_19 (by decide) ⟨fun hc => ?_, fun hc => ?_⟩
      · replace h := h.1 hc
        refine g_iconst dX11_trace_28 ?_
        exact g_iret dX11_trace_29 rfl h
      · replace h := h.2 hc
        refine g_iload_n dX11_trace_22 rfl rfl ?_
        refine g_bipush dX11_trace_23 bp_20 ?_
        refine g_icmp_lt 30 dX11_trace_25 (by decide) ⟨fun hc => ?_, fun hc => ?_⟩
        · replace h := h.1 hc
          refine g_aload_n dX11_trace_30 rfl rfl ?_
          refine h_getR (j := 9) dX11_trace_31 f_X11_272_10 rfl rfl (by decide) hG.k2 (by decide) (hG.lt (by decide)) rfl ?_
          have hf2 := h.1
          replace h := h.2
          refine h_getR (j := 5) dX11_trace_34 f_X11_288_7 rfl rfl (by decide) hf2.2.2.1 hf2.ge hf2.lt hf2.2.2.2.2 ?_
          refine g_iload_n dX11_trace_37 rfl rfl ?_
          refine g_iald dX11_trace_38 hf2.2.2.2.1 hf2.gea hf2.lta (by decide) ⟨h.1, ?_⟩
          replace h := h.2
          exact g_iret dX11_trace_39 rfl h
        · replace h := h.2 hc
          refine g_iconst dX11_trace_28 ?_
          exact g_iret dX11_trace_29 rfl h
set_option maxRecDepth 20000 in
theorem w_X11_trace_k8 {E : mmE} {d kc ks : Nat} {G : mmG} {D : mmD} {Q : mmQ} {x1 : Int} (hG : Sh G)  (h : (((G.2.2 2 9) = 0 → Q (some (vI (-1))) G D) ∧ (¬ (G.2.2 2 9) = 0 → ((iv x1 < iv 0 → Q (some (vI (-1))) G D) ∧ (¬ iv x1 < iv 0 → (isEv G 8 (G.2.2 2 9) ∧ ((iv (D (G.2.2 2 9) 6) ≤ iv x1 → Q (some (vI (-1))) G D) ∧ (¬ iv (D (G.2.2 2 9) 6) ≤ iv x1 → ((iv x1 < iv 20 → (isEv G 8 (G.2.2 2 9) ∧ ((0 ≤ x1 ∧ x1 < 20) ∧ Q (some (vI (D ((G.2.2 2 9) + 1) x1))) G D))) ∧ (¬ iv x1 < iv 20 → Q (some (vI (-1))) G D)))))))))) : Call E d kc ks mX11_trace [vR 2, vI x1] G D Q := by
  show Go E d kc ks mX11_trace 0 [some (vR 2), some (vI x1)] [] G D Q
  refine g_aload_n dX11_trace_0 rfl rfl ?_
  refine h_getR (j := 9) dX11_trace_1 f_X11_272_10 rfl rfl (by decide) hG.k2 (by decide) (hG.lt (by decide)) rfl ?_
  refine g_ifnull 28 dX11_trace_4 (by decide) ⟨fun hc => ?_, fun hc => ?_⟩
  · replace h := h.1 hc
    refine g_iconst dX11_trace_28 ?_
    exact g_iret dX11_trace_29 rfl h
  · replace h := h.2 hc
    refine g_iload_n dX11_trace_7 rfl rfl ?_
    refine g_if_lt 28 dX11_trace_8 (by decide) ⟨fun hc => ?_, fun hc => ?_⟩
    · replace h := h.1 hc
      refine g_iconst dX11_trace_28 ?_
      exact g_iret dX11_trace_29 rfl h
    · replace h := h.2 hc
      refine g_iload_n dX11_trace_11 rfl rfl ?_
      refine g_aload_n dX11_trace_12 rfl rfl ?_
      refine h_getR (j := 9) dX11_trace_13 f_X11_272_10 rfl rfl (by decide) hG.k2 (by decide) (hG.lt (by decide)) rfl ?_
      have hf1 := h.1
      replace h := h.2
      refine h_getI (j := 6) dX11_trace_16 f_X11_276_8 rfl rfl (by decide) hf1.2.2.1 hf1.ge hf1.lt ?_
      refine g_icmp_ge 28 dX11_trace_19 (by decide) ⟨fun hc => ?_, fun hc => ?_⟩
      · replace h := h.1 hc
        refine g_iconst dX11_trace_28 ?_
        exact g_iret dX11_trace_29 rfl h
      · replace h := h.2 hc
        refine g_iload_n dX11_trace_22 rfl rfl ?_
        refine g_bipush dX11_trace_23 bp_20 ?_
        refine g_icmp_lt 30 dX11_trace_25 (by decide) ⟨fun hc => ?_, fun hc => ?_⟩
        · replace h := h.1 hc
          refine g_aload_n dX11_trace_30 rfl rfl ?_
          refine h_getR (j := 9) dX11_trace_31 f_X11_272_10 rfl rfl (by decide) hG.k2 (by decide) (hG.lt (by decide)) rfl ?_
          have hf2 := h.1
          replace h := h.2
          refine h_getR (j := 5) dX11_trace_34 f_X11_288_8 rfl rfl (by decide) hf2.2.2.1 hf2.ge hf2.lt hf2.2.2.2.2 ?_
          refine g_iload_n dX11_trace_37 rfl rfl ?_
          refine g_iald dX11_trace_38 hf2.2.2.2.1 hf2.gea hf2.lta (by decide) ⟨h.1, ?_⟩
          replace h := h.2
          exact g_iret dX11_trace_39 rfl h
        · replace h := h.2 hc
          refine g_iconst dX11_trace_28 ?_
          exact g_iret dX11_trace_29 rfl h
set_option maxRecDepth 20000 in
theorem w_X11_eventAt_k1 {E : mmE} {d kc ks : Nat} {G : mmG} {D : mmD} {Q : mmQ} {x1 : Int} (hG : Sh G)  (h : ((iv x1 < iv 0 → Q (some (vR 0)) G D) ∧ (¬ iv x1 < iv 0 → ((iv (D 2 8) ≤ iv x1 → Q (some (vR 0)) G D) ∧ (¬ iv (D 2 8) ≤ iv x1 → ((0 ≤ x1 ∧ x1 < 80) ∧ Q (some (vR (G.2.2 7 x1))) G D)))))) : Call E d kc ks mX11_eventAt [vR 2, vI x1] G D Q := by
  show Go E d kc ks mX11_eventAt 0 [some (vR 2), some (vI x1)] [] G D Q
  refine g_iload_n dX11_eventAt_0 rfl rfl ?_
  refine g_if_lt 21 dX11_eventAt_1 (by decide) ⟨fun hc => ?_, fun hc => ?_⟩
  · replace h := h.1 hc
    refine g_null dX11_eventAt_21 ?_
    exact g_aret dX11_eventAt_22 rfl (Or.inl ⟨_, rfl⟩) h
  · replace h := h.2 hc
    refine g_iload_n dX11_eventAt_4 rfl rfl ?_
    refine g_aload_n dX11_eventAt_5 rfl rfl ?_
    refine h_getI (j := 8) dX11_eventAt_6 f_X11_91_10 rfl rfl (by decide) hG.k2 (by decide) (hG.lt (by decide)) ?_
    refine g_icmp_ge 21 dX11_eventAt_9 (by decide) ⟨fun hc => ?_, fun hc => ?_⟩
    · replace h := h.1 hc
      refine g_null dX11_eventAt_21 ?_
      exact g_aret dX11_eventAt_22 rfl (Or.inl ⟨_, rfl⟩) h
    · replace h := h.2 hc
      refine g_aload_n dX11_eventAt_12 rfl rfl ?_
      refine h_getR (j := 7) dX11_eventAt_13 f_X11_30_10 rfl rfl (by decide) hG.k2 (by decide) (hG.lt (by decide)) hG.r2_7 ?_
      refine g_iload_n dX11_eventAt_16 rfl rfl ?_
      refine g_aald dX11_eventAt_17 (by decide) (by decide) hG.k7 (by decide) (hG.lt (by decide)) (by decide) ⟨h.1, ?_⟩
      replace h := h.2
      refine g_goto 22 dX11_eventAt_18 (by decide) ?_
      exact g_aret dX11_eventAt_22 rfl (Or.inl ⟨_, rfl⟩) h
set_option maxRecDepth 20000 in
theorem w_X11_eventAt_k2 {E : mmE} {d kc ks : Nat} {G : mmG} {D : mmD} {Q : mmQ} {x1 : Int} (hG : Sh G)  (h : ((iv x1 < iv 0 → Q (some (vR 0)) G D) ∧ (¬ iv x1 < iv 0 → ((iv (D 2 8) ≤ iv x1 → Q (some (vR 0)) G D) ∧ (¬ iv (D 2 8) ≤ iv x1 → ((0 ≤ x1 ∧ x1 < 80) ∧ Q (some (vR (G.2.2 7 x1))) G D)))))) : Call E d kc ks mX11_eventAt [vR 2, vI x1] G D Q := by
  show Go E d kc ks mX11_eventAt 0 [some (vR 2), some (vI x1)] [] G D Q
  refine g_iload_n dX11_eventAt_0 rfl rfl ?_
  refine g_if_lt 21 dX11_eventAt_1 (by decide) ⟨fun hc => ?_, fun hc => ?_⟩
  · replace h := h.1 hc
    refine g_null dX11_eventAt_21 ?_
    exact g_aret dX11_eventAt_22 rfl (Or.inl ⟨_, rfl⟩) h
  · replace h := h.2 hc
    refine g_iload_n dX11_eventAt_4 rfl rfl ?_
    refine g_aload_n dX11_eventAt_5 rfl rfl ?_
    refine h_getI (j := 8) dX11_eventAt_6 f_X11_91_10 rfl rfl (by decide) hG.k2 (by decide) (hG.lt (by decide)) ?_
    refine g_icmp_ge 21 dX11_eventAt_9 (by decide) ⟨fun hc => ?_, fun hc => ?_⟩
    · replace h := h.1 hc
      refine g_null dX11_eventAt_21 ?_
      exact g_aret dX11_eventAt_22 rfl (Or.inl ⟨_, rfl⟩) h
    · replace h := h.2 hc
      refine g_aload_n dX11_eventAt_12 rfl rfl ?_
      refine h_getR (j := 7) dX11_eventAt_13 f_X11_30_10 rfl rfl (by decide) hG.k2 (by decide) (hG.lt (by decide)) hG.r2_7 ?_
      refine g_iload_n dX11_eventAt_16 rfl rfl ?_
      refine g_aald dX11_eventAt_17 (by decide) (by decide) hG.k7 (by decide) (hG.lt (by decide)) (by decide) ⟨h.1, ?_⟩
      replace h := h.2
      refine g_goto 22 dX11_eventAt_18 (by decide) ?_
      exact g_aret dX11_eventAt_22 rfl (Or.inl ⟨_, rfl⟩) h
set_option maxRecDepth 20000 in
theorem w_X11_eventAt_k4 {E : mmE} {d kc ks : Nat} {G : mmG} {D : mmD} {Q : mmQ} {x1 : Int} (hG : Sh G)  (h : ((iv x1 < iv 0 → Q (some (vR 0)) G D) ∧ (¬ iv x1 < iv 0 → ((iv (D 2 8) ≤ iv x1 → Q (some (vR 0)) G D) ∧ (¬ iv (D 2 8) ≤ iv x1 → ((0 ≤ x1 ∧ x1 < 80) ∧ Q (some (vR (G.2.2 7 x1))) G D)))))) : Call E d kc ks mX11_eventAt [vR 2, vI x1] G D Q := by
  show Go E d kc ks mX11_eventAt 0 [some (vR 2), some (vI x1)] [] G D Q
  refine g_iload_n dX11_eventAt_0 rfl rfl ?_
  refine g_if_lt 21 dX11_eventAt_1 (by decide) ⟨fun hc => ?_, fun hc => ?_⟩
  · replace h := h.1 hc
    refine g_null dX11_eventAt_21 ?_
    exact g_aret dX11_eventAt_22 rfl (Or.inl ⟨_, rfl⟩) h
  · replace h := h.2 hc
    refine g_iload_n dX11_eventAt_4 rfl rfl ?_
    refine g_aload_n dX11_eventAt_5 rfl rfl ?_
    refine h_getI (j := 8) dX11_eventAt_6 f_X11_91_10 rfl rfl (by decide) hG.k2 (by decide) (hG.lt (by decide)) ?_
    refine g_icmp_ge 21 dX11_eventAt_9 (by decide) ⟨fun hc => ?_, fun hc => ?_⟩
    · replace h := h.1 hc
      refine g_null dX11_eventAt_21 ?_
      exact g_aret dX11_eventAt_22 rfl (Or.inl ⟨_, rfl⟩) h
    · replace h := h.2 hc
      refine g_aload_n dX11_eventAt_12 rfl rfl ?_
      refine h_getR (j := 7) dX11_eventAt_13 f_X11_30_10 rfl rfl (by decide) hG.k2 (by decide) (hG.lt (by decide)) hG.r2_7 ?_
      refine g_iload_n dX11_eventAt_16 rfl rfl ?_
      refine g_aald dX11_eventAt_17 (by decide) (by decide) hG.k7 (by decide) (hG.lt (by decide)) (by decide) ⟨h.1, ?_⟩
      replace h := h.2
      refine g_goto 22 dX11_eventAt_18 (by decide) ?_
      exact g_aret dX11_eventAt_22 rfl (Or.inl ⟨_, rfl⟩) h
set_option maxRecDepth 20000 in
theorem w_X11_eventAt_k5 {E : mmE} {d kc ks : Nat} {G : mmG} {D : mmD} {Q : mmQ} {x1 : Int} (hG : Sh G)  (h : ((iv x1 < iv 0 → Q (some (vR 0)) G D) ∧ (¬ iv x1 < iv 0 → ((iv (D 2 8) ≤ iv x1 → Q (some (vR 0)) G D) ∧ (¬ iv (D 2 8) ≤ iv x1 → ((0 ≤ x1 ∧ x1 < 80) ∧ Q (some (vR (G.2.2 7 x1))) G D)))))) : Call E d kc ks mX11_eventAt [vR 2, vI x1] G D Q := by
  show Go E d kc ks mX11_eventAt 0 [some (vR 2), some (vI x1)] [] G D Q
  refine g_iload_n dX11_eventAt_0 rfl rfl ?_
  refine g_if_lt 21 dX11_eventAt_1 (by decide) ⟨fun hc => ?_, fun hc => ?_⟩
  · replace h := h.1 hc
    refine g_null dX11_eventAt_21 ?_
    exact g_aret dX11_eventAt_22 rfl (Or.inl ⟨_, rfl⟩) h
  · replace h := h.2 hc
    refine g_iload_n dX11_eventAt_4 rfl rfl ?_
    refine g_aload_n dX11_eventAt_5 rfl rfl ?_
    refine h_getI (j := 8) dX11_eventAt_6 f_X11_91_10 rfl rfl (by decide) hG.k2 (by decide) (hG.lt (by decide)) ?_
    refine g_icmp_ge 21 dX11_eventAt_9 (by decide) ⟨fun hc => ?_, fun hc => ?_⟩
    · replace h := h.1 hc
      refine g_null dX11_eventAt_21 ?_
      exact g_aret dX11_eventAt_22 rfl (Or.inl ⟨_, rfl⟩) h
    · replace h := h.2 hc
      refine g_aload_n dX11_eventAt_12 rfl rfl ?_
      refine h_getR (j := 7) dX11_eventAt_13 f_X11_30_10 rfl rfl (by decide) hG.k2 (by decide) (hG.lt (by decide)) hG.r2_7 ?_
      refine g_iload_n dX11_eventAt_16 rfl rfl ?_
      refine g_aald dX11_eventAt_17 (by decide) (by decide) hG.k7 (by decide) (hG.lt (by decide)) (by decide) ⟨h.1, ?_⟩
      replace h := h.2
      refine g_goto 22 dX11_eventAt_18 (by decide) ?_
      exact g_aret dX11_eventAt_22 rfl (Or.inl ⟨_, rfl⟩) h
set_option maxRecDepth 20000 in
theorem w_X11_eventAt_k7 {E : mmE} {d kc ks : Nat} {G : mmG} {D : mmD} {Q : mmQ} {x1 : Int} (hG : Sh G)  (h : ((iv x1 < iv 0 → Q (some (vR 0)) G D) ∧ (¬ iv x1 < iv 0 → ((iv (D 2 8) ≤ iv x1 → Q (some (vR 0)) G D) ∧ (¬ iv (D 2 8) ≤ iv x1 → ((0 ≤ x1 ∧ x1 < 80) ∧ Q (some (vR (G.2.2 7 x1))) G D)))))) : Call E d kc ks mX11_eventAt [vR 2, vI x1] G D Q := by
  show Go E d kc ks mX11_eventAt 0 [some (vR 2), some (vI x1)] [] G D Q
  refine g_iload_n dX11_eventAt_0 rfl rfl ?_
  refine g_if_lt 21 dX11_eventAt_1 (by decide) ⟨fun hc => ?_, fun hc => ?_⟩
  · replace h := h.1 hc
    refine g_null dX11_eventAt_21 ?_
    exact g_aret dX11_eventAt_22 rfl (Or.inl ⟨_, rfl⟩) h
  · replace h := h.2 hc
    refine g_iload_n dX11_eventAt_4 rfl rfl ?_
    refine g_aload_n dX11_eventAt_5 rfl rfl ?_
    refine h_getI (j := 8) dX11_eventAt_6 f_X11_91_10 rfl rfl (by decide) hG.k2 (by decide) (hG.lt (by decide)) ?_
    refine g_icmp_ge 21 dX11_eventAt_9 (by decide) ⟨fun hc => ?_, fun hc => ?_⟩
    · replace h := h.1 hc
      refine g_null dX11_eventAt_21 ?_
      exact g_aret dX11_eventAt_22 rfl (Or.inl ⟨_, rfl⟩) h
    · replace h := h.2 hc
      refine g_aload_n dX11_eventAt_12 rfl rfl ?_
      refine h_getR (j := 7) dX11_eventAt_13 f_X11_30_10 rfl rfl (by decide) hG.k2 (by decide) (hG.lt (by decide)) hG.r2_7 ?_
      refine g_iload_n dX11_eventAt_16 rfl rfl ?_
      refine g_aald dX11_eventAt_17 (by decide) (by decide) hG.k7 (by decide) (hG.lt (by decide)) (by decide) ⟨h.1, ?_⟩
      replace h := h.2
      refine g_goto 22 dX11_eventAt_18 (by decide) ?_
      exact g_aret dX11_eventAt_22 rfl (Or.inl ⟨_, rfl⟩) h
set_option maxRecDepth 20000 in
theorem w_X11_eventAt_k8 {E : mmE} {d kc ks : Nat} {G : mmG} {D : mmD} {Q : mmQ} {x1 : Int} (hG : Sh G)  (h : ((iv x1 < iv 0 → Q (some (vR 0)) G D) ∧ (¬ iv x1 < iv 0 → ((iv (D 2 8) ≤ iv x1 → Q (some (vR 0)) G D) ∧ (¬ iv (D 2 8) ≤ iv x1 → ((0 ≤ x1 ∧ x1 < 80) ∧ Q (some (vR (G.2.2 7 x1))) G D)))))) : Call E d kc ks mX11_eventAt [vR 2, vI x1] G D Q := by
  show Go E d kc ks mX11_eventAt 0 [some (vR 2), some (vI x1)] [] G D Q
  refine g_iload_n dX11_eventAt_0 rfl rfl ?_
  refine g_if_lt 21 dX11_eventAt_1 (by decide) ⟨fun hc => ?_, fun hc => ?_⟩
  · replace h := h.1 hc
    refine g_null dX11_eventAt_21 ?_
    exact g_aret dX11_eventAt_22 rfl (Or.inl ⟨_, rfl⟩) h
  · replace h := h.2 hc
    refine g_iload_n dX11_eventAt_4 rfl rfl ?_
    refine g_aload_n dX11_eventAt_5 rfl rfl ?_
    refine h_getI (j := 8) dX11_eventAt_6 f_X11_91_10 rfl rfl (by decide) hG.k2 (by decide) (hG.lt (by decide)) ?_
    refine g_icmp_ge 21 dX11_eventAt_9 (by decide) ⟨fun hc => ?_, fun hc => ?_⟩
    · replace h := h.1 hc
      refine g_null dX11_eventAt_21 ?_
      exact g_aret dX11_eventAt_22 rfl (Or.inl ⟨_, rfl⟩) h
    · replace h := h.2 hc
      refine g_aload_n dX11_eventAt_12 rfl rfl ?_
      refine h_getR (j := 7) dX11_eventAt_13 f_X11_30_10 rfl rfl (by decide) hG.k2 (by decide) (hG.lt (by decide)) hG.r2_7 ?_
      refine g_iload_n dX11_eventAt_16 rfl rfl ?_
      refine g_aald dX11_eventAt_17 (by decide) (by decide) hG.k7 (by decide) (hG.lt (by decide)) (by decide) ⟨h.1, ?_⟩
      replace h := h.2
      refine g_goto 22 dX11_eventAt_18 (by decide) ?_
      exact g_aret dX11_eventAt_22 rfl (Or.inl ⟨_, rfl⟩) h
