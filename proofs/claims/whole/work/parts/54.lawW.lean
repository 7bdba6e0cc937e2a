set_option maxRecDepth 20000 in
theorem w_L_law_18 {E : mmE} {d kc ks : Nat} {G : mmG} {D : mmD} {Q : mmQ} {x3 : Int} (hG : Sh G) (hL9 : (E.2.2.2.1 : Int) < 2147483648)  (h : ((iv ((E.2.2.2.1 : Int) - 6) < iv x3 → Q (some (vI 1)) G D) ∧ (¬ iv ((E.2.2.2.1 : Int) - 6) < iv x3 → ((0 ≤ x3 ∧ x3 < (E.2.2.2.1 : Int)) ∧ (((iv (iand ((E.2.2.2.2.1 x3.toNat).toInt) 63)).toInt = 0 → Go E (d + 1) kc ks mL_law 196 [some (vR 1), some (vR 2), some (vR 214), some (vI x3)] [] G D Q) ∧ ((iv (iand ((E.2.2.2.2.1 x3.toNat).toInt) 63)).toInt = 1 → Go E (d + 1) kc ks mL_law 209 [some (vR 1), some (vR 2), some (vR 214), some (vI x3)] [] G D Q) ∧ ((iv (iand ((E.2.2.2.2.1 x3.toNat).toInt) 63)).toInt = 2 → Go E (d + 1) kc ks mL_law 232 [some (vR 1), some (vR 2), some (vR 214), some (vI x3)] [] G D Q) ∧ ((iv (iand ((E.2.2.2.2.1 x3.toNat).toInt) 63)).toInt = 3 → Go E (d + 1) kc ks mL_law 295 [some (vR 1), some (vR 2), some (vR 214), some (vI x3)] [] G D Q) ∧ ((iv (iand ((E.2.2.2.2.1 x3.toNat).toInt) 63)).toInt = 4 → Go E (d + 1) kc ks mL_law 308 [some (vR 1), some (vR 2), some (vR 214), some (vI x3)] [] G D Q) ∧ ((iv (iand ((E.2.2.2.2.1 x3.toNat).toInt) 63)).toInt = 5 → Go E (d + 1) kc ks mL_law 341 [some (vR 1), some (vR 2), some (vR 214), some (vI x3)] [] G D Q) ∧ ((iv (iand ((E.2.2.2.2.1 x3.toNat).toInt) 63)).toInt = 6 → Go E (d + 1) kc ks mL_law 374 [some (vR 1), some (vR 2), some (vR 214), some (vI x3)] [] G D Q) ∧ ((iv (iand ((E.2.2.2.2.1 x3.toNat).toInt) 63)).toInt = 7 → Go E (d + 1) kc ks mL_law 407 [some (vR 1), some (vR 2), some (vR 214), some (vI x3)] [] G D Q) ∧ ((iv (iand ((E.2.2.2.2.1 x3.toNat).toInt) 63)).toInt = 8 → Go E (d + 1) kc ks mL_law 450 [some (vR 1), some (vR 2), some (vR 214), some (vI x3)] [] G D Q) ∧ ((iv (iand ((E.2.2.2.2.1 x3.toNat).toInt) 63)).toInt = 9 → Go E (d + 1) kc ks mL_law 483 [some (vR 1), some (vR 2), some (vR 214), some (vI x3)] [] G D Q) ∧ ((iv (iand ((E.2.2.2.2.1 x3.toNat).toInt) 63)).toInt = 10 → Go E (d + 1) kc ks mL_law 506 [some (vR 1), some (vR 2), some (vR 214), some (vI x3)] [] G D Q) ∧ ((iv (iand ((E.2.2.2.2.1 x3.toNat).toInt) 63)).toInt = 11 → Go E (d + 1) kc ks mL_law 549 [some (vR 1), some (vR 2), some (vR 214), some (vI x3)] [] G D Q) ∧ ((iv (iand ((E.2.2.2.2.1 x3.toNat).toInt) 63)).toInt = 12 → Go E (d + 1) kc ks mL_law 562 [some (vR 1), some (vR 2), some (vR 214), some (vI x3)] [] G D Q) ∧ ((iv (iand ((E.2.2.2.2.1 x3.toNat).toInt) 63)).toInt = 13 → Go E (d + 1) kc ks mL_law 605 [some (vR 1), some (vR 2), some (vR 214), some (vI x3)] [] G D Q) ∧ ((iv (iand ((E.2.2.2.2.1 x3.toNat).toInt) 63)).toInt = 14 → Go E (d + 1) kc ks mL_law 638 [some (vR 1), some (vR 2), some (vR 214), some (vI x3)] [] G D Q) ∧ ((iv (iand ((E.2.2.2.2.1 x3.toNat).toInt) 63)).toInt = 15 → Go E (d + 1) kc ks mL_law 671 [some (vR 1), some (vR 2), some (vR 214), some (vI x3)] [] G D Q) ∧ ((iv (iand ((E.2.2.2.2.1 x3.toNat).toInt) 63)).toInt = 16 → Go E (d + 1) kc ks mL_law 694 [some (vR 1), some (vR 2), some (vR 214), some (vI x3)] [] G D Q) ∧ ((iv (iand ((E.2.2.2.2.1 x3.toNat).toInt) 63)).toInt = 17 → Go E (d + 1) kc ks mL_law 753 [some (vR 1), some (vR 2), some (vR 214), some (vI x3)] [] G D Q) ∧ ((iv (iand ((E.2.2.2.2.1 x3.toNat).toInt) 63)).toInt = 18 → Go E (d + 1) kc ks mL_law 796 [some (vR 1), some (vR 2), some (vR 214), some (vI x3)] [] G D Q) ∧ ((iv (iand ((E.2.2.2.2.1 x3.toNat).toInt) 63)).toInt = 19 → Go E (d + 1) kc ks mL_law 849 [some (vR 1), some (vR 2), some (vR 214), some (vI x3)] [] G D Q) ∧ ((iv (iand ((E.2.2.2.2.1 x3.toNat).toInt) 63)).toInt = 20 → Go E (d + 1) kc ks mL_law 892 [some (vR 1), some (vR 2), some (vR 214), some (vI x3)] [] G D Q) ∧ ((iv (iand ((E.2.2.2.2.1 x3.toNat).toInt) 63)).toInt = 21 → Go E (d + 1) kc ks mL_law 925 [some (vR 1), some (vR 2), some (vR 214), some (vI x3)] [] G D Q) ∧ ((iv (iand ((E.2.2.2.2.1 x3.toNat).toInt) 63)).toInt = 22 → Go E (d + 1) kc ks mL_law 978 [some (vR 1), some (vR 2), some (vR 214), some (vI x3)] [] G D Q) ∧ ((iv (iand ((E.2.2.2.2.1 x3.toNat).toInt) 63)).toInt = 23 → Go E (d + 1) kc ks mL_law 1031 [some (vR 1), some (vR 2), some (vR 214), some (vI x3)] [] G D Q) ∧ ((iv (iand ((E.2.2.2.2.1 x3.toNat).toInt) 63)).toInt = 24 → Go E (d + 1) kc ks mL_law 1074 [some (vR 1), some (vR 2), some (vR 214), some (vI x3)] [] G D Q) ∧ ((iv (iand ((E.2.2.2.2.1 x3.toNat).toInt) 63)).toInt = 25 → Go E (d + 1) kc ks mL_law 1117 [some (vR 1), some (vR 2), some (vR 214), some (vI x3)] [] G D Q) ∧ ((iv (iand ((E.2.2.2.2.1 x3.toNat).toInt) 63)).toInt = 26 → Go E (d + 1) kc ks mL_law 1150 [some (vR 1), some (vR 2), some (vR 214), some (vI x3)] [] G D Q) ∧ ((iv (iand ((E.2.2.2.2.1 x3.toNat).toInt) 63)).toInt = 27 → Go E (d + 1) kc ks mL_law 1203 [some (vR 1), some (vR 2), some (vR 214), some (vI x3)] [] G D Q) ∧ ((iv (iand ((E.2.2.2.2.1 x3.toNat).toInt) 63)).toInt = 28 → Go E (d + 1) kc ks mL_law 1246 [some (vR 1), some (vR 2), some (vR 214), some (vI x3)] [] G D Q) ∧ ((iv (iand ((E.2.2.2.2.1 x3.toNat).toInt) 63)).toInt = 29 → Go E (d + 1) kc ks mL_law 1279 [some (vR 1), some (vR 2), some (vR 214), some (vI x3)] [] G D Q) ∧ ((iv (iand ((E.2.2.2.2.1 x3.toNat).toInt) 63)).toInt = 30 → Go E (d + 1) kc ks mL_law 1312 [some (vR 1), some (vR 2), some (vR 214), some (vI x3)] [] G D Q) ∧ ((iv (iand ((E.2.2.2.2.1 x3.toNat).toInt) 63)).toInt = 31 → Go E (d + 1) kc ks mL_law 1391 [some (vR 1), some (vR 2), some (vR 214), some (vI x3)] [] G D Q) ∧ ((iv (iand ((E.2.2.2.2.1 x3.toNat).toInt) 63)).toInt = 32 → Go E (d + 1) kc ks mL_law 1414 [some (vR 1), some (vR 2), some (vR 214), some (vI x3)] [] G D Q) ∧ ((iv (iand ((E.2.2.2.2.1 x3.toNat).toInt) 63)).toInt = 33 → Go E (d + 1) kc ks mL_law 1447 [some (vR 1), some (vR 2), some (vR 214), some (vI x3)] [] G D Q) ∧ ((iv (iand ((E.2.2.2.2.1 x3.toNat).toInt) 63)).toInt = 34 → Go E (d + 1) kc ks mL_law 1490 [some (vR 1), some (vR 2), some (vR 214), some (vI x3)] [] G D Q) ∧ ((iv (iand ((E.2.2.2.2.1 x3.toNat).toInt) 63)).toInt = 35 → Go E (d + 1) kc ks mL_law 1513 [some (vR 1), some (vR 2), some (vR 214), some (vI x3)] [] G D Q) ∧ ((iv (iand ((E.2.2.2.2.1 x3.toNat).toInt) 63)).toInt = 36 → Go E (d + 1) kc ks mL_law 1546 [some (vR 1), some (vR 2), some (vR 214), some (vI x3)] [] G D Q) ∧ (((iv (iand ((E.2.2.2.2.1 x3.toNat).toInt) 63)).toInt < 0 ∨ 36 < (iv (iand ((E.2.2.2.2.1 x3.toNat).toInt) 63)).toInt) → Go E (d + 1) kc ks mL_law 18 [some (vR 1), some (vR 2), some (vR 214), some (vI (x3 + 6))] [] G D Q)))))) : Go E (d + 1) kc ks mL_law 18 [some (vR 1), some (vR 2), some (vR 214), some (vI x3)] [] G D Q := by
  refine g_iload_n dL_law_18 rfl rfl ?_
  refine g_aload_n dL_law_19 rfl rfl ?_
  refine g_slen dL_law_20 ?_
  refine g_bipush dL_law_21 bp_6 ?_
  refine g_isub dL_law_23 ?_
  refine g_icmp_gt 1575 dL_law_24 (by decide) ⟨fun hc => ?_, fun hc => ?_⟩
  · replace h := h.1 hc
    refine g_iconst dL_law_1575 ?_
    exact g_zret dL_law_1576 rfl ⟨Or.inr rfl, h⟩
  · replace h := h.2 hc
    refine g_aload_n dL_law_27 rfl rfl ?_
    refine g_iload_n dL_law_28 rfl rfl ?_
    refine g_sald dL_law_29 hL9 ⟨h.1, ?_⟩
    replace h := h.2
    refine g_bipush dL_law_30 bp_63 ?_
    refine g_iand dL_law_32 ?_
    refine g_tswitch 1569 [196, 209, 232, 295, 308, 341, 374, 407, 450, 483, 506, 549, 562, 605, 638, 671, 694, 753, 796, 849, 892, 925, 978, 1031, 1074, 1117, 1150, 1203, 1246, 1279, 1312, 1391, 1414, 1447, 1490, 1513, 1546] dL_law_33 (by decide) (by decide) (by decide) (fun j hj t ht => ?_) (fun hc => ?_)
    · match j, hj, ht with
      | 0, hj, ht =>
        cases ht
        replace h := h.1 (hj.trans (by decide))
        exact Go.drop (by simp only [mm_sub, and_self]) h
      | 1, hj, ht =>
        cases ht
        replace h := h.2.1 (hj.trans (by decide))
        exact Go.drop (by simp only [mm_sub, and_self]) h
      | 2, hj, ht =>
        cases ht
        replace h := h.2.2.1 (hj.trans (by decide))
        exact Go.drop (by simp only [mm_sub, and_self]) h
      | 3, hj, ht =>
        cases ht
        replace h := h.2.2.2.1 (hj.trans (by decide))
        exact Go.drop (by simp only [mm_sub, and_self]) h
      | 4, hj, ht =>
        cases ht
        replace h := h.2.2.2.2.1 (hj.trans (by decide))
        exact Go.drop (by simp only [mm_sub, and_self]) h
      | 5, hj, ht =>
        cases ht
        replace h := h.2.2.2.2.2.1 (hj.trans (by decide))
        exact Go.drop (by simp only [mm_sub, and_self]) h
      | 6, hj, ht =>
        cases ht
        replace h := h.2.2.2.2.2.2.1 (hj.trans (by decide))
        exact Go.drop (by simp only [mm_sub, and_self]) h
      | 7, hj, ht =>
        cases ht
        replace h := h.2.2.2.2.2.2.2.1 (hj.trans (by decide))
        exact Go.drop (by simp only [mm_sub, and_self]) h
      | 8, hj, ht =>
        cases ht
        replace h := h.2.2.2.2.2.2.2.2.1 (hj.trans (by decide))
        exact Go.drop (by simp only [mm_sub, and_self]) h
      | 9, hj, ht =>
        cases ht
        replace h := h.2.2.2.2.2.2.2.2.2.1 (hj.trans (by decide))
        exact Go.drop (by simp only [mm_sub, and_self]) h
      | 10, hj, ht =>
        cases ht
        replace h := h.2.2.2.2.2.2.2.2.2.2.1 (hj.trans (by decide))
        exact Go.drop (by simp only [mm_sub, and_self]) h
      | 11, hj, ht =>
        cases ht
        replace h := h.2.2.2.2.2.2.2.2.2.2.2.1 (hj.trans (by decide))
        exact Go.drop (by simp only [mm_sub, and_self]) h
      | 12, hj, ht =>
        cases ht
        replace h := h.2.2.2.2.2.2.2.2.2.2.2.2.1 (hj.trans (by decide))
        exact Go.drop (by simp only [mm_sub, and_self]) h
      | 13, hj, ht =>
        cases ht
        replace h := h.2.2.2.2.2.2.2.2.2.2.2.2.2.1 (hj.trans (by decide))
        exact Go.drop (by simp only [mm_sub, and_self]) h
      | 14, hj, ht =>
        cases ht
        replace h := h.2.2.2.2.2.2.2.2.2.2.2.2.2.2.1 (hj.trans (by decide))
        exact Go.drop (by simp only [mm_sub, and_self]) h
      | 15, hj, ht =>
        cases ht
        replace h := h.2.2.2.2.2.2.2.2.2.2.2.2.2.2.2.1 (hj.trans (by decide))
        exact Go.drop (by simp only [mm_sub, and_self]) h
      | 16, hj, ht =>
        cases ht
        replace h := h.2.2.2.2.2.2.2.2.2.2.2.2.2.2.2.2.1 (hj.trans (by decide))
        exact Go.drop (by simp only [mm_sub, and_self]) h
      | 17, hj, ht =>
        cases ht
        replace h := h.2.2.2.2.2.2.2.2.2.2.2.2.2.2.2.2.2.1 (hj.trans (by decide))
        exact Go.drop (by simp only [mm_sub, and_self]) h
      | 18, hj, ht =>
        cases ht
        replace h := h.2.2.2.2.2.2.2.2.2.2.2.2.2.2.2.2.2.2.1 (hj.trans (by decide))
        exact Go.drop (by simp only [mm_sub, and_self]) h
      | 19, hj, ht =>
        cases ht
        replace h := h.2.2.2.2.2.2.2.2.2.2.2.2.2.2.2.2.2.2.2.1 (hj.trans (by decide))
        exact Go.drop (by simp only [mm_sub, and_self]) h
      | 20, hj, ht =>
        cases ht
        replace h := h.2.2.2.2.2.2.2.2.2.2.2.2.2.2.2.2.2.2.2.2.1 (hj.trans (by decide))
        exact Go.drop (by simp only [mm_sub, and_self]) h
      | 21, hj, ht =>
        cases ht
        replace h := h.2.2.2.2.2.2.2.2.2.2.2.2.2.2.2.2.2.2.2.2.2.1 (hj.trans (by decide))
        exact Go.drop (by simp only [mm_sub, and_self]) h
      | 22, hj, ht =>
        cases ht
        replace h := h.2.2.2.2.2.2.2.2.2.2.2.2.2.2.2.2.2.2.2.2.2.2.1 (hj.trans (by decide))
        exact Go.drop (by simp only [mm_sub, and_self]) h
      | 23, hj, ht =>
        cases ht
        replace h := h.2.2.2.2.2.2.2.2.2.2.2.2.2.2.2.2.2.2.2.2.2.2.2.1 (hj.trans (by decide))
        exact Go.drop (by simp only [mm_sub, and_self]) h
      | 24, hj, ht =>
        cases ht
        replace h := h.2.2.2.2.2.2.2.2.2.2.2.2.2.2.2.2.2.2.2.2.2.2.2.2.1 (hj.trans (by decide))
        exact Go.drop (by simp only [mm_sub, and_self]) h
      | 25, hj, ht =>
        cases ht
        replace h := h.2.2.2.2.2.2.2.2.2.2.2.2.2.2.2.2.2.2.2.2.2.2.2.2.2.1 (hj.trans (by decide))
        exact Go.drop (by simp only [mm_sub, and_self]) h
      | 26, hj, ht =>
        cases ht
        replace h := h.2.2.2.2.2.2.2.2.2.2.2.2.2.2.2.2.2.2.2.2.2.2.2.2.2.2.1 (hj.trans (by decide))
        exact Go.drop (by simp only [mm_sub, and_self]) h
      | 27, hj, ht =>
        cases ht
        replace h := h.2.2.2.2.2.2.2.2.2.2.2.2.2.2.2.2.2.2.2.2.2.2.2.2.2.2.2.1 (hj.trans (by decide))
        exact Go.drop (by simp only [mm_sub, and_self]) h
      | 28, hj, ht =>
        cases ht
        replace h := h.2.2.2.2.2.2.2.2.2.2.2.2.2.2.2.2.2.2.2.2.2.2.2.2.2.2.2.2.1 (hj.trans (by decide))
        exact Go.drop (by simp only [mm_sub, and_self]) h
      | 29, hj, ht =>
        cases ht
        replace h := h.2.2.2.2.2.2.2.2.2.2.2.2.2.2.2.2.2.2.2.2.2.2.2.2.2.2.2.2.2.1 (hj.trans (by decide))
        exact Go.drop (by simp only [mm_sub, and_self]) h
      | 30, hj, ht =>
        cases ht
        replace h := h.2.2.2.2.2.2.2.2.2.2.2.2.2.2.2.2.2.2.2.2.2.2.2.2.2.2.2.2.2.2.1 (hj.trans (by decide))
        exact Go.drop (by simp only [mm_sub, and_self]) h
      | 31, hj, ht =>
        cases ht
        replace h := h.2.2.2.2.2.2.2.2.2.2.2.2.2.2.2.2.2.2.2.2.2.2.2.2.2.2.2.2.2.2.2.1 (hj.trans (by decide))
        exact Go.drop (by simp only [mm_sub, and_self]) h
      | 32, hj, ht =>
        cases ht
        replace h := h.2.2.2.2.2.2.2.2.2.2.2.2.2.2.2.2.2.2.2.2.2.2.2.2.2.2.2.2.2.2.2.2.1 (hj.trans (by decide))
        exact Go.drop (by simp only [mm_sub, and_self]) h
      | 33, hj, ht =>
        cases ht
        replace h := h.2.2.2.2.2.2.2.2.2.2.2.2.2.2.2.2.2.2.2.2.2.2.2.2.2.2.2.2.2.2.2.2.2.1 (hj.trans (by decide))
        exact Go.drop (by simp only [mm_sub, and_self]) h
      | 34, hj, ht =>
        cases ht
        replace h := h.2.2.2.2.2.2.2.2.2.2.2.2.2.2.2.2.2.2.2.2.2.2.2.2.2.2.2.2.2.2.2.2.2.2.1 (hj.trans (by decide))
        exact Go.drop (by simp only [mm_sub, and_self]) h
      | 35, hj, ht =>
        cases ht
        replace h := h.2.2.2.2.2.2.2.2.2.2.2.2.2.2.2.2.2.2.2.2.2.2.2.2.2.2.2.2.2.2.2.2.2.2.2.1 (hj.trans (by decide))
        exact Go.drop (by simp only [mm_sub, and_self]) h
      | 36, hj, ht =>
        cases ht
        replace h := h.2.2.2.2.2.2.2.2.2.2.2.2.2.2.2.2.2.2.2.2.2.2.2.2.2.2.2.2.2.2.2.2.2.2.2.2.1 (hj.trans (by decide))
        exact Go.drop (by simp only [mm_sub, and_self]) h
      | j + 37, hj, ht => simp at ht
    · replace h := h.2.2.2.2.2.2.2.2.2.2.2.2.2.2.2.2.2.2.2.2.2.2.2.2.2.2.2.2.2.2.2.2.2.2.2.2.2 hc
      refine h_iinc (L' := [some (vR 1), some (vR 2), some (vR 214), some (vI (x3 + 6))]) dL_law_1569 (Nat.le_of_ble_eq_true rfl) rfl rfl rfl ?_
      refine g_goto 18 dL_law_1572 (by decide) ?_
      exact Go.drop (by simp only [mm_sub, and_self]) h
set_option maxRecDepth 20000 in
theorem w_L_law_196 {E : mmE} {d kc ks : Nat} {G : mmG} {D : mmD} {Q : mmQ} {x3 : Int} (hG : Sh G) (hL9 : (E.2.2.2.1 : Int) < 2147483648)  (h : Call E d 0 0 mX11_tongue [vR 2] G D (retI G (fun z2 D1 => Call E d 0 0 mX12_tongue [vR 214] G D1 (retI G (fun z4 D3 => ((iv z2 = iv z4 → Go E (d + 1) kc ks mL_law 18 [some (vR 1), some (vR 2), some (vR 214), some (vI (x3 + 6))] [] G D3 Q) ∧ (¬ iv z2 = iv z4 → Q (some (vI 0)) G D3))))))) : Go E (d + 1) kc ks mL_law 196 [some (vR 1), some (vR 2), some (vR 214), some (vI x3)] [] G D Q := by
  refine g_aload_n dL_law_196 rfl rfl ?_
  refine g_callV (kc := kc) (kc' := 0) (ks := ks) (ks' := 0) (as := []) (st := []) (ci := 10) dL_law_197 cB_X11_tongue lk_L_13 in_X11_tongue se_X11_tongue (by decide) rfl rfl (Nat.le_of_ble_eq_true rfl) (Nat.le_of_ble_eq_true rfl) (by decide) (hG.lt (by decide)) (congrArg Prod.fst hG.k2) ?_
  refine Go.to (fun r G' D1 hr => ?_) h
  obtain ⟨rfl, z2, rfl, h⟩ := hr
  show Go E (d + 1) kc ks mL_law 200 [some (vR 1), some (vR 2), some (vR 214), some (vI x3)] [vI z2] G D1 Q
  refine g_aload_n dL_law_200 rfl rfl ?_
  refine g_callV (kc := kc) (kc' := 0) (ks := ks) (ks' := 0) (as := []) (st := [vI z2]) (ci := 11) dL_law_201 cB_X12_tongue lk_L_17 in_X12_tongue se_X12_tongue (by decide) rfl rfl (Nat.le_of_ble_eq_true rfl) (Nat.le_of_ble_eq_true rfl) (by decide) (hG.lt (by decide)) (congrArg Prod.fst hG.k214) ?_
  refine Go.to (fun r G' D3 hr => ?_) h
  obtain ⟨rfl, z4, rfl, h⟩ := hr
  show Go E (d + 1) kc ks mL_law 204 [some (vR 1), some (vR 2), some (vR 214), some (vI x3)] [vI z4, vI z2] G D3 Q
  refine g_icmp_eq 1569 dL_law_204 (by decide) ⟨fun hc => ?_, fun hc => ?_⟩
  · replace h := h.1 hc
    refine h_iinc (L' := [some (vR 1), some (vR 2), some (vR 214), some (vI (x3 + 6))]) dL_law_1569 (Nat.le_of_ble_eq_true rfl) rfl rfl rfl ?_
    refine g_goto 18 dL_law_1572 (by decide) ?_
    exact Go.drop (by simp only [mm_sub, and_self]) h
  · replace h := h.2 hc
    refine g_iconst dL_law_207 ?_
    exact g_zret dL_law_208 rfl ⟨Or.inl rfl, h⟩
set_option maxRecDepth 20000 in
theorem w_L_law_209 {E : mmE} {d kc ks : Nat} {G : mmG} {D : mmD} {Q : mmQ} {x3 : Int} (hG : Sh G) (hL9 : (E.2.2.2.1 : Int) < 2147483648)  (h : ((0 ≤ (x3 + 1) ∧ (x3 + 1) < (E.2.2.2.1 : Int)) ∧ Call E d 0 0 mX11_years [vR 2, vI ((E.2.2.2.2.1 (x3 + 1).toNat).toInt)] G D (retI G (fun z2 D1 => ((0 ≤ (x3 + 1) ∧ (x3 + 1) < (E.2.2.2.1 : Int)) ∧ Call E d 0 0 mX12_years [vR 214, vI ((E.2.2.2.2.1 (x3 + 1).toNat).toInt)] G D1 (retI G (fun z4 D3 => ((iv z2 = iv z4 → Go E (d + 1) kc ks mL_law 18 [some (vR 1), some (vR 2), some (vR 214), some (vI (x3 + 6))] [] G D3 Q) ∧ (¬ iv z2 = iv z4 → Q (some (vI 0)) G D3))))))))) : Go E (d + 1) kc ks mL_law 209 [some (vR 1), some (vR 2), some (vR 214), some (vI x3)] [] G D Q := by
  refine g_aload_n dL_law_209 rfl rfl ?_
  refine g_aload_n dL_law_210 rfl rfl ?_
  refine g_iload_n dL_law_211 rfl rfl ?_
  refine g_iconst dL_law_212 ?_
  refine g_iadd dL_law_213 ?_
  refine g_sald dL_law_214 hL9 ⟨h.1, ?_⟩
  replace h := h.2
  refine g_callV (kc := kc) (kc' := 0) (ks := ks) (ks' := 0) (as := [vI ((E.2.2.2.2.1 (x3 + 1).toNat).toInt)]) (st := []) (ci := 10) dL_law_215 cB_X11_years lk_L_18 in_X11_years se_X11_years (by decide) rfl rfl (Nat.le_of_ble_eq_true rfl) (Nat.le_of_ble_eq_true rfl) (by decide) (hG.lt (by decide)) (congrArg Prod.fst hG.k2) ?_
  refine Go.to (fun r G' D1 hr => ?_) h
  obtain ⟨rfl, z2, rfl, h⟩ := hr
  show Go E (d + 1) kc ks mL_law 218 [some (vR 1), some (vR 2), some (vR 214), some (vI x3)] [vI z2] G D1 Q
  refine g_aload_n dL_law_218 rfl rfl ?_
  refine g_aload_n dL_law_219 rfl rfl ?_
  refine g_iload_n dL_law_220 rfl rfl ?_
  refine g_iconst dL_law_221 ?_
  refine g_iadd dL_law_222 ?_
  refine g_sald dL_law_223 hL9 ⟨h.1, ?_⟩
  replace h := h.2
  refine g_callV (kc := kc) (kc' := 0) (ks := ks) (ks' := 0) (as := [vI ((E.2.2.2.2.1 (x3 + 1).toNat).toInt)]) (st := [vI z2]) (ci := 11) dL_law_224 cB_X12_years lk_L_22 in_X12_years se_X12_years (by decide) rfl rfl (Nat.le_of_ble_eq_true rfl) (Nat.le_of_ble_eq_true rfl) (by decide) (hG.lt (by decide)) (congrArg Prod.fst hG.k214) ?_
  refine Go.to (fun r G' D3 hr => ?_) h
  obtain ⟨rfl, z4, rfl, h⟩ := hr
  show Go E (d + 1) kc ks mL_law 227 [some (vR 1), some (vR 2), some (vR 214), some (vI x3)] [vI z4, vI z2] G D3 Q
  refine g_icmp_eq 1569 dL_law_227 (by decide) ⟨fun hc => ?_, fun hc => ?_⟩
  · replace h := h.1 hc
    refine h_iinc (L' := [some (vR 1), some (vR 2), some (vR 214), some (vI (x3 + 6))]) dL_law_1569 (Nat.le_of_ble_eq_true rfl) rfl rfl rfl ?_
    refine g_goto 18 dL_law_1572 (by decide) ?_
    exact Go.drop (by simp only [mm_sub, and_self]) h
  · replace h := h.2 hc
    refine g_iconst dL_law_230 ?_
    exact g_zret dL_law_231 rfl ⟨Or.inl rfl, h⟩
set_option maxRecDepth 20000 in
theorem w_L_law_232 {E : mmE} {d kc ks : Nat} {G : mmG} {D : mmD} {Q : mmQ} {x3 : Int} (hG : Sh G) (hL9 : (E.2.2.2.1 : Int) < 2147483648)  (h : ((0 ≤ (x3 + 1) ∧ (x3 + 1) < (E.2.2.2.1 : Int)) ∧ ((0 ≤ (x3 + 2) ∧ (x3 + 2) < (E.2.2.2.1 : Int)) ∧ ((0 ≤ (x3 + 3) ∧ (x3 + 3) < (E.2.2.2.1 : Int)) ∧ Call E d 0 0 mX11_feed [vR 2, vL (((iv ((E.2.2.2.2.1 (x3 + 1).toNat).toInt)).toInt64 <<< ((iv 32).toInt64 &&& 63)) ||| ((iv ((E.2.2.2.2.1 (x3 + 2).toNat).toInt)).toInt64 &&& 4294967295)), vI ((E.2.2.2.2.1 (x3 + 3).toNat).toInt)] G D (retI G (fun z2 D1 => ((0 ≤ (x3 + 1) ∧ (x3 + 1) < (E.2.2.2.1 : Int)) ∧ ((0 ≤ (x3 + 2) ∧ (x3 + 2) < (E.2.2.2.1 : Int)) ∧ ((0 ≤ (x3 + 3) ∧ (x3 + 3) < (E.2.2.2.1 : Int)) ∧ Call E d 0 0 mX12_feed [vR 214, vL (((iv ((E.2.2.2.2.1 (x3 + 1).toNat).toInt)).toInt64 <<< ((iv 32).toInt64 &&& 63)) ||| ((iv ((E.2.2.2.2.1 (x3 + 2).toNat).toInt)).toInt64 &&& 4294967295)), vI ((E.2.2.2.2.1 (x3 + 3).toNat).toInt)] G D1 (retI G (fun z4 D3 => ((iv z2 = iv z4 → Go E (d + 1) kc ks mL_law 18 [some (vR 1), some (vR 2), some (vR 214), some (vI (x3 + 6))] [] G D3 Q) ∧ (¬ iv z2 = iv z4 → Q (some (vI 0)) G D3))))))))))))) : Go E (d + 1) kc ks mL_law 232 [some (vR 1), some (vR 2), some (vR 214), some (vI x3)] [] G D Q := by
  refine g_aload_n dL_law_232 rfl rfl ?_
  refine g_aload_n dL_law_233 rfl rfl ?_
  refine g_iload_n dL_law_234 rfl rfl ?_
  refine g_iconst dL_law_235 ?_
  refine g_iadd dL_law_236 ?_
  refine g_sald dL_law_237 hL9 ⟨h.1, ?_⟩
  replace h := h.2
  refine g_i2l dL_law_238 ?_
  refine g_bipush dL_law_239 bp_32 ?_
  refine g_lshl dL_law_241 ?_
  refine g_aload_n dL_law_242 rfl rfl ?_
  refine g_iload_n dL_law_243 rfl rfl ?_
  refine g_iconst dL_law_244 ?_
  refine g_iadd dL_law_245 ?_
  refine g_sald dL_law_246 hL9 ⟨h.1, ?_⟩
  replace h := h.2
  refine g_i2l dL_law_247 ?_
  refine g_ldc2 dL_law_248 kc_L_23 ?_
  refine g_land dL_law_251 ?_
  refine g_lor dL_law_252 ?_
  refine g_aload_n dL_law_253 rfl rfl ?_
  refine g_iload_n dL_law_254 rfl rfl ?_
  refine g_iconst dL_law_255 ?_
  refine g_iadd dL_law_256 ?_
  refine g_sald dL_law_257 hL9 ⟨h.1, ?_⟩
  replace h := h.2
  refine g_callV (kc := kc) (kc' := 0) (ks := ks) (ks' := 0) (as := [vL (((iv ((E.2.2.2.2.1 (x3 + 1).toNat).toInt)).toInt64 <<< ((iv 32).toInt64 &&& 63)) ||| ((iv ((E.2.2.2.2.1 (x3 + 2).toNat).toInt)).toInt64 &&& 4294967295)), vI ((E.2.2.2.2.1 (x3 + 3).toNat).toInt)]) (st := []) (ci := 10) dL_law_258 cB_X11_feed lk_L_25 in_X11_feed se_X11_feed (by decide) rfl rfl (Nat.le_of_ble_eq_true rfl) (Nat.le_of_ble_eq_true rfl) (by decide) (hG.lt (by decide)) (congrArg Prod.fst hG.k2) ?_
  refine Go.to (fun r G' D1 hr => ?_) h
  obtain ⟨rfl, z2, rfl, h⟩ := hr
  show Go E (d + 1) kc ks mL_law 261 [some (vR 1), some (vR 2), some (vR 214), some (vI x3)] [vI z2] G D1 Q
  refine g_aload_n dL_law_261 rfl rfl ?_
  refine g_aload_n dL_law_262 rfl rfl ?_
  refine g_iload_n dL_law_263 rfl rfl ?_
  refine g_iconst dL_law_264 ?_
  refine g_iadd dL_law_265 ?_
  refine g_sald dL_law_266 hL9 ⟨h.1, ?_⟩
  replace h := h.2
  refine g_i2l dL_law_267 ?_
  refine g_bipush dL_law_268 bp_32 ?_
  refine g_lshl dL_law_270 ?_
  refine g_aload_n dL_law_271 rfl rfl ?_
  refine g_iload_n dL_law_272 rfl rfl ?_
  refine g_iconst dL_law_273 ?_
  refine g_iadd dL_law_274 ?_
  refine g_sald dL_law_275 hL9 ⟨h.1, ?_⟩
  replace h := h.2
  refine g_i2l dL_law_276 ?_
  refine g_ldc2 dL_law_277 kc_L_23 ?_
  refine g_land dL_law_280 ?_
  refine g_lor dL_law_281 ?_
  refine g_aload_n dL_law_282 rfl rfl ?_
  refine g_iload_n dL_law_283 rfl rfl ?_
  refine g_iconst dL_law_284 ?_
  refine g_iadd dL_law_285 ?_
  refine g_sald dL_law_286 hL9 ⟨h.1, ?_⟩
  replace h := h.2
  refine g_callV (kc := kc) (kc' := 0) (ks := ks) (ks' := 0) (as := [vL (((iv ((E.2.2.2.2.1 (x3 + 1).toNat).toInt)).toInt64 <<< ((iv 32).toInt64 &&& 63)) ||| ((iv ((E.2.2.2.2.1 (x3 + 2).toNat).toInt)).toInt64 &&& 4294967295)), vI ((E.2.2.2.2.1 (x3 + 3).toNat).toInt)]) (st := [vI z2]) (ci := 11) dL_law_287 cB_X12_feed lk_L_29 in_X12_feed se_X12_feed (by decide) rfl rfl (Nat.le_of_ble_eq_true rfl) (Nat.le_of_ble_eq_true rfl) (by decide) (hG.lt (by decide)) (congrArg Prod.fst hG.k214) ?_
  refine Go.to (fun r G' D3 hr => ?_) h
  obtain ⟨rfl, z4, rfl, h⟩ := hr
  show Go E (d + 1) kc ks mL_law 290 [some (vR 1), some (vR 2), some (vR 214), some (vI x3)] [vI z4, vI z2] G D3 Q
  refine g_icmp_eq 1569 dL_law_290 (by decide) ⟨fun hc => ?_, fun hc => ?_⟩
  · replace h := h.1 hc
    refine h_iinc (L' := [some (vR 1), some (vR 2), some (vR 214), some (vI (x3 + 6))]) dL_law_1569 (Nat.le_of_ble_eq_true rfl) rfl rfl rfl ?_
    refine g_goto 18 dL_law_1572 (by decide) ?_
    exact Go.drop (by simp only [mm_sub, and_self]) h
  · replace h := h.2 hc
    refine g_iconst dL_law_293 ?_
    exact g_zret dL_law_294 rfl ⟨Or.inl rfl, h⟩
set_option maxRecDepth 20000 in
theorem w_L_law_295 {E : mmE} {d kc ks : Nat} {G : mmG} {D : mmD} {Q : mmQ} {x3 : Int} (hG : Sh G) (hL9 : (E.2.2.2.1 : Int) < 2147483648)  (h : Call E d 0 0 mX11_law [vR 2] G D (retI G (fun z2 D1 => Call E d 0 0 mX12_law [vR 214] G D1 (retI G (fun z4 D3 => ((iv z2 = iv z4 → Go E (d + 1) kc ks mL_law 18 [some (vR 1), some (vR 2), some (vR 214), some (vI (x3 + 6))] [] G D3 Q) ∧ (¬ iv z2 = iv z4 → Q (some (vI 0)) G D3))))))) : Go E (d + 1) kc ks mL_law 295 [some (vR 1), some (vR 2), some (vR 214), some (vI x3)] [] G D Q := by
  refine g_aload_n dL_law_295 rfl rfl ?_
  refine g_callV (kc := kc) (kc' := 0) (ks := ks) (ks' := 0) (as := []) (st := []) (ci := 10) dL_law_296 cB_X11_law lk_L_30 in_X11_law se_X11_law (by decide) rfl rfl (Nat.le_of_ble_eq_true rfl) (Nat.le_of_ble_eq_true rfl) (by decide) (hG.lt (by decide)) (congrArg Prod.fst hG.k2) ?_
  refine Go.to (fun r G' D1 hr => ?_) h
  obtain ⟨rfl, z2, rfl, h⟩ := hr
  show Go E (d + 1) kc ks mL_law 299 [some (vR 1), some (vR 2), some (vR 214), some (vI x3)] [vI z2] G D1 Q
  refine g_aload_n dL_law_299 rfl rfl ?_
  refine g_callV (kc := kc) (kc' := 0) (ks := ks) (ks' := 0) (as := []) (st := [vI z2]) (ci := 11) dL_law_300 cB_X12_law lk_L_33 in_X12_law se_X12_law (by decide) rfl rfl (Nat.le_of_ble_eq_true rfl) (Nat.le_of_ble_eq_true rfl) (by decide) (hG.lt (by decide)) (congrArg Prod.fst hG.k214) ?_
  refine Go.to (fun r G' D3 hr => ?_) h
  obtain ⟨rfl, z4, rfl, h⟩ := hr
  show Go E (d + 1) kc ks mL_law 303 [some (vR 1), some (vR 2), some (vR 214), some (vI x3)] [vI z4, vI z2] G D3 Q
  refine g_icmp_eq 1569 dL_law_303 (by decide) ⟨fun hc => ?_, fun hc => ?_⟩
  · replace h := h.1 hc
    refine h_iinc (L' := [some (vR 1), some (vR 2), some (vR 214), some (vI (x3 + 6))]) dL_law_1569 (Nat.le_of_ble_eq_true rfl) rfl rfl rfl ?_
    refine g_goto 18 dL_law_1572 (by decide) ?_
    exact Go.drop (by simp only [mm_sub, and_self]) h
  · replace h := h.2 hc
    refine g_iconst dL_law_306 ?_
    exact g_zret dL_law_307 rfl ⟨Or.inl rfl, h⟩
set_option maxRecDepth 20000 in
theorem w_L_law_308 {E : mmE} {d kc ks : Nat} {G : mmG} {D : mmD} {Q : mmQ} {x3 : Int} (hG : Sh G) (hL9 : (E.2.2.2.1 : Int) < 2147483648)  (h : ((0 ≤ (x3 + 1) ∧ (x3 + 1) < (E.2.2.2.1 : Int)) ∧ ((0 ≤ (x3 + 2) ∧ (x3 + 2) < (E.2.2.2.1 : Int)) ∧ Call E d 2 27 mX11_coin [vR 2, vI ((E.2.2.2.2.1 (x3 + 1).toNat).toInt), vI ((E.2.2.2.2.1 (x3 + 2).toNat).toInt)] G D (retIG (fun z2 G3 D1 => (Sh G3 ∧ ((0 ≤ (x3 + 1) ∧ (x3 + 1) < (E.2.2.2.1 : Int)) ∧ ((0 ≤ (x3 + 2) ∧ (x3 + 2) < (E.2.2.2.1 : Int)) ∧ Call E d 0 0 mX12_coin [vR 214, vI ((E.2.2.2.2.1 (x3 + 1).toNat).toInt), vI ((E.2.2.2.2.1 (x3 + 2).toNat).toInt)] G3 D1 (retI G3 (fun z6 D5 => ((iv z2 = iv z6 → Go E (d + 1) kc ks mL_law 18 [some (vR 1), some (vR 2), some (vR 214), some (vI (x3 + 6))] [] G3 D5 Q) ∧ (¬ iv z2 = iv z6 → Q (some (vI 0)) G3 D5)))))))))))) : Go E (d + 1) (kc + 2) (ks + 27) mL_law 308 [some (vR 1), some (vR 2), some (vR 214), some (vI x3)] [] G D Q := by
  refine g_aload_n dL_law_308 rfl rfl ?_
  refine g_aload_n dL_law_309 rfl rfl ?_
  refine g_iload_n dL_law_310 rfl rfl ?_
  refine g_iconst dL_law_311 ?_
  refine g_iadd dL_law_312 ?_
  refine g_sald dL_law_313 hL9 ⟨h.1, ?_⟩
  replace h := h.2
  refine g_aload_n dL_law_314 rfl rfl ?_
  refine g_iload_n dL_law_315 rfl rfl ?_
  refine g_iconst dL_law_316 ?_
  refine g_iadd dL_law_317 ?_
  refine g_sald dL_law_318 hL9 ⟨h.1, ?_⟩
  replace h := h.2
  refine g_callV (kc := kc) (kc' := 2) (ks := ks) (ks' := 27) (as := [vI ((E.2.2.2.2.1 (x3 + 1).toNat).toInt), vI ((E.2.2.2.2.1 (x3 + 2).toNat).toInt)]) (st := []) (ci := 10) dL_law_319 cB_X11_coin lk_L_34 in_X11_coin se_X11_coin (by decide) rfl rfl (Nat.le_of_ble_eq_true rfl) (Nat.le_of_ble_eq_true rfl) (by decide) (hG.lt (by decide)) (congrArg Prod.fst hG.k2) ?_
  refine Go.to (fun r G3 D1 hr => ?_) h
  obtain ⟨z2, rfl, hG4, h⟩ := hr
  show Go E (d + 1) kc ks mL_law 322 [some (vR 1), some (vR 2), some (vR 214), some (vI x3)] [vI z2] G3 D1 Q
  refine g_aload_n dL_law_322 rfl rfl ?_
  refine g_aload_n dL_law_323 rfl rfl ?_
  refine g_iload_n dL_law_324 rfl rfl ?_
  refine g_iconst dL_law_325 ?_
  refine g_iadd dL_law_326 ?_
  refine g_sald dL_law_327 hL9 ⟨h.1, ?_⟩
  replace h := h.2
  refine g_aload_n dL_law_328 rfl rfl ?_
  refine g_iload_n dL_law_329 rfl rfl ?_
  refine g_iconst dL_law_330 ?_
  refine g_iadd dL_law_331 ?_
  refine g_sald dL_law_332 hL9 ⟨h.1, ?_⟩
  replace h := h.2
  refine g_callV (kc := kc) (kc' := 0) (ks := ks) (ks' := 0) (as := [vI ((E.2.2.2.2.1 (x3 + 1).toNat).toInt), vI ((E.2.2.2.2.1 (x3 + 2).toNat).toInt)]) (st := [vI z2]) (ci := 11) dL_law_333 cB_X12_coin lk_L_38 in_X12_coin se_X12_coin (by decide) rfl rfl (Nat.le_of_ble_eq_true rfl) (Nat.le_of_ble_eq_true rfl) (by decide) (hG4.lt (by decide)) (congrArg Prod.fst hG4.k214) ?_
  refine Go.to (fun r G' D5 hr => ?_) h
  obtain ⟨rfl, z6, rfl, h⟩ := hr
  show Go E (d + 1) kc ks mL_law 336 [some (vR 1), some (vR 2), some (vR 214), some (vI x3)] [vI z6, vI z2] G3 D5 Q
  refine g_icmp_eq 1569 dL_law_336 (by decide) ⟨fun hc => ?_, fun hc => ?_⟩
  · replace h := h.1 hc
    refine h_iinc (L' := [some (vR 1), some (vR 2), some (vR 214), some (vI (x3 + 6))]) dL_law_1569 (Nat.le_of_ble_eq_true rfl) rfl rfl rfl ?_
    refine g_goto 18 dL_law_1572 (by decide) ?_
    exact Go.drop (by simp only [mm_sub, and_self]) h
  · replace h := h.2 hc
    refine g_iconst dL_law_339 ?_
    exact g_zret dL_law_340 rfl ⟨Or.inl rfl, h⟩
set_option maxRecDepth 20000 in
theorem w_L_law_341 {E : mmE} {d kc ks : Nat} {G : mmG} {D : mmD} {Q : mmQ} {x3 : Int} (hG : Sh G) (hL9 : (E.2.2.2.1 : Int) < 2147483648)  (h : ((0 ≤ (x3 + 1) ∧ (x3 + 1) < (E.2.2.2.1 : Int)) ∧ ((0 ≤ (x3 + 2) ∧ (x3 + 2) < (E.2.2.2.1 : Int)) ∧ Call E d 2 27 mX11_sound [vR 2, vI ((E.2.2.2.2.1 (x3 + 1).toNat).toInt), vI ((E.2.2.2.2.1 (x3 + 2).toNat).toInt)] G D (retIG (fun z2 G3 D1 => (Sh G3 ∧ ((0 ≤ (x3 + 1) ∧ (x3 + 1) < (E.2.2.2.1 : Int)) ∧ ((0 ≤ (x3 + 2) ∧ (x3 + 2) < (E.2.2.2.1 : Int)) ∧ Call E d 0 0 mX12_sound [vR 214, vI ((E.2.2.2.2.1 (x3 + 1).toNat).toInt), vI ((E.2.2.2.2.1 (x3 + 2).toNat).toInt)] G3 D1 (retI G3 (fun z6 D5 => ((iv z2 = iv z6 → Go E (d + 1) kc ks mL_law 18 [some (vR 1), some (vR 2), some (vR 214), some (vI (x3 + 6))] [] G3 D5 Q) ∧ (¬ iv z2 = iv z6 → Q (some (vI 0)) G3 D5)))))))))))) : Go E (d + 1) (kc + 2) (ks + 27) mL_law 341 [some (vR 1), some (vR 2), some (vR 214), some (vI x3)] [] G D Q := by
  refine g_aload_n dL_law_341 rfl rfl ?_
  refine g_aload_n dL_law_342 rfl rfl ?_
  refine g_iload_n dL_law_343 rfl rfl ?_
  refine g_iconst dL_law_344 ?_
  refine g_iadd dL_law_345 ?_
  refine g_sald dL_law_346 hL9 ⟨h.1, ?_⟩
  replace h := h.2
  refine g_aload_n dL_law_347 rfl rfl ?_
  refine g_iload_n dL_law_348 rfl rfl ?_
  refine g_iconst dL_law_349 ?_
  refine g_iadd dL_law_350 ?_
  refine g_sald dL_law_351 hL9 ⟨h.1, ?_⟩
  replace h := h.2
  refine g_callV (kc := kc) (kc' := 2) (ks := ks) (ks' := 27) (as := [vI ((E.2.2.2.2.1 (x3 + 1).toNat).toInt), vI ((E.2.2.2.2.1 (x3 + 2).toNat).toInt)]) (st := []) (ci := 10) dL_law_352 cB_X11_sound lk_L_39 in_X11_sound se_X11_sound (by decide) rfl rfl (Nat.le_of_ble_eq_true rfl) (Nat.le_of_ble_eq_true rfl) (by decide) (hG.lt (by decide)) (congrArg Prod.fst hG.k2) ?_
  refine Go.to (fun r G3 D1 hr => ?_) h
  obtain ⟨z2, rfl, hG4, h⟩ := hr
  show Go E (d + 1) kc ks mL_law 355 [some (vR 1), some (vR 2), some (vR 214), some (vI x3)] [vI z2] G3 D1 Q
  refine g_aload_n dL_law_355 rfl rfl ?_
  refine g_aload_n dL_law_356 rfl rfl ?_
  refine g_iload_n dL_law_357 rfl rfl ?_
  refine g_iconst dL_law_358 ?_
  refine g_iadd dL_law_359 ?_
  refine g_sald dL_law_360 hL9 ⟨h.1, ?_⟩
  replace h := h.2
  refine g_aload_n dL_law_361 rfl rfl ?_
  refine g_iload_n dL_law_362 rfl rfl ?_
  refine g_iconst dL_law_363 ?_
  refine g_iadd dL_law_364 ?_
  refine g_sald dL_law_365 hL9 ⟨h.1, ?_⟩
  replace h := h.2
  refine g_callV (kc := kc) (kc' := 0) (ks := ks) (ks' := 0) (as := [vI ((E.2.2.2.2.1 (x3 + 1).toNat).toInt), vI ((E.2.2.2.2.1 (x3 + 2).toNat).toInt)]) (st := [vI z2]) (ci := 11) dL_law_366 cB_X12_sound lk_L_42 in_X12_sound se_X12_sound (by decide) rfl rfl (Nat.le_of_ble_eq_true rfl) (Nat.le_of_ble_eq_true rfl) (by decide) (hG4.lt (by decide)) (congrArg Prod.fst hG4.k214) ?_
  refine Go.to (fun r G' D5 hr => ?_) h
  obtain ⟨rfl, z6, rfl, h⟩ := hr
  show Go E (d + 1) kc ks mL_law 369 [some (vR 1), some (vR 2), some (vR 214), some (vI x3)] [vI z6, vI z2] G3 D5 Q
  refine g_icmp_eq 1569 dL_law_369 (by decide) ⟨fun hc => ?_, fun hc => ?_⟩
  · replace h := h.1 hc
    refine h_iinc (L' := [some (vR 1), some (vR 2), some (vR 214), some (vI (x3 + 6))]) dL_law_1569 (Nat.le_of_ble_eq_true rfl) rfl rfl rfl ?_
    refine g_goto 18 dL_law_1572 (by decide) ?_
    exact Go.drop (by simp only [mm_sub, and_self]) h
  · replace h := h.2 hc
    refine g_iconst dL_law_372 ?_
    exact g_zret dL_law_373 rfl ⟨Or.inl rfl, h⟩
set_option maxRecDepth 20000 in
theorem w_L_law_374 {E : mmE} {d kc ks : Nat} {G : mmG} {D : mmD} {Q : mmQ} {x3 : Int} (hG : Sh G) (hL9 : (E.2.2.2.1 : Int) < 2147483648)  (h : ((0 ≤ (x3 + 1) ∧ (x3 + 1) < (E.2.2.2.1 : Int)) ∧ ((0 ≤ (x3 + 2) ∧ (x3 + 2) < (E.2.2.2.1 : Int)) ∧ Call E d 2 27 mX11_shorten [vR 2, vI ((E.2.2.2.2.1 (x3 + 1).toNat).toInt), vI ((E.2.2.2.2.1 (x3 + 2).toNat).toInt)] G D (retIG (fun z2 G3 D1 => (Sh G3 ∧ ((0 ≤ (x3 + 1) ∧ (x3 + 1) < (E.2.2.2.1 : Int)) ∧ ((0 ≤ (x3 + 2) ∧ (x3 + 2) < (E.2.2.2.1 : Int)) ∧ Call E d 0 0 mX12_shorten [vR 214, vI ((E.2.2.2.2.1 (x3 + 1).toNat).toInt), vI ((E.2.2.2.2.1 (x3 + 2).toNat).toInt)] G3 D1 (retI G3 (fun z6 D5 => ((iv z2 = iv z6 → Go E (d + 1) kc ks mL_law 18 [some (vR 1), some (vR 2), some (vR 214), some (vI (x3 + 6))] [] G3 D5 Q) ∧ (¬ iv z2 = iv z6 → Q (some (vI 0)) G3 D5)))))))))))) : Go E (d + 1) (kc + 2) (ks + 27) mL_law 374 [some (vR 1), some (vR 2), some (vR 214), some (vI x3)] [] G D Q := by
  refine g_aload_n dL_law_374 rfl rfl ?_
  refine g_aload_n dL_law_375 rfl rfl ?_
  refine g_iload_n dL_law_376 rfl rfl ?_
  refine g_iconst dL_law_377 ?_
  refine g_iadd dL_law_378 ?_
  refine g_sald dL_law_379 hL9 ⟨h.1, ?_⟩
  replace h := h.2
  refine g_aload_n dL_law_380 rfl rfl ?_
  refine g_iload_n dL_law_381 rfl rfl ?_
  refine g_iconst dL_law_382 ?_
  refine g_iadd dL_law_383 ?_
  refine g_sald dL_law_384 hL9 ⟨h.1, ?_⟩
  replace h := h.2
  refine g_callV (kc := kc) (kc' := 2) (ks := ks) (ks' := 27) (as := [vI ((E.2.2.2.2.1 (x3 + 1).toNat).toInt), vI ((E.2.2.2.2.1 (x3 + 2).toNat).toInt)]) (st := []) (ci := 10) dL_law_385 cB_X11_shorten lk_L_43 in_X11_shorten se_X11_shorten (by decide) rfl rfl (Nat.le_of_ble_eq_true rfl) (Nat.le_of_ble_eq_true rfl) (by decide) (hG.lt (by decide)) (congrArg Prod.fst hG.k2) ?_
  refine Go.to (fun r G3 D1 hr => ?_) h
  obtain ⟨z2, rfl, hG4, h⟩ := hr
  show Go E (d + 1) kc ks mL_law 388 [some (vR 1), some (vR 2), some (vR 214), some (vI x3)] [vI z2] G3 D1 Q
  refine g_aload_n dL_law_388 rfl rfl ?_
  refine g_aload_n dL_law_389 rfl rfl ?_
  refine g_iload_n dL_law_390 rfl rfl ?_
  refine g_iconst dL_law_391 ?_
  refine g_iadd dL_law_392 ?_
  refine g_sald dL_law_393 hL9 ⟨h.1, ?_⟩
  replace h := h.2
  refine g_aload_n dL_law_394 rfl rfl ?_
  refine g_iload_n dL_law_395 rfl rfl ?_
  refine g_iconst dL_law_396 ?_
  refine g_iadd dL_law_397 ?_
  refine g_sald dL_law_398 hL9 ⟨h.1, ?_⟩
  replace h := h.2
  refine g_callV (kc := kc) (kc' := 0) (ks := ks) (ks' := 0) (as := [vI ((E.2.2.2.2.1 (x3 + 1).toNat).toInt), vI ((E.2.2.2.2.1 (x3 + 2).toNat).toInt)]) (st := [vI z2]) (ci := 11) dL_law_399 cB_X12_shorten lk_L_46 in_X12_shorten se_X12_shorten (by decide) rfl rfl (Nat.le_of_ble_eq_true rfl) (Nat.le_of_ble_eq_true rfl) (by decide) (hG4.lt (by decide)) (congrArg Prod.fst hG4.k214) ?_
  refine Go.to (fun r G' D5 hr => ?_) h
  obtain ⟨rfl, z6, rfl, h⟩ := hr
  show Go E (d + 1) kc ks mL_law 402 [some (vR 1), some (vR 2), some (vR 214), some (vI x3)] [vI z6, vI z2] G3 D5 Q
  refine g_icmp_eq 1569 dL_law_402 (by decide) ⟨fun hc => ?_, fun hc => ?_⟩
  · replace h := h.1 hc
    refine h_iinc (L' := [some (vR 1), some (vR 2), some (vR 214), some (vI (x3 + 6))]) dL_law_1569 (Nat.le_of_ble_eq_true rfl) rfl rfl rfl ?_
    refine g_goto 18 dL_law_1572 (by decide) ?_
    exact Go.drop (by simp only [mm_sub, and_self]) h
  · replace h := h.2 hc
    refine g_iconst dL_law_405 ?_
    exact g_zret dL_law_406 rfl ⟨Or.inl rfl, h⟩
set_option maxRecDepth 20000 in
theorem w_L_law_407 {E : mmE} {d kc ks : Nat} {G : mmG} {D : mmD} {Q : mmQ} {x3 : Int} (hG : Sh G) (hL9 : (E.2.2.2.1 : Int) < 2147483648)  (h : ((0 ≤ (x3 + 1) ∧ (x3 + 1) < (E.2.2.2.1 : Int)) ∧ ((0 ≤ (x3 + 2) ∧ (x3 + 2) < (E.2.2.2.1 : Int)) ∧ ((0 ≤ (x3 + 3) ∧ (x3 + 3) < (E.2.2.2.1 : Int)) ∧ Call E d 2 27 mX11_loan [vR 2, vI ((E.2.2.2.2.1 (x3 + 1).toNat).toInt), vI ((E.2.2.2.2.1 (x3 + 2).toNat).toInt), vI ((E.2.2.2.2.1 (x3 + 3).toNat).toInt)] G D (retIG (fun z2 G3 D1 => (Sh G3 ∧ ((0 ≤ (x3 + 1) ∧ (x3 + 1) < (E.2.2.2.1 : Int)) ∧ ((0 ≤ (x3 + 2) ∧ (x3 + 2) < (E.2.2.2.1 : Int)) ∧ ((0 ≤ (x3 + 3) ∧ (x3 + 3) < (E.2.2.2.1 : Int)) ∧ Call E d 0 0 mX12_loan [vR 214, vI ((E.2.2.2.2.1 (x3 + 1).toNat).toInt), vI ((E.2.2.2.2.1 (x3 + 2).toNat).toInt), vI ((E.2.2.2.2.1 (x3 + 3).toNat).toInt)] G3 D1 (retI G3 (fun z6 D5 => ((iv z2 = iv z6 → Go E (d + 1) kc ks mL_law 18 [some (vR 1), some (vR 2), some (vR 214), some (vI (x3 + 6))] [] G3 D5 Q) ∧ (¬ iv z2 = iv z6 → Q (some (vI 0)) G3 D5)))))))))))))) : Go E (d + 1) (kc + 2) (ks + 27) mL_law 407 [some (vR 1), some (vR 2), some (vR 214), some (vI x3)] [] G D Q := by
  refine g_aload_n dL_law_407 rfl rfl ?_
  refine g_aload_n dL_law_408 rfl rfl ?_
  refine g_iload_n dL_law_409 rfl rfl ?_
  refine g_iconst dL_law_410 ?_
  refine g_iadd dL_law_411 ?_
  refine g_sald dL_law_412 hL9 ⟨h.1, ?_⟩
  replace h := h.2
  refine g_aload_n dL_law_413 rfl rfl ?_
  refine g_iload_n dL_law_414 rfl rfl ?_
  refine g_iconst dL_law_415 ?_
  refine g_iadd dL_law_416 ?_
  refine g_sald dL_law_417 hL9 ⟨h.1, ?_⟩
  replace h := h.2
  refine g_aload_n dL_law_418 rfl rfl ?_
  refine g_iload_n dL_law_419 rfl rfl ?_
  refine g_iconst dL_law_420 ?_
  refine g_iadd dL_law_421 ?_
  refine g_sald dL_law_422 hL9 ⟨h.1, ?_⟩
  replace h := h.2
  refine g_callV (kc := kc) (kc' := 2) (ks := ks) (ks' := 27) (as := [vI ((E.2.2.2.2.1 (x3 + 1).toNat).toInt), vI ((E.2.2.2.2.1 (x3 + 2).toNat).toInt), vI ((E.2.2.2.2.1 (x3 + 3).toNat).toInt)]) (st := []) (ci := 10) dL_law_423 cB_X11_loan lk_L_47 in_X11_loan se_X11_loan (by decide) rfl rfl (Nat.le_of_ble_eq_true rfl) (Nat.le_of_ble_eq_true rfl) (by decide) (hG.lt (by decide)) (congrArg Prod.fst hG.k2) ?_
  refine Go.to (fun r G3 D1 hr => ?_) h
  obtain ⟨z2, rfl, hG4, h⟩ := hr
  show Go E (d + 1) kc ks mL_law 426 [some (vR 1), some (vR 2), some (vR 214), some (vI x3)] [vI z2] G3 D1 Q
  refine g_aload_n dL_law_426 rfl rfl ?_
  refine g_aload_n dL_law_427 rfl rfl ?_
  refine g_iload_n dL_law_428 rfl rfl ?_
  refine g_iconst dL_law_429 ?_
  refine g_iadd dL_law_430 ?_
  refine g_sald dL_law_431 hL9 ⟨h.1, ?_⟩
  replace h := h.2
  refine g_aload_n dL_law_432 rfl rfl ?_
  refine g_iload_n dL_law_433 rfl rfl ?_
  refine g_iconst dL_law_434 ?_
  refine g_iadd dL_law_435 ?_
  refine g_sald dL_law_436 hL9 ⟨h.1, ?_⟩
  replace h := h.2
  refine g_aload_n dL_law_437 rfl rfl ?_
  refine g_iload_n dL_law_438 rfl rfl ?_
  refine g_iconst dL_law_439 ?_
  refine g_iadd dL_law_440 ?_
  refine g_sald dL_law_441 hL9 ⟨h.1, ?_⟩
  replace h := h.2
  refine g_callV (kc := kc) (kc' := 0) (ks := ks) (ks' := 0) (as := [vI ((E.2.2.2.2.1 (x3 + 1).toNat).toInt), vI ((E.2.2.2.2.1 (x3 + 2).toNat).toInt), vI ((E.2.2.2.2.1 (x3 + 3).toNat).toInt)]) (st := [vI z2]) (ci := 11) dL_law_442 cB_X12_loan lk_L_51 in_X12_loan se_X12_loan (by decide) rfl rfl (Nat.le_of_ble_eq_true rfl) (Nat.le_of_ble_eq_true rfl) (by decide) (hG4.lt (by decide)) (congrArg Prod.fst hG4.k214) ?_
  refine Go.to (fun r G' D5 hr => ?_) h
  obtain ⟨rfl, z6, rfl, h⟩ := hr
  show Go E (d + 1) kc ks mL_law 445 [some (vR 1), some (vR 2), some (vR 214), some (vI x3)] [vI z6, vI z2] G3 D5 Q
  refine g_icmp_eq 1569 dL_law_445 (by decide) ⟨fun hc => ?_, fun hc => ?_⟩
  · replace h := h.1 hc
    refine h_iinc (L' := [some (vR 1), some (vR 2), some (vR 214), some (vI (x3 + 6))]) dL_law_1569 (Nat.le_of_ble_eq_true rfl) rfl rfl rfl ?_
    refine g_goto 18 dL_law_1572 (by decide) ?_
    exact Go.drop (by simp only [mm_sub, and_self]) h
  · replace h := h.2 hc
    refine g_iconst dL_law_448 ?_
    exact g_zret dL_law_449 rfl ⟨Or.inl rfl, h⟩
set_option maxRecDepth 20000 in
theorem w_L_law_450 {E : mmE} {d kc ks : Nat} {G : mmG} {D : mmD} {Q : mmQ} {x3 : Int} (hG : Sh G) (hL9 : (E.2.2.2.1 : Int) < 2147483648)  (h : ((0 ≤ (x3 + 1) ∧ (x3 + 1) < (E.2.2.2.1 : Int)) ∧ ((0 ≤ (x3 + 2) ∧ (x3 + 2) < (E.2.2.2.1 : Int)) ∧ Call E d 2 27 mX11_forget [vR 2, vI ((E.2.2.2.2.1 (x3 + 1).toNat).toInt), vI ((E.2.2.2.2.1 (x3 + 2).toNat).toInt)] G D (retIG (fun z2 G3 D1 => (Sh G3 ∧ ((0 ≤ (x3 + 1) ∧ (x3 + 1) < (E.2.2.2.1 : Int)) ∧ ((0 ≤ (x3 + 2) ∧ (x3 + 2) < (E.2.2.2.1 : Int)) ∧ Call E d 0 0 mX12_forget [vR 214, vI ((E.2.2.2.2.1 (x3 + 1).toNat).toInt), vI ((E.2.2.2.2.1 (x3 + 2).toNat).toInt)] G3 D1 (retI G3 (fun z6 D5 => ((iv z2 = iv z6 → Go E (d + 1) kc ks mL_law 18 [some (vR 1), some (vR 2), some (vR 214), some (vI (x3 + 6))] [] G3 D5 Q) ∧ (¬ iv z2 = iv z6 → Q (some (vI 0)) G3 D5)))))))))))) : Go E (d + 1) (kc + 2) (ks + 27) mL_law 450 [some (vR 1), some (vR 2), some (vR 214), some (vI x3)] [] G D Q := by
  refine g_aload_n dL_law_450 rfl rfl ?_
  refine g_aload_n dL_law_451 rfl rfl ?_
  refine g_iload_n dL_law_452 rfl rfl ?_
  refine g_iconst dL_law_453 ?_
  refine g_iadd dL_law_454 ?_
  refine g_sald dL_law_455 hL9 ⟨h.1, ?_⟩
  replace h := h.2
  refine g_aload_n dL_law_456 rfl rfl ?_
  refine g_iload_n dL_law_457 rfl rfl ?_
  refine g_iconst dL_law_458 ?_
  refine g_iadd dL_law_459 ?_
  refine g_sald dL_law_460 hL9 ⟨h.1, ?_⟩
  replace h := h.2
  refine g_callV (kc := kc) (kc' := 2) (ks := ks) (ks' := 27) (as := [vI ((E.2.2.2.2.1 (x3 + 1).toNat).toInt), vI ((E.2.2.2.2.1 (x3 + 2).toNat).toInt)]) (st := []) (ci := 10) dL_law_461 cB_X11_forget lk_L_52 in_X11_forget se_X11_forget (by decide) rfl rfl (Nat.le_of_ble_eq_true rfl) (Nat.le_of_ble_eq_true rfl) (by decide) (hG.lt (by decide)) (congrArg Prod.fst hG.k2) ?_
  refine Go.to (fun r G3 D1 hr => ?_) h
  obtain ⟨z2, rfl, hG4, h⟩ := hr
  show Go E (d + 1) kc ks mL_law 464 [some (vR 1), some (vR 2), some (vR 214), some (vI x3)] [vI z2] G3 D1 Q
  refine g_aload_n dL_law_464 rfl rfl ?_
  refine g_aload_n dL_law_465 rfl rfl ?_
  refine g_iload_n dL_law_466 rfl rfl ?_
  refine g_iconst dL_law_467 ?_
  refine g_iadd dL_law_468 ?_
  refine g_sald dL_law_469 hL9 ⟨h.1, ?_⟩
  replace h := h.2
  refine g_aload_n dL_law_470 rfl rfl ?_
  refine g_iload_n dL_law_471 rfl rfl ?_
  refine g_iconst dL_law_472 ?_
  refine g_iadd dL_law_473 ?_
  refine g_sald dL_law_474 hL9 ⟨h.1, ?_⟩
  replace h := h.2
  refine g_callV (kc := kc) (kc' := 0) (ks := ks) (ks' := 0) (as := [vI ((E.2.2.2.2.1 (x3 + 1).toNat).toInt), vI ((E.2.2.2.2.1 (x3 + 2).toNat).toInt)]) (st := [vI z2]) (ci := 11) dL_law_475 cB_X12_forget lk_L_55 in_X12_forget se_X12_forget (by decide) rfl rfl (Nat.le_of_ble_eq_true rfl) (Nat.le_of_ble_eq_true rfl) (by decide) (hG4.lt (by decide)) (congrArg Prod.fst hG4.k214) ?_
  refine Go.to (fun r G' D5 hr => ?_) h
  obtain ⟨rfl, z6, rfl, h⟩ := hr
  show Go E (d + 1) kc ks mL_law 478 [some (vR 1), some (vR 2), some (vR 214), some (vI x3)] [vI z6, vI z2] G3 D5 Q
  refine g_icmp_eq 1569 dL_law_478 (by decide) ⟨fun hc => ?_, fun hc => ?_⟩
  · replace h := h.1 hc
    refine h_iinc (L' := [some (vR 1), some (vR 2), some (vR 214), some (vI (x3 + 6))]) dL_law_1569 (Nat.le_of_ble_eq_true rfl) rfl rfl rfl ?_
    refine g_goto 18 dL_law_1572 (by decide) ?_
    exact Go.drop (by simp only [mm_sub, and_self]) h
  · replace h := h.2 hc
    refine g_iconst dL_law_481 ?_
    exact g_zret dL_law_482 rfl ⟨Or.inl rfl, h⟩
set_option maxRecDepth 20000 in
theorem w_L_law_483 {E : mmE} {d kc ks : Nat} {G : mmG} {D : mmD} {Q : mmQ} {x3 : Int} (hG : Sh G) (hL9 : (E.2.2.2.1 : Int) < 2147483648)  (h : ((0 ≤ (x3 + 1) ∧ (x3 + 1) < (E.2.2.2.1 : Int)) ∧ Call E d 2 27 mX11_split [vR 2, vI ((E.2.2.2.2.1 (x3 + 1).toNat).toInt)] G D (retIG (fun z2 G3 D1 => (Sh G3 ∧ ((0 ≤ (x3 + 1) ∧ (x3 + 1) < (E.2.2.2.1 : Int)) ∧ Call E d 0 0 mX12_split [vR 214, vI ((E.2.2.2.2.1 (x3 + 1).toNat).toInt)] G3 D1 (retI G3 (fun z6 D5 => ((iv z2 = iv z6 → Go E (d + 1) kc ks mL_law 18 [some (vR 1), some (vR 2), some (vR 214), some (vI (x3 + 6))] [] G3 D5 Q) ∧ (¬ iv z2 = iv z6 → Q (some (vI 0)) G3 D5)))))))))) : Go E (d + 1) (kc + 2) (ks + 27) mL_law 483 [some (vR 1), some (vR 2), some (vR 214), some (vI x3)] [] G D Q := by
  refine g_aload_n dL_law_483 rfl rfl ?_
  refine g_aload_n dL_law_484 rfl rfl ?_
  refine g_iload_n dL_law_485 rfl rfl ?_
  refine g_iconst dL_law_486 ?_
  refine g_iadd dL_law_487 ?_
  refine g_sald dL_law_488 hL9 ⟨h.1, ?_⟩
  replace h := h.2
  refine g_callV (kc := kc) (kc' := 2) (ks := ks) (ks' := 27) (as := [vI ((E.2.2.2.2.1 (x3 + 1).toNat).toInt)]) (st := []) (ci := 10) dL_law_489 cB_X11_split lk_L_56 in_X11_split se_X11_split (by decide) rfl rfl (Nat.le_of_ble_eq_true rfl) (Nat.le_of_ble_eq_true rfl) (by decide) (hG.lt (by decide)) (congrArg Prod.fst hG.k2) ?_
  refine Go.to (fun r G3 D1 hr => ?_) h
  obtain ⟨z2, rfl, hG4, h⟩ := hr
  show Go E (d + 1) kc ks mL_law 492 [some (vR 1), some (vR 2), some (vR 214), some (vI x3)] [vI z2] G3 D1 Q
  refine g_aload_n dL_law_492 rfl rfl ?_
  refine g_aload_n dL_law_493 rfl rfl ?_
  refine g_iload_n dL_law_494 rfl rfl ?_
  refine g_iconst dL_law_495 ?_
  refine g_iadd dL_law_496 ?_
  refine g_sald dL_law_497 hL9 ⟨h.1, ?_⟩
  replace h := h.2
  refine g_callV (kc := kc) (kc' := 0) (ks := ks) (ks' := 0) (as := [vI ((E.2.2.2.2.1 (x3 + 1).toNat).toInt)]) (st := [vI z2]) (ci := 11) dL_law_498 cB_X12_split lk_L_59 in_X12_split se_X12_split (by decide) rfl rfl (Nat.le_of_ble_eq_true rfl) (Nat.le_of_ble_eq_true rfl) (by decide) (hG4.lt (by decide)) (congrArg Prod.fst hG4.k214) ?_
  refine Go.to (fun r G' D5 hr => ?_) h
  obtain ⟨rfl, z6, rfl, h⟩ := hr
  show Go E (d + 1) kc ks mL_law 501 [some (vR 1), some (vR 2), some (vR 214), some (vI x3)] [vI z6, vI z2] G3 D5 Q
  refine g_icmp_eq 1569 dL_law_501 (by decide) ⟨fun hc => ?_, fun hc => ?_⟩
  · replace h := h.1 hc
    refine h_iinc (L' := [some (vR 1), some (vR 2), some (vR 214), some (vI (x3 + 6))]) dL_law_1569 (Nat.le_of_ble_eq_true rfl) rfl rfl rfl ?_
    refine g_goto 18 dL_law_1572 (by decide) ?_
    exact Go.drop (by simp only [mm_sub, and_self]) h
  · replace h := h.2 hc
    refine g_iconst dL_law_504 ?_
    exact g_zret dL_law_505 rfl ⟨Or.inl rfl, h⟩
set_option maxRecDepth 20000 in
theorem w_L_law_506 {E : mmE} {d kc ks : Nat} {G : mmG} {D : mmD} {Q : mmQ} {x3 : Int} (hG : Sh G) (hL9 : (E.2.2.2.1 : Int) < 2147483648)  (h : ((0 ≤ (x3 + 1) ∧ (x3 + 1) < (E.2.2.2.1 : Int)) ∧ ((0 ≤ (x3 + 2) ∧ (x3 + 2) < (E.2.2.2.1 : Int)) ∧ ((0 ≤ (x3 + 3) ∧ (x3 + 3) < (E.2.2.2.1 : Int)) ∧ Call E d 0 0 mX11_word [vR 2, vI ((E.2.2.2.2.1 (x3 + 1).toNat).toInt), vI ((E.2.2.2.2.1 (x3 + 2).toNat).toInt), vI ((E.2.2.2.2.1 (x3 + 3).toNat).toInt)] G D (retI G (fun z2 D1 => ((0 ≤ (x3 + 1) ∧ (x3 + 1) < (E.2.2.2.1 : Int)) ∧ ((0 ≤ (x3 + 2) ∧ (x3 + 2) < (E.2.2.2.1 : Int)) ∧ ((0 ≤ (x3 + 3) ∧ (x3 + 3) < (E.2.2.2.1 : Int)) ∧ Call E d 0 0 mX12_word [vR 214, vI ((E.2.2.2.2.1 (x3 + 1).toNat).toInt), vI ((E.2.2.2.2.1 (x3 + 2).toNat).toInt), vI ((E.2.2.2.2.1 (x3 + 3).toNat).toInt)] G D1 (retI G (fun z4 D3 => ((iv z2 = iv z4 → Go E (d + 1) kc ks mL_law 18 [some (vR 1), some (vR 2), some (vR 214), some (vI (x3 + 6))] [] G D3 Q) ∧ (¬ iv z2 = iv z4 → Q (some (vI 0)) G D3))))))))))))) : Go E (d + 1) kc ks mL_law 506 [some (vR 1), some (vR 2), some (vR 214), some (vI x3)] [] G D Q := by
  refine g_aload_n dL_law_506 rfl rfl ?_
  refine g_aload_n dL_law_507 rfl rfl ?_
  refine g_iload_n dL_law_508 rfl rfl ?_
  refine g_iconst dL_law_509 ?_
  refine g_iadd dL_law_510 ?_
  refine g_sald dL_law_511 hL9 ⟨h.1, ?_⟩
  replace h := h.2
  refine g_aload_n dL_law_512 rfl rfl ?_
  refine g_iload_n dL_law_513 rfl rfl ?_
  refine g_iconst dL_law_514 ?_
  refine g_iadd dL_law_515 ?_
  refine g_sald dL_law_516 hL9 ⟨h.1, ?_⟩
  replace h := h.2
  refine g_aload_n dL_law_517 rfl rfl ?_
  refine g_iload_n dL_law_518 rfl rfl ?_
  refine g_iconst dL_law_519 ?_
  refine g_iadd dL_law_520 ?_
  refine g_sald dL_law_521 hL9 ⟨h.1, ?_⟩
  replace h := h.2
  refine g_callV (kc := kc) (kc' := 0) (ks := ks) (ks' := 0) (as := [vI ((E.2.2.2.2.1 (x3 + 1).toNat).toInt), vI ((E.2.2.2.2.1 (x3 + 2).toNat).toInt), vI ((E.2.2.2.2.1 (x3 + 3).toNat).toInt)]) (st := []) (ci := 10) dL_law_522 cB_X11_word lk_L_60 in_X11_word se_X11_word (by decide) rfl rfl (Nat.le_of_ble_eq_true rfl) (Nat.le_of_ble_eq_true rfl) (by decide) (hG.lt (by decide)) (congrArg Prod.fst hG.k2) ?_
  refine Go.to (fun r G' D1 hr => ?_) h
  obtain ⟨rfl, z2, rfl, h⟩ := hr
  show Go E (d + 1) kc ks mL_law 525 [some (vR 1), some (vR 2), some (vR 214), some (vI x3)] [vI z2] G D1 Q
  refine g_aload_n dL_law_525 rfl rfl ?_
  refine g_aload_n dL_law_526 rfl rfl ?_
  refine g_iload_n dL_law_527 rfl rfl ?_
  refine g_iconst dL_law_528 ?_
  refine g_iadd dL_law_529 ?_
  refine g_sald dL_law_530 hL9 ⟨h.1, ?_⟩
  replace h := h.2
  refine g_aload_n dL_law_531 rfl rfl ?_
  refine g_iload_n dL_law_532 rfl rfl ?_
  refine g_iconst dL_law_533 ?_
  refine g_iadd dL_law_534 ?_
  refine g_sald dL_law_535 hL9 ⟨h.1, ?_⟩
  replace h := h.2
  refine g_aload_n dL_law_536 rfl rfl ?_
  refine g_iload_n dL_law_537 rfl rfl ?_
  refine g_iconst dL_law_538 ?_
  refine g_iadd dL_law_539 ?_
  refine g_sald dL_law_540 hL9 ⟨h.1, ?_⟩
  replace h := h.2
  refine g_callV (kc := kc) (kc' := 0) (ks := ks) (ks' := 0) (as := [vI ((E.2.2.2.2.1 (x3 + 1).toNat).toInt), vI ((E.2.2.2.2.1 (x3 + 2).toNat).toInt), vI ((E.2.2.2.2.1 (x3 + 3).toNat).toInt)]) (st := [vI z2]) (ci := 11) dL_law_541 cB_X12_word lk_L_63 in_X12_word se_X12_word (by decide) rfl rfl (Nat.le_of_ble_eq_true rfl) (Nat.le_of_ble_eq_true rfl) (by decide) (hG.lt (by decide)) (congrArg Prod.fst hG.k214) ?_
  refine Go.to (fun r G' D3 hr => ?_) h
  obtain ⟨rfl, z4, rfl, h⟩ := hr
  show Go E (d + 1) kc ks mL_law 544 [some (vR 1), some (vR 2), some (vR 214), some (vI x3)] [vI z4, vI z2] G D3 Q
  refine g_icmp_eq 1569 dL_law_544 (by decide) ⟨fun hc => ?_, fun hc => ?_⟩
  · replace h := h.1 hc
    refine h_iinc (L' := [some (vR 1), some (vR 2), some (vR 214), some (vI (x3 + 6))]) dL_law_1569 (Nat.le_of_ble_eq_true rfl) rfl rfl rfl ?_
    refine g_goto 18 dL_law_1572 (by decide) ?_
    exact Go.drop (by simp only [mm_sub, and_self]) h
  · replace h := h.2 hc
    refine g_iconst dL_law_547 ?_
    exact g_zret dL_law_548 rfl ⟨Or.inl rfl, h⟩
set_option maxRecDepth 20000 in
theorem w_L_law_549 {E : mmE} {d kc ks : Nat} {G : mmG} {D : mmD} {Q : mmQ} {x3 : Int} (hG : Sh G) (hL9 : (E.2.2.2.1 : Int) < 2147483648)  (h : Call E d 0 0 mX11_open [vR 2] G D (retI G (fun z2 D1 => Call E d 0 0 mX12_open [vR 214] G D1 (retI G (fun z4 D3 => ((iv z2 = iv z4 → Go E (d + 1) kc ks mL_law 18 [some (vR 1), some (vR 2), some (vR 214), some (vI (x3 + 6))] [] G D3 Q) ∧ (¬ iv z2 = iv z4 → Q (some (vI 0)) G D3))))))) : Go E (d + 1) kc ks mL_law 549 [some (vR 1), some (vR 2), some (vR 214), some (vI x3)] [] G D Q := by
  refine g_aload_n dL_law_549 rfl rfl ?_
  refine g_callV (kc := kc) (kc' := 0) (ks := ks) (ks' := 0) (as := []) (st := []) (ci := 10) dL_law_550 cB_X11_open lk_L_64 in_X11_open se_X11_open (by decide) rfl rfl (Nat.le_of_ble_eq_true rfl) (Nat.le_of_ble_eq_true rfl) (by decide) (hG.lt (by decide)) (congrArg Prod.fst hG.k2) ?_
  refine Go.to (fun r G' D1 hr => ?_) h
  obtain ⟨rfl, z2, rfl, h⟩ := hr
  show Go E (d + 1) kc ks mL_law 553 [some (vR 1), some (vR 2), some (vR 214), some (vI x3)] [vI z2] G D1 Q
  refine g_aload_n dL_law_553 rfl rfl ?_
  refine g_callV (kc := kc) (kc' := 0) (ks := ks) (ks' := 0) (as := []) (st := [vI z2]) (ci := 11) dL_law_554 cB_X12_open lk_L_67 in_X12_open se_X12_open (by decide) rfl rfl (Nat.le_of_ble_eq_true rfl) (Nat.le_of_ble_eq_true rfl) (by decide) (hG.lt (by decide)) (congrArg Prod.fst hG.k214) ?_
  refine Go.to (fun r G' D3 hr => ?_) h
  obtain ⟨rfl, z4, rfl, h⟩ := hr
  show Go E (d + 1) kc ks mL_law 557 [some (vR 1), some (vR 2), some (vR 214), some (vI x3)] [vI z4, vI z2] G D3 Q
  refine g_icmp_eq 1569 dL_law_557 (by decide) ⟨fun hc => ?_, fun hc => ?_⟩
  · replace h := h.1 hc
    refine h_iinc (L' := [some (vR 1), some (vR 2), some (vR 214), some (vI (x3 + 6))]) dL_law_1569 (Nat.le_of_ble_eq_true rfl) rfl rfl rfl ?_
    refine g_goto 18 dL_law_1572 (by decide) ?_
    exact Go.drop (by simp only [mm_sub, and_self]) h
  · replace h := h.2 hc
    refine g_iconst dL_law_560 ?_
    exact g_zret dL_law_561 rfl ⟨Or.inl rfl, h⟩
set_option maxRecDepth 20000 in
theorem w_L_law_562 {E : mmE} {d kc ks : Nat} {G : mmG} {D : mmD} {Q : mmQ} {x3 : Int} (hG : Sh G) (hL9 : (E.2.2.2.1 : Int) < 2147483648)  (h : ((0 ≤ (x3 + 1) ∧ (x3 + 1) < (E.2.2.2.1 : Int)) ∧ ((0 ≤ (x3 + 2) ∧ (x3 + 2) < (E.2.2.2.1 : Int)) ∧ ((0 ≤ (x3 + 3) ∧ (x3 + 3) < (E.2.2.2.1 : Int)) ∧ Call E d 0 0 mX11_truth [vR 2, vI ((E.2.2.2.2.1 (x3 + 1).toNat).toInt), vI ((E.2.2.2.2.1 (x3 + 2).toNat).toInt), vI ((E.2.2.2.2.1 (x3 + 3).toNat).toInt)] G D (retI G (fun z2 D1 => ((0 ≤ (x3 + 1) ∧ (x3 + 1) < (E.2.2.2.1 : Int)) ∧ ((0 ≤ (x3 + 2) ∧ (x3 + 2) < (E.2.2.2.1 : Int)) ∧ ((0 ≤ (x3 + 3) ∧ (x3 + 3) < (E.2.2.2.1 : Int)) ∧ Call E d 0 0 mX12_truth [vR 214, vI ((E.2.2.2.2.1 (x3 + 1).toNat).toInt), vI ((E.2.2.2.2.1 (x3 + 2).toNat).toInt), vI ((E.2.2.2.2.1 (x3 + 3).toNat).toInt)] G D1 (retI G (fun z4 D3 => ((iv z2 = iv z4 → Go E (d + 1) kc ks mL_law 18 [some (vR 1), some (vR 2), some (vR 214), some (vI (x3 + 6))] [] G D3 Q) ∧ (¬ iv z2 = iv z4 → Q (some (vI 0)) G D3))))))))))))) : Go E (d + 1) kc ks mL_law 562 [some (vR 1), some (vR 2), some (vR 214), some (vI x3)] [] G D Q := by
  refine g_aload_n dL_law_562 rfl rfl ?_
  refine g_aload_n dL_law_563 rfl rfl ?_
  refine g_iload_n dL_law_564 rfl rfl ?_
  refine g_iconst dL_law_565 ?_
  refine g_iadd dL_law_566 ?_
  refine g_sald dL_law_567 hL9 ⟨h.1, ?_⟩
  replace h := h.2
  refine g_aload_n dL_law_568 rfl rfl ?_
  refine g_iload_n dL_law_569 rfl rfl ?_
  refine g_iconst dL_law_570 ?_
  refine g_iadd dL_law_571 ?_
  refine g_sald dL_law_572 hL9 ⟨h.1, ?_⟩
  replace h := h.2
  refine g_aload_n dL_law_573 rfl rfl ?_
  refine g_iload_n dL_law_574 rfl rfl ?_
  refine g_iconst dL_law_575 ?_
  refine g_iadd dL_law_576 ?_
  refine g_sald dL_law_577 hL9 ⟨h.1, ?_⟩
  replace h := h.2
  refine g_callV (kc := kc) (kc' := 0) (ks := ks) (ks' := 0) (as := [vI ((E.2.2.2.2.1 (x3 + 1).toNat).toInt), vI ((E.2.2.2.2.1 (x3 + 2).toNat).toInt), vI ((E.2.2.2.2.1 (x3 + 3).toNat).toInt)]) (st := []) (ci := 10) dL_law_578 cB_X11_truth lk_L_68 in_X11_truth se_X11_truth (by decide) rfl rfl (Nat.le_of_ble_eq_true rfl) (Nat.le_of_ble_eq_true rfl) (by decide) (hG.lt (by decide)) (congrArg Prod.fst hG.k2) ?_
  refine Go.to (fun r G' D1 hr => ?_) h
  obtain ⟨rfl, z2, rfl, h⟩ := hr
  show Go E (d + 1) kc ks mL_law 581 [some (vR 1), some (vR 2), some (vR 214), some (vI x3)] [vI z2] G D1 Q
  refine g_aload_n dL_law_581 rfl rfl ?_
  refine g_aload_n dL_law_582 rfl rfl ?_
  refine g_iload_n dL_law_583 rfl rfl ?_
  refine g_iconst dL_law_584 ?_
  refine g_iadd dL_law_585 ?_
  refine g_sald dL_law_586 hL9 ⟨h.1, ?_⟩
  replace h := h.2
  refine g_aload_n dL_law_587 rfl rfl ?_
  refine g_iload_n dL_law_588 rfl rfl ?_
  refine g_iconst dL_law_589 ?_
  refine g_iadd dL_law_590 ?_
  refine g_sald dL_law_591 hL9 ⟨h.1, ?_⟩
  replace h := h.2
  refine g_aload_n dL_law_592 rfl rfl ?_
  refine g_iload_n dL_law_593 rfl rfl ?_
  refine g_iconst dL_law_594 ?_
  refine g_iadd dL_law_595 ?_
  refine g_sald dL_law_596 hL9 ⟨h.1, ?_⟩
  replace h := h.2
  refine g_callV (kc := kc) (kc' := 0) (ks := ks) (ks' := 0) (as := [vI ((E.2.2.2.2.1 (x3 + 1).toNat).toInt), vI ((E.2.2.2.2.1 (x3 + 2).toNat).toInt), vI ((E.2.2.2.2.1 (x3 + 3).toNat).toInt)]) (st := [vI z2]) (ci := 11) dL_law_597 cB_X12_truth lk_L_71 in_X12_truth se_X12_truth (by decide) rfl rfl (Nat.le_of_ble_eq_true rfl) (Nat.le_of_ble_eq_true rfl) (by decide) (hG.lt (by decide)) (congrArg Prod.fst hG.k214) ?_
  refine Go.to (fun r G' D3 hr => ?_) h
  obtain ⟨rfl, z4, rfl, h⟩ := hr
  show Go E (d + 1) kc ks mL_law 600 [some (vR 1), some (vR 2), some (vR 214), some (vI x3)] [vI z4, vI z2] G D3 Q
  refine g_icmp_eq 1569 dL_law_600 (by decide) ⟨fun hc => ?_, fun hc => ?_⟩
  · replace h := h.1 hc
    refine h_iinc (L' := [some (vR 1), some (vR 2), some (vR 214), some (vI (x3 + 6))]) dL_law_1569 (Nat.le_of_ble_eq_true rfl) rfl rfl rfl ?_
    refine g_goto 18 dL_law_1572 (by decide) ?_
    exact Go.drop (by simp only [mm_sub, and_self]) h
  · replace h := h.2 hc
    refine g_iconst dL_law_603 ?_
    exact g_zret dL_law_604 rfl ⟨Or.inl rfl, h⟩
set_option maxRecDepth 20000 in
theorem w_L_law_605 {E : mmE} {d kc ks : Nat} {G : mmG} {D : mmD} {Q : mmQ} {x3 : Int} (hG : Sh G) (hL9 : (E.2.2.2.1 : Int) < 2147483648)  (h : ((0 ≤ (x3 + 1) ∧ (x3 + 1) < (E.2.2.2.1 : Int)) ∧ ((0 ≤ (x3 + 2) ∧ (x3 + 2) < (E.2.2.2.1 : Int)) ∧ Call E d 0 0 mX11_from [vR 2, vI ((E.2.2.2.2.1 (x3 + 1).toNat).toInt), vI ((E.2.2.2.2.1 (x3 + 2).toNat).toInt)] G D (retI G (fun z2 D1 => ((0 ≤ (x3 + 1) ∧ (x3 + 1) < (E.2.2.2.1 : Int)) ∧ ((0 ≤ (x3 + 2) ∧ (x3 + 2) < (E.2.2.2.1 : Int)) ∧ Call E d 0 0 mX12_from [vR 214, vI ((E.2.2.2.2.1 (x3 + 1).toNat).toInt), vI ((E.2.2.2.2.1 (x3 + 2).toNat).toInt)] G D1 (retI G (fun z4 D3 => ((iv z2 = iv z4 → Go E (d + 1) kc ks mL_law 18 [some (vR 1), some (vR 2), some (vR 214), some (vI (x3 + 6))] [] G D3 Q) ∧ (¬ iv z2 = iv z4 → Q (some (vI 0)) G D3))))))))))) : Go E (d + 1) kc ks mL_law 605 [some (vR 1), some (vR 2), some (vR 214), some (vI x3)] [] G D Q := by
  refine g_aload_n dL_law_605 rfl rfl ?_
  refine g_aload_n dL_law_606 rfl rfl ?_
  refine g_iload_n dL_law_607 rfl rfl ?_
  refine g_iconst dL_law_608 ?_
  refine g_iadd dL_law_609 ?_
  refine g_sald dL_law_610 hL9 ⟨h.1, ?_⟩
  replace h := h.2
  refine g_aload_n dL_law_611 rfl rfl ?_
  refine g_iload_n dL_law_612 rfl rfl ?_
  refine g_iconst dL_law_613 ?_
  refine g_iadd dL_law_614 ?_
  refine g_sald dL_law_615 hL9 ⟨h.1, ?_⟩
  replace h := h.2
  refine g_callV (kc := kc) (kc' := 0) (ks := ks) (ks' := 0) (as := [vI ((E.2.2.2.2.1 (x3 + 1).toNat).toInt), vI ((E.2.2.2.2.1 (x3 + 2).toNat).toInt)]) (st := []) (ci := 10) dL_law_616 cB_X11_from lk_L_72 in_X11_from se_X11_from (by decide) rfl rfl (Nat.le_of_ble_eq_true rfl) (Nat.le_of_ble_eq_true rfl) (by decide) (hG.lt (by decide)) (congrArg Prod.fst hG.k2) ?_
  refine Go.to (fun r G' D1 hr => ?_) h
  obtain ⟨rfl, z2, rfl, h⟩ := hr
  show Go E (d + 1) kc ks mL_law 619 [some (vR 1), some (vR 2), some (vR 214), some (vI x3)] [vI z2] G D1 Q
  refine g_aload_n dL_law_619 rfl rfl ?_
  refine g_aload_n dL_law_620 rfl rfl ?_
  refine g_iload_n dL_law_621 rfl rfl ?_
  refine g_iconst dL_law_622 ?_
  refine g_iadd dL_law_623 ?_
  refine g_sald dL_law_624 hL9 ⟨h.1, ?_⟩
  replace h := h.2
  refine g_aload_n dL_law_625 rfl rfl ?_
  refine g_iload_n dL_law_626 rfl rfl ?_
  refine g_iconst dL_law_627 ?_
  refine g_iadd dL_law_628 ?_
  refine g_sald dL_law_629 hL9 ⟨h.1, ?_⟩
  replace h := h.2
  refine g_callV (kc := kc) (kc' := 0) (ks := ks) (ks' := 0) (as := [vI ((E.2.2.2.2.1 (x3 + 1).toNat).toInt), vI ((E.2.2.2.2.1 (x3 + 2).toNat).toInt)]) (st := [vI z2]) (ci := 11) dL_law_630 cB_X12_from lk_L_75 in_X12_from se_X12_from (by decide) rfl rfl (Nat.le_of_ble_eq_true rfl) (Nat.le_of_ble_eq_true rfl) (by decide) (hG.lt (by decide)) (congrArg Prod.fst hG.k214) ?_
  refine Go.to (fun r G' D3 hr => ?_) h
  obtain ⟨rfl, z4, rfl, h⟩ := hr
  show Go E (d + 1) kc ks mL_law 633 [some (vR 1), some (vR 2), some (vR 214), some (vI x3)] [vI z4, vI z2] G D3 Q
  refine g_icmp_eq 1569 dL_law_633 (by decide) ⟨fun hc => ?_, fun hc => ?_⟩
  · replace h := h.1 hc
    refine h_iinc (L' := [some (vR 1), some (vR 2), some (vR 214), some (vI (x3 + 6))]) dL_law_1569 (Nat.le_of_ble_eq_true rfl) rfl rfl rfl ?_
    refine g_goto 18 dL_law_1572 (by decide) ?_
    exact Go.drop (by simp only [mm_sub, and_self]) h
  · replace h := h.2 hc
    refine g_iconst dL_law_636 ?_
    exact g_zret dL_law_637 rfl ⟨Or.inl rfl, h⟩
set_option maxRecDepth 20000 in
theorem w_L_law_638 {E : mmE} {d kc ks : Nat} {G : mmG} {D : mmD} {Q : mmQ} {x3 : Int} (hG : Sh G) (hL9 : (E.2.2.2.1 : Int) < 2147483648)  (h : ((0 ≤ (x3 + 1) ∧ (x3 + 1) < (E.2.2.2.1 : Int)) ∧ ((0 ≤ (x3 + 2) ∧ (x3 + 2) < (E.2.2.2.1 : Int)) ∧ Call E d 0 0 mX11_event [vR 2, vI ((E.2.2.2.2.1 (x3 + 1).toNat).toInt), vI ((E.2.2.2.2.1 (x3 + 2).toNat).toInt)] G D (retI G (fun z2 D1 => ((0 ≤ (x3 + 1) ∧ (x3 + 1) < (E.2.2.2.1 : Int)) ∧ ((0 ≤ (x3 + 2) ∧ (x3 + 2) < (E.2.2.2.1 : Int)) ∧ Call E d 0 0 mX12_event [vR 214, vI ((E.2.2.2.2.1 (x3 + 1).toNat).toInt), vI ((E.2.2.2.2.1 (x3 + 2).toNat).toInt)] G D1 (retI G (fun z4 D3 => ((iv z2 = iv z4 → Go E (d + 1) kc ks mL_law 18 [some (vR 1), some (vR 2), some (vR 214), some (vI (x3 + 6))] [] G D3 Q) ∧ (¬ iv z2 = iv z4 → Q (some (vI 0)) G D3))))))))))) : Go E (d + 1) kc ks mL_law 638 [some (vR 1), some (vR 2), some (vR 214), some (vI x3)] [] G D Q := by
  refine g_aload_n dL_law_638 rfl rfl ?_
  refine g_aload_n dL_law_639 rfl rfl ?_
  refine g_iload_n dL_law_640 rfl rfl ?_
  refine g_iconst dL_law_641 ?_
  refine g_iadd dL_law_642 ?_
  refine g_sald dL_law_643 hL9 ⟨h.1, ?_⟩
  replace h := h.2
  refine g_aload_n dL_law_644 rfl rfl ?_
  refine g_iload_n dL_law_645 rfl rfl ?_
  refine g_iconst dL_law_646 ?_
  refine g_iadd dL_law_647 ?_
  refine g_sald dL_law_648 hL9 ⟨h.1, ?_⟩
  replace h := h.2
  refine g_callV (kc := kc) (kc' := 0) (ks := ks) (ks' := 0) (as := [vI ((E.2.2.2.2.1 (x3 + 1).toNat).toInt), vI ((E.2.2.2.2.1 (x3 + 2).toNat).toInt)]) (st := []) (ci := 10) dL_law_649 cB_X11_event lk_L_76 in_X11_event se_X11_event (by decide) rfl rfl (Nat.le_of_ble_eq_true rfl) (Nat.le_of_ble_eq_true rfl) (by decide) (hG.lt (by decide)) (congrArg Prod.fst hG.k2) ?_
  refine Go.to (fun r G' D1 hr => ?_) h
  obtain ⟨rfl, z2, rfl, h⟩ := hr
  show Go E (d + 1) kc ks mL_law 652 [some (vR 1), some (vR 2), some (vR 214), some (vI x3)] [vI z2] G D1 Q
  refine g_aload_n dL_law_652 rfl rfl ?_
  refine g_aload_n dL_law_653 rfl rfl ?_
  refine g_iload_n dL_law_654 rfl rfl ?_
  refine g_iconst dL_law_655 ?_
  refine g_iadd dL_law_656 ?_
  refine g_sald dL_law_657 hL9 ⟨h.1, ?_⟩
  replace h := h.2
  refine g_aload_n dL_law_658 rfl rfl ?_
  refine g_iload_n dL_law_659 rfl rfl ?_
  refine g_iconst dL_law_660 ?_
  refine g_iadd dL_law_661 ?_
  refine g_sald dL_law_662 hL9 ⟨h.1, ?_⟩
  replace h := h.2
  refine g_callV (kc := kc) (kc' := 0) (ks := ks) (ks' := 0) (as := [vI ((E.2.2.2.2.1 (x3 + 1).toNat).toInt), vI ((E.2.2.2.2.1 (x3 + 2).toNat).toInt)]) (st := [vI z2]) (ci := 11) dL_law_663 cB_X12_event lk_L_79 in_X12_event se_X12_event (by decide) rfl rfl (Nat.le_of_ble_eq_true rfl) (Nat.le_of_ble_eq_true rfl) (by decide) (hG.lt (by decide)) (congrArg Prod.fst hG.k214) ?_
  refine Go.to (fun r G' D3 hr => ?_) h
  obtain ⟨rfl, z4, rfl, h⟩ := hr
  show Go E (d + 1) kc ks mL_law 666 [some (vR 1), some (vR 2), some (vR 214), some (vI x3)] [vI z4, vI z2] G D3 Q
  refine g_icmp_eq 1569 dL_law_666 (by decide) ⟨fun hc => ?_, fun hc => ?_⟩
  · replace h := h.1 hc
    refine h_iinc (L' := [some (vR 1), some (vR 2), some (vR 214), some (vI (x3 + 6))]) dL_law_1569 (Nat.le_of_ble_eq_true rfl) rfl rfl rfl ?_
    refine g_goto 18 dL_law_1572 (by decide) ?_
    exact Go.drop (by simp only [mm_sub, and_self]) h
  · replace h := h.2 hc
    refine g_iconst dL_law_669 ?_
    exact g_zret dL_law_670 rfl ⟨Or.inl rfl, h⟩
set_option maxRecDepth 20000 in
theorem w_L_law_671 {E : mmE} {d kc ks : Nat} {G : mmG} {D : mmD} {Q : mmQ} {x3 : Int} (hG : Sh G) (hL9 : (E.2.2.2.1 : Int) < 2147483648)  (h : ((0 ≤ (x3 + 1) ∧ (x3 + 1) < (E.2.2.2.1 : Int)) ∧ Call E d 0 0 mX11_limit [vR 2, vI ((E.2.2.2.2.1 (x3 + 1).toNat).toInt)] G D (retI G (fun z2 D1 => ((0 ≤ (x3 + 1) ∧ (x3 + 1) < (E.2.2.2.1 : Int)) ∧ Call E d 0 0 mX12_limit [vR 214, vI ((E.2.2.2.2.1 (x3 + 1).toNat).toInt)] G D1 (retI G (fun z4 D3 => ((iv z2 = iv z4 → Go E (d + 1) kc ks mL_law 18 [some (vR 1), some (vR 2), some (vR 214), some (vI (x3 + 6))] [] G D3 Q) ∧ (¬ iv z2 = iv z4 → Q (some (vI 0)) G D3))))))))) : Go E (d + 1) kc ks mL_law 671 [some (vR 1), some (vR 2), some (vR 214), some (vI x3)] [] G D Q := by
  refine g_aload_n dL_law_671 rfl rfl ?_
  refine g_aload_n dL_law_672 rfl rfl ?_
  refine g_iload_n dL_law_673 rfl rfl ?_
  refine g_iconst dL_law_674 ?_
  refine g_iadd dL_law_675 ?_
  refine g_sald dL_law_676 hL9 ⟨h.1, ?_⟩
  replace h := h.2
  refine g_callV (kc := kc) (kc' := 0) (ks := ks) (ks' := 0) (as := [vI ((E.2.2.2.2.1 (x3 + 1).toNat).toInt)]) (st := []) (ci := 10) dL_law_677 cB_X11_limit lk_L_80 in_X11_limit se_X11_limit (by decide) rfl rfl (Nat.le_of_ble_eq_true rfl) (Nat.le_of_ble_eq_true rfl) (by decide) (hG.lt (by decide)) (congrArg Prod.fst hG.k2) ?_
  refine Go.to (fun r G' D1 hr => ?_) h
  obtain ⟨rfl, z2, rfl, h⟩ := hr
  show Go E (d + 1) kc ks mL_law 680 [some (vR 1), some (vR 2), some (vR 214), some (vI x3)] [vI z2] G D1 Q
  refine g_aload_n dL_law_680 rfl rfl ?_
  refine g_aload_n dL_law_681 rfl rfl ?_
  refine g_iload_n dL_law_682 rfl rfl ?_
  refine g_iconst dL_law_683 ?_
  refine g_iadd dL_law_684 ?_
  refine g_sald dL_law_685 hL9 ⟨h.1, ?_⟩
  replace h := h.2
  refine g_callV (kc := kc) (kc' := 0) (ks := ks) (ks' := 0) (as := [vI ((E.2.2.2.2.1 (x3 + 1).toNat).toInt)]) (st := [vI z2]) (ci := 11) dL_law_686 cB_X12_limit lk_L_83 in_X12_limit se_X12_limit (by decide) rfl rfl (Nat.le_of_ble_eq_true rfl) (Nat.le_of_ble_eq_true rfl) (by decide) (hG.lt (by decide)) (congrArg Prod.fst hG.k214) ?_
  refine Go.to (fun r G' D3 hr => ?_) h
  obtain ⟨rfl, z4, rfl, h⟩ := hr
  show Go E (d + 1) kc ks mL_law 689 [some (vR 1), some (vR 2), some (vR 214), some (vI x3)] [vI z4, vI z2] G D3 Q
  refine g_icmp_eq 1569 dL_law_689 (by decide) ⟨fun hc => ?_, fun hc => ?_⟩
  · replace h := h.1 hc
    refine h_iinc (L' := [some (vR 1), some (vR 2), some (vR 214), some (vI (x3 + 6))]) dL_law_1569 (Nat.le_of_ble_eq_true rfl) rfl rfl rfl ?_
    refine g_goto 18 dL_law_1572 (by decide) ?_
    exact Go.drop (by simp only [mm_sub, and_self]) h
  · replace h := h.2 hc
    refine g_iconst dL_law_692 ?_
    exact g_zret dL_law_693 rfl ⟨Or.inl rfl, h⟩
set_option maxRecDepth 20000 in
theorem w_L_law_694 {E : mmE} {d kc ks : Nat} {G : mmG} {D : mmD} {Q : mmQ} {x3 : Int} (hG : Sh G) (hL9 : (E.2.2.2.1 : Int) < 2147483648)  (h : ((0 ≤ (x3 + 1) ∧ (x3 + 1) < (E.2.2.2.1 : Int)) ∧ ((0 ≤ (x3 + 2) ∧ (x3 + 2) < (E.2.2.2.1 : Int)) ∧ ((0 ≤ (x3 + 3) ∧ (x3 + 3) < (E.2.2.2.1 : Int)) ∧ ((iv ((E.2.2.2.2.1 (x3 + 3).toNat).toInt) = iv 0 → Call E d 0 0 mX11_hole [vR 2, vI ((E.2.2.2.2.1 (x3 + 1).toNat).toInt), vI ((E.2.2.2.2.1 (x3 + 2).toNat).toInt), vI 0] G D (retI G (fun z2 D1 => ((0 ≤ (x3 + 1) ∧ (x3 + 1) < (E.2.2.2.1 : Int)) ∧ ((0 ≤ (x3 + 2) ∧ (x3 + 2) < (E.2.2.2.1 : Int)) ∧ ((0 ≤ (x3 + 3) ∧ (x3 + 3) < (E.2.2.2.1 : Int)) ∧ ((iv ((E.2.2.2.2.1 (x3 + 3).toNat).toInt) = iv 0 → Call E d 0 0 mX12_hole [vR 214, vI ((E.2.2.2.2.1 (x3 + 1).toNat).toInt), vI ((E.2.2.2.2.1 (x3 + 2).toNat).toInt), vI 0] G D1 (retI G (fun z4 D3 => ((iv z2 = iv z4 → Go E (d + 1) kc ks mL_law 18 [some (vR 1), some (vR 2), some (vR 214), some (vI (x3 + 6))] [] G D3 Q) ∧ (¬ iv z2 = iv z4 → Q (some (vI 0)) G D3))))) ∧ (¬ iv ((E.2.2.2.2.1 (x3 + 3).toNat).toInt) = iv 0 → Call E d 0 0 mX12_hole [vR 214, vI ((E.2.2.2.2.1 (x3 + 1).toNat).toInt), vI ((E.2.2.2.2.1 (x3 + 2).toNat).toInt), vI 1] G D1 (retI G (fun z6 D5 => ((iv z2 = iv z6 → Go E (d + 1) kc ks mL_law 18 [some (vR 1), some (vR 2), some (vR 214), some (vI (x3 + 6))] [] G D5 Q) ∧ (¬ iv z2 = iv z6 → Q (some (vI 0)) G D5)))))))))))) ∧ (¬ iv ((E.2.2.2.2.1 (x3 + 3).toNat).toInt) = iv 0 → Call E d 0 0 mX11_hole [vR 2, vI ((E.2.2.2.2.1 (x3 + 1).toNat).toInt), vI ((E.2.2.2.2.1 (x3 + 2).toNat).toInt), vI 1] G D (retI G (fun z8 D7 => ((0 ≤ (x3 + 1) ∧ (x3 + 1) < (E.2.2.2.1 : Int)) ∧ ((0 ≤ (x3 + 2) ∧ (x3 + 2) < (E.2.2.2.1 : Int)) ∧ ((0 ≤ (x3 + 3) ∧ (x3 + 3) < (E.2.2.2.1 : Int)) ∧ ((iv ((E.2.2.2.2.1 (x3 + 3).toNat).toInt) = iv 0 → Call E d 0 0 mX12_hole [vR 214, vI ((E.2.2.2.2.1 (x3 + 1).toNat).toInt), vI ((E.2.2.2.2.1 (x3 + 2).toNat).toInt), vI 0] G D7 (retI G (fun z10 D9 => ((iv z8 = iv z10 → Go E (d + 1) kc ks mL_law 18 [some (vR 1), some (vR 2), some (vR 214), some (vI (x3 + 6))] [] G D9 Q) ∧ (¬ iv z8 = iv z10 → Q (some (vI 0)) G D9))))) ∧ (¬ iv ((E.2.2.2.2.1 (x3 + 3).toNat).toInt) = iv 0 → Call E d 0 0 mX12_hole [vR 214, vI ((E.2.2.2.2.1 (x3 + 1).toNat).toInt), vI ((E.2.2.2.2.1 (x3 + 2).toNat).toInt), vI 1] G D7 (retI G (fun z12 D11 => ((iv z8 = iv z12 → Go E (d + 1) kc ks mL_law 18 [some (vR 1), some (vR 2), some (vR 214), some (vI (x3 + 6))] [] G D11 Q) ∧ (¬ iv z8 = iv z12 → Q (some (vI 0)) G D11))))))))))))))))) : Go E (d + 1) kc ks mL_law 694 [some (vR 1), some (vR 2), some (vR 214), some (vI x3)] [] G D Q := by
  refine g_aload_n dL_law_694 rfl rfl ?_
  refine g_aload_n dL_law_695 rfl rfl ?_
  refine g_iload_n dL_law_696 rfl rfl ?_
  refine g_iconst dL_law_697 ?_
  refine g_iadd dL_law_698 ?_
  refine g_sald dL_law_699 hL9 ⟨h.1, ?_⟩
  replace h := h.2
  refine g_aload_n dL_law_700 rfl rfl ?_
  refine g_iload_n dL_law_701 rfl rfl ?_
  refine g_iconst dL_law_702 ?_
  refine g_iadd dL_law_703 ?_
  refine g_sald dL_law_704 hL9 ⟨h.1, ?_⟩
  replace h := h.2
  refine g_aload_n dL_law_705 rfl rfl ?_
  refine g_iload_n dL_law_706 rfl rfl ?_
  refine g_iconst dL_law_707 ?_
  refine g_iadd dL_law_708 ?_
  refine g_sald dL_law_709 hL9 ⟨h.1, ?_⟩
  replace h := h.2
  refine g_if_eq 717 dL_law_710 (by decide) ⟨fun hc => ?_, fun hc => ?_⟩
  · replace h := h.1 hc
    refine g_iconst dL_law_717 ?_
    refine g_callV (kc := kc) (kc' := 0) (ks := ks) (ks' := 0) (as := [vI ((E.2.2.2.2.1 (x3 + 1).toNat).toInt), vI ((E.2.2.2.2.1 (x3 + 2).toNat).toInt), vI 0]) (st := []) (ci := 10) dL_law_718 cB_X11_hole lk_L_84 in_X11_hole se_X11_hole (by decide) rfl rfl (Nat.le_of_ble_eq_true rfl) (Nat.le_of_ble_eq_true rfl) (by decide) (hG.lt (by decide)) (congrArg Prod.fst hG.k2) ?_
    refine Go.to (fun r G' D1 hr => ?_) h
    obtain ⟨rfl, z2, rfl, h⟩ := hr
    show Go E (d + 1) kc ks mL_law 721 [some (vR 1), some (vR 2), some (vR 214), some (vI x3)] [vI z2] G D1 Q
    refine g_aload_n dL_law_721 rfl rfl ?_
    refine g_aload_n dL_law_722 rfl rfl ?_
    refine g_iload_n dL_law_723 rfl rfl ?_
    refine g_iconst dL_law_724 ?_
    refine g_iadd dL_law_725 ?_
    refine g_sald dL_law_726 hL9 ⟨h.1, ?_⟩
    replace h := h.2
    refine g_aload_n dL_law_727 rfl rfl ?_
    refine g_iload_n dL_law_728 rfl rfl ?_
    refine g_iconst dL_law_729 ?_
    refine g_iadd dL_law_730 ?_
    refine g_sald dL_law_731 hL9 ⟨h.1, ?_⟩
    replace h := h.2
    refine g_aload_n dL_law_732 rfl rfl ?_
    refine g_iload_n dL_law_733 rfl rfl ?_
    refine g_iconst dL_law_734 ?_
    refine g_iadd dL_law_735 ?_
    refine g_sald dL_law_736 hL9 ⟨h.1, ?_⟩
    replace h := h.2
    refine g_if_eq 744 dL_law_737 (by decide) ⟨fun hc => ?_, fun hc => ?_⟩
    · replace h := h.1 hc
      refine g_iconst dL_law_744 ?_
      refine g_callV (kc := kc) (kc' := 0) (ks := ks) (ks' := 0) (as := [vI ((E.2.2.2.2.1 (x3 + 1).toNat).toInt), vI ((E.2.2.2.2.1 (x3 + 2).toNat).toInt), vI 0]) (st := [vI z2]) (ci := 11) dL_law_745 cB_X12_hole lk_L_88 in_X12_hole se_X12_hole (by decide) rfl rfl (Nat.le_of_ble_eq_true rfl) (Nat.le_of_ble_eq_true rfl) (by decide) (hG.lt (by decide)) (congrArg Prod.fst hG.k214) ?_
      refine Go.to (fun r G' D3 hr => ?_) h
      obtain ⟨rfl, z4, rfl, h⟩ := hr
      show Go E (d + 1) kc ks mL_law 748 [some (vR 1), some (vR 2), some (vR 214), some (vI x3)] [vI z4, vI z2] G D3 Q
      refine g_icmp_eq 1569 dL_law_748 (by decide) ⟨fun hc => ?_, fun hc => ?_⟩
      · replace h := h.1 hc
        refine h_iinc (L' := [some (vR 1), some (vR 2), some (vR 214), some (vI (x3 + 6))]) dL_law_1569 (Nat.le_of_ble_eq_true rfl) rfl rfl rfl ?_
        refine g_goto 18 dL_law_1572 (by decide) ?_
        exact Go.drop (by simp only [mm_sub, and_self]) h
      · replace h := h.2 hc
        refine g_iconst dL_law_751 ?_
        exact g_zret dL_law_752 rfl ⟨Or.inl rfl, h⟩
    · replace h := h.2 hc
      refine g_iconst dL_law_740 ?_
      refine g_goto 745 dL_law_741 (by decide) ?_
      refine g_callV (kc := kc) (kc' := 0) (ks := ks) (ks' := 0) (as := [vI ((E.2.2.2.2.1 (x3 + 1).toNat).toInt), vI ((E.2.2.2.2.1 (x3 + 2).toNat).toInt), vI 1]) (st := [vI z2]) (ci := 11) dL_law_745 cB_X12_hole lk_L_88 in_X12_hole se_X12_hole (by decide) rfl rfl (Nat.le_of_ble_eq_true rfl) (Nat.le_of_ble_eq_true rfl) (by decide) (hG.lt (by decide)) (congrArg Prod.fst hG.k214) ?_
      refine Go.to (fun r G' D5 hr => ?_) h
      obtain ⟨rfl, z6, rfl, h⟩ := hr
      show Go E (d + 1) kc ks mL_law 748 [some (vR 1), some (vR 2), some (vR 214), some (vI x3)] [vI z6, vI z2] G D5 Q
      refine g_icmp_eq 1569 dL_law_748 (by decide) ⟨fun hc => ?_, fun hc => ?_⟩
      · replace h := h.1 hc
        refine h_iinc (L' := [some (vR 1), some (vR 2), some (vR 214), some (vI (x3 + 6))]) dL_law_1569 (Nat.le_of_ble_eq_true rfl) rfl rfl rfl ?_
        refine g_goto 18 dL_law_1572 (by decide) ?_
        exact Go.drop (by simp only [mm_sub, and_self]) h
      · replace h := h.2 hc
        refine g_iconst dL_law_751 ?_
        exact g_zret dL_law_752 rfl ⟨Or.inl rfl, h⟩
  · replace h := h.2 hc
    refine g_iconst dL_law_713 ?_
    refine g_goto 718 dL_law_714 (by decide) ?_
    refine g_callV (kc := kc) (kc' := 0) (ks := ks) (ks' := 0) (as := [vI ((E.2.2.2.2.1 (x3 + 1).toNat).toInt), vI ((E.2.2.2.2.1 (x3 + 2).toNat).toInt), vI 1]) (st := []) (ci := 10) dL_law_718 cB_X11_hole lk_L_84 in_X11_hole se_X11_hole (by decide) rfl rfl (Nat.le_of_ble_eq_true rfl) (Nat.le_of_ble_eq_true rfl) (by decide) (hG.lt (by decide)) (congrArg Prod.fst hG.k2) ?_
    refine Go.to (fun r G' D7 hr => ?_) h
    obtain ⟨rfl, z8, rfl, h⟩ := hr
    show Go E (d + 1) kc ks mL_law 721 [some (vR 1), some (vR 2), some (vR 214), some (vI x3)] [vI z8] G D7 Q
    refine g_aload_n dL_law_721 rfl rfl ?_
    refine g_aload_n dL_law_722 rfl rfl ?_
    refine g_iload_n dL_law_723 rfl rfl ?_
    refine g_iconst dL_law_724 ?_
    refine g_iadd dL_law_725 ?_
    refine g_sald dL_law_726 hL9 ⟨h.1, ?_⟩
    replace h := h.2
    refine g_aload_n dL_law_727 rfl rfl ?_
    refine g_iload_n dL_law_728 rfl rfl ?_
    refine g_iconst dL_law_729 ?_
    refine g_iadd dL_law_730 ?_
    refine g_sald dL_law_731 hL9 ⟨h.1, ?_⟩
    replace h := h.2
    refine g_aload_n dL_law_732 rfl rfl ?_
    refine g_iload_n dL_law_733 rfl rfl ?_
    refine g_iconst dL_law_734 ?_
    refine g_iadd dL_law_735 ?_
    refine g_sald dL_law_736 hL9 ⟨h.1, ?_⟩
    replace h := h.2
    refine g_if_eq 744 dL_law_737 (by decide) ⟨fun hc => ?_, fun hc => ?_⟩
    · replace h := h.1 hc
      refine g_iconst dL_law_744 ?_
      refine g_callV (kc := kc) (kc' := 0) (ks := ks) (ks' := 0) (as := [vI ((E.2.2.2.2.1 (x3 + 1).toNat).toInt), vI ((E.2.2.2.2.1 (x3 + 2).toNat).toInt), vI 0]) (st := [vI z8]) (ci := 11) dL_law_745 cB_X12_hole lk_L_88 in_X12_hole se_X12_hole (by decide) rfl rfl (Nat.le_of_ble_eq_true rfl) (Nat.le_of_ble_eq_true rfl) (by decide) (hG.lt (by decide)) (congrArg Prod.fst hG.k214) ?_
      refine Go.to (fun r G' D9 hr => ?_) h
      obtain ⟨rfl, z10, rfl, h⟩ := hr
      show Go E (d + 1) kc ks mL_law 748 [some (vR 1), some (vR 2), some (vR 214), some (vI x3)] [vI z10, vI z8] G D9 Q
      refine g_icmp_eq 1569 dL_law_748 (by decide) ⟨fun hc => ?_, fun hc => ?_⟩
      · replace h := h.1 hc
        refine h_iinc (L' := [some (vR 1), some (vR 2), some (vR 214), some (vI (x3 + 6))]) dL_law_1569 (Nat.le_of_ble_eq_true rfl) rfl rfl rfl ?_
        refine g_goto 18 dL_law_1572 (by decide) ?_
        exact Go.drop (by simp only [mm_sub, and_self]) h
      · replace h := h.2 hc
        refine g_iconst dL_law_751 ?_
        exact g_zret dL_law_752 rfl ⟨Or.inl rfl, h⟩
    · replace h := h.2 hc
      refine g_iconst dL_law_740 ?_
      refine g_goto 745 dL_law_741 (by decide) ?_
      refine g_callV (kc := kc) (kc' := 0) (ks := ks) (ks' := 0) (as := [vI ((E.2.2.2.2.1 (x3 + 1).toNat).toInt), vI ((E.2.2.2.2.1 (x3 + 2).toNat).toInt), vI 1]) (st := [vI z8]) (ci := 11) dL_law_745 cB_X12_hole lk_L_88 in_X12_hole se_X12_hole (by decide) rfl rfl (Nat.le_of_ble_eq_true rfl) (Nat.le_of_ble_eq_true rfl) (by decide) (hG.lt (by decide)) (congrArg Prod.fst hG.k214) ?_
      refine Go.to (fun r G' D11 hr => ?_) h
      obtain ⟨rfl, z12, rfl, h⟩ := hr
      show Go E (d + 1) kc ks mL_law 748 [some (vR 1), some (vR 2), some (vR 214), some (vI x3)] [vI z12, vI z8] G D11 Q
      refine g_icmp_eq 1569 dL_law_748 (by decide) ⟨fun hc => ?_, fun hc => ?_⟩
      · replace h := h.1 hc
        refine h_iinc (L' := [some (vR 1), some (vR 2), some (vR 214), some (vI (x3 + 6))]) dL_law_1569 (Nat.le_of_ble_eq_true rfl) rfl rfl rfl ?_
        refine g_goto 18 dL_law_1572 (by decide) ?_
        exact Go.drop (by simp only [mm_sub, and_self]) h
      · replace h := h.2 hc
        refine g_iconst dL_law_751 ?_
        exact g_zret dL_law_752 rfl ⟨Or.inl rfl, h⟩
set_option maxRecDepth 20000 in
theorem w_L_law_753 {E : mmE} {d kc ks : Nat} {G : mmG} {D : mmD} {Q : mmQ} {x3 : Int} (hG : Sh G) (hL9 : (E.2.2.2.1 : Int) < 2147483648)  (h : ((0 ≤ (x3 + 1) ∧ (x3 + 1) < (E.2.2.2.1 : Int)) ∧ ((0 ≤ (x3 + 2) ∧ (x3 + 2) < (E.2.2.2.1 : Int)) ∧ ((0 ≤ (x3 + 3) ∧ (x3 + 3) < (E.2.2.2.1 : Int)) ∧ Call E d 0 0 mX11_cost [vR 2, vI ((E.2.2.2.2.1 (x3 + 1).toNat).toInt), vI ((E.2.2.2.2.1 (x3 + 2).toNat).toInt), vI ((E.2.2.2.2.1 (x3 + 3).toNat).toInt)] G D (retI G (fun z2 D1 => ((0 ≤ (x3 + 1) ∧ (x3 + 1) < (E.2.2.2.1 : Int)) ∧ ((0 ≤ (x3 + 2) ∧ (x3 + 2) < (E.2.2.2.1 : Int)) ∧ ((0 ≤ (x3 + 3) ∧ (x3 + 3) < (E.2.2.2.1 : Int)) ∧ Call E d 0 0 mX12_cost [vR 214, vI ((E.2.2.2.2.1 (x3 + 1).toNat).toInt), vI ((E.2.2.2.2.1 (x3 + 2).toNat).toInt), vI ((E.2.2.2.2.1 (x3 + 3).toNat).toInt)] G D1 (retI G (fun z4 D3 => ((iv z2 = iv z4 → Go E (d + 1) kc ks mL_law 18 [some (vR 1), some (vR 2), some (vR 214), some (vI (x3 + 6))] [] G D3 Q) ∧ (¬ iv z2 = iv z4 → Q (some (vI 0)) G D3))))))))))))) : Go E (d + 1) kc ks mL_law 753 [some (vR 1), some (vR 2), some (vR 214), some (vI x3)] [] G D Q := by
  refine g_aload_n dL_law_753 rfl rfl ?_
  refine g_aload_n dL_law_754 rfl rfl ?_
  refine g_iload_n dL_law_755 rfl rfl ?_
  refine g_iconst dL_law_756 ?_
  refine g_iadd dL_law_757 ?_
  refine g_sald dL_law_758 hL9 ⟨h.1, ?_⟩
  replace h := h.2
  refine g_aload_n dL_law_759 rfl rfl ?_
  refine g_iload_n dL_law_760 rfl rfl ?_
  refine g_iconst dL_law_761 ?_
  refine g_iadd dL_law_762 ?_
  refine g_sald dL_law_763 hL9 ⟨h.1, ?_⟩
  replace h := h.2
  refine g_aload_n dL_law_764 rfl rfl ?_
  refine g_iload_n dL_law_765 rfl rfl ?_
  refine g_iconst dL_law_766 ?_
  refine g_iadd dL_law_767 ?_
  refine g_sald dL_law_768 hL9 ⟨h.1, ?_⟩
  replace h := h.2
  refine g_callV (kc := kc) (kc' := 0) (ks := ks) (ks' := 0) (as := [vI ((E.2.2.2.2.1 (x3 + 1).toNat).toInt), vI ((E.2.2.2.2.1 (x3 + 2).toNat).toInt), vI ((E.2.2.2.2.1 (x3 + 3).toNat).toInt)]) (st := []) (ci := 10) dL_law_769 cB_X11_cost lk_L_89 in_X11_cost se_X11_cost (by decide) rfl rfl (Nat.le_of_ble_eq_true rfl) (Nat.le_of_ble_eq_true rfl) (by decide) (hG.lt (by decide)) (congrArg Prod.fst hG.k2) ?_
  refine Go.to (fun r G' D1 hr => ?_) h
  obtain ⟨rfl, z2, rfl, h⟩ := hr
  show Go E (d + 1) kc ks mL_law 772 [some (vR 1), some (vR 2), some (vR 214), some (vI x3)] [vI z2] G D1 Q
  refine g_aload_n dL_law_772 rfl rfl ?_
  refine g_aload_n dL_law_773 rfl rfl ?_
  refine g_iload_n dL_law_774 rfl rfl ?_
  refine g_iconst dL_law_775 ?_
  refine g_iadd dL_law_776 ?_
  refine g_sald dL_law_777 hL9 ⟨h.1, ?_⟩
  replace h := h.2
  refine g_aload_n dL_law_778 rfl rfl ?_
  refine g_iload_n dL_law_779 rfl rfl ?_
  refine g_iconst dL_law_780 ?_
  refine g_iadd dL_law_781 ?_
  refine g_sald dL_law_782 hL9 ⟨h.1, ?_⟩
  replace h := h.2
  refine g_aload_n dL_law_783 rfl rfl ?_
  refine g_iload_n dL_law_784 rfl rfl ?_
  refine g_iconst dL_law_785 ?_
  refine g_iadd dL_law_786 ?_
  refine g_sald dL_law_787 hL9 ⟨h.1, ?_⟩
  replace h := h.2
  refine g_callV (kc := kc) (kc' := 0) (ks := ks) (ks' := 0) (as := [vI ((E.2.2.2.2.1 (x3 + 1).toNat).toInt), vI ((E.2.2.2.2.1 (x3 + 2).toNat).toInt), vI ((E.2.2.2.2.1 (x3 + 3).toNat).toInt)]) (st := [vI z2]) (ci := 11) dL_law_788 cB_X12_cost lk_L_92 in_X12_cost se_X12_cost (by decide) rfl rfl (Nat.le_of_ble_eq_true rfl) (Nat.le_of_ble_eq_true rfl) (by decide) (hG.lt (by decide)) (congrArg Prod.fst hG.k214) ?_
  refine Go.to (fun r G' D3 hr => ?_) h
  obtain ⟨rfl, z4, rfl, h⟩ := hr
  show Go E (d + 1) kc ks mL_law 791 [some (vR 1), some (vR 2), some (vR 214), some (vI x3)] [vI z4, vI z2] G D3 Q
  refine g_icmp_eq 1569 dL_law_791 (by decide) ⟨fun hc => ?_, fun hc => ?_⟩
  · replace h := h.1 hc
    refine h_iinc (L' := [some (vR 1), some (vR 2), some (vR 214), some (vI (x3 + 6))]) dL_law_1569 (Nat.le_of_ble_eq_true rfl) rfl rfl rfl ?_
    refine g_goto 18 dL_law_1572 (by decide) ?_
    exact Go.drop (by simp only [mm_sub, and_self]) h
  · replace h := h.2 hc
    refine g_iconst dL_law_794 ?_
    exact g_zret dL_law_795 rfl ⟨Or.inl rfl, h⟩
set_option maxRecDepth 20000 in
theorem w_L_law_796 {E : mmE} {d kc ks : Nat} {G : mmG} {D : mmD} {Q : mmQ} {x3 : Int} (hG : Sh G) (hL9 : (E.2.2.2.1 : Int) < 2147483648)  (h : ((0 ≤ (x3 + 1) ∧ (x3 + 1) < (E.2.2.2.1 : Int)) ∧ ((0 ≤ (x3 + 2) ∧ (x3 + 2) < (E.2.2.2.1 : Int)) ∧ ((0 ≤ (x3 + 3) ∧ (x3 + 3) < (E.2.2.2.1 : Int)) ∧ ((0 ≤ (x3 + 4) ∧ (x3 + 4) < (E.2.2.2.1 : Int)) ∧ Call E d 0 0 mX11_way [vR 2, vI ((E.2.2.2.2.1 (x3 + 1).toNat).toInt), vI ((E.2.2.2.2.1 (x3 + 2).toNat).toInt), vI ((E.2.2.2.2.1 (x3 + 3).toNat).toInt), vI ((E.2.2.2.2.1 (x3 + 4).toNat).toInt)] G D (retI G (fun z2 D1 => ((0 ≤ (x3 + 1) ∧ (x3 + 1) < (E.2.2.2.1 : Int)) ∧ ((0 ≤ (x3 + 2) ∧ (x3 + 2) < (E.2.2.2.1 : Int)) ∧ ((0 ≤ (x3 + 3) ∧ (x3 + 3) < (E.2.2.2.1 : Int)) ∧ ((0 ≤ (x3 + 4) ∧ (x3 + 4) < (E.2.2.2.1 : Int)) ∧ Call E d 0 0 mX12_way [vR 214, vI ((E.2.2.2.2.1 (x3 + 1).toNat).toInt), vI ((E.2.2.2.2.1 (x3 + 2).toNat).toInt), vI ((E.2.2.2.2.1 (x3 + 3).toNat).toInt), vI ((E.2.2.2.2.1 (x3 + 4).toNat).toInt)] G D1 (retI G (fun z4 D3 => ((iv z2 = iv z4 → Go E (d + 1) kc ks mL_law 18 [some (vR 1), some (vR 2), some (vR 214), some (vI (x3 + 6))] [] G D3 Q) ∧ (¬ iv z2 = iv z4 → Q (some (vI 0)) G D3))))))))))))))) : Go E (d + 1) kc ks mL_law 796 [some (vR 1), some (vR 2), some (vR 214), some (vI x3)] [] G D Q := by
  refine g_aload_n dL_law_796 rfl rfl ?_
  refine g_aload_n dL_law_797 rfl rfl ?_
  refine g_iload_n dL_law_798 rfl rfl ?_
  refine g_iconst dL_law_799 ?_
  refine g_iadd dL_law_800 ?_
  refine g_sald dL_law_801 hL9 ⟨h.1, ?_⟩
  replace h := h.2
  refine g_aload_n dL_law_802 rfl rfl ?_
  refine g_iload_n dL_law_803 rfl rfl ?_
  refine g_iconst dL_law_804 ?_
  refine g_iadd dL_law_805 ?_
  refine g_sald dL_law_806 hL9 ⟨h.1, ?_⟩
  replace h := h.2
  refine g_aload_n dL_law_807 rfl rfl ?_
  refine g_iload_n dL_law_808 rfl rfl ?_
  refine g_iconst dL_law_809 ?_
  refine g_iadd dL_law_810 ?_
  refine g_sald dL_law_811 hL9 ⟨h.1, ?_⟩
  replace h := h.2
  refine g_aload_n dL_law_812 rfl rfl ?_
  refine g_iload_n dL_law_813 rfl rfl ?_
  refine g_iconst dL_law_814 ?_
  refine g_iadd dL_law_815 ?_
  refine g_sald dL_law_816 hL9 ⟨h.1, ?_⟩
  replace h := h.2
  refine g_callV (kc := kc) (kc' := 0) (ks := ks) (ks' := 0) (as := [vI ((E.2.2.2.2.1 (x3 + 1).toNat).toInt), vI ((E.2.2.2.2.1 (x3 + 2).toNat).toInt), vI ((E.2.2.2.2.1 (x3 + 3).toNat).toInt), vI ((E.2.2.2.2.1 (x3 + 4).toNat).toInt)]) (st := []) (ci := 10) dL_law_817 cB_X11_way lk_L_93 in_X11_way se_X11_way (by decide) rfl rfl (Nat.le_of_ble_eq_true rfl) (Nat.le_of_ble_eq_true rfl) (by decide) (hG.lt (by decide)) (congrArg Prod.fst hG.k2) ?_
  refine Go.to (fun r G' D1 hr => ?_) h
  obtain ⟨rfl, z2, rfl, h⟩ := hr
  show Go E (d + 1) kc ks mL_law 820 [some (vR 1), some (vR 2), some (vR 214), some (vI x3)] [vI z2] G D1 Q
  refine g_aload_n dL_law_820 rfl rfl ?_
  refine g_aload_n dL_law_821 rfl rfl ?_
  refine g_iload_n dL_law_822 rfl rfl ?_
  refine g_iconst dL_law_823 ?_
  refine g_iadd dL_law_824 ?_
  refine g_sald dL_law_825 hL9 ⟨h.1, ?_⟩
  replace h := h.2
  refine g_aload_n dL_law_826 rfl rfl ?_
  refine g_iload_n dL_law_827 rfl rfl ?_
  refine g_iconst dL_law_828 ?_
  refine g_iadd dL_law_829 ?_
  refine g_sald dL_law_830 hL9 ⟨h.1, ?_⟩
  replace h := h.2
  refine g_aload_n dL_law_831 rfl rfl ?_
  refine g_iload_n dL_law_832 rfl rfl ?_
  refine g_iconst dL_law_833 ?_
  refine g_iadd dL_law_834 ?_
  refine g_sald dL_law_835 hL9 ⟨h.1, ?_⟩
  replace h := h.2
  refine g_aload_n dL_law_836 rfl rfl ?_
  refine g_iload_n dL_law_837 rfl rfl ?_
  refine g_iconst dL_law_838 ?_
  refine g_iadd dL_law_839 ?_
  refine g_sald dL_law_840 hL9 ⟨h.1, ?_⟩
  replace h := h.2
  refine g_callV (kc := kc) (kc' := 0) (ks := ks) (ks' := 0) (as := [vI ((E.2.2.2.2.1 (x3 + 1).toNat).toInt), vI ((E.2.2.2.2.1 (x3 + 2).toNat).toInt), vI ((E.2.2.2.2.1 (x3 + 3).toNat).toInt), vI ((E.2.2.2.2.1 (x3 + 4).toNat).toInt)]) (st := [vI z2]) (ci := 11) dL_law_841 cB_X12_way lk_L_97 in_X12_way se_X12_way (by decide) rfl rfl (Nat.le_of_ble_eq_true rfl) (Nat.le_of_ble_eq_true rfl) (by decide) (hG.lt (by decide)) (congrArg Prod.fst hG.k214) ?_
  refine Go.to (fun r G' D3 hr => ?_) h
  obtain ⟨rfl, z4, rfl, h⟩ := hr
  show Go E (d + 1) kc ks mL_law 844 [some (vR 1), some (vR 2), some (vR 214), some (vI x3)] [vI z4, vI z2] G D3 Q
  refine g_icmp_eq 1569 dL_law_844 (by decide) ⟨fun hc => ?_, fun hc => ?_⟩
  · replace h := h.1 hc
    refine h_iinc (L' := [some (vR 1), some (vR 2), some (vR 214), some (vI (x3 + 6))]) dL_law_1569 (Nat.le_of_ble_eq_true rfl) rfl rfl rfl ?_
    refine g_goto 18 dL_law_1572 (by decide) ?_
    exact Go.drop (by simp only [mm_sub, and_self]) h
  · replace h := h.2 hc
    refine g_iconst dL_law_847 ?_
    exact g_zret dL_law_848 rfl ⟨Or.inl rfl, h⟩
set_option maxRecDepth 20000 in
theorem w_L_law_849 {E : mmE} {d kc ks : Nat} {G : mmG} {D : mmD} {Q : mmQ} {x3 : Int} (hG : Sh G) (hL9 : (E.2.2.2.1 : Int) < 2147483648)  (h : ((0 ≤ (x3 + 1) ∧ (x3 + 1) < (E.2.2.2.1 : Int)) ∧ ((0 ≤ (x3 + 2) ∧ (x3 + 2) < (E.2.2.2.1 : Int)) ∧ ((0 ≤ (x3 + 3) ∧ (x3 + 3) < (E.2.2.2.1 : Int)) ∧ Call E d 0 0 mX11_kin [vR 2, vI ((E.2.2.2.2.1 (x3 + 1).toNat).toInt), vI ((E.2.2.2.2.1 (x3 + 2).toNat).toInt), vI ((E.2.2.2.2.1 (x3 + 3).toNat).toInt)] G D (retI G (fun z2 D1 => ((0 ≤ (x3 + 1) ∧ (x3 + 1) < (E.2.2.2.1 : Int)) ∧ ((0 ≤ (x3 + 2) ∧ (x3 + 2) < (E.2.2.2.1 : Int)) ∧ ((0 ≤ (x3 + 3) ∧ (x3 + 3) < (E.2.2.2.1 : Int)) ∧ Call E d 0 0 mX12_kin [vR 214, vI ((E.2.2.2.2.1 (x3 + 1).toNat).toInt), vI ((E.2.2.2.2.1 (x3 + 2).toNat).toInt), vI ((E.2.2.2.2.1 (x3 + 3).toNat).toInt)] G D1 (retI G (fun z4 D3 => ((iv z2 = iv z4 → Go E (d + 1) kc ks mL_law 18 [some (vR 1), some (vR 2), some (vR 214), some (vI (x3 + 6))] [] G D3 Q) ∧ (¬ iv z2 = iv z4 → Q (some (vI 0)) G D3))))))))))))) : Go E (d + 1) kc ks mL_law 849 [some (vR 1), some (vR 2), some (vR 214), some (vI x3)] [] G D Q := by
  refine g_aload_n dL_law_849 rfl rfl ?_
  refine g_aload_n dL_law_850 rfl rfl ?_
  refine g_iload_n dL_law_851 rfl rfl ?_
  refine g_iconst dL_law_852 ?_
  refine g_iadd dL_law_853 ?_
  refine g_sald dL_law_854 hL9 ⟨h.1, ?_⟩
  replace h := h.2
  refine g_aload_n dL_law_855 rfl rfl ?_
  refine g_iload_n dL_law_856 rfl rfl ?_
  refine g_iconst dL_law_857 ?_
  refine g_iadd dL_law_858 ?_
  refine g_sald dL_law_859 hL9 ⟨h.1, ?_⟩
  replace h := h.2
  refine g_aload_n dL_law_860 rfl rfl ?_
  refine g_iload_n dL_law_861 rfl rfl ?_
  refine g_iconst dL_law_862 ?_
  refine g_iadd dL_law_863 ?_
  refine g_sald dL_law_864 hL9 ⟨h.1, ?_⟩
  replace h := h.2
  refine g_callV (kc := kc) (kc' := 0) (ks := ks) (ks' := 0) (as := [vI ((E.2.2.2.2.1 (x3 + 1).toNat).toInt), vI ((E.2.2.2.2.1 (x3 + 2).toNat).toInt), vI ((E.2.2.2.2.1 (x3 + 3).toNat).toInt)]) (st := []) (ci := 10) dL_law_865 cB_X11_kin lk_L_98 in_X11_kin se_X11_kin (by decide) rfl rfl (Nat.le_of_ble_eq_true rfl) (Nat.le_of_ble_eq_true rfl) (by decide) (hG.lt (by decide)) (congrArg Prod.fst hG.k2) ?_
  refine Go.to (fun r G' D1 hr => ?_) h
  obtain ⟨rfl, z2, rfl, h⟩ := hr
  show Go E (d + 1) kc ks mL_law 868 [some (vR 1), some (vR 2), some (vR 214), some (vI x3)] [vI z2] G D1 Q
  refine g_aload_n dL_law_868 rfl rfl ?_
  refine g_aload_n dL_law_869 rfl rfl ?_
  refine g_iload_n dL_law_870 rfl rfl ?_
  refine g_iconst dL_law_871 ?_
  refine g_iadd dL_law_872 ?_
  refine g_sald dL_law_873 hL9 ⟨h.1, ?_⟩
  replace h := h.2
  refine g_aload_n dL_law_874 rfl rfl ?_
  refine g_iload_n dL_law_875 rfl rfl ?_
  refine g_iconst dL_law_876 ?_
  refine g_iadd dL_law_877 ?_
  refine g_sald dL_law_878 hL9 ⟨h.1, ?_⟩
  replace h := h.2
  refine g_aload_n dL_law_879 rfl rfl ?_
  refine g_iload_n dL_law_880 rfl rfl ?_
  refine g_iconst dL_law_881 ?_
  refine g_iadd dL_law_882 ?_
  refine g_sald dL_law_883 hL9 ⟨h.1, ?_⟩
  replace h := h.2
  refine g_callV (kc := kc) (kc' := 0) (ks := ks) (ks' := 0) (as := [vI ((E.2.2.2.2.1 (x3 + 1).toNat).toInt), vI ((E.2.2.2.2.1 (x3 + 2).toNat).toInt), vI ((E.2.2.2.2.1 (x3 + 3).toNat).toInt)]) (st := [vI z2]) (ci := 11) dL_law_884 cB_X12_kin lk_L_101 in_X12_kin se_X12_kin (by decide) rfl rfl (Nat.le_of_ble_eq_true rfl) (Nat.le_of_ble_eq_true rfl) (by decide) (hG.lt (by decide)) (congrArg Prod.fst hG.k214) ?_
  refine Go.to (fun r G' D3 hr => ?_) h
  obtain ⟨rfl, z4, rfl, h⟩ := hr
  show Go E (d + 1) kc ks mL_law 887 [some (vR 1), some (vR 2), some (vR 214), some (vI x3)] [vI z4, vI z2] G D3 Q
  refine g_icmp_eq 1569 dL_law_887 (by decide) ⟨fun hc => ?_, fun hc => ?_⟩
  · replace h := h.1 hc
    refine h_iinc (L' := [some (vR 1), some (vR 2), some (vR 214), some (vI (x3 + 6))]) dL_law_1569 (Nat.le_of_ble_eq_true rfl) rfl rfl rfl ?_
    refine g_goto 18 dL_law_1572 (by decide) ?_
    exact Go.drop (by simp only [mm_sub, and_self]) h
  · replace h := h.2 hc
    refine g_iconst dL_law_890 ?_
    exact g_zret dL_law_891 rfl ⟨Or.inl rfl, h⟩
set_option maxRecDepth 20000 in
theorem w_L_law_892 {E : mmE} {d kc ks : Nat} {G : mmG} {D : mmD} {Q : mmQ} {x3 : Int} (hG : Sh G) (hL9 : (E.2.2.2.1 : Int) < 2147483648)  (h : ((0 ≤ (x3 + 1) ∧ (x3 + 1) < (E.2.2.2.1 : Int)) ∧ ((0 ≤ (x3 + 2) ∧ (x3 + 2) < (E.2.2.2.1 : Int)) ∧ Call E d 0 0 mX11_set [vR 2, vI ((E.2.2.2.2.1 (x3 + 1).toNat).toInt), vI ((E.2.2.2.2.1 (x3 + 2).toNat).toInt)] G D (retI G (fun z2 D1 => ((0 ≤ (x3 + 1) ∧ (x3 + 1) < (E.2.2.2.1 : Int)) ∧ ((0 ≤ (x3 + 2) ∧ (x3 + 2) < (E.2.2.2.1 : Int)) ∧ Call E d 0 0 mX12_set [vR 214, vI ((E.2.2.2.2.1 (x3 + 1).toNat).toInt), vI ((E.2.2.2.2.1 (x3 + 2).toNat).toInt)] G D1 (retI G (fun z4 D3 => ((iv z2 = iv z4 → Go E (d + 1) kc ks mL_law 18 [some (vR 1), some (vR 2), some (vR 214), some (vI (x3 + 6))] [] G D3 Q) ∧ (¬ iv z2 = iv z4 → Q (some (vI 0)) G D3))))))))))) : Go E (d + 1) kc ks mL_law 892 [some (vR 1), some (vR 2), some (vR 214), some (vI x3)] [] G D Q := by
  refine g_aload_n dL_law_892 rfl rfl ?_
  refine g_aload_n dL_law_893 rfl rfl ?_
  refine g_iload_n dL_law_894 rfl rfl ?_
  refine g_iconst dL_law_895 ?_
  refine g_iadd dL_law_896 ?_
  refine g_sald dL_law_897 hL9 ⟨h.1, ?_⟩
  replace h := h.2
  refine g_aload_n dL_law_898 rfl rfl ?_
  refine g_iload_n dL_law_899 rfl rfl ?_
  refine g_iconst dL_law_900 ?_
  refine g_iadd dL_law_901 ?_
  refine g_sald dL_law_902 hL9 ⟨h.1, ?_⟩
  replace h := h.2
  refine g_callV (kc := kc) (kc' := 0) (ks := ks) (ks' := 0) (as := [vI ((E.2.2.2.2.1 (x3 + 1).toNat).toInt), vI ((E.2.2.2.2.1 (x3 + 2).toNat).toInt)]) (st := []) (ci := 10) dL_law_903 cB_X11_set lk_L_102 in_X11_set se_X11_set (by decide) rfl rfl (Nat.le_of_ble_eq_true rfl) (Nat.le_of_ble_eq_true rfl) (by decide) (hG.lt (by decide)) (congrArg Prod.fst hG.k2) ?_
  refine Go.to (fun r G' D1 hr => ?_) h
  obtain ⟨rfl, z2, rfl, h⟩ := hr
  show Go E (d + 1) kc ks mL_law 906 [some (vR 1), some (vR 2), some (vR 214), some (vI x3)] [vI z2] G D1 Q
  refine g_aload_n dL_law_906 rfl rfl ?_
  refine g_aload_n dL_law_907 rfl rfl ?_
  refine g_iload_n dL_law_908 rfl rfl ?_
  refine g_iconst dL_law_909 ?_
  refine g_iadd dL_law_910 ?_
  refine g_sald dL_law_911 hL9 ⟨h.1, ?_⟩
  replace h := h.2
  refine g_aload_n dL_law_912 rfl rfl ?_
  refine g_iload_n dL_law_913 rfl rfl ?_
  refine g_iconst dL_law_914 ?_
  refine g_iadd dL_law_915 ?_
  refine g_sald dL_law_916 hL9 ⟨h.1, ?_⟩
  replace h := h.2
  refine g_callV (kc := kc) (kc' := 0) (ks := ks) (ks' := 0) (as := [vI ((E.2.2.2.2.1 (x3 + 1).toNat).toInt), vI ((E.2.2.2.2.1 (x3 + 2).toNat).toInt)]) (st := [vI z2]) (ci := 11) dL_law_917 cB_X12_set lk_L_105 in_X12_set se_X12_set (by decide) rfl rfl (Nat.le_of_ble_eq_true rfl) (Nat.le_of_ble_eq_true rfl) (by decide) (hG.lt (by decide)) (congrArg Prod.fst hG.k214) ?_
  refine Go.to (fun r G' D3 hr => ?_) h
  obtain ⟨rfl, z4, rfl, h⟩ := hr
  show Go E (d + 1) kc ks mL_law 920 [some (vR 1), some (vR 2), some (vR 214), some (vI x3)] [vI z4, vI z2] G D3 Q
  refine g_icmp_eq 1569 dL_law_920 (by decide) ⟨fun hc => ?_, fun hc => ?_⟩
  · replace h := h.1 hc
    refine h_iinc (L' := [some (vR 1), some (vR 2), some (vR 214), some (vI (x3 + 6))]) dL_law_1569 (Nat.le_of_ble_eq_true rfl) rfl rfl rfl ?_
    refine g_goto 18 dL_law_1572 (by decide) ?_
    exact Go.drop (by simp only [mm_sub, and_self]) h
  · replace h := h.2 hc
    refine g_iconst dL_law_923 ?_
    exact g_zret dL_law_924 rfl ⟨Or.inl rfl, h⟩
set_option maxRecDepth 20000 in
theorem w_L_law_925 {E : mmE} {d kc ks : Nat} {G : mmG} {D : mmD} {Q : mmQ} {x3 : Int} (hG : Sh G) (hL9 : (E.2.2.2.1 : Int) < 2147483648)  (h : ((0 ≤ (x3 + 1) ∧ (x3 + 1) < (E.2.2.2.1 : Int)) ∧ ((0 ≤ (x3 + 2) ∧ (x3 + 2) < (E.2.2.2.1 : Int)) ∧ ((0 ≤ (x3 + 3) ∧ (x3 + 3) < (E.2.2.2.1 : Int)) ∧ ((0 ≤ (x3 + 4) ∧ (x3 + 4) < (E.2.2.2.1 : Int)) ∧ Call E d 0 0 mX11_odds [vR 2, vI ((E.2.2.2.2.1 (x3 + 1).toNat).toInt), vI ((E.2.2.2.2.1 (x3 + 2).toNat).toInt), vI ((E.2.2.2.2.1 (x3 + 3).toNat).toInt), vI ((E.2.2.2.2.1 (x3 + 4).toNat).toInt)] G D (retI G (fun z2 D1 => ((0 ≤ (x3 + 1) ∧ (x3 + 1) < (E.2.2.2.1 : Int)) ∧ ((0 ≤ (x3 + 2) ∧ (x3 + 2) < (E.2.2.2.1 : Int)) ∧ ((0 ≤ (x3 + 3) ∧ (x3 + 3) < (E.2.2.2.1 : Int)) ∧ ((0 ≤ (x3 + 4) ∧ (x3 + 4) < (E.2.2.2.1 : Int)) ∧ Call E d 0 0 mX12_odds [vR 214, vI ((E.2.2.2.2.1 (x3 + 1).toNat).toInt), vI ((E.2.2.2.2.1 (x3 + 2).toNat).toInt), vI ((E.2.2.2.2.1 (x3 + 3).toNat).toInt), vI ((E.2.2.2.2.1 (x3 + 4).toNat).toInt)] G D1 (retI G (fun z4 D3 => ((iv z2 = iv z4 → Go E (d + 1) kc ks mL_law 18 [some (vR 1), some (vR 2), some (vR 214), some (vI (x3 + 6))] [] G D3 Q) ∧ (¬ iv z2 = iv z4 → Q (some (vI 0)) G D3))))))))))))))) : Go E (d + 1) kc ks mL_law 925 [some (vR 1), some (vR 2), some (vR 214), some (vI x3)] [] G D Q := by
  refine g_aload_n dL_law_925 rfl rfl ?_
  refine g_aload_n dL_law_926 rfl rfl ?_
  refine g_iload_n dL_law_927 rfl rfl ?_
  refine g_iconst dL_law_928 ?_
  refine g_iadd dL_law_929 ?_
  refine g_sald dL_law_930 hL9 ⟨h.1, ?_⟩
  replace h := h.2
  refine g_aload_n dL_law_931 rfl rfl ?_
  refine g_iload_n dL_law_932 rfl rfl ?_
  refine g_iconst dL_law_933 ?_
  refine g_iadd dL_law_934 ?_
  refine g_sald dL_law_935 hL9 ⟨h.1, ?_⟩
  replace h := h.2
  refine g_aload_n dL_law_936 rfl rfl ?_
  refine g_iload_n dL_law_937 rfl rfl ?_
  refine g_iconst dL_law_938 ?_
  refine g_iadd dL_law_939 ?_
  refine g_sald dL_law_940 hL9 ⟨h.1, ?_⟩
  replace h := h.2
  refine g_aload_n dL_law_941 rfl rfl ?_
  refine g_iload_n dL_law_942 rfl rfl ?_
  refine g_iconst dL_law_943 ?_
  refine g_iadd dL_law_944 ?_
  refine g_sald dL_law_945 hL9 ⟨h.1, ?_⟩
  replace h := h.2
  refine g_callV (kc := kc) (kc' := 0) (ks := ks) (ks' := 0) (as := [vI ((E.2.2.2.2.1 (x3 + 1).toNat).toInt), vI ((E.2.2.2.2.1 (x3 + 2).toNat).toInt), vI ((E.2.2.2.2.1 (x3 + 3).toNat).toInt), vI ((E.2.2.2.2.1 (x3 + 4).toNat).toInt)]) (st := []) (ci := 10) dL_law_946 cB_X11_odds lk_L_106 in_X11_odds se_X11_odds (by decide) rfl rfl (Nat.le_of_ble_eq_true rfl) (Nat.le_of_ble_eq_true rfl) (by decide) (hG.lt (by decide)) (congrArg Prod.fst hG.k2) ?_
  refine Go.to (fun r G' D1 hr => ?_) h
  obtain ⟨rfl, z2, rfl, h⟩ := hr
  show Go E (d + 1) kc ks mL_law 949 [some (vR 1), some (vR 2), some (vR 214), some (vI x3)] [vI z2] G D1 Q
  refine g_aload_n dL_law_949 rfl rfl ?_
  refine g_aload_n dL_law_950 rfl rfl ?_
  refine g_iload_n dL_law_951 rfl rfl ?_
  refine g_iconst dL_law_952 ?_
  refine g_iadd dL_law_953 ?_
  refine g_sald dL_law_954 hL9 ⟨h.1, ?_⟩
  replace h := h.2
  refine g_aload_n dL_law_955 rfl rfl ?_
  refine g_iload_n dL_law_956 rfl rfl ?_
  refine g_iconst dL_law_957 ?_
  refine g_iadd dL_law_958 ?_
  refine g_sald dL_law_959 hL9 ⟨h.1, ?_⟩
  replace h := h.2
  refine g_aload_n dL_law_960 rfl rfl ?_
  refine g_iload_n dL_law_961 rfl rfl ?_
  refine g_iconst dL_law_962 ?_
  refine g_iadd dL_law_963 ?_
  refine g_sald dL_law_964 hL9 ⟨h.1, ?_⟩
  replace h := h.2
  refine g_aload_n dL_law_965 rfl rfl ?_
  refine g_iload_n dL_law_966 rfl rfl ?_
  refine g_iconst dL_law_967 ?_
  refine g_iadd dL_law_968 ?_
  refine g_sald dL_law_969 hL9 ⟨h.1, ?_⟩
  replace h := h.2
  refine g_callV (kc := kc) (kc' := 0) (ks := ks) (ks' := 0) (as := [vI ((E.2.2.2.2.1 (x3 + 1).toNat).toInt), vI ((E.2.2.2.2.1 (x3 + 2).toNat).toInt), vI ((E.2.2.2.2.1 (x3 + 3).toNat).toInt), vI ((E.2.2.2.2.1 (x3 + 4).toNat).toInt)]) (st := [vI z2]) (ci := 11) dL_law_970 cB_X12_odds lk_L_109 in_X12_odds se_X12_odds (by decide) rfl rfl (Nat.le_of_ble_eq_true rfl) (Nat.le_of_ble_eq_true rfl) (by decide) (hG.lt (by decide)) (congrArg Prod.fst hG.k214) ?_
  refine Go.to (fun r G' D3 hr => ?_) h
  obtain ⟨rfl, z4, rfl, h⟩ := hr
  show Go E (d + 1) kc ks mL_law 973 [some (vR 1), some (vR 2), some (vR 214), some (vI x3)] [vI z4, vI z2] G D3 Q
  refine g_icmp_eq 1569 dL_law_973 (by decide) ⟨fun hc => ?_, fun hc => ?_⟩
  · replace h := h.1 hc
    refine h_iinc (L' := [some (vR 1), some (vR 2), some (vR 214), some (vI (x3 + 6))]) dL_law_1569 (Nat.le_of_ble_eq_true rfl) rfl rfl rfl ?_
    refine g_goto 18 dL_law_1572 (by decide) ?_
    exact Go.drop (by simp only [mm_sub, and_self]) h
  · replace h := h.2 hc
    refine g_iconst dL_law_976 ?_
    exact g_zret dL_law_977 rfl ⟨Or.inl rfl, h⟩
set_option maxRecDepth 20000 in
theorem w_L_law_978 {E : mmE} {d kc ks : Nat} {G : mmG} {D : mmD} {Q : mmQ} {x3 : Int} (hG : Sh G) (hL9 : (E.2.2.2.1 : Int) < 2147483648)  (h : ((0 ≤ (x3 + 1) ∧ (x3 + 1) < (E.2.2.2.1 : Int)) ∧ ((0 ≤ (x3 + 2) ∧ (x3 + 2) < (E.2.2.2.1 : Int)) ∧ ((0 ≤ (x3 + 3) ∧ (x3 + 3) < (E.2.2.2.1 : Int)) ∧ ((0 ≤ (x3 + 4) ∧ (x3 + 4) < (E.2.2.2.1 : Int)) ∧ Call E d 0 0 mX11_matches [vR 2, vI ((E.2.2.2.2.1 (x3 + 1).toNat).toInt), vI ((E.2.2.2.2.1 (x3 + 2).toNat).toInt), vI ((E.2.2.2.2.1 (x3 + 3).toNat).toInt), vI ((E.2.2.2.2.1 (x3 + 4).toNat).toInt)] G D (retI G (fun z2 D1 => ((0 ≤ (x3 + 1) ∧ (x3 + 1) < (E.2.2.2.1 : Int)) ∧ ((0 ≤ (x3 + 2) ∧ (x3 + 2) < (E.2.2.2.1 : Int)) ∧ ((0 ≤ (x3 + 3) ∧ (x3 + 3) < (E.2.2.2.1 : Int)) ∧ ((0 ≤ (x3 + 4) ∧ (x3 + 4) < (E.2.2.2.1 : Int)) ∧ Call E d 0 0 mX12_matches [vR 214, vI ((E.2.2.2.2.1 (x3 + 1).toNat).toInt), vI ((E.2.2.2.2.1 (x3 + 2).toNat).toInt), vI ((E.2.2.2.2.1 (x3 + 3).toNat).toInt), vI ((E.2.2.2.2.1 (x3 + 4).toNat).toInt)] G D1 (retI G (fun z4 D3 => ((iv z2 = iv z4 → Go E (d + 1) kc ks mL_law 18 [some (vR 1), some (vR 2), some (vR 214), some (vI (x3 + 6))] [] G D3 Q) ∧ (¬ iv z2 = iv z4 → Q (some (vI 0)) G D3))))))))))))))) : Go E (d + 1) kc ks mL_law 978 [some (vR 1), some (vR 2), some (vR 214), some (vI x3)] [] G D Q := by
  refine g_aload_n dL_law_978 rfl rfl ?_
  refine g_aload_n dL_law_979 rfl rfl ?_
  refine g_iload_n dL_law_980 rfl rfl ?_
  refine g_iconst dL_law_981 ?_
  refine g_iadd dL_law_982 ?_
  refine g_sald dL_law_983 hL9 ⟨h.1, ?_⟩
  replace h := h.2
  refine g_aload_n dL_law_984 rfl rfl ?_
  refine g_iload_n dL_law_985 rfl rfl ?_
  refine g_iconst dL_law_986 ?_
  refine g_iadd dL_law_987 ?_
  refine g_sald dL_law_988 hL9 ⟨h.1, ?_⟩
  replace h := h.2
  refine g_aload_n dL_law_989 rfl rfl ?_
  refine g_iload_n dL_law_990 rfl rfl ?_
  refine g_iconst dL_law_991 ?_
  refine g_iadd dL_law_992 ?_
  refine g_sald dL_law_993 hL9 ⟨h.1, ?_⟩
  replace h := h.2
  refine g_aload_n dL_law_994 rfl rfl ?_
  refine g_iload_n dL_law_995 rfl rfl ?_
  refine g_iconst dL_law_996 ?_
  refine g_iadd dL_law_997 ?_
  refine g_sald dL_law_998 hL9 ⟨h.1, ?_⟩
  replace h := h.2
  refine g_callV (kc := kc) (kc' := 0) (ks := ks) (ks' := 0) (as := [vI ((E.2.2.2.2.1 (x3 + 1).toNat).toInt), vI ((E.2.2.2.2.1 (x3 + 2).toNat).toInt), vI ((E.2.2.2.2.1 (x3 + 3).toNat).toInt), vI ((E.2.2.2.2.1 (x3 + 4).toNat).toInt)]) (st := []) (ci := 10) dL_law_999 cB_X11_matches lk_L_110 in_X11_matches se_X11_matches (by decide) rfl rfl (Nat.le_of_ble_eq_true rfl) (Nat.le_of_ble_eq_true rfl) (by decide) (hG.lt (by decide)) (congrArg Prod.fst hG.k2) ?_
  refine Go.to (fun r G' D1 hr => ?_) h
  obtain ⟨rfl, z2, rfl, h⟩ := hr
  show Go E (d + 1) kc ks mL_law 1002 [some (vR 1), some (vR 2), some (vR 214), some (vI x3)] [vI z2] G D1 Q
  refine g_aload_n dL_law_1002 rfl rfl ?_
  refine g_aload_n dL_law_1003 rfl rfl ?_
  refine g_iload_n dL_law_1004 rfl rfl ?_
  refine g_iconst dL_law_1005 ?_
  refine g_iadd dL_law_1006 ?_
  refine g_sald dL_law_1007 hL9 ⟨h.1, ?_⟩
  replace h := h.2
  refine g_aload_n dL_law_1008 rfl rfl ?_
  refine g_iload_n dL_law_1009 rfl rfl ?_
  refine g_iconst dL_law_1010 ?_
  refine g_iadd dL_law_1011 ?_
  refine g_sald dL_law_1012 hL9 ⟨h.1, ?_⟩
  replace h := h.2
  refine g_aload_n dL_law_1013 rfl rfl ?_
  refine g_iload_n dL_law_1014 rfl rfl ?_
  refine g_iconst dL_law_1015 ?_
  refine g_iadd dL_law_1016 ?_
  refine g_sald dL_law_1017 hL9 ⟨h.1, ?_⟩
  replace h := h.2
  refine g_aload_n dL_law_1018 rfl rfl ?_
  refine g_iload_n dL_law_1019 rfl rfl ?_
  refine g_iconst dL_law_1020 ?_
  refine g_iadd dL_law_1021 ?_
  refine g_sald dL_law_1022 hL9 ⟨h.1, ?_⟩
  replace h := h.2
  refine g_callV (kc := kc) (kc' := 0) (ks := ks) (ks' := 0) (as := [vI ((E.2.2.2.2.1 (x3 + 1).toNat).toInt), vI ((E.2.2.2.2.1 (x3 + 2).toNat).toInt), vI ((E.2.2.2.2.1 (x3 + 3).toNat).toInt), vI ((E.2.2.2.2.1 (x3 + 4).toNat).toInt)]) (st := [vI z2]) (ci := 11) dL_law_1023 cB_X12_matches lk_L_113 in_X12_matches se_X12_matches (by decide) rfl rfl (Nat.le_of_ble_eq_true rfl) (Nat.le_of_ble_eq_true rfl) (by decide) (hG.lt (by decide)) (congrArg Prod.fst hG.k214) ?_
  refine Go.to (fun r G' D3 hr => ?_) h
  obtain ⟨rfl, z4, rfl, h⟩ := hr
  show Go E (d + 1) kc ks mL_law 1026 [some (vR 1), some (vR 2), some (vR 214), some (vI x3)] [vI z4, vI z2] G D3 Q
  refine g_icmp_eq 1569 dL_law_1026 (by decide) ⟨fun hc => ?_, fun hc => ?_⟩
  · replace h := h.1 hc
    refine h_iinc (L' := [some (vR 1), some (vR 2), some (vR 214), some (vI (x3 + 6))]) dL_law_1569 (Nat.le_of_ble_eq_true rfl) rfl rfl rfl ?_
    refine g_goto 18 dL_law_1572 (by decide) ?_
    exact Go.drop (by simp only [mm_sub, and_self]) h
  · replace h := h.2 hc
    refine g_iconst dL_law_1029 ?_
    exact g_zret dL_law_1030 rfl ⟨Or.inl rfl, h⟩
set_option maxRecDepth 20000 in
theorem w_L_law_1031 {E : mmE} {d kc ks : Nat} {G : mmG} {D : mmD} {Q : mmQ} {x3 : Int} (hG : Sh G) (hL9 : (E.2.2.2.1 : Int) < 2147483648)  (h : ((0 ≤ (x3 + 1) ∧ (x3 + 1) < (E.2.2.2.1 : Int)) ∧ ((0 ≤ (x3 + 2) ∧ (x3 + 2) < (E.2.2.2.1 : Int)) ∧ ((0 ≤ (x3 + 3) ∧ (x3 + 3) < (E.2.2.2.1 : Int)) ∧ Call E d 0 0 mX11_far [vR 2, vI ((E.2.2.2.2.1 (x3 + 1).toNat).toInt), vI ((E.2.2.2.2.1 (x3 + 2).toNat).toInt), vI ((E.2.2.2.2.1 (x3 + 3).toNat).toInt)] G D (retI G (fun z2 D1 => ((0 ≤ (x3 + 1) ∧ (x3 + 1) < (E.2.2.2.1 : Int)) ∧ ((0 ≤ (x3 + 2) ∧ (x3 + 2) < (E.2.2.2.1 : Int)) ∧ ((0 ≤ (x3 + 3) ∧ (x3 + 3) < (E.2.2.2.1 : Int)) ∧ Call E d 0 0 mX12_far [vR 214, vI ((E.2.2.2.2.1 (x3 + 1).toNat).toInt), vI ((E.2.2.2.2.1 (x3 + 2).toNat).toInt), vI ((E.2.2.2.2.1 (x3 + 3).toNat).toInt)] G D1 (retI G (fun z4 D3 => ((iv z2 = iv z4 → Go E (d + 1) kc ks mL_law 18 [some (vR 1), some (vR 2), some (vR 214), some (vI (x3 + 6))] [] G D3 Q) ∧ (¬ iv z2 = iv z4 → Q (some (vI 0)) G D3))))))))))))) : Go E (d + 1) kc ks mL_law 1031 [some (vR 1), some (vR 2), some (vR 214), some (vI x3)] [] G D Q := by
  refine g_aload_n dL_law_1031 rfl rfl ?_
  refine g_aload_n dL_law_1032 rfl rfl ?_
  refine g_iload_n dL_law_1033 rfl rfl ?_
  refine g_iconst dL_law_1034 ?_
  refine g_iadd dL_law_1035 ?_
  refine g_sald dL_law_1036 hL9 ⟨h.1, ?_⟩
  replace h := h.2
  refine g_aload_n dL_law_1037 rfl rfl ?_
  refine g_iload_n dL_law_1038 rfl rfl ?_
  refine g_iconst dL_law_1039 ?_
  refine g_iadd dL_law_1040 ?_
  refine g_sald dL_law_1041 hL9 ⟨h.1, ?_⟩
  replace h := h.2
  refine g_aload_n dL_law_1042 rfl rfl ?_
  refine g_iload_n dL_law_1043 rfl rfl ?_
  refine g_iconst dL_law_1044 ?_
  refine g_iadd dL_law_1045 ?_
  refine g_sald dL_law_1046 hL9 ⟨h.1, ?_⟩
  replace h := h.2
  refine g_callV (kc := kc) (kc' := 0) (ks := ks) (ks' := 0) (as := [vI ((E.2.2.2.2.1 (x3 + 1).toNat).toInt), vI ((E.2.2.2.2.1 (x3 + 2).toNat).toInt), vI ((E.2.2.2.2.1 (x3 + 3).toNat).toInt)]) (st := []) (ci := 10) dL_law_1047 cB_X11_far lk_L_114 in_X11_far se_X11_far (by decide) rfl rfl (Nat.le_of_ble_eq_true rfl) (Nat.le_of_ble_eq_true rfl) (by decide) (hG.lt (by decide)) (congrArg Prod.fst hG.k2) ?_
  refine Go.to (fun r G' D1 hr => ?_) h
  obtain ⟨rfl, z2, rfl, h⟩ := hr
  show Go E (d + 1) kc ks mL_law 1050 [some (vR 1), some (vR 2), some (vR 214), some (vI x3)] [vI z2] G D1 Q
  refine g_aload_n dL_law_1050 rfl rfl ?_
  refine g_aload_n dL_law_1051 rfl rfl ?_
  refine g_iload_n dL_law_1052 rfl rfl ?_
  refine g_iconst dL_law_1053 ?_
  refine g_iadd dL_law_1054 ?_
  refine g_sald dL_law_1055 hL9 ⟨h.1, ?_⟩
  replace h := h.2
  refine g_aload_n dL_law_1056 rfl rfl ?_
  refine g_iload_n dL_law_1057 rfl rfl ?_
  refine g_iconst dL_law_1058 ?_
  refine g_iadd dL_law_1059 ?_
  refine g_sald dL_law_1060 hL9 ⟨h.1, ?_⟩
  replace h := h.2
  refine g_aload_n dL_law_1061 rfl rfl ?_
  refine g_iload_n dL_law_1062 rfl rfl ?_
  refine g_iconst dL_law_1063 ?_
  refine g_iadd dL_law_1064 ?_
  refine g_sald dL_law_1065 hL9 ⟨h.1, ?_⟩
  replace h := h.2
  refine g_callV (kc := kc) (kc' := 0) (ks := ks) (ks' := 0) (as := [vI ((E.2.2.2.2.1 (x3 + 1).toNat).toInt), vI ((E.2.2.2.2.1 (x3 + 2).toNat).toInt), vI ((E.2.2.2.2.1 (x3 + 3).toNat).toInt)]) (st := [vI z2]) (ci := 11) dL_law_1066 cB_X12_far lk_L_117 in_X12_far se_X12_far (by decide) rfl rfl (Nat.le_of_ble_eq_true rfl) (Nat.le_of_ble_eq_true rfl) (by decide) (hG.lt (by decide)) (congrArg Prod.fst hG.k214) ?_
  refine Go.to (fun r G' D3 hr => ?_) h
  obtain ⟨rfl, z4, rfl, h⟩ := hr
  show Go E (d + 1) kc ks mL_law 1069 [some (vR 1), some (vR 2), some (vR 214), some (vI x3)] [vI z4, vI z2] G D3 Q
  refine g_icmp_eq 1569 dL_law_1069 (by decide) ⟨fun hc => ?_, fun hc => ?_⟩
  · replace h := h.1 hc
    refine h_iinc (L' := [some (vR 1), some (vR 2), some (vR 214), some (vI (x3 + 6))]) dL_law_1569 (Nat.le_of_ble_eq_true rfl) rfl rfl rfl ?_
    refine g_goto 18 dL_law_1572 (by decide) ?_
    exact Go.drop (by simp only [mm_sub, and_self]) h
  · replace h := h.2 hc
    refine g_iconst dL_law_1072 ?_
    exact g_zret dL_law_1073 rfl ⟨Or.inl rfl, h⟩
set_option maxRecDepth 20000 in
theorem w_L_law_1074 {E : mmE} {d kc ks : Nat} {G : mmG} {D : mmD} {Q : mmQ} {x3 : Int} (hG : Sh G) (hL9 : (E.2.2.2.1 : Int) < 2147483648)  (h : ((0 ≤ (x3 + 1) ∧ (x3 + 1) < (E.2.2.2.1 : Int)) ∧ ((0 ≤ (x3 + 2) ∧ (x3 + 2) < (E.2.2.2.1 : Int)) ∧ ((0 ≤ (x3 + 3) ∧ (x3 + 3) < (E.2.2.2.1 : Int)) ∧ Call E d 0 0 mX11_borrowed [vR 2, vI ((E.2.2.2.2.1 (x3 + 1).toNat).toInt), vI ((E.2.2.2.2.1 (x3 + 2).toNat).toInt), vI ((E.2.2.2.2.1 (x3 + 3).toNat).toInt)] G D (retI G (fun z2 D1 => ((0 ≤ (x3 + 1) ∧ (x3 + 1) < (E.2.2.2.1 : Int)) ∧ ((0 ≤ (x3 + 2) ∧ (x3 + 2) < (E.2.2.2.1 : Int)) ∧ ((0 ≤ (x3 + 3) ∧ (x3 + 3) < (E.2.2.2.1 : Int)) ∧ Call E d 0 0 mX12_borrowed [vR 214, vI ((E.2.2.2.2.1 (x3 + 1).toNat).toInt), vI ((E.2.2.2.2.1 (x3 + 2).toNat).toInt), vI ((E.2.2.2.2.1 (x3 + 3).toNat).toInt)] G D1 (retI G (fun z4 D3 => ((iv z2 = iv z4 → Go E (d + 1) kc ks mL_law 18 [some (vR 1), some (vR 2), some (vR 214), some (vI (x3 + 6))] [] G D3 Q) ∧ (¬ iv z2 = iv z4 → Q (some (vI 0)) G D3))))))))))))) : Go E (d + 1) kc ks mL_law 1074 [some (vR 1), some (vR 2), some (vR 214), some (vI x3)] [] G D Q := by
  refine g_aload_n dL_law_1074 rfl rfl ?_
  refine g_aload_n dL_law_1075 rfl rfl ?_
  refine g_iload_n dL_law_1076 rfl rfl ?_
  refine g_iconst dL_law_1077 ?_
  refine g_iadd dL_law_1078 ?_
  refine g_sald dL_law_1079 hL9 ⟨h.1, ?_⟩
  replace h := h.2
  refine g_aload_n dL_law_1080 rfl rfl ?_
  refine g_iload_n dL_law_1081 rfl rfl ?_
  refine g_iconst dL_law_1082 ?_
  refine g_iadd dL_law_1083 ?_
  refine g_sald dL_law_1084 hL9 ⟨h.1, ?_⟩
  replace h := h.2
  refine g_aload_n dL_law_1085 rfl rfl ?_
  refine g_iload_n dL_law_1086 rfl rfl ?_
  refine g_iconst dL_law_1087 ?_
  refine g_iadd dL_law_1088 ?_
  refine g_sald dL_law_1089 hL9 ⟨h.1, ?_⟩
  replace h := h.2
  refine g_callV (kc := kc) (kc' := 0) (ks := ks) (ks' := 0) (as := [vI ((E.2.2.2.2.1 (x3 + 1).toNat).toInt), vI ((E.2.2.2.2.1 (x3 + 2).toNat).toInt), vI ((E.2.2.2.2.1 (x3 + 3).toNat).toInt)]) (st := []) (ci := 10) dL_law_1090 cB_X11_borrowed lk_L_118 in_X11_borrowed se_X11_borrowed (by decide) rfl rfl (Nat.le_of_ble_eq_true rfl) (Nat.le_of_ble_eq_true rfl) (by decide) (hG.lt (by decide)) (congrArg Prod.fst hG.k2) ?_
  refine Go.to (fun r G' D1 hr => ?_) h
  obtain ⟨rfl, z2, rfl, h⟩ := hr
  show Go E (d + 1) kc ks mL_law 1093 [some (vR 1), some (vR 2), some (vR 214), some (vI x3)] [vI z2] G D1 Q
  refine g_aload_n dL_law_1093 rfl rfl ?_
  refine g_aload_n dL_law_1094 rfl rfl ?_
  refine g_iload_n dL_law_1095 rfl rfl ?_
  refine g_iconst dL_law_1096 ?_
  refine g_iadd dL_law_1097 ?_
  refine g_sald dL_law_1098 hL9 ⟨h.1, ?_⟩
  replace h := h.2
  refine g_aload_n dL_law_1099 rfl rfl ?_
  refine g_iload_n dL_law_1100 rfl rfl ?_
  refine g_iconst dL_law_1101 ?_
  refine g_iadd dL_law_1102 ?_
  refine g_sald dL_law_1103 hL9 ⟨h.1, ?_⟩
  replace h := h.2
  refine g_aload_n dL_law_1104 rfl rfl ?_
  refine g_iload_n dL_law_1105 rfl rfl ?_
  refine g_iconst dL_law_1106 ?_
  refine g_iadd dL_law_1107 ?_
  refine g_sald dL_law_1108 hL9 ⟨h.1, ?_⟩
  replace h := h.2
  refine g_callV (kc := kc) (kc' := 0) (ks := ks) (ks' := 0) (as := [vI ((E.2.2.2.2.1 (x3 + 1).toNat).toInt), vI ((E.2.2.2.2.1 (x3 + 2).toNat).toInt), vI ((E.2.2.2.2.1 (x3 + 3).toNat).toInt)]) (st := [vI z2]) (ci := 11) dL_law_1109 cB_X12_borrowed lk_L_121 in_X12_borrowed se_X12_borrowed (by decide) rfl rfl (Nat.le_of_ble_eq_true rfl) (Nat.le_of_ble_eq_true rfl) (by decide) (hG.lt (by decide)) (congrArg Prod.fst hG.k214) ?_
  refine Go.to (fun r G' D3 hr => ?_) h
  obtain ⟨rfl, z4, rfl, h⟩ := hr
  show Go E (d + 1) kc ks mL_law 1112 [some (vR 1), some (vR 2), some (vR 214), some (vI x3)] [vI z4, vI z2] G D3 Q
  refine g_icmp_eq 1569 dL_law_1112 (by decide) ⟨fun hc => ?_, fun hc => ?_⟩
  · replace h := h.1 hc
    refine h_iinc (L' := [some (vR 1), some (vR 2), some (vR 214), some (vI (x3 + 6))]) dL_law_1569 (Nat.le_of_ble_eq_true rfl) rfl rfl rfl ?_
    refine g_goto 18 dL_law_1572 (by decide) ?_
    exact Go.drop (by simp only [mm_sub, and_self]) h
  · replace h := h.2 hc
    refine g_iconst dL_law_1115 ?_
    exact g_zret dL_law_1116 rfl ⟨Or.inl rfl, h⟩
set_option maxRecDepth 20000 in
theorem w_L_law_1117 {E : mmE} {d kc ks : Nat} {G : mmG} {D : mmD} {Q : mmQ} {x3 : Int} (hG : Sh G) (hL9 : (E.2.2.2.1 : Int) < 2147483648)  (h : ((0 ≤ (x3 + 1) ∧ (x3 + 1) < (E.2.2.2.1 : Int)) ∧ ((0 ≤ (x3 + 2) ∧ (x3 + 2) < (E.2.2.2.1 : Int)) ∧ Call E d 0 0 mX11_old [vR 2, vI ((E.2.2.2.2.1 (x3 + 1).toNat).toInt), vI ((E.2.2.2.2.1 (x3 + 2).toNat).toInt)] G D (retI G (fun z2 D1 => ((0 ≤ (x3 + 1) ∧ (x3 + 1) < (E.2.2.2.1 : Int)) ∧ ((0 ≤ (x3 + 2) ∧ (x3 + 2) < (E.2.2.2.1 : Int)) ∧ Call E d 0 0 mX12_old [vR 214, vI ((E.2.2.2.2.1 (x3 + 1).toNat).toInt), vI ((E.2.2.2.2.1 (x3 + 2).toNat).toInt)] G D1 (retI G (fun z4 D3 => ((iv z2 = iv z4 → Go E (d + 1) kc ks mL_law 18 [some (vR 1), some (vR 2), some (vR 214), some (vI (x3 + 6))] [] G D3 Q) ∧ (¬ iv z2 = iv z4 → Q (some (vI 0)) G D3))))))))))) : Go E (d + 1) kc ks mL_law 1117 [some (vR 1), some (vR 2), some (vR 214), some (vI x3)] [] G D Q := by
  refine g_aload_n dL_law_1117 rfl rfl ?_
  refine g_aload_n dL_law_1118 rfl rfl ?_
  refine g_iload_n dL_law_1119 rfl rfl ?_
  refine g_iconst dL_law_1120 ?_
  refine g_iadd dL_law_1121 ?_
  refine g_sald dL_law_1122 hL9 ⟨h.1, ?_⟩
  replace h := h.2
  refine g_aload_n dL_law_1123 rfl rfl ?_
  refine g_iload_n dL_law_1124 rfl rfl ?_
  refine g_iconst dL_law_1125 ?_
  refine g_iadd dL_law_1126 ?_
  refine g_sald dL_law_1127 hL9 ⟨h.1, ?_⟩
  replace h := h.2
  refine g_callV (kc := kc) (kc' := 0) (ks := ks) (ks' := 0) (as := [vI ((E.2.2.2.2.1 (x3 + 1).toNat).toInt), vI ((E.2.2.2.2.1 (x3 + 2).toNat).toInt)]) (st := []) (ci := 10) dL_law_1128 cB_X11_old lk_L_122 in_X11_old se_X11_old (by decide) rfl rfl (Nat.le_of_ble_eq_true rfl) (Nat.le_of_ble_eq_true rfl) (by decide) (hG.lt (by decide)) (congrArg Prod.fst hG.k2) ?_
  refine Go.to (fun r G' D1 hr => ?_) h
  obtain ⟨rfl, z2, rfl, h⟩ := hr
  show Go E (d + 1) kc ks mL_law 1131 [some (vR 1), some (vR 2), some (vR 214), some (vI x3)] [vI z2] G D1 Q
  refine g_aload_n dL_law_1131 rfl rfl ?_
  refine g_aload_n dL_law_1132 rfl rfl ?_
  refine g_iload_n dL_law_1133 rfl rfl ?_
  refine g_iconst dL_law_1134 ?_
  refine g_iadd dL_law_1135 ?_
  refine g_sald dL_law_1136 hL9 ⟨h.1, ?_⟩
  replace h := h.2
  refine g_aload_n dL_law_1137 rfl rfl ?_
  refine g_iload_n dL_law_1138 rfl rfl ?_
  refine g_iconst dL_law_1139 ?_
  refine g_iadd dL_law_1140 ?_
  refine g_sald dL_law_1141 hL9 ⟨h.1, ?_⟩
  replace h := h.2
  refine g_callV (kc := kc) (kc' := 0) (ks := ks) (ks' := 0) (as := [vI ((E.2.2.2.2.1 (x3 + 1).toNat).toInt), vI ((E.2.2.2.2.1 (x3 + 2).toNat).toInt)]) (st := [vI z2]) (ci := 11) dL_law_1142 cB_X12_old lk_L_125 in_X12_old se_X12_old (by decide) rfl rfl (Nat.le_of_ble_eq_true rfl) (Nat.le_of_ble_eq_true rfl) (by decide) (hG.lt (by decide)) (congrArg Prod.fst hG.k214) ?_
  refine Go.to (fun r G' D3 hr => ?_) h
  obtain ⟨rfl, z4, rfl, h⟩ := hr
  show Go E (d + 1) kc ks mL_law 1145 [some (vR 1), some (vR 2), some (vR 214), some (vI x3)] [vI z4, vI z2] G D3 Q
  refine g_icmp_eq 1569 dL_law_1145 (by decide) ⟨fun hc => ?_, fun hc => ?_⟩
  · replace h := h.1 hc
    refine h_iinc (L' := [some (vR 1), some (vR 2), some (vR 214), some (vI (x3 + 6))]) dL_law_1569 (Nat.le_of_ble_eq_true rfl) rfl rfl rfl ?_
    refine g_goto 18 dL_law_1572 (by decide) ?_
    exact Go.drop (by simp only [mm_sub, and_self]) h
  · replace h := h.2 hc
    refine g_iconst dL_law_1148 ?_
    exact g_zret dL_law_1149 rfl ⟨Or.inl rfl, h⟩
set_option maxRecDepth 20000 in
theorem w_L_law_1150 {E : mmE} {d kc ks : Nat} {G : mmG} {D : mmD} {Q : mmQ} {x3 : Int} (hG : Sh G) (hL9 : (E.2.2.2.1 : Int) < 2147483648)  (h : ((0 ≤ (x3 + 1) ∧ (x3 + 1) < (E.2.2.2.1 : Int)) ∧ ((0 ≤ (x3 + 2) ∧ (x3 + 2) < (E.2.2.2.1 : Int)) ∧ ((0 ≤ (x3 + 3) ∧ (x3 + 3) < (E.2.2.2.1 : Int)) ∧ ((0 ≤ (x3 + 4) ∧ (x3 + 4) < (E.2.2.2.1 : Int)) ∧ Call E d 2 27 mX11_best [vR 2, vI ((E.2.2.2.2.1 (x3 + 1).toNat).toInt), vI ((E.2.2.2.2.1 (x3 + 2).toNat).toInt), vI ((E.2.2.2.2.1 (x3 + 3).toNat).toInt), vI ((E.2.2.2.2.1 (x3 + 4).toNat).toInt)] G D (retIG (fun z2 G3 D1 => (Sh G3 ∧ ((0 ≤ (x3 + 1) ∧ (x3 + 1) < (E.2.2.2.1 : Int)) ∧ ((0 ≤ (x3 + 2) ∧ (x3 + 2) < (E.2.2.2.1 : Int)) ∧ ((0 ≤ (x3 + 3) ∧ (x3 + 3) < (E.2.2.2.1 : Int)) ∧ ((0 ≤ (x3 + 4) ∧ (x3 + 4) < (E.2.2.2.1 : Int)) ∧ Call E d 0 0 mX12_best [vR 214, vI ((E.2.2.2.2.1 (x3 + 1).toNat).toInt), vI ((E.2.2.2.2.1 (x3 + 2).toNat).toInt), vI ((E.2.2.2.2.1 (x3 + 3).toNat).toInt), vI ((E.2.2.2.2.1 (x3 + 4).toNat).toInt)] G3 D1 (retI G3 (fun z6 D5 => ((iv z2 = iv z6 → Go E (d + 1) kc ks mL_law 18 [some (vR 1), some (vR 2), some (vR 214), some (vI (x3 + 6))] [] G3 D5 Q) ∧ (¬ iv z2 = iv z6 → Q (some (vI 0)) G3 D5)))))))))))))))) : Go E (d + 1) (kc + 2) (ks + 27) mL_law 1150 [some (vR 1), some (vR 2), some (vR 214), some (vI x3)] [] G D Q := by
  refine g_aload_n dL_law_1150 rfl rfl ?_
  refine g_aload_n dL_law_1151 rfl rfl ?_
  refine g_iload_n dL_law_1152 rfl rfl ?_
  refine g_iconst dL_law_1153 ?_
  refine g_iadd dL_law_1154 ?_
  refine g_sald dL_law_1155 hL9 ⟨h.1, ?_⟩
  replace h := h.2
  refine g_aload_n dL_law_1156 rfl rfl ?_
  refine g_iload_n dL_law_1157 rfl rfl ?_
  refine g_iconst dL_law_1158 ?_
  refine g_iadd dL_law_1159 ?_
  refine g_sald dL_law_1160 hL9 ⟨h.1, ?_⟩
  replace h := h.2
  refine g_aload_n dL_law_1161 rfl rfl ?_
  refine g_iload_n dL_law_1162 rfl rfl ?_
  refine g_iconst dL_law_1163 ?_
  refine g_iadd dL_law_1164 ?_
  refine g_sald dL_law_1165 hL9 ⟨h.1, ?_⟩
  replace h := h.2
  refine g_aload_n dL_law_1166 rfl rfl ?_
  refine g_iload_n dL_law_1167 rfl rfl ?_
  refine g_iconst dL_law_1168 ?_
  refine g_iadd dL_law_1169 ?_
  refine g_sald dL_law_1170 hL9 ⟨h.1, ?_⟩
  replace h := h.2
  refine g_callV (kc := kc) (kc' := 2) (ks := ks) (ks' := 27) (as := [vI ((E.2.2.2.2.1 (x3 + 1).toNat).toInt), vI ((E.2.2.2.2.1 (x3 + 2).toNat).toInt), vI ((E.2.2.2.2.1 (x3 + 3).toNat).toInt), vI ((E.2.2.2.2.1 (x3 + 4).toNat).toInt)]) (st := []) (ci := 10) dL_law_1171 cB_X11_best lk_L_126 in_X11_best se_X11_best (by decide) rfl rfl (Nat.le_of_ble_eq_true rfl) (Nat.le_of_ble_eq_true rfl) (by decide) (hG.lt (by decide)) (congrArg Prod.fst hG.k2) ?_
  refine Go.to (fun r G3 D1 hr => ?_) h
  obtain ⟨z2, rfl, hG4, h⟩ := hr
  show Go E (d + 1) kc ks mL_law 1174 [some (vR 1), some (vR 2), some (vR 214), some (vI x3)] [vI z2] G3 D1 Q
  refine g_aload_n dL_law_1174 rfl rfl ?_
  refine g_aload_n dL_law_1175 rfl rfl ?_
  refine g_iload_n dL_law_1176 rfl rfl ?_
  refine g_iconst dL_law_1177 ?_
  refine g_iadd dL_law_1178 ?_
  refine g_sald dL_law_1179 hL9 ⟨h.1, ?_⟩
  replace h := h.2
  refine g_aload_n dL_law_1180 rfl rfl ?_
  refine g_iload_n dL_law_1181 rfl rfl ?_
  refine g_iconst dL_law_1182 ?_
  refine g_iadd dL_law_1183 ?_
  refine g_sald dL_law_1184 hL9 ⟨h.1, ?_⟩
  replace h := h.2
  refine g_aload_n dL_law_1185 rfl rfl ?_
  refine g_iload_n dL_law_1186 rfl rfl ?_
  refine g_iconst dL_law_1187 ?_
  refine g_iadd dL_law_1188 ?_
  refine g_sald dL_law_1189 hL9 ⟨h.1, ?_⟩
  replace h := h.2
  refine g_aload_n dL_law_1190 rfl rfl ?_
  refine g_iload_n dL_law_1191 rfl rfl ?_
  refine g_iconst dL_law_1192 ?_
  refine g_iadd dL_law_1193 ?_
  refine g_sald dL_law_1194 hL9 ⟨h.1, ?_⟩
  replace h := h.2
  refine g_callV (kc := kc) (kc' := 0) (ks := ks) (ks' := 0) (as := [vI ((E.2.2.2.2.1 (x3 + 1).toNat).toInt), vI ((E.2.2.2.2.1 (x3 + 2).toNat).toInt), vI ((E.2.2.2.2.1 (x3 + 3).toNat).toInt), vI ((E.2.2.2.2.1 (x3 + 4).toNat).toInt)]) (st := [vI z2]) (ci := 11) dL_law_1195 cB_X12_best lk_L_129 in_X12_best se_X12_best (by decide) rfl rfl (Nat.le_of_ble_eq_true rfl) (Nat.le_of_ble_eq_true rfl) (by decide) (hG4.lt (by decide)) (congrArg Prod.fst hG4.k214) ?_
  refine Go.to (fun r G' D5 hr => ?_) h
  obtain ⟨rfl, z6, rfl, h⟩ := hr
  show Go E (d + 1) kc ks mL_law 1198 [some (vR 1), some (vR 2), some (vR 214), some (vI x3)] [vI z6, vI z2] G3 D5 Q
  refine g_icmp_eq 1569 dL_law_1198 (by decide) ⟨fun hc => ?_, fun hc => ?_⟩
  · replace h := h.1 hc
    refine h_iinc (L' := [some (vR 1), some (vR 2), some (vR 214), some (vI (x3 + 6))]) dL_law_1569 (Nat.le_of_ble_eq_true rfl) rfl rfl rfl ?_
    refine g_goto 18 dL_law_1572 (by decide) ?_
    exact Go.drop (by simp only [mm_sub, and_self]) h
  · replace h := h.2 hc
    refine g_iconst dL_law_1201 ?_
    exact g_zret dL_law_1202 rfl ⟨Or.inl rfl, h⟩
set_option maxRecDepth 20000 in
theorem w_L_law_1203 {E : mmE} {d kc ks : Nat} {G : mmG} {D : mmD} {Q : mmQ} {x3 : Int} (hG : Sh G) (hL9 : (E.2.2.2.1 : Int) < 2147483648)  (h : ((0 ≤ (x3 + 1) ∧ (x3 + 1) < (E.2.2.2.1 : Int)) ∧ ((0 ≤ (x3 + 2) ∧ (x3 + 2) < (E.2.2.2.1 : Int)) ∧ ((0 ≤ (x3 + 3) ∧ (x3 + 3) < (E.2.2.2.1 : Int)) ∧ Call E d 0 0 mX11_feeds [vR 2, vI ((E.2.2.2.2.1 (x3 + 1).toNat).toInt), vI ((E.2.2.2.2.1 (x3 + 2).toNat).toInt), vI ((E.2.2.2.2.1 (x3 + 3).toNat).toInt)] G D (retI G (fun z2 D1 => ((0 ≤ (x3 + 1) ∧ (x3 + 1) < (E.2.2.2.1 : Int)) ∧ ((0 ≤ (x3 + 2) ∧ (x3 + 2) < (E.2.2.2.1 : Int)) ∧ ((0 ≤ (x3 + 3) ∧ (x3 + 3) < (E.2.2.2.1 : Int)) ∧ Call E d 0 0 mX12_feeds [vR 214, vI ((E.2.2.2.2.1 (x3 + 1).toNat).toInt), vI ((E.2.2.2.2.1 (x3 + 2).toNat).toInt), vI ((E.2.2.2.2.1 (x3 + 3).toNat).toInt)] G D1 (retI G (fun z4 D3 => ((iv z2 = iv z4 → Go E (d + 1) kc ks mL_law 18 [some (vR 1), some (vR 2), some (vR 214), some (vI (x3 + 6))] [] G D3 Q) ∧ (¬ iv z2 = iv z4 → Q (some (vI 0)) G D3))))))))))))) : Go E (d + 1) kc ks mL_law 1203 [some (vR 1), some (vR 2), some (vR 214), some (vI x3)] [] G D Q := by
  refine g_aload_n dL_law_1203 rfl rfl ?_
  refine g_aload_n dL_law_1204 rfl rfl ?_
  refine g_iload_n dL_law_1205 rfl rfl ?_
  refine g_iconst dL_law_1206 ?_
  refine g_iadd dL_law_1207 ?_
  refine g_sald dL_law_1208 hL9 ⟨h.1, ?_⟩
  replace h := h.2
  refine g_aload_n dL_law_1209 rfl rfl ?_
  refine g_iload_n dL_law_1210 rfl rfl ?_
  refine g_iconst dL_law_1211 ?_
  refine g_iadd dL_law_1212 ?_
  refine g_sald dL_law_1213 hL9 ⟨h.1, ?_⟩
  replace h := h.2
  refine g_aload_n dL_law_1214 rfl rfl ?_
  refine g_iload_n dL_law_1215 rfl rfl ?_
  refine g_iconst dL_law_1216 ?_
  refine g_iadd dL_law_1217 ?_
  refine g_sald dL_law_1218 hL9 ⟨h.1, ?_⟩
  replace h := h.2
  refine g_callV (kc := kc) (kc' := 0) (ks := ks) (ks' := 0) (as := [vI ((E.2.2.2.2.1 (x3 + 1).toNat).toInt), vI ((E.2.2.2.2.1 (x3 + 2).toNat).toInt), vI ((E.2.2.2.2.1 (x3 + 3).toNat).toInt)]) (st := []) (ci := 10) dL_law_1219 cB_X11_feeds lk_L_130 in_X11_feeds se_X11_feeds (by decide) rfl rfl (Nat.le_of_ble_eq_true rfl) (Nat.le_of_ble_eq_true rfl) (by decide) (hG.lt (by decide)) (congrArg Prod.fst hG.k2) ?_
  refine Go.to (fun r G' D1 hr => ?_) h
  obtain ⟨rfl, z2, rfl, h⟩ := hr
  show Go E (d + 1) kc ks mL_law 1222 [some (vR 1), some (vR 2), some (vR 214), some (vI x3)] [vI z2] G D1 Q
  refine g_aload_n dL_law_1222 rfl rfl ?_
  refine g_aload_n dL_law_1223 rfl rfl ?_
  refine g_iload_n dL_law_1224 rfl rfl ?_
  refine g_iconst dL_law_1225 ?_
  refine g_iadd dL_law_1226 ?_
  refine g_sald dL_law_1227 hL9 ⟨h.1, ?_⟩
  replace h := h.2
  refine g_aload_n dL_law_1228 rfl rfl ?_
  refine g_iload_n dL_law_1229 rfl rfl ?_
  refine g_iconst dL_law_1230 ?_
  refine g_iadd dL_law_1231 ?_
  refine g_sald dL_law_1232 hL9 ⟨h.1, ?_⟩
  replace h := h.2
  refine g_aload_n dL_law_1233 rfl rfl ?_
  refine g_iload_n dL_law_1234 rfl rfl ?_
  refine g_iconst dL_law_1235 ?_
  refine g_iadd dL_law_1236 ?_
  refine g_sald dL_law_1237 hL9 ⟨h.1, ?_⟩
  replace h := h.2
  refine g_callV (kc := kc) (kc' := 0) (ks := ks) (ks' := 0) (as := [vI ((E.2.2.2.2.1 (x3 + 1).toNat).toInt), vI ((E.2.2.2.2.1 (x3 + 2).toNat).toInt), vI ((E.2.2.2.2.1 (x3 + 3).toNat).toInt)]) (st := [vI z2]) (ci := 11) dL_law_1238 cB_X12_feeds lk_L_133 in_X12_feeds se_X12_feeds (by decide) rfl rfl (Nat.le_of_ble_eq_true rfl) (Nat.le_of_ble_eq_true rfl) (by decide) (hG.lt (by decide)) (congrArg Prod.fst hG.k214) ?_
  refine Go.to (fun r G' D3 hr => ?_) h
  obtain ⟨rfl, z4, rfl, h⟩ := hr
  show Go E (d + 1) kc ks mL_law 1241 [some (vR 1), some (vR 2), some (vR 214), some (vI x3)] [vI z4, vI z2] G D3 Q
  refine g_icmp_eq 1569 dL_law_1241 (by decide) ⟨fun hc => ?_, fun hc => ?_⟩
  · replace h := h.1 hc
    refine h_iinc (L' := [some (vR 1), some (vR 2), some (vR 214), some (vI (x3 + 6))]) dL_law_1569 (Nat.le_of_ble_eq_true rfl) rfl rfl rfl ?_
    refine g_goto 18 dL_law_1572 (by decide) ?_
    exact Go.drop (by simp only [mm_sub, and_self]) h
  · replace h := h.2 hc
    refine g_iconst dL_law_1244 ?_
    exact g_zret dL_law_1245 rfl ⟨Or.inl rfl, h⟩
set_option maxRecDepth 20000 in
theorem w_L_law_1246 {E : mmE} {d kc ks : Nat} {G : mmG} {D : mmD} {Q : mmQ} {x3 : Int} (hG : Sh G) (hL9 : (E.2.2.2.1 : Int) < 2147483648)  (h : ((0 ≤ (x3 + 1) ∧ (x3 + 1) < (E.2.2.2.1 : Int)) ∧ ((0 ≤ (x3 + 2) ∧ (x3 + 2) < (E.2.2.2.1 : Int)) ∧ Call E d 0 0 mX11_steps [vR 2, vI ((E.2.2.2.2.1 (x3 + 1).toNat).toInt), vI ((E.2.2.2.2.1 (x3 + 2).toNat).toInt)] G D (retI G (fun z2 D1 => ((0 ≤ (x3 + 1) ∧ (x3 + 1) < (E.2.2.2.1 : Int)) ∧ ((0 ≤ (x3 + 2) ∧ (x3 + 2) < (E.2.2.2.1 : Int)) ∧ Call E d 0 0 mX12_steps [vR 214, vI ((E.2.2.2.2.1 (x3 + 1).toNat).toInt), vI ((E.2.2.2.2.1 (x3 + 2).toNat).toInt)] G D1 (retI G (fun z4 D3 => ((iv z2 = iv z4 → Go E (d + 1) kc ks mL_law 18 [some (vR 1), some (vR 2), some (vR 214), some (vI (x3 + 6))] [] G D3 Q) ∧ (¬ iv z2 = iv z4 → Q (some (vI 0)) G D3))))))))))) : Go E (d + 1) kc ks mL_law 1246 [some (vR 1), some (vR 2), some (vR 214), some (vI x3)] [] G D Q := by
  refine g_aload_n dL_law_1246 rfl rfl ?_
  refine g_aload_n dL_law_1247 rfl rfl ?_
  refine g_iload_n dL_law_1248 rfl rfl ?_
  refine g_iconst dL_law_1249 ?_
  refine g_iadd dL_law_1250 ?_
  refine g_sald dL_law_1251 hL9 ⟨h.1, ?_⟩
  replace h := h.2
  refine g_aload_n dL_law_1252 rfl rfl ?_
  refine g_iload_n dL_law_1253 rfl rfl ?_
  refine g_iconst dL_law_1254 ?_
  refine g_iadd dL_law_1255 ?_
  refine g_sald dL_law_1256 hL9 ⟨h.1, ?_⟩
  replace h := h.2
  refine g_callV (kc := kc) (kc' := 0) (ks := ks) (ks' := 0) (as := [vI ((E.2.2.2.2.1 (x3 + 1).toNat).toInt), vI ((E.2.2.2.2.1 (x3 + 2).toNat).toInt)]) (st := []) (ci := 10) dL_law_1257 cB_X11_steps lk_L_134 in_X11_steps se_X11_steps (by decide) rfl rfl (Nat.le_of_ble_eq_true rfl) (Nat.le_of_ble_eq_true rfl) (by decide) (hG.lt (by decide)) (congrArg Prod.fst hG.k2) ?_
  refine Go.to (fun r G' D1 hr => ?_) h
  obtain ⟨rfl, z2, rfl, h⟩ := hr
  show Go E (d + 1) kc ks mL_law 1260 [some (vR 1), some (vR 2), some (vR 214), some (vI x3)] [vI z2] G D1 Q
  refine g_aload_n dL_law_1260 rfl rfl ?_
  refine g_aload_n dL_law_1261 rfl rfl ?_
  refine g_iload_n dL_law_1262 rfl rfl ?_
  refine g_iconst dL_law_1263 ?_
  refine g_iadd dL_law_1264 ?_
  refine g_sald dL_law_1265 hL9 ⟨h.1, ?_⟩
  replace h := h.2
  refine g_aload_n dL_law_1266 rfl rfl ?_
  refine g_iload_n dL_law_1267 rfl rfl ?_
  refine g_iconst dL_law_1268 ?_
  refine g_iadd dL_law_1269 ?_
  refine g_sald dL_law_1270 hL9 ⟨h.1, ?_⟩
  replace h := h.2
  refine g_callV (kc := kc) (kc' := 0) (ks := ks) (ks' := 0) (as := [vI ((E.2.2.2.2.1 (x3 + 1).toNat).toInt), vI ((E.2.2.2.2.1 (x3 + 2).toNat).toInt)]) (st := [vI z2]) (ci := 11) dL_law_1271 cB_X12_steps lk_L_137 in_X12_steps se_X12_steps (by decide) rfl rfl (Nat.le_of_ble_eq_true rfl) (Nat.le_of_ble_eq_true rfl) (by decide) (hG.lt (by decide)) (congrArg Prod.fst hG.k214) ?_
  refine Go.to (fun r G' D3 hr => ?_) h
  obtain ⟨rfl, z4, rfl, h⟩ := hr
  show Go E (d + 1) kc ks mL_law 1274 [some (vR 1), some (vR 2), some (vR 214), some (vI x3)] [vI z4, vI z2] G D3 Q
  refine g_icmp_eq 1569 dL_law_1274 (by decide) ⟨fun hc => ?_, fun hc => ?_⟩
  · replace h := h.1 hc
    refine h_iinc (L' := [some (vR 1), some (vR 2), some (vR 214), some (vI (x3 + 6))]) dL_law_1569 (Nat.le_of_ble_eq_true rfl) rfl rfl rfl ?_
    refine g_goto 18 dL_law_1572 (by decide) ?_
    exact Go.drop (by simp only [mm_sub, and_self]) h
  · replace h := h.2 hc
    refine g_iconst dL_law_1277 ?_
    exact g_zret dL_law_1278 rfl ⟨Or.inl rfl, h⟩
set_option maxRecDepth 20000 in
theorem w_L_law_1279 {E : mmE} {d kc ks : Nat} {G : mmG} {D : mmD} {Q : mmQ} {x3 : Int} (hG : Sh G) (hL9 : (E.2.2.2.1 : Int) < 2147483648)  (h : ((0 ≤ (x3 + 1) ∧ (x3 + 1) < (E.2.2.2.1 : Int)) ∧ ((0 ≤ (x3 + 2) ∧ (x3 + 2) < (E.2.2.2.1 : Int)) ∧ Call E d 0 0 mX11_tree [vR 2, vI ((E.2.2.2.2.1 (x3 + 1).toNat).toInt), vI ((E.2.2.2.2.1 (x3 + 2).toNat).toInt)] G D (retI G (fun z2 D1 => ((0 ≤ (x3 + 1) ∧ (x3 + 1) < (E.2.2.2.1 : Int)) ∧ ((0 ≤ (x3 + 2) ∧ (x3 + 2) < (E.2.2.2.1 : Int)) ∧ Call E d 0 0 mX12_tree [vR 214, vI ((E.2.2.2.2.1 (x3 + 1).toNat).toInt), vI ((E.2.2.2.2.1 (x3 + 2).toNat).toInt)] G D1 (retI G (fun z4 D3 => ((iv z2 = iv z4 → Go E (d + 1) kc ks mL_law 18 [some (vR 1), some (vR 2), some (vR 214), some (vI (x3 + 6))] [] G D3 Q) ∧ (¬ iv z2 = iv z4 → Q (some (vI 0)) G D3))))))))))) : Go E (d + 1) kc ks mL_law 1279 [some (vR 1), some (vR 2), some (vR 214), some (vI x3)] [] G D Q := by
  refine g_aload_n dL_law_1279 rfl rfl ?_
  refine g_aload_n dL_law_1280 rfl rfl ?_
  refine g_iload_n dL_law_1281 rfl rfl ?_
  refine g_iconst dL_law_1282 ?_
  refine g_iadd dL_law_1283 ?_
  refine g_sald dL_law_1284 hL9 ⟨h.1, ?_⟩
  replace h := h.2
  refine g_aload_n dL_law_1285 rfl rfl ?_
  refine g_iload_n dL_law_1286 rfl rfl ?_
  refine g_iconst dL_law_1287 ?_
  refine g_iadd dL_law_1288 ?_
  refine g_sald dL_law_1289 hL9 ⟨h.1, ?_⟩
  replace h := h.2
  refine g_callV (kc := kc) (kc' := 0) (ks := ks) (ks' := 0) (as := [vI ((E.2.2.2.2.1 (x3 + 1).toNat).toInt), vI ((E.2.2.2.2.1 (x3 + 2).toNat).toInt)]) (st := []) (ci := 10) dL_law_1290 cB_X11_tree lk_L_138 in_X11_tree se_X11_tree (by decide) rfl rfl (Nat.le_of_ble_eq_true rfl) (Nat.le_of_ble_eq_true rfl) (by decide) (hG.lt (by decide)) (congrArg Prod.fst hG.k2) ?_
  refine Go.to (fun r G' D1 hr => ?_) h
  obtain ⟨rfl, z2, rfl, h⟩ := hr
  show Go E (d + 1) kc ks mL_law 1293 [some (vR 1), some (vR 2), some (vR 214), some (vI x3)] [vI z2] G D1 Q
  refine g_aload_n dL_law_1293 rfl rfl ?_
  refine g_aload_n dL_law_1294 rfl rfl ?_
  refine g_iload_n dL_law_1295 rfl rfl ?_
  refine g_iconst dL_law_1296 ?_
  refine g_iadd dL_law_1297 ?_
  refine g_sald dL_law_1298 hL9 ⟨h.1, ?_⟩
  replace h := h.2
  refine g_aload_n dL_law_1299 rfl rfl ?_
  refine g_iload_n dL_law_1300 rfl rfl ?_
  refine g_iconst dL_law_1301 ?_
  refine g_iadd dL_law_1302 ?_
  refine g_sald dL_law_1303 hL9 ⟨h.1, ?_⟩
  replace h := h.2
  refine g_callV (kc := kc) (kc' := 0) (ks := ks) (ks' := 0) (as := [vI ((E.2.2.2.2.1 (x3 + 1).toNat).toInt), vI ((E.2.2.2.2.1 (x3 + 2).toNat).toInt)]) (st := [vI z2]) (ci := 11) dL_law_1304 cB_X12_tree lk_L_141 in_X12_tree se_X12_tree (by decide) rfl rfl (Nat.le_of_ble_eq_true rfl) (Nat.le_of_ble_eq_true rfl) (by decide) (hG.lt (by decide)) (congrArg Prod.fst hG.k214) ?_
  refine Go.to (fun r G' D3 hr => ?_) h
  obtain ⟨rfl, z4, rfl, h⟩ := hr
  show Go E (d + 1) kc ks mL_law 1307 [some (vR 1), some (vR 2), some (vR 214), some (vI x3)] [vI z4, vI z2] G D3 Q
  refine g_icmp_eq 1569 dL_law_1307 (by decide) ⟨fun hc => ?_, fun hc => ?_⟩
  · replace h := h.1 hc
    refine h_iinc (L' := [some (vR 1), some (vR 2), some (vR 214), some (vI (x3 + 6))]) dL_law_1569 (Nat.le_of_ble_eq_true rfl) rfl rfl rfl ?_
    refine g_goto 18 dL_law_1572 (by decide) ?_
    exact Go.drop (by simp only [mm_sub, and_self]) h
  · replace h := h.2 hc
    refine g_iconst dL_law_1310 ?_
    exact g_zret dL_law_1311 rfl ⟨Or.inl rfl, h⟩
set_option maxRecDepth 20000 in
theorem w_L_law_1312 {E : mmE} {d kc ks : Nat} {G : mmG} {D : mmD} {Q : mmQ} {x3 : Int} (hG : Sh G) (hL9 : (E.2.2.2.1 : Int) < 2147483648)  (h : ((0 ≤ (x3 + 1) ∧ (x3 + 1) < (E.2.2.2.1 : Int)) ∧ ((0 ≤ (x3 + 2) ∧ (x3 + 2) < (E.2.2.2.1 : Int)) ∧ ((0 ≤ (x3 + 3) ∧ (x3 + 3) < (E.2.2.2.1 : Int)) ∧ ((0 ≤ (x3 + 4) ∧ (x3 + 4) < (E.2.2.2.1 : Int)) ∧ ((iv ((E.2.2.2.2.1 (x3 + 4).toNat).toInt) = iv 0 → ((0 ≤ (x3 + 5) ∧ (x3 + 5) < (E.2.2.2.1 : Int)) ∧ Call E d 0 0 mX11_claim [vR 2, vI ((E.2.2.2.2.1 (x3 + 1).toNat).toInt), vI ((E.2.2.2.2.1 (x3 + 2).toNat).toInt), vI ((E.2.2.2.2.1 (x3 + 3).toNat).toInt), vI 0, vI ((E.2.2.2.2.1 (x3 + 5).toNat).toInt)] G D (retI G (fun z2 D1 => ((0 ≤ (x3 + 1) ∧ (x3 + 1) < (E.2.2.2.1 : Int)) ∧ ((0 ≤ (x3 + 2) ∧ (x3 + 2) < (E.2.2.2.1 : Int)) ∧ ((0 ≤ (x3 + 3) ∧ (x3 + 3) < (E.2.2.2.1 : Int)) ∧ ((0 ≤ (x3 + 4) ∧ (x3 + 4) < (E.2.2.2.1 : Int)) ∧ ((iv ((E.2.2.2.2.1 (x3 + 4).toNat).toInt) = iv 0 → ((0 ≤ (x3 + 5) ∧ (x3 + 5) < (E.2.2.2.1 : Int)) ∧ Call E d 0 0 mX12_claim [vR 214, vI ((E.2.2.2.2.1 (x3 + 1).toNat).toInt), vI ((E.2.2.2.2.1 (x3 + 2).toNat).toInt), vI ((E.2.2.2.2.1 (x3 + 3).toNat).toInt), vI 0, vI ((E.2.2.2.2.1 (x3 + 5).toNat).toInt)] G D1 (retI G (fun z4 D3 => ((iv z2 = iv z4 → Go E (d + 1) kc ks mL_law 18 [some (vR 1), some (vR 2), some (vR 214), some (vI (x3 + 6))] [] G D3 Q) ∧ (¬ iv z2 = iv z4 → Q (some (vI 0)) G D3)))))) ∧ (¬ iv ((E.2.2.2.2.1 (x3 + 4).toNat).toInt) = iv 0 → ((0 ≤ (x3 + 5) ∧ (x3 + 5) < (E.2.2.2.1 : Int)) ∧ Call E d 0 0 mX12_claim [vR 214, vI ((E.2.2.2.2.1 (x3 + 1).toNat).toInt), vI ((E.2.2.2.2.1 (x3 + 2).toNat).toInt), vI ((E.2.2.2.2.1 (x3 + 3).toNat).toInt), vI 1, vI ((E.2.2.2.2.1 (x3 + 5).toNat).toInt)] G D1 (retI G (fun z6 D5 => ((iv z2 = iv z6 → Go E (d + 1) kc ks mL_law 18 [some (vR 1), some (vR 2), some (vR 214), some (vI (x3 + 6))] [] G D5 Q) ∧ (¬ iv z2 = iv z6 → Q (some (vI 0)) G D5))))))))))))))) ∧ (¬ iv ((E.2.2.2.2.1 (x3 + 4).toNat).toInt) = iv 0 → ((0 ≤ (x3 + 5) ∧ (x3 + 5) < (E.2.2.2.1 : Int)) ∧ Call E d 0 0 mX11_claim [vR 2, vI ((E.2.2.2.2.1 (x3 + 1).toNat).toInt), vI ((E.2.2.2.2.1 (x3 + 2).toNat).toInt), vI ((E.2.2.2.2.1 (x3 + 3).toNat).toInt), vI 1, vI ((E.2.2.2.2.1 (x3 + 5).toNat).toInt)] G D (retI G (fun z8 D7 => ((0 ≤ (x3 + 1) ∧ (x3 + 1) < (E.2.2.2.1 : Int)) ∧ ((0 ≤ (x3 + 2) ∧ (x3 + 2) < (E.2.2.2.1 : Int)) ∧ ((0 ≤ (x3 + 3) ∧ (x3 + 3) < (E.2.2.2.1 : Int)) ∧ ((0 ≤ (x3 + 4) ∧ (x3 + 4) < (E.2.2.2.1 : Int)) ∧ ((iv ((E.2.2.2.2.1 (x3 + 4).toNat).toInt) = iv 0 → ((0 ≤ (x3 + 5) ∧ (x3 + 5) < (E.2.2.2.1 : Int)) ∧ Call E d 0 0 mX12_claim [vR 214, vI ((E.2.2.2.2.1 (x3 + 1).toNat).toInt), vI ((E.2.2.2.2.1 (x3 + 2).toNat).toInt), vI ((E.2.2.2.2.1 (x3 + 3).toNat).toInt), vI 0, vI ((E.2.2.2.2.1 (x3 + 5).toNat).toInt)] G D7 (retI G (fun z10 D9 => ((iv z8 = iv z10 → Go E (d + 1) kc ks mL_law 18 [some (vR 1), some (vR 2), some (vR 214), some (vI (x3 + 6))] [] G D9 Q) ∧ (¬ iv z8 = iv z10 → Q (some (vI 0)) G D9)))))) ∧ (¬ iv ((E.2.2.2.2.1 (x3 + 4).toNat).toInt) = iv 0 → ((0 ≤ (x3 + 5) ∧ (x3 + 5) < (E.2.2.2.1 : Int)) ∧ Call E d 0 0 mX12_claim [vR 214, vI ((E.2.2.2.2.1 (x3 + 1).toNat).toInt), vI ((E.2.2.2.2.1 (x3 + 2).toNat).toInt), vI ((E.2.2.2.2.1 (x3 + 3).toNat).toInt), vI 1, vI ((E.2.2.2.2.1 (x3 + 5).toNat).toInt)] G D7 (retI G (fun z12 D11 => ((iv z8 = iv z12 → Go E (d + 1) kc ks mL_law 18 [some (vR 1), some (vR 2), some (vR 214), some (vI (x3 + 6))] [] G D11 Q) ∧ (¬ iv z8 = iv z12 → Q (some (vI 0)) G D11))))))))))))))))))))) : Go E (d + 1) kc ks mL_law 1312 [some (vR 1), some (vR 2), some (vR 214), some (vI x3)] [] G D Q := by
  refine g_aload_n dL_law_1312 rfl rfl ?_
  refine g_aload_n dL_law_1313 rfl rfl ?_
  refine g_iload_n dL_law_1314 rfl rfl ?_
  refine g_iconst dL_law_1315 ?_
  refine g_iadd dL_law_1316 ?_
  refine g_sald dL_law_1317 hL9 ⟨h.1, ?_⟩
  replace h := h.2
  refine g_aload_n dL_law_1318 rfl rfl ?_
  refine g_iload_n dL_law_1319 rfl rfl ?_
  refine g_iconst dL_law_1320 ?_
  refine g_iadd dL_law_1321 ?_
  refine g_sald dL_law_1322 hL9 ⟨h.1, ?_⟩
  replace h := h.2
  refine g_aload_n dL_law_1323 rfl rfl ?_
  refine g_iload_n dL_law_1324 rfl rfl ?_
  refine g_iconst dL_law_1325 ?_
  refine g_iadd dL_law_1326 ?_
  refine g_sald dL_law_1327 hL9 ⟨h.1, ?_⟩
  replace h := h.2
  refine g_aload_n dL_law_1328 rfl rfl ?_
  refine g_iload_n dL_law_1329 rfl rfl ?_
  refine g_iconst dL_law_1330 ?_
  refine g_iadd dL_law_1331 ?_
  refine g_sald dL_law_1332 hL9 ⟨h.1, ?_⟩
  replace h := h.2
  refine g_if_eq 1340 dL_law_1333 (by decide) ⟨fun hc => ?_, fun hc => ?_⟩
  · replace h := h.1 hc
    refine g_iconst dL_law_1340 ?_
    refine g_aload_n dL_law_1341 rfl rfl ?_
    refine g_iload_n dL_law_1342 rfl rfl ?_
    refine g_iconst dL_law_1343 ?_
    refine g_iadd dL_law_1344 ?_
    refine g_sald dL_law_1345 hL9 ⟨h.1, ?_⟩
    replace h := h.2
    refine g_callV (kc := kc) (kc' := 0) (ks := ks) (ks' := 0) (as := [vI ((E.2.2.2.2.1 (x3 + 1).toNat).toInt), vI ((E.2.2.2.2.1 (x3 + 2).toNat).toInt), vI ((E.2.2.2.2.1 (x3 + 3).toNat).toInt), vI 0, vI ((E.2.2.2.2.1 (x3 + 5).toNat).toInt)]) (st := []) (ci := 10) dL_law_1346 cB_X11_claim lk_L_142 in_X11_claim se_X11_claim (by decide) rfl rfl (Nat.le_of_ble_eq_true rfl) (Nat.le_of_ble_eq_true rfl) (by decide) (hG.lt (by decide)) (congrArg Prod.fst hG.k2) ?_
    refine Go.to (fun r G' D1 hr => ?_) h
    obtain ⟨rfl, z2, rfl, h⟩ := hr
    show Go E (d + 1) kc ks mL_law 1349 [some (vR 1), some (vR 2), some (vR 214), some (vI x3)] [vI z2] G D1 Q
    refine g_aload_n dL_law_1349 rfl rfl ?_
    refine g_aload_n dL_law_1350 rfl rfl ?_
    refine g_iload_n dL_law_1351 rfl rfl ?_
    refine g_iconst dL_law_1352 ?_
    refine g_iadd dL_law_1353 ?_
    refine g_sald dL_law_1354 hL9 ⟨h.1, ?_⟩
    replace h := h.2
    refine g_aload_n dL_law_1355 rfl rfl ?_
    refine g_iload_n dL_law_1356 rfl rfl ?_
    refine g_iconst dL_law_1357 ?_
    refine g_iadd dL_law_1358 ?_
    refine g_sald dL_law_1359 hL9 ⟨h.1, ?_⟩
    replace h := h.2
    refine g_aload_n dL_law_1360 rfl rfl ?_
    refine g_iload_n dL_law_1361 rfl rfl ?_
    refine g_iconst dL_law_1362 ?_
    refine g_iadd dL_law_1363 ?_
    refine g_sald dL_law_1364 hL9 ⟨h.1, ?_⟩
    replace h := h.2
    refine g_aload_n dL_law_1365 rfl rfl ?_
    refine g_iload_n dL_law_1366 rfl rfl ?_
    refine g_iconst dL_law_1367 ?_
    refine g_iadd dL_law_1368 ?_
    refine g_sald dL_law_1369 hL9 ⟨h.1, ?_⟩
    replace h := h.2
    refine g_if_eq 1377 dL_law_1370 (by decide) ⟨fun hc => ?_, fun hc => ?_⟩
    · replace h := h.1 hc
      refine g_iconst dL_law_1377 ?_
      refine g_aload_n dL_law_1378 rfl rfl ?_
      refine g_iload_n dL_law_1379 rfl rfl ?_
      refine g_iconst dL_law_1380 ?_
      refine g_iadd dL_law_1381 ?_
      refine g_sald dL_law_1382 hL9 ⟨h.1, ?_⟩
      replace h := h.2
      refine g_callV (kc := kc) (kc' := 0) (ks := ks) (ks' := 0) (as := [vI ((E.2.2.2.2.1 (x3 + 1).toNat).toInt), vI ((E.2.2.2.2.1 (x3 + 2).toNat).toInt), vI ((E.2.2.2.2.1 (x3 + 3).toNat).toInt), vI 0, vI ((E.2.2.2.2.1 (x3 + 5).toNat).toInt)]) (st := [vI z2]) (ci := 11) dL_law_1383 cB_X12_claim lk_L_146 in_X12_claim se_X12_claim (by decide) rfl rfl (Nat.le_of_ble_eq_true rfl) (Nat.le_of_ble_eq_true rfl) (by decide) (hG.lt (by decide)) (congrArg Prod.fst hG.k214) ?_
      refine Go.to (fun r G' D3 hr => ?_) h
      obtain ⟨rfl, z4, rfl, h⟩ := hr
      show Go E (d + 1) kc ks mL_law 1386 [some (vR 1), some (vR 2), some (vR 214), some (vI x3)] [vI z4, vI z2] G D3 Q
      refine g_icmp_eq 1569 dL_law_1386 (by decide) ⟨fun hc => ?_, fun hc => ?_⟩
      · replace h := h.1 hc
        refine h_iinc (L' := [some (vR 1), some (vR 2), some (vR 214), some (vI (x3 + 6))]) dL_law_1569 (Nat.le_of_ble_eq_true rfl) rfl rfl rfl ?_
        refine g_goto 18 dL_law_1572 (by decide) ?_
        exact Go.drop (by simp only [mm_sub, and_self]) h
      · replace h := h.2 hc
        refine g_iconst dL_law_1389 ?_
        exact g_zret dL_law_1390 rfl ⟨Or.inl rfl, h⟩
    · replace h := h.2 hc
      refine g_iconst dL_law_1373 ?_
      refine g_goto 1378 dL_law_1374 (by decide) ?_
      refine g_aload_n dL_law_1378 rfl rfl ?_
      refine g_iload_n dL_law_1379 rfl rfl ?_
      refine g_iconst dL_law_1380 ?_
      refine g_iadd dL_law_1381 ?_
      refine g_sald dL_law_1382 hL9 ⟨h.1, ?_⟩
      replace h := h.2
      refine g_callV (kc := kc) (kc' := 0) (ks := ks) (ks' := 0) (as := [vI ((E.2.2.2.2.1 (x3 + 1).toNat).toInt), vI ((E.2.2.2.2.1 (x3 + 2).toNat).toInt), vI ((E.2.2.2.2.1 (x3 + 3).toNat).toInt), vI 1, vI ((E.2.2.2.2.1 (x3 + 5).toNat).toInt)]) (st := [vI z2]) (ci := 11) dL_law_1383 cB_X12_claim lk_L_146 in_X12_claim se_X12_claim (by decide) rfl rfl (Nat.le_of_ble_eq_true rfl) (Nat.le_of_ble_eq_true rfl) (by decide) (hG.lt (by decide)) (congrArg Prod.fst hG.k214) ?_
      refine Go.to (fun r G' D5 hr => ?_) h
      obtain ⟨rfl, z6, rfl, h⟩ := hr
      show Go E (d + 1) kc ks mL_law 1386 [some (vR 1), some (vR 2), some (vR 214), some (vI x3)] [vI z6, vI z2] G D5 Q
      refine g_icmp_eq 1569 dL_law_1386 (by decide) ⟨fun hc => ?_, fun hc => ?_⟩
      · replace h := h.1 hc
        refine h_iinc (L' := [some (vR 1), some (vR 2), some (vR 214), some (vI (x3 + 6))]) dL_law_1569 (Nat.le_of_ble_eq_true rfl) rfl rfl rfl ?_
        refine g_goto 18 dL_law_1572 (by decide) ?_
        exact Go.drop (by simp only [mm_sub, and_self]) h
      · replace h := h.2 hc
        refine g_iconst dL_law_1389 ?_
        exact g_zret dL_law_1390 rfl ⟨Or.inl rfl, h⟩
  · replace h := h.2 hc
    refine g_iconst dL_law_1336 ?_
    refine g_goto 1341 dL_law_1337 (by decide) ?_
    refine g_aload_n dL_law_1341 rfl rfl ?_
    refine g_iload_n dL_law_1342 rfl rfl ?_
    refine g_iconst dL_law_1343 ?_
    refine g_iadd dL_law_1344 ?_
    refine g_sald dL_law_1345 hL9 ⟨h.1, ?_⟩
    replace h := h.2
    refine g_callV (kc := kc) (kc' := 0) (ks := ks) (ks' := 0) (as := [vI ((E.2.2.2.2.1 (x3 + 1).toNat).toInt), vI ((E.2.2.2.2.1 (x3 + 2).toNat).toInt), vI ((E.2.2.2.2.1 (x3 + 3).toNat).toInt), vI 1, vI ((E.2.2.2.2.1 (x3 + 5).toNat).toInt)]) (st := []) (ci := 10) dL_law_1346 cB_X11_claim lk_L_142 in_X11_claim se_X11_claim (by decide) rfl rfl (Nat.le_of_ble_eq_true rfl) (Nat.le_of_ble_eq_true rfl) (by decide) (hG.lt (by decide)) (congrArg Prod.fst hG.k2) ?_
    refine Go.to (fun r G' D7 hr => ?_) h
    obtain ⟨rfl, z8, rfl, h⟩ := hr
    show Go E (d + 1) kc ks mL_law 1349 [some (vR 1), some (vR 2), some (vR 214), some (vI x3)] [vI z8] G D7 Q
    refine g_aload_n dL_law_1349 rfl rfl ?_
    refine g_aload_n dL_law_1350 rfl rfl ?_
    refine g_iload_n dL_law_1351 rfl rfl ?_
    refine g_iconst dL_law_1352 ?_
    refine g_iadd dL_law_1353 ?_
    refine g_sald dL_law_1354 hL9 ⟨h.1, ?_⟩
    replace h := h.2
    refine g_aload_n dL_law_1355 rfl rfl ?_
    refine g_iload_n dL_law_1356 rfl rfl ?_
    refine g_iconst dL_law_1357 ?_
    refine g_iadd dL_law_1358 ?_
    refine g_sald dL_law_1359 hL9 ⟨h.1, ?_⟩
    replace h := h.2
    refine g_aload_n dL_law_1360 rfl rfl ?_
    refine g_iload_n dL_law_1361 rfl rfl ?_
    refine g_iconst dL_law_1362 ?_
    refine g_iadd dL_law_1363 ?_
    refine g_sald dL_law_1364 hL9 ⟨h.1, ?_⟩
    replace h := h.2
    refine g_aload_n dL_law_1365 rfl rfl ?_
    refine g_iload_n dL_law_1366 rfl rfl ?_
    refine g_iconst dL_law_1367 ?_
    refine g_iadd dL_law_1368 ?_
    refine g_sald dL_law_1369 hL9 ⟨h.1, ?_⟩
    replace h := h.2
    refine g_if_eq 1377 dL_law_1370 (by decide) ⟨fun hc => ?_, fun hc => ?_⟩
    · replace h := h.1 hc
      refine g_iconst dL_law_1377 ?_
      refine g_aload_n dL_law_1378 rfl rfl ?_
      refine g_iload_n dL_law_1379 rfl rfl ?_
      refine g_iconst dL_law_1380 ?_
      refine g_iadd dL_law_1381 ?_
      refine g_sald dL_law_1382 hL9 ⟨h.1, ?_⟩
      replace h := h.2
      refine g_callV (kc := kc) (kc' := 0) (ks := ks) (ks' := 0) (as := [vI ((E.2.2.2.2.1 (x3 + 1).toNat).toInt), vI ((E.2.2.2.2.1 (x3 + 2).toNat).toInt), vI ((E.2.2.2.2.1 (x3 + 3).toNat).toInt), vI 0, vI ((E.2.2.2.2.1 (x3 + 5).toNat).toInt)]) (st := [vI z8]) (ci := 11) dL_law_1383 cB_X12_claim lk_L_146 in_X12_claim se_X12_claim (by decide) rfl rfl (Nat.le_of_ble_eq_true rfl) (Nat.le_of_ble_eq_true rfl) (by decide) (hG.lt (by decide)) (congrArg Prod.fst hG.k214) ?_
      refine Go.to (fun r G' D9 hr => ?_) h
      obtain ⟨rfl, z10, rfl, h⟩ := hr
      show Go E (d + 1) kc ks mL_law 1386 [some (vR 1), some (vR 2), some (vR 214), some (vI x3)] [vI z10, vI z8] G D9 Q
      refine g_icmp_eq 1569 dL_law_1386 (by decide) ⟨fun hc => ?_, fun hc => ?_⟩
      · replace h := h.1 hc
        refine h_iinc (L' := [some (vR 1), some (vR 2), some (vR 214), some (vI (x3 + 6))]) dL_law_1569 (Nat.le_of_ble_eq_true rfl) rfl rfl rfl ?_
        refine g_goto 18 dL_law_1572 (by decide) ?_
        exact Go.drop (by simp only [mm_sub, and_self]) h
      · replace h := h.2 hc
        refine g_iconst dL_law_1389 ?_
        exact g_zret dL_law_1390 rfl ⟨Or.inl rfl, h⟩
    · replace h := h.2 hc
      refine g_iconst dL_law_1373 ?_
      refine g_goto 1378 dL_law_1374 (by decide) ?_
      refine g_aload_n dL_law_1378 rfl rfl ?_
      refine g_iload_n dL_law_1379 rfl rfl ?_
      refine g_iconst dL_law_1380 ?_
      refine g_iadd dL_law_1381 ?_
      refine g_sald dL_law_1382 hL9 ⟨h.1, ?_⟩
      replace h := h.2
      refine g_callV (kc := kc) (kc' := 0) (ks := ks) (ks' := 0) (as := [vI ((E.2.2.2.2.1 (x3 + 1).toNat).toInt), vI ((E.2.2.2.2.1 (x3 + 2).toNat).toInt), vI ((E.2.2.2.2.1 (x3 + 3).toNat).toInt), vI 1, vI ((E.2.2.2.2.1 (x3 + 5).toNat).toInt)]) (st := [vI z8]) (ci := 11) dL_law_1383 cB_X12_claim lk_L_146 in_X12_claim se_X12_claim (by decide) rfl rfl (Nat.le_of_ble_eq_true rfl) (Nat.le_of_ble_eq_true rfl) (by decide) (hG.lt (by decide)) (congrArg Prod.fst hG.k214) ?_
      refine Go.to (fun r G' D11 hr => ?_) h
      obtain ⟨rfl, z12, rfl, h⟩ := hr
      show Go E (d + 1) kc ks mL_law 1386 [some (vR 1), some (vR 2), some (vR 214), some (vI x3)] [vI z12, vI z8] G D11 Q
      refine g_icmp_eq 1569 dL_law_1386 (by decide) ⟨fun hc => ?_, fun hc => ?_⟩
      · replace h := h.1 hc
        refine h_iinc (L' := [some (vR 1), some (vR 2), some (vR 214), some (vI (x3 + 6))]) dL_law_1569 (Nat.le_of_ble_eq_true rfl) rfl rfl rfl ?_
        refine g_goto 18 dL_law_1572 (by decide) ?_
        exact Go.drop (by simp only [mm_sub, and_self]) h
      · replace h := h.2 hc
        refine g_iconst dL_law_1389 ?_
        exact g_zret dL_law_1390 rfl ⟨Or.inl rfl, h⟩
set_option maxRecDepth 20000 in
theorem w_L_law_1391 {E : mmE} {d kc ks : Nat} {G : mmG} {D : mmD} {Q : mmQ} {x3 : Int} (hG : Sh G) (hL9 : (E.2.2.2.1 : Int) < 2147483648)  (h : ((0 ≤ (x3 + 1) ∧ (x3 + 1) < (E.2.2.2.1 : Int)) ∧ Call E d 0 0 mX11_right [vR 2, vI ((E.2.2.2.2.1 (x3 + 1).toNat).toInt)] G D (retI G (fun z2 D1 => ((0 ≤ (x3 + 1) ∧ (x3 + 1) < (E.2.2.2.1 : Int)) ∧ Call E d 0 0 mX12_right [vR 214, vI ((E.2.2.2.2.1 (x3 + 1).toNat).toInt)] G D1 (retI G (fun z4 D3 => ((iv z2 = iv z4 → Go E (d + 1) kc ks mL_law 18 [some (vR 1), some (vR 2), some (vR 214), some (vI (x3 + 6))] [] G D3 Q) ∧ (¬ iv z2 = iv z4 → Q (some (vI 0)) G D3))))))))) : Go E (d + 1) kc ks mL_law 1391 [some (vR 1), some (vR 2), some (vR 214), some (vI x3)] [] G D Q := by
  refine g_aload_n dL_law_1391 rfl rfl ?_
  refine g_aload_n dL_law_1392 rfl rfl ?_
  refine g_iload_n dL_law_1393 rfl rfl ?_
  refine g_iconst dL_law_1394 ?_
  refine g_iadd dL_law_1395 ?_
  refine g_sald dL_law_1396 hL9 ⟨h.1, ?_⟩
  replace h := h.2
  refine g_callV (kc := kc) (kc' := 0) (ks := ks) (ks' := 0) (as := [vI ((E.2.2.2.2.1 (x3 + 1).toNat).toInt)]) (st := []) (ci := 10) dL_law_1397 cB_X11_right lk_L_147 in_X11_right se_X11_right (by decide) rfl rfl (Nat.le_of_ble_eq_true rfl) (Nat.le_of_ble_eq_true rfl) (by decide) (hG.lt (by decide)) (congrArg Prod.fst hG.k2) ?_
  refine Go.to (fun r G' D1 hr => ?_) h
  obtain ⟨rfl, z2, rfl, h⟩ := hr
  show Go E (d + 1) kc ks mL_law 1400 [some (vR 1), some (vR 2), some (vR 214), some (vI x3)] [vI z2] G D1 Q
  refine g_aload_n dL_law_1400 rfl rfl ?_
  refine g_aload_n dL_law_1401 rfl rfl ?_
  refine g_iload_n dL_law_1402 rfl rfl ?_
  refine g_iconst dL_law_1403 ?_
  refine g_iadd dL_law_1404 ?_
  refine g_sald dL_law_1405 hL9 ⟨h.1, ?_⟩
  replace h := h.2
  refine g_callV (kc := kc) (kc' := 0) (ks := ks) (ks' := 0) (as := [vI ((E.2.2.2.2.1 (x3 + 1).toNat).toInt)]) (st := [vI z2]) (ci := 11) dL_law_1406 cB_X12_right lk_L_150 in_X12_right se_X12_right (by decide) rfl rfl (Nat.le_of_ble_eq_true rfl) (Nat.le_of_ble_eq_true rfl) (by decide) (hG.lt (by decide)) (congrArg Prod.fst hG.k214) ?_
  refine Go.to (fun r G' D3 hr => ?_) h
  obtain ⟨rfl, z4, rfl, h⟩ := hr
  show Go E (d + 1) kc ks mL_law 1409 [some (vR 1), some (vR 2), some (vR 214), some (vI x3)] [vI z4, vI z2] G D3 Q
  refine g_icmp_eq 1569 dL_law_1409 (by decide) ⟨fun hc => ?_, fun hc => ?_⟩
  · replace h := h.1 hc
    refine h_iinc (L' := [some (vR 1), some (vR 2), some (vR 214), some (vI (x3 + 6))]) dL_law_1569 (Nat.le_of_ble_eq_true rfl) rfl rfl rfl ?_
    refine g_goto 18 dL_law_1572 (by decide) ?_
    exact Go.drop (by simp only [mm_sub, and_self]) h
  · replace h := h.2 hc
    refine g_iconst dL_law_1412 ?_
    exact g_zret dL_law_1413 rfl ⟨Or.inl rfl, h⟩
set_option maxRecDepth 20000 in
theorem w_L_law_1414 {E : mmE} {d kc ks : Nat} {G : mmG} {D : mmD} {Q : mmQ} {x3 : Int} (hG : Sh G) (hL9 : (E.2.2.2.1 : Int) < 2147483648)  (h : ((0 ≤ (x3 + 1) ∧ (x3 + 1) < (E.2.2.2.1 : Int)) ∧ ((0 ≤ (x3 + 2) ∧ (x3 + 2) < (E.2.2.2.1 : Int)) ∧ Call E d 0 0 mX11_sure [vR 2, vI ((E.2.2.2.2.1 (x3 + 1).toNat).toInt), vI ((E.2.2.2.2.1 (x3 + 2).toNat).toInt)] G D (retI G (fun z2 D1 => ((0 ≤ (x3 + 1) ∧ (x3 + 1) < (E.2.2.2.1 : Int)) ∧ ((0 ≤ (x3 + 2) ∧ (x3 + 2) < (E.2.2.2.1 : Int)) ∧ Call E d 0 0 mX12_sure [vR 214, vI ((E.2.2.2.2.1 (x3 + 1).toNat).toInt), vI ((E.2.2.2.2.1 (x3 + 2).toNat).toInt)] G D1 (retI G (fun z4 D3 => ((iv z2 = iv z4 → Go E (d + 1) kc ks mL_law 18 [some (vR 1), some (vR 2), some (vR 214), some (vI (x3 + 6))] [] G D3 Q) ∧ (¬ iv z2 = iv z4 → Q (some (vI 0)) G D3))))))))))) : Go E (d + 1) kc ks mL_law 1414 [some (vR 1), some (vR 2), some (vR 214), some (vI x3)] [] G D Q := by
  refine g_aload_n dL_law_1414 rfl rfl ?_
  refine g_aload_n dL_law_1415 rfl rfl ?_
  refine g_iload_n dL_law_1416 rfl rfl ?_
  refine g_iconst dL_law_1417 ?_
  refine g_iadd dL_law_1418 ?_
  refine g_sald dL_law_1419 hL9 ⟨h.1, ?_⟩
  replace h := h.2
  refine g_aload_n dL_law_1420 rfl rfl ?_
  refine g_iload_n dL_law_1421 rfl rfl ?_
  refine g_iconst dL_law_1422 ?_
  refine g_iadd dL_law_1423 ?_
  refine g_sald dL_law_1424 hL9 ⟨h.1, ?_⟩
  replace h := h.2
  refine g_callV (kc := kc) (kc' := 0) (ks := ks) (ks' := 0) (as := [vI ((E.2.2.2.2.1 (x3 + 1).toNat).toInt), vI ((E.2.2.2.2.1 (x3 + 2).toNat).toInt)]) (st := []) (ci := 10) dL_law_1425 cB_X11_sure lk_L_151 in_X11_sure se_X11_sure (by decide) rfl rfl (Nat.le_of_ble_eq_true rfl) (Nat.le_of_ble_eq_true rfl) (by decide) (hG.lt (by decide)) (congrArg Prod.fst hG.k2) ?_
  refine Go.to (fun r G' D1 hr => ?_) h
  obtain ⟨rfl, z2, rfl, h⟩ := hr
  show Go E (d + 1) kc ks mL_law 1428 [some (vR 1), some (vR 2), some (vR 214), some (vI x3)] [vI z2] G D1 Q
  refine g_aload_n dL_law_1428 rfl rfl ?_
  refine g_aload_n dL_law_1429 rfl rfl ?_
  refine g_iload_n dL_law_1430 rfl rfl ?_
  refine g_iconst dL_law_1431 ?_
  refine g_iadd dL_law_1432 ?_
  refine g_sald dL_law_1433 hL9 ⟨h.1, ?_⟩
  replace h := h.2
  refine g_aload_n dL_law_1434 rfl rfl ?_
  refine g_iload_n dL_law_1435 rfl rfl ?_
  refine g_iconst dL_law_1436 ?_
  refine g_iadd dL_law_1437 ?_
  refine g_sald dL_law_1438 hL9 ⟨h.1, ?_⟩
  replace h := h.2
  refine g_callV (kc := kc) (kc' := 0) (ks := ks) (ks' := 0) (as := [vI ((E.2.2.2.2.1 (x3 + 1).toNat).toInt), vI ((E.2.2.2.2.1 (x3 + 2).toNat).toInt)]) (st := [vI z2]) (ci := 11) dL_law_1439 cB_X12_sure lk_L_154 in_X12_sure se_X12_sure (by decide) rfl rfl (Nat.le_of_ble_eq_true rfl) (Nat.le_of_ble_eq_true rfl) (by decide) (hG.lt (by decide)) (congrArg Prod.fst hG.k214) ?_
  refine Go.to (fun r G' D3 hr => ?_) h
  obtain ⟨rfl, z4, rfl, h⟩ := hr
  show Go E (d + 1) kc ks mL_law 1442 [some (vR 1), some (vR 2), some (vR 214), some (vI x3)] [vI z4, vI z2] G D3 Q
  refine g_icmp_eq 1569 dL_law_1442 (by decide) ⟨fun hc => ?_, fun hc => ?_⟩
  · replace h := h.1 hc
    refine h_iinc (L' := [some (vR 1), some (vR 2), some (vR 214), some (vI (x3 + 6))]) dL_law_1569 (Nat.le_of_ble_eq_true rfl) rfl rfl rfl ?_
    refine g_goto 18 dL_law_1572 (by decide) ?_
    exact Go.drop (by simp only [mm_sub, and_self]) h
  · replace h := h.2 hc
    refine g_iconst dL_law_1445 ?_
    exact g_zret dL_law_1446 rfl ⟨Or.inl rfl, h⟩
set_option maxRecDepth 20000 in
theorem w_L_law_1447 {E : mmE} {d kc ks : Nat} {G : mmG} {D : mmD} {Q : mmQ} {x3 : Int} (hG : Sh G) (hL9 : (E.2.2.2.1 : Int) < 2147483648)  (h : ((0 ≤ (x3 + 1) ∧ (x3 + 1) < (E.2.2.2.1 : Int)) ∧ ((0 ≤ (x3 + 2) ∧ (x3 + 2) < (E.2.2.2.1 : Int)) ∧ ((0 ≤ (x3 + 3) ∧ (x3 + 3) < (E.2.2.2.1 : Int)) ∧ Call E d 0 0 mX11_act [vR 2, vI ((E.2.2.2.2.1 (x3 + 1).toNat).toInt), vI ((E.2.2.2.2.1 (x3 + 2).toNat).toInt), vI ((E.2.2.2.2.1 (x3 + 3).toNat).toInt)] G D (retIG (fun z2 G3 D1 => (Sh G3 ∧ ((0 ≤ (x3 + 1) ∧ (x3 + 1) < (E.2.2.2.1 : Int)) ∧ ((0 ≤ (x3 + 2) ∧ (x3 + 2) < (E.2.2.2.1 : Int)) ∧ ((0 ≤ (x3 + 3) ∧ (x3 + 3) < (E.2.2.2.1 : Int)) ∧ Call E d 0 0 mX12_act [vR 214, vI ((E.2.2.2.2.1 (x3 + 1).toNat).toInt), vI ((E.2.2.2.2.1 (x3 + 2).toNat).toInt), vI ((E.2.2.2.2.1 (x3 + 3).toNat).toInt)] G3 D1 (retI G3 (fun z6 D5 => ((iv z2 = iv z6 → Go E (d + 1) kc ks mL_law 18 [some (vR 1), some (vR 2), some (vR 214), some (vI (x3 + 6))] [] G3 D5 Q) ∧ (¬ iv z2 = iv z6 → Q (some (vI 0)) G3 D5)))))))))))))) : Go E (d + 1) kc ks mL_law 1447 [some (vR 1), some (vR 2), some (vR 214), some (vI x3)] [] G D Q := by
  refine g_aload_n dL_law_1447 rfl rfl ?_
  refine g_aload_n dL_law_1448 rfl rfl ?_
  refine g_iload_n dL_law_1449 rfl rfl ?_
  refine g_iconst dL_law_1450 ?_
  refine g_iadd dL_law_1451 ?_
  refine g_sald dL_law_1452 hL9 ⟨h.1, ?_⟩
  replace h := h.2
  refine g_aload_n dL_law_1453 rfl rfl ?_
  refine g_iload_n dL_law_1454 rfl rfl ?_
  refine g_iconst dL_law_1455 ?_
  refine g_iadd dL_law_1456 ?_
  refine g_sald dL_law_1457 hL9 ⟨h.1, ?_⟩
  replace h := h.2
  refine g_aload_n dL_law_1458 rfl rfl ?_
  refine g_iload_n dL_law_1459 rfl rfl ?_
  refine g_iconst dL_law_1460 ?_
  refine g_iadd dL_law_1461 ?_
  refine g_sald dL_law_1462 hL9 ⟨h.1, ?_⟩
  replace h := h.2
  refine g_callV (kc := kc) (kc' := 0) (ks := ks) (ks' := 0) (as := [vI ((E.2.2.2.2.1 (x3 + 1).toNat).toInt), vI ((E.2.2.2.2.1 (x3 + 2).toNat).toInt), vI ((E.2.2.2.2.1 (x3 + 3).toNat).toInt)]) (st := []) (ci := 10) dL_law_1463 cB_X11_act lk_L_155 in_X11_act se_X11_act (by decide) rfl rfl (Nat.le_of_ble_eq_true rfl) (Nat.le_of_ble_eq_true rfl) (by decide) (hG.lt (by decide)) (congrArg Prod.fst hG.k2) ?_
  refine Go.to (fun r G3 D1 hr => ?_) h
  obtain ⟨z2, rfl, hG4, h⟩ := hr
  show Go E (d + 1) kc ks mL_law 1466 [some (vR 1), some (vR 2), some (vR 214), some (vI x3)] [vI z2] G3 D1 Q
  refine g_aload_n dL_law_1466 rfl rfl ?_
  refine g_aload_n dL_law_1467 rfl rfl ?_
  refine g_iload_n dL_law_1468 rfl rfl ?_
  refine g_iconst dL_law_1469 ?_
  refine g_iadd dL_law_1470 ?_
  refine g_sald dL_law_1471 hL9 ⟨h.1, ?_⟩
  replace h := h.2
  refine g_aload_n dL_law_1472 rfl rfl ?_
  refine g_iload_n dL_law_1473 rfl rfl ?_
  refine g_iconst dL_law_1474 ?_
  refine g_iadd dL_law_1475 ?_
  refine g_sald dL_law_1476 hL9 ⟨h.1, ?_⟩
  replace h := h.2
  refine g_aload_n dL_law_1477 rfl rfl ?_
  refine g_iload_n dL_law_1478 rfl rfl ?_
  refine g_iconst dL_law_1479 ?_
  refine g_iadd dL_law_1480 ?_
  refine g_sald dL_law_1481 hL9 ⟨h.1, ?_⟩
  replace h := h.2
  refine g_callV (kc := kc) (kc' := 0) (ks := ks) (ks' := 0) (as := [vI ((E.2.2.2.2.1 (x3 + 1).toNat).toInt), vI ((E.2.2.2.2.1 (x3 + 2).toNat).toInt), vI ((E.2.2.2.2.1 (x3 + 3).toNat).toInt)]) (st := [vI z2]) (ci := 11) dL_law_1482 cB_X12_act lk_L_158 in_X12_act se_X12_act (by decide) rfl rfl (Nat.le_of_ble_eq_true rfl) (Nat.le_of_ble_eq_true rfl) (by decide) (hG4.lt (by decide)) (congrArg Prod.fst hG4.k214) ?_
  refine Go.to (fun r G' D5 hr => ?_) h
  obtain ⟨rfl, z6, rfl, h⟩ := hr
  show Go E (d + 1) kc ks mL_law 1485 [some (vR 1), some (vR 2), some (vR 214), some (vI x3)] [vI z6, vI z2] G3 D5 Q
  refine g_icmp_eq 1569 dL_law_1485 (by decide) ⟨fun hc => ?_, fun hc => ?_⟩
  · replace h := h.1 hc
    refine h_iinc (L' := [some (vR 1), some (vR 2), some (vR 214), some (vI (x3 + 6))]) dL_law_1569 (Nat.le_of_ble_eq_true rfl) rfl rfl rfl ?_
    refine g_goto 18 dL_law_1572 (by decide) ?_
    exact Go.drop (by simp only [mm_sub, and_self]) h
  · replace h := h.2 hc
    refine g_iconst dL_law_1488 ?_
    exact g_zret dL_law_1489 rfl ⟨Or.inl rfl, h⟩
set_option maxRecDepth 20000 in
theorem w_L_law_1490 {E : mmE} {d kc ks : Nat} {G : mmG} {D : mmD} {Q : mmQ} {x3 : Int} (hG : Sh G) (hL9 : (E.2.2.2.1 : Int) < 2147483648)  (h : ((0 ≤ (x3 + 1) ∧ (x3 + 1) < (E.2.2.2.1 : Int)) ∧ Call E d 0 0 mX11_trace [vR 2, vI ((E.2.2.2.2.1 (x3 + 1).toNat).toInt)] G D (retI G (fun z2 D1 => ((0 ≤ (x3 + 1) ∧ (x3 + 1) < (E.2.2.2.1 : Int)) ∧ Call E d 0 0 mX12_trace [vR 214, vI ((E.2.2.2.2.1 (x3 + 1).toNat).toInt)] G D1 (retI G (fun z4 D3 => ((iv z2 = iv z4 → Go E (d + 1) kc ks mL_law 18 [some (vR 1), some (vR 2), some (vR 214), some (vI (x3 + 6))] [] G D3 Q) ∧ (¬ iv z2 = iv z4 → Q (some (vI 0)) G D3))))))))) : Go E (d + 1) kc ks mL_law 1490 [some (vR 1), some (vR 2), some (vR 214), some (vI x3)] [] G D Q := by
  refine g_aload_n dL_law_1490 rfl rfl ?_
  refine g_aload_n dL_law_1491 rfl rfl ?_
  refine g_iload_n dL_law_1492 rfl rfl ?_
  refine g_iconst dL_law_1493 ?_
  refine g_iadd dL_law_1494 ?_
  refine g_sald dL_law_1495 hL9 ⟨h.1, ?_⟩
  replace h := h.2
  refine g_callV (kc := kc) (kc' := 0) (ks := ks) (ks' := 0) (as := [vI ((E.2.2.2.2.1 (x3 + 1).toNat).toInt)]) (st := []) (ci := 10) dL_law_1496 cB_X11_trace lk_L_159 in_X11_trace se_X11_trace (by decide) rfl rfl (Nat.le_of_ble_eq_true rfl) (Nat.le_of_ble_eq_true rfl) (by decide) (hG.lt (by decide)) (congrArg Prod.fst hG.k2) ?_
  refine Go.to (fun r G' D1 hr => ?_) h
  obtain ⟨rfl, z2, rfl, h⟩ := hr
  show Go E (d + 1) kc ks mL_law 1499 [some (vR 1), some (vR 2), some (vR 214), some (vI x3)] [vI z2] G D1 Q
  refine g_aload_n dL_law_1499 rfl rfl ?_
  refine g_aload_n dL_law_1500 rfl rfl ?_
  refine g_iload_n dL_law_1501 rfl rfl ?_
  refine g_iconst dL_law_1502 ?_
  refine g_iadd dL_law_1503 ?_
  refine g_sald dL_law_1504 hL9 ⟨h.1, ?_⟩
  replace h := h.2
  refine g_callV (kc := kc) (kc' := 0) (ks := ks) (ks' := 0) (as := [vI ((E.2.2.2.2.1 (x3 + 1).toNat).toInt)]) (st := [vI z2]) (ci := 11) dL_law_1505 cB_X12_trace lk_L_162 in_X12_trace se_X12_trace (by decide) rfl rfl (Nat.le_of_ble_eq_true rfl) (Nat.le_of_ble_eq_true rfl) (by decide) (hG.lt (by decide)) (congrArg Prod.fst hG.k214) ?_
  refine Go.to (fun r G' D3 hr => ?_) h
  obtain ⟨rfl, z4, rfl, h⟩ := hr
  show Go E (d + 1) kc ks mL_law 1508 [some (vR 1), some (vR 2), some (vR 214), some (vI x3)] [vI z4, vI z2] G D3 Q
  refine g_icmp_eq 1569 dL_law_1508 (by decide) ⟨fun hc => ?_, fun hc => ?_⟩
  · replace h := h.1 hc
    refine h_iinc (L' := [some (vR 1), some (vR 2), some (vR 214), some (vI (x3 + 6))]) dL_law_1569 (Nat.le_of_ble_eq_true rfl) rfl rfl rfl ?_
    refine g_goto 18 dL_law_1572 (by decide) ?_
    exact Go.drop (by simp only [mm_sub, and_self]) h
  · replace h := h.2 hc
    refine g_iconst dL_law_1511 ?_
    exact g_zret dL_law_1512 rfl ⟨Or.inl rfl, h⟩
set_option maxRecDepth 20000 in
theorem w_L_law_1513 {E : mmE} {d kc ks : Nat} {G : mmG} {D : mmD} {Q : mmQ} {x3 : Int} (hG : Sh G) (hL9 : (E.2.2.2.1 : Int) < 2147483648)  (h : ((0 ≤ (x3 + 1) ∧ (x3 + 1) < (E.2.2.2.1 : Int)) ∧ ((0 ≤ (x3 + 2) ∧ (x3 + 2) < (E.2.2.2.1 : Int)) ∧ Call E d 0 0 mX11_as [vR 2, vI ((E.2.2.2.2.1 (x3 + 1).toNat).toInt), vI ((E.2.2.2.2.1 (x3 + 2).toNat).toInt)] G D (retI G (fun z2 D1 => ((0 ≤ (x3 + 1) ∧ (x3 + 1) < (E.2.2.2.1 : Int)) ∧ ((0 ≤ (x3 + 2) ∧ (x3 + 2) < (E.2.2.2.1 : Int)) ∧ Call E d 0 0 mX12_as [vR 214, vI ((E.2.2.2.2.1 (x3 + 1).toNat).toInt), vI ((E.2.2.2.2.1 (x3 + 2).toNat).toInt)] G D1 (retI G (fun z4 D3 => ((iv z2 = iv z4 → Go E (d + 1) kc ks mL_law 18 [some (vR 1), some (vR 2), some (vR 214), some (vI (x3 + 6))] [] G D3 Q) ∧ (¬ iv z2 = iv z4 → Q (some (vI 0)) G D3))))))))))) : Go E (d + 1) kc ks mL_law 1513 [some (vR 1), some (vR 2), some (vR 214), some (vI x3)] [] G D Q := by
  refine g_aload_n dL_law_1513 rfl rfl ?_
  refine g_aload_n dL_law_1514 rfl rfl ?_
  refine g_iload_n dL_law_1515 rfl rfl ?_
  refine g_iconst dL_law_1516 ?_
  refine g_iadd dL_law_1517 ?_
  refine g_sald dL_law_1518 hL9 ⟨h.1, ?_⟩
  replace h := h.2
  refine g_aload_n dL_law_1519 rfl rfl ?_
  refine g_iload_n dL_law_1520 rfl rfl ?_
  refine g_iconst dL_law_1521 ?_
  refine g_iadd dL_law_1522 ?_
  refine g_sald dL_law_1523 hL9 ⟨h.1, ?_⟩
  replace h := h.2
  refine g_callV (kc := kc) (kc' := 0) (ks := ks) (ks' := 0) (as := [vI ((E.2.2.2.2.1 (x3 + 1).toNat).toInt), vI ((E.2.2.2.2.1 (x3 + 2).toNat).toInt)]) (st := []) (ci := 10) dL_law_1524 cB_X11_as lk_L_163 in_X11_as se_X11_as (by decide) rfl rfl (Nat.le_of_ble_eq_true rfl) (Nat.le_of_ble_eq_true rfl) (by decide) (hG.lt (by decide)) (congrArg Prod.fst hG.k2) ?_
  refine Go.to (fun r G' D1 hr => ?_) h
  obtain ⟨rfl, z2, rfl, h⟩ := hr
  show Go E (d + 1) kc ks mL_law 1527 [some (vR 1), some (vR 2), some (vR 214), some (vI x3)] [vI z2] G D1 Q
  refine g_aload_n dL_law_1527 rfl rfl ?_
  refine g_aload_n dL_law_1528 rfl rfl ?_
  refine g_iload_n dL_law_1529 rfl rfl ?_
  refine g_iconst dL_law_1530 ?_
  refine g_iadd dL_law_1531 ?_
  refine g_sald dL_law_1532 hL9 ⟨h.1, ?_⟩
  replace h := h.2
  refine g_aload_n dL_law_1533 rfl rfl ?_
  refine g_iload_n dL_law_1534 rfl rfl ?_
  refine g_iconst dL_law_1535 ?_
  refine g_iadd dL_law_1536 ?_
  refine g_sald dL_law_1537 hL9 ⟨h.1, ?_⟩
  replace h := h.2
  refine g_callV (kc := kc) (kc' := 0) (ks := ks) (ks' := 0) (as := [vI ((E.2.2.2.2.1 (x3 + 1).toNat).toInt), vI ((E.2.2.2.2.1 (x3 + 2).toNat).toInt)]) (st := [vI z2]) (ci := 11) dL_law_1538 cB_X12_as lk_L_166 in_X12_as se_X12_as (by decide) rfl rfl (Nat.le_of_ble_eq_true rfl) (Nat.le_of_ble_eq_true rfl) (by decide) (hG.lt (by decide)) (congrArg Prod.fst hG.k214) ?_
  refine Go.to (fun r G' D3 hr => ?_) h
  obtain ⟨rfl, z4, rfl, h⟩ := hr
  show Go E (d + 1) kc ks mL_law 1541 [some (vR 1), some (vR 2), some (vR 214), some (vI x3)] [vI z4, vI z2] G D3 Q
  refine g_icmp_eq 1569 dL_law_1541 (by decide) ⟨fun hc => ?_, fun hc => ?_⟩
  · replace h := h.1 hc
    refine h_iinc (L' := [some (vR 1), some (vR 2), some (vR 214), some (vI (x3 + 6))]) dL_law_1569 (Nat.le_of_ble_eq_true rfl) rfl rfl rfl ?_
    refine g_goto 18 dL_law_1572 (by decide) ?_
    exact Go.drop (by simp only [mm_sub, and_self]) h
  · replace h := h.2 hc
    refine g_iconst dL_law_1544 ?_
    exact g_zret dL_law_1545 rfl ⟨Or.inl rfl, h⟩
set_option maxRecDepth 20000 in
theorem w_L_law_1546 {E : mmE} {d kc ks : Nat} {G : mmG} {D : mmD} {Q : mmQ} {x3 : Int} (hG : Sh G) (hL9 : (E.2.2.2.1 : Int) < 2147483648)  (h : ((0 ≤ (x3 + 1) ∧ (x3 + 1) < (E.2.2.2.1 : Int)) ∧ Call E d 0 0 mX11_count [vR 2, vI ((E.2.2.2.2.1 (x3 + 1).toNat).toInt)] G D (retI G (fun z2 D1 => ((0 ≤ (x3 + 1) ∧ (x3 + 1) < (E.2.2.2.1 : Int)) ∧ Call E d 0 0 mX12_count [vR 214, vI ((E.2.2.2.2.1 (x3 + 1).toNat).toInt)] G D1 (retI G (fun z4 D3 => ((iv z2 = iv z4 → Go E (d + 1) kc ks mL_law 18 [some (vR 1), some (vR 2), some (vR 214), some (vI (x3 + 6))] [] G D3 Q) ∧ (¬ iv z2 = iv z4 → Q (some (vI 0)) G D3))))))))) : Go E (d + 1) kc ks mL_law 1546 [some (vR 1), some (vR 2), some (vR 214), some (vI x3)] [] G D Q := by
  refine g_aload_n dL_law_1546 rfl rfl ?_
  refine g_aload_n dL_law_1547 rfl rfl ?_
  refine g_iload_n dL_law_1548 rfl rfl ?_
  refine g_iconst dL_law_1549 ?_
  refine g_iadd dL_law_1550 ?_
  refine g_sald dL_law_1551 hL9 ⟨h.1, ?_⟩
  replace h := h.2
  refine g_callV (kc := kc) (kc' := 0) (ks := ks) (ks' := 0) (as := [vI ((E.2.2.2.2.1 (x3 + 1).toNat).toInt)]) (st := []) (ci := 10) dL_law_1552 cB_X11_count lk_L_167 in_X11_count se_X11_count (by decide) rfl rfl (Nat.le_of_ble_eq_true rfl) (Nat.le_of_ble_eq_true rfl) (by decide) (hG.lt (by decide)) (congrArg Prod.fst hG.k2) ?_
  refine Go.to (fun r G' D1 hr => ?_) h
  obtain ⟨rfl, z2, rfl, h⟩ := hr
  show Go E (d + 1) kc ks mL_law 1555 [some (vR 1), some (vR 2), some (vR 214), some (vI x3)] [vI z2] G D1 Q
  refine g_aload_n dL_law_1555 rfl rfl ?_
  refine g_aload_n dL_law_1556 rfl rfl ?_
  refine g_iload_n dL_law_1557 rfl rfl ?_
  refine g_iconst dL_law_1558 ?_
  refine g_iadd dL_law_1559 ?_
  refine g_sald dL_law_1560 hL9 ⟨h.1, ?_⟩
  replace h := h.2
  refine g_callV (kc := kc) (kc' := 0) (ks := ks) (ks' := 0) (as := [vI ((E.2.2.2.2.1 (x3 + 1).toNat).toInt)]) (st := [vI z2]) (ci := 11) dL_law_1561 cB_X12_count lk_L_170 in_X12_count se_X12_count (by decide) rfl rfl (Nat.le_of_ble_eq_true rfl) (Nat.le_of_ble_eq_true rfl) (by decide) (hG.lt (by decide)) (congrArg Prod.fst hG.k214) ?_
  refine Go.to (fun r G' D3 hr => ?_) h
  obtain ⟨rfl, z4, rfl, h⟩ := hr
  show Go E (d + 1) kc ks mL_law 1564 [some (vR 1), some (vR 2), some (vR 214), some (vI x3)] [vI z4, vI z2] G D3 Q
  refine g_icmp_eq 1569 dL_law_1564 (by decide) ⟨fun hc => ?_, fun hc => ?_⟩
  · replace h := h.1 hc
    refine h_iinc (L' := [some (vR 1), some (vR 2), some (vR 214), some (vI (x3 + 6))]) dL_law_1569 (Nat.le_of_ble_eq_true rfl) rfl rfl rfl ?_
    refine g_goto 18 dL_law_1572 (by decide) ?_
    exact Go.drop (by simp only [mm_sub, and_self]) h
  · replace h := h.2 hc
    refine g_iconst dL_law_1567 ?_
    exact g_zret dL_law_1568 rfl ⟨Or.inl rfl, h⟩
