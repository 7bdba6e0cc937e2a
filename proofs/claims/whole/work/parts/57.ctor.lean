/-! ===== constructors (printed by mk57.py) ===== -/
section Ctor
variable {E : mmE} {d : Nat} {G : mmG} {D : mmD} {Q : mmQ} {V : Int → Int → Int} {pd : List (Int × Int)} {r : Int}
theorem g_newa2 {kc ks : Nat} {Y : mmM} {pc : Nat} {L : List (Option mmV)} {st : List mmV} {n : Int} {kd N : Nat} {at0 : ArrayType} (hd : decode Y.2.1 pc = .ok (.newarray at0, 2)) (hkd : (kd = 12 ∧ newarray.typeOf at0 = .int) ∨ (kd = 13 ∧ newarray.typeOf at0 = .boolean)) (hw : Cond.arrayClass (newarray.typeOf at0) ∈ mm_tbl) (hn : 0 ≤ n) (hn2 : n < 100000) (hN : n.toNat = N) (k : Go E d kc ks Y (pc + 2) L (vR G.1 :: st) (mm_push G kd n) (mm_zero D G.1) Q) : Go E d (kc + 1) (ks + N) Y pc L (vI n :: st) G D Q := g_newa hd hkd hw hn hn2 hN k
theorem g_anewa2 {kc ks : Nat} {Y : mmM} {pc : Nat} {L : List (Option mmV)} {st : List mmV} {n : Int} {idx kd N : Nat} {C : String} (hd : decode Y.2.1 pc = .ok (.anewarray idx, 3)) (hkd : (kd = 14 ∧ C = RX10) ∨ (kd = 15 ∧ C = RX4) ∨ (kd = 16 ∧ C = RX2)) (hw : Cond.classLink Y.1.cls idx C ∈ mm_tbl) (hn : 0 ≤ n) (hn2 : n < 100000) (hN : n.toNat = N) (k : Go E d kc ks Y (pc + 3) L (vR G.1 :: st) (mm_push G kd n) (mm_zero D G.1) Q) : Go E d (kc + 1) (ks + N) Y pc L (vI n :: st) G D Q := g_anewa hd hkd hw hn hn2 hN k
theorem k_X10_init (hb : Bd (r + 1) pd V G D) (r2 : 2 ≤ r) (r9 : r + 1 < 249) (hkr : kd0 r = (9, 0)) (hk0 : kd0 (r + 1) = (12, 8)) (ho0 : ow (r + 1) = (r, 0)) (hr0 : rf0 r 0 = r + 1) (hp0 : (r, 0) ∉ pd) (hV : ∀ c k, r + 1 ≤ c → V c k = 0) (K : ∀ G' D', Bd (r + 2) pd V G' D' → Q none G' D') : Call E (d + 1) 1 8 mX10_init [vR r] G D Q := by
  show Go E (d + 1) 1 8 mX10_init 0 [some (vR r)] [] G D Q
  refine g_aload_n dX10_init_0 rfl rfl ?_
  refine g_objinit dX10_init_1 oi_X10_3 (Nat.le_of_ble_eq_true rfl) r2 ?_
  refine g_aload_n dX10_init_4 rfl rfl ?_
  refine g_bipush dX10_init_5 bp_8 ?_
  refine g_newa2 (N := 8) (at0 := .int) (kd := 12) (kc := 0) (ks := 0) dX10_init_7 (Or.inl ⟨rfl, rfl⟩) ka_I (by decide) (by decide) rfl ?_
  rw [hb.1]
  replace hb := hb.push (kd := 12) (len := 8) (n' := r + 2) (by omega) (by omega) hk0 ho0 (by omega) (fun j => hV _ j (by omega))
  generalize mm_push G 12 8 = G1 at hb ⊢
  generalize mm_zero D (r + 1) = D1 at hb ⊢
  refine h_putR (j := 0) dX10_init_9 f_X10_9_9 (Or.inr ⟨rfl, mm_finI (by decide +kernel), mm_decl (by decide +kernel)⟩) (Or.inr ⟨_, rfl⟩) rfl (by decide) (hb.k r2 (by omega) hkr) r2 (hb.lt (by omega)) ?_
  replace hb := hb.put (x := (r + 1)) hr0 (by omega) hp0
  generalize ((G1.1, G1.2.1, up2 G1.2.2 r 0 (r + 1)) : mmG) = G2 at hb ⊢
  exact g_vret dX10_init_12 rfl (K _ _ hb)
theorem k_X4_init (hb : Bd (r + 1) pd V G D) (r2 : 2 ≤ r) (r9 : r + 5 < 249) (hkr : kd0 r = (3, 0)) (hk0 : kd0 (r + 1) = (12, 6)) (ho0 : ow (r + 1) = (r, 0)) (hr0 : rf0 r 0 = r + 1) (hp0 : (r, 0) ∉ pd) (hk1 : kd0 (r + 2) = (12, 6)) (ho1 : ow (r + 2) = (r, 1)) (hr1 : rf0 r 1 = r + 2) (hp1 : (r, 1) ∉ pd) (hk2 : kd0 (r + 3) = (12, 6)) (ho2 : ow (r + 3) = (r, 2)) (hr2 : rf0 r 2 = r + 3) (hp2 : (r, 2) ∉ pd) (hk3 : kd0 (r + 4) = (12, 6)) (ho3 : ow (r + 4) = (r, 3)) (hr3 : rf0 r 3 = r + 4) (hp3 : (r, 3) ∉ pd) (hk4 : kd0 (r + 5) = (12, 8)) (ho4 : ow (r + 5) = (r, 4)) (hr4 : rf0 r 4 = r + 5) (hp4 : (r, 4) ∉ pd) (hV : ∀ c k, r + 1 ≤ c → V c k = 0) (K : ∀ G' D', Bd (r + 6) pd V G' D' → Q none G' D') : Call E (d + 1) 5 32 mX4_init [vR r] G D Q := by
  show Go E (d + 1) 5 32 mX4_init 0 [some (vR r)] [] G D Q
  refine g_aload_n dX4_init_0 rfl rfl ?_
  refine g_objinit dX4_init_1 oi_X4_3 (Nat.le_of_ble_eq_true rfl) r2 ?_
  refine g_aload_n dX4_init_4 rfl rfl ?_
  refine g_bipush dX4_init_5 bp_6 ?_
  refine g_newa2 (N := 6) (at0 := .int) (kd := 12) (kc := 4) (ks := 26) dX4_init_7 (Or.inl ⟨rfl, rfl⟩) ka_I (by decide) (by decide) rfl ?_
  rw [hb.1]
  replace hb := hb.push (kd := 12) (len := 6) (n' := r + 2) (by omega) (by omega) hk0 ho0 (by omega) (fun j => hV _ j (by omega))
  generalize mm_push G 12 6 = G1 at hb ⊢
  generalize mm_zero D (r + 1) = D1 at hb ⊢
  refine h_putR (j := 0) dX4_init_9 f_X4_9_3 (Or.inr ⟨rfl, mm_finI (by decide +kernel), mm_decl (by decide +kernel)⟩) (Or.inr ⟨_, rfl⟩) rfl (by decide) (hb.k r2 (by omega) hkr) r2 (hb.lt (by omega)) ?_
  replace hb := hb.put (x := (r + 1)) hr0 (by omega) hp0
  generalize ((G1.1, G1.2.1, up2 G1.2.2 r 0 (r + 1)) : mmG) = G2 at hb ⊢
  refine g_aload_n dX4_init_12 rfl rfl ?_
  refine g_bipush dX4_init_13 bp_6 ?_
  refine g_newa2 (N := 6) (at0 := .int) (kd := 12) (kc := 3) (ks := 20) dX4_init_15 (Or.inl ⟨rfl, rfl⟩) ka_I (by decide) (by decide) rfl ?_
  rw [hb.1]
  replace hb := hb.push (kd := 12) (len := 6) (n' := r + 3) (by omega) (by omega) hk1 ho1 (by omega) (fun j => hV _ j (by omega))
  generalize mm_push G2 12 6 = G3 at hb ⊢
  generalize mm_zero D1 (r + 2) = D3 at hb ⊢
  refine h_putR (j := 1) dX4_init_17 f_X4_15_3 (Or.inr ⟨rfl, mm_finI (by decide +kernel), mm_decl (by decide +kernel)⟩) (Or.inr ⟨_, rfl⟩) rfl (by decide) (hb.k r2 (by omega) hkr) r2 (hb.lt (by omega)) ?_
  replace hb := hb.put (x := (r + 2)) hr1 (by omega) hp1
  generalize ((G3.1, G3.2.1, up2 G3.2.2 r 1 (r + 2)) : mmG) = G4 at hb ⊢
  refine g_aload_n dX4_init_20 rfl rfl ?_
  refine g_bipush dX4_init_21 bp_6 ?_
  refine g_newa2 (N := 6) (at0 := .int) (kd := 12) (kc := 2) (ks := 14) dX4_init_23 (Or.inl ⟨rfl, rfl⟩) ka_I (by decide) (by decide) rfl ?_
  rw [hb.1]
  replace hb := hb.push (kd := 12) (len := 6) (n' := r + 4) (by omega) (by omega) hk2 ho2 (by omega) (fun j => hV _ j (by omega))
  generalize mm_push G4 12 6 = G5 at hb ⊢
  generalize mm_zero D3 (r + 3) = D5 at hb ⊢
  refine h_putR (j := 2) dX4_init_25 f_X4_18_3 (Or.inr ⟨rfl, mm_finI (by decide +kernel), mm_decl (by decide +kernel)⟩) (Or.inr ⟨_, rfl⟩) rfl (by decide) (hb.k r2 (by omega) hkr) r2 (hb.lt (by omega)) ?_
  replace hb := hb.put (x := (r + 3)) hr2 (by omega) hp2
  generalize ((G5.1, G5.2.1, up2 G5.2.2 r 2 (r + 3)) : mmG) = G6 at hb ⊢
  refine g_aload_n dX4_init_28 rfl rfl ?_
  refine g_bipush dX4_init_29 bp_6 ?_
  refine g_newa2 (N := 6) (at0 := .int) (kd := 12) (kc := 1) (ks := 8) dX4_init_31 (Or.inl ⟨rfl, rfl⟩) ka_I (by decide) (by decide) rfl ?_
  rw [hb.1]
  replace hb := hb.push (kd := 12) (len := 6) (n' := r + 5) (by omega) (by omega) hk3 ho3 (by omega) (fun j => hV _ j (by omega))
  generalize mm_push G6 12 6 = G7 at hb ⊢
  generalize mm_zero D5 (r + 4) = D7 at hb ⊢
  refine h_putR (j := 3) dX4_init_33 f_X4_21_3 (Or.inr ⟨rfl, mm_finI (by decide +kernel), mm_decl (by decide +kernel)⟩) (Or.inr ⟨_, rfl⟩) rfl (by decide) (hb.k r2 (by omega) hkr) r2 (hb.lt (by omega)) ?_
  replace hb := hb.put (x := (r + 4)) hr3 (by omega) hp3
  generalize ((G7.1, G7.2.1, up2 G7.2.2 r 3 (r + 4)) : mmG) = G8 at hb ⊢
  refine g_aload_n dX4_init_36 rfl rfl ?_
  refine g_bipush dX4_init_37 bp_8 ?_
  refine g_newa2 (N := 8) (at0 := .int) (kd := 12) (kc := 0) (ks := 0) dX4_init_39 (Or.inl ⟨rfl, rfl⟩) ka_I (by decide) (by decide) rfl ?_
  rw [hb.1]
  replace hb := hb.push (kd := 12) (len := 8) (n' := r + 6) (by omega) (by omega) hk4 ho4 (by omega) (fun j => hV _ j (by omega))
  generalize mm_push G8 12 8 = G9 at hb ⊢
  generalize mm_zero D7 (r + 5) = D9 at hb ⊢
  refine h_putR (j := 4) dX4_init_41 f_X4_24_3 (Or.inr ⟨rfl, mm_finI (by decide +kernel), mm_decl (by decide +kernel)⟩) (Or.inr ⟨_, rfl⟩) rfl (by decide) (hb.k r2 (by omega) hkr) r2 (hb.lt (by omega)) ?_
  replace hb := hb.put (x := (r + 5)) hr4 (by omega) hp4
  generalize ((G9.1, G9.2.1, up2 G9.2.2 r 4 (r + 5)) : mmG) = G10 at hb ⊢
  exact g_vret dX4_init_44 rfl (K _ _ hb)
theorem k_X7_init (hb : Bd 10 [(2, 16)] V G D) (_ : (1 : Nat) = 1) (hV : ∀ c k, 10 ≤ c → V c k = 0) (K : ∀ G' D', Bd 12 [(2, 16)] V G' D' → Q none G' D') : Call E (d + 1) 2 97 mX7_init [vR 9] G D Q := by
  show Go E (d + 1) 2 97 mX7_init 0 [some (vR 9)] [] G D Q
  refine g_aload_n dX7_init_0 rfl rfl ?_
  refine g_objinit dX7_init_1 oi_X7_3 (Nat.le_of_ble_eq_true rfl) (by decide) ?_
  refine g_aload_n dX7_init_4 rfl rfl ?_
  refine g_bipush dX7_init_5 bp_81 ?_
  refine g_newa2 (N := 81) (at0 := .int) (kd := 12) (kc := 1) (ks := 16) dX7_init_7 (Or.inl ⟨rfl, rfl⟩) ka_I (by decide) (by decide) rfl ?_
  rw [hb.1]
  replace hb := hb.push (kd := 12) (len := 81) (n' := 11) (by decide) (by decide) (by decide +kernel) (by decide +kernel : ow 10 = (9, 0)) (by decide) (fun j => hV _ j (by decide))
  generalize mm_push G 12 81 = G1 at hb ⊢
  generalize mm_zero D 10 = D1 at hb ⊢
  refine h_putR (j := 0) dX7_init_9 f_X7_11_6 (Or.inr ⟨rfl, mm_finI (by decide +kernel), mm_decl (by decide +kernel)⟩) (Or.inr ⟨_, rfl⟩) rfl (by decide) (hb.k (a := 9) (v := (6, 0)) (by decide) (by decide) (by decide +kernel)) (by decide) (hb.lt (by decide)) ?_
  replace hb := hb.put (x := 10) (by decide +kernel) (by decide) (by decide)
  generalize ((G1.1, G1.2.1, up2 G1.2.2 9 0 10) : mmG) = G2 at hb ⊢
  refine g_aload_n dX7_init_12 rfl rfl ?_
  refine g_bipush dX7_init_13 bp_16 ?_
  refine g_newa2 (N := 16) (at0 := .int) (kd := 12) (kc := 0) (ks := 0) dX7_init_15 (Or.inl ⟨rfl, rfl⟩) ka_I (by decide) (by decide) rfl ?_
  rw [hb.1]
  replace hb := hb.push (kd := 12) (len := 16) (n' := 12) (by decide) (by decide) (by decide +kernel) (by decide +kernel : ow 11 = (9, 1)) (by decide) (fun j => hV _ j (by decide))
  generalize mm_push G2 12 16 = G3 at hb ⊢
  generalize mm_zero D1 11 = D3 at hb ⊢
  refine h_putR (j := 1) dX7_init_17 f_X7_15_6 (Or.inr ⟨rfl, mm_finI (by decide +kernel), mm_decl (by decide +kernel)⟩) (Or.inr ⟨_, rfl⟩) rfl (by decide) (hb.k (a := 9) (v := (6, 0)) (by decide) (by decide) (by decide +kernel)) (by decide) (hb.lt (by decide)) ?_
  replace hb := hb.put (x := 11) (by decide +kernel) (by decide) (by decide)
  generalize ((G3.1, G3.2.1, up2 G3.2.2 9 1 11) : mmG) = G4 at hb ⊢
  exact g_vret dX7_init_20 rfl (K _ _ hb)
theorem k_X0_init (hb : Bd 13 [(2, 17)] V G D) (_ : (1 : Nat) = 1) (hV : ∀ c k, 13 ≤ c → V c k = 0) (K : ∀ G' D', Bd 18 [(2, 17)] V G' D' → Q none G' D') : Call E (d + 1) 5 97 mX0_init [vR 12] G D Q := by
  show Go E (d + 1) 5 97 mX0_init 0 [some (vR 12)] [] G D Q
  refine g_aload_n dX0_init_0 rfl rfl ?_
  refine g_objinit dX0_init_1 oi_X0_3 (Nat.le_of_ble_eq_true rfl) (by decide) ?_
  refine g_aload_n dX0_init_4 rfl rfl ?_
  refine g_bipush dX0_init_5 bp_9 ?_
  refine g_newa2 (N := 9) (at0 := .int) (kd := 12) (kc := 4) (ks := 88) dX0_init_7 (Or.inl ⟨rfl, rfl⟩) ka_I (by decide) (by decide) rfl ?_
  rw [hb.1]
  replace hb := hb.push (kd := 12) (len := 9) (n' := 14) (by decide) (by decide) (by decide +kernel) (by decide +kernel : ow 13 = (12, 0)) (by decide) (fun j => hV _ j (by decide))
  generalize mm_push G 12 9 = G1 at hb ⊢
  generalize mm_zero D 13 = D1 at hb ⊢
  refine h_putR (j := 0) dX0_init_9 f_X0_11_0 (Or.inr ⟨rfl, mm_finI (by decide +kernel), mm_decl (by decide +kernel)⟩) (Or.inr ⟨_, rfl⟩) rfl (by decide) (hb.k (a := 12) (v := (0, 0)) (by decide) (by decide) (by decide +kernel)) (by decide) (hb.lt (by decide)) ?_
  replace hb := hb.put (x := 13) (by decide +kernel) (by decide) (by decide)
  generalize ((G1.1, G1.2.1, up2 G1.2.2 12 0 13) : mmG) = G2 at hb ⊢
  refine g_aload_n dX0_init_12 rfl rfl ?_
  refine g_bipush dX0_init_13 bp_9 ?_
  refine g_newa2 (N := 9) (at0 := .int) (kd := 12) (kc := 3) (ks := 79) dX0_init_15 (Or.inl ⟨rfl, rfl⟩) ka_I (by decide) (by decide) rfl ?_
  rw [hb.1]
  replace hb := hb.push (kd := 12) (len := 9) (n' := 15) (by decide) (by decide) (by decide +kernel) (by decide +kernel : ow 14 = (12, 1)) (by decide) (fun j => hV _ j (by decide))
  generalize mm_push G2 12 9 = G3 at hb ⊢
  generalize mm_zero D1 14 = D3 at hb ⊢
  refine h_putR (j := 1) dX0_init_17 f_X0_15_0 (Or.inr ⟨rfl, mm_finI (by decide +kernel), mm_decl (by decide +kernel)⟩) (Or.inr ⟨_, rfl⟩) rfl (by decide) (hb.k (a := 12) (v := (0, 0)) (by decide) (by decide) (by decide +kernel)) (by decide) (hb.lt (by decide)) ?_
  replace hb := hb.put (x := 14) (by decide +kernel) (by decide) (by decide)
  generalize ((G3.1, G3.2.1, up2 G3.2.2 12 1 14) : mmG) = G4 at hb ⊢
  refine g_aload_n dX0_init_20 rfl rfl ?_
  refine g_bipush dX0_init_21 bp_9 ?_
  refine g_newa2 (N := 9) (at0 := .int) (kd := 12) (kc := 2) (ks := 70) dX0_init_23 (Or.inl ⟨rfl, rfl⟩) ka_I (by decide) (by decide) rfl ?_
  rw [hb.1]
  replace hb := hb.push (kd := 12) (len := 9) (n' := 16) (by decide) (by decide) (by decide +kernel) (by decide +kernel : ow 15 = (12, 3)) (by decide) (fun j => hV _ j (by decide))
  generalize mm_push G4 12 9 = G5 at hb ⊢
  generalize mm_zero D3 15 = D5 at hb ⊢
  refine h_putR (j := 3) dX0_init_25 f_X0_18_0 (Or.inr ⟨rfl, mm_finI (by decide +kernel), mm_decl (by decide +kernel)⟩) (Or.inr ⟨_, rfl⟩) rfl (by decide) (hb.k (a := 12) (v := (0, 0)) (by decide) (by decide) (by decide +kernel)) (by decide) (hb.lt (by decide)) ?_
  replace hb := hb.put (x := 15) (by decide +kernel) (by decide) (by decide)
  generalize ((G5.1, G5.2.1, up2 G5.2.2 12 3 15) : mmG) = G6 at hb ⊢
  refine g_aload_n dX0_init_28 rfl rfl ?_
  refine g_bipush dX0_init_29 bp_60 ?_
  refine g_newa2 (N := 60) (at0 := .int) (kd := 12) (kc := 1) (ks := 10) dX0_init_31 (Or.inl ⟨rfl, rfl⟩) ka_I (by decide) (by decide) rfl ?_
  rw [hb.1]
  replace hb := hb.push (kd := 12) (len := 60) (n' := 17) (by decide) (by decide) (by decide +kernel) (by decide +kernel : ow 16 = (12, 4)) (by decide) (fun j => hV _ j (by decide))
  generalize mm_push G6 12 60 = G7 at hb ⊢
  generalize mm_zero D5 16 = D7 at hb ⊢
  refine h_putR (j := 4) dX0_init_33 f_X0_21_0 (Or.inr ⟨rfl, mm_finI (by decide +kernel), mm_decl (by decide +kernel)⟩) (Or.inr ⟨_, rfl⟩) rfl (by decide) (hb.k (a := 12) (v := (0, 0)) (by decide) (by decide) (by decide +kernel)) (by decide) (hb.lt (by decide)) ?_
  replace hb := hb.put (x := 16) (by decide +kernel) (by decide) (by decide)
  generalize ((G7.1, G7.2.1, up2 G7.2.2 12 4 16) : mmG) = G8 at hb ⊢
  refine g_aload_n dX0_init_36 rfl rfl ?_
  refine g_bipush dX0_init_37 bp_10 ?_
  refine g_newa2 (N := 10) (at0 := .int) (kd := 12) (kc := 0) (ks := 0) dX0_init_39 (Or.inl ⟨rfl, rfl⟩) ka_I (by decide) (by decide) rfl ?_
  rw [hb.1]
  replace hb := hb.push (kd := 12) (len := 10) (n' := 18) (by decide) (by decide) (by decide +kernel) (by decide +kernel : ow 17 = (12, 5)) (by decide) (fun j => hV _ j (by decide))
  generalize mm_push G8 12 10 = G9 at hb ⊢
  generalize mm_zero D7 17 = D9 at hb ⊢
  refine h_putR (j := 5) dX0_init_41 f_X0_24_0 (Or.inr ⟨rfl, mm_finI (by decide +kernel), mm_decl (by decide +kernel)⟩) (Or.inr ⟨_, rfl⟩) rfl (by decide) (hb.k (a := 12) (v := (0, 0)) (by decide) (by decide) (by decide +kernel)) (by decide) (hb.lt (by decide)) ?_
  replace hb := hb.put (x := 17) (by decide +kernel) (by decide) (by decide)
  generalize ((G9.1, G9.2.1, up2 G9.2.2 12 5 17) : mmG) = G10 at hb ⊢
  exact g_vret dX0_init_44 rfl (K _ _ hb)
theorem k_s215 {kc ks : Nat} (hb : Bd 215 [] V G D) (hV : ∀ c k, 215 ≤ c → V c k = 0) (K : ∀ G' D', Bd 216 [] V G' D' → Go E (d + 1) kc ks mX12_init 18 [some (vR 214)] [] G' D' Q) : Go E (d + 1) (kc + 1) (ks + 80) mX12_init 10 [some (vR 214)] [] G D Q := by
  refine g_aload_n dX12_init_10 rfl rfl ?_
  refine g_bipush dX12_init_11 bp_80 ?_
  refine g_newa2 (N := 80) (at0 := .int) (kd := 12) dX12_init_13 (Or.inl ⟨rfl, rfl⟩) ka_I (by decide) (by decide) rfl ?_
  rw [hb.1]
  replace hb := hb.push (kd := 12) (len := 80) (n' := 216) (by decide) (by decide) (by decide +kernel) (by decide +kernel : ow 215 = (214, 10)) (by decide) (fun j => hV _ j (by decide))
  generalize mm_push G 12 80 = G1 at hb ⊢
  generalize mm_zero D 215 = D1 at hb ⊢
  refine h_putR (j := 10) dX12_init_15 f_X12_13_11 (Or.inr ⟨rfl, mm_finI (by decide +kernel), mm_decl (by decide +kernel)⟩) (Or.inr ⟨_, rfl⟩) rfl (by decide) (hb.k (a := 214) (v := (11, 0)) (by decide) (by decide) (by decide +kernel)) (by decide) (hb.lt (by decide)) ?_
  replace hb := hb.put (x := 215) (by decide +kernel) (by decide) (by decide)
  exact K _ _ hb
theorem k_s216 {kc ks : Nat} (hb : Bd 216 [] V G D) (hV : ∀ c k, 215 ≤ c → V c k = 0) (K : ∀ G' D', Bd 217 [] V G' D' → Go E (d + 1) kc ks mX12_init 26 [some (vR 214)] [] G' D' Q) : Go E (d + 1) (kc + 1) (ks + 60) mX12_init 18 [some (vR 214)] [] G D Q := by
  refine g_aload_n dX12_init_18 rfl rfl ?_
  refine g_bipush dX12_init_19 bp_60 ?_
  refine g_newa2 (N := 60) (at0 := .int) (kd := 12) dX12_init_21 (Or.inl ⟨rfl, rfl⟩) ka_I (by decide) (by decide) rfl ?_
  rw [hb.1]
  replace hb := hb.push (kd := 12) (len := 60) (n' := 217) (by decide) (by decide) (by decide +kernel) (by decide +kernel : ow 216 = (214, 11)) (by decide) (fun j => hV _ j (by decide))
  generalize mm_push G 12 60 = G1 at hb ⊢
  generalize mm_zero D 216 = D1 at hb ⊢
  refine h_putR (j := 11) dX12_init_23 f_X12_17_11 (Or.inr ⟨rfl, mm_finI (by decide +kernel), mm_decl (by decide +kernel)⟩) (Or.inr ⟨_, rfl⟩) rfl (by decide) (hb.k (a := 214) (v := (11, 0)) (by decide) (by decide) (by decide +kernel)) (by decide) (hb.lt (by decide)) ?_
  replace hb := hb.put (x := 216) (by decide +kernel) (by decide) (by decide)
  exact K _ _ hb
theorem k_s217 {kc ks : Nat} (hb : Bd 217 [] V G D) (hV : ∀ c k, 215 ≤ c → V c k = 0) (K : ∀ G' D', Bd 218 [] V G' D' → Go E (d + 1) kc ks mX12_init 35 [some (vR 214)] [] G' D' Q) : Go E (d + 1) (kc + 1) (ks + 480) mX12_init 26 [some (vR 214)] [] G D Q := by
  refine g_aload_n dX12_init_26 rfl rfl ?_
  refine g_sipush dX12_init_27 sp_480 ?_
  refine g_newa2 (N := 480) (at0 := .int) (kd := 12) dX12_init_30 (Or.inl ⟨rfl, rfl⟩) ka_I (by decide) (by decide) rfl ?_
  rw [hb.1]
  replace hb := hb.push (kd := 12) (len := 480) (n' := 218) (by decide) (by decide) (by decide +kernel) (by decide +kernel : ow 217 = (214, 12)) (by decide) (fun j => hV _ j (by decide))
  generalize mm_push G 12 480 = G1 at hb ⊢
  generalize mm_zero D 217 = D1 at hb ⊢
  refine h_putR (j := 12) dX12_init_32 f_X12_20_11 (Or.inr ⟨rfl, mm_finI (by decide +kernel), mm_decl (by decide +kernel)⟩) (Or.inr ⟨_, rfl⟩) rfl (by decide) (hb.k (a := 214) (v := (11, 0)) (by decide) (by decide) (by decide +kernel)) (by decide) (hb.lt (by decide)) ?_
  replace hb := hb.put (x := 217) (by decide +kernel) (by decide) (by decide)
  exact K _ _ hb
theorem k_s218 {kc ks : Nat} (hb : Bd 218 [] V G D) (hV : ∀ c k, 215 ≤ c → V c k = 0) (K : ∀ G' D', Bd 219 [] V G' D' → Go E (d + 1) kc ks mX12_init 43 [some (vR 214)] [] G' D' Q) : Go E (d + 1) (kc + 1) (ks + 60) mX12_init 35 [some (vR 214)] [] G D Q := by
  refine g_aload_n dX12_init_35 rfl rfl ?_
  refine g_bipush dX12_init_36 bp_60 ?_
  refine g_newa2 (N := 60) (at0 := .int) (kd := 12) dX12_init_38 (Or.inl ⟨rfl, rfl⟩) ka_I (by decide) (by decide) rfl ?_
  rw [hb.1]
  replace hb := hb.push (kd := 12) (len := 60) (n' := 219) (by decide) (by decide) (by decide +kernel) (by decide +kernel : ow 218 = (214, 13)) (by decide) (fun j => hV _ j (by decide))
  generalize mm_push G 12 60 = G1 at hb ⊢
  generalize mm_zero D 218 = D1 at hb ⊢
  refine h_putR (j := 13) dX12_init_40 f_X12_23_11 (Or.inr ⟨rfl, mm_finI (by decide +kernel), mm_decl (by decide +kernel)⟩) (Or.inr ⟨_, rfl⟩) rfl (by decide) (hb.k (a := 214) (v := (11, 0)) (by decide) (by decide) (by decide +kernel)) (by decide) (hb.lt (by decide)) ?_
  replace hb := hb.put (x := 218) (by decide +kernel) (by decide) (by decide)
  exact K _ _ hb
theorem k_s219 {kc ks : Nat} (hb : Bd 219 [] V G D) (hV : ∀ c k, 215 ≤ c → V c k = 0) (K : ∀ G' D', Bd 220 [] V G' D' → Go E (d + 1) kc ks mX12_init 51 [some (vR 214)] [] G' D' Q) : Go E (d + 1) (kc + 1) (ks + 60) mX12_init 43 [some (vR 214)] [] G D Q := by
  refine g_aload_n dX12_init_43 rfl rfl ?_
  refine g_bipush dX12_init_44 bp_60 ?_
  refine g_newa2 (N := 60) (at0 := .boolean) (kd := 13) dX12_init_46 (Or.inr ⟨rfl, rfl⟩) ka_Z (by decide) (by decide) rfl ?_
  rw [hb.1]
  replace hb := hb.push (kd := 13) (len := 60) (n' := 220) (by decide) (by decide) (by decide +kernel) (by decide +kernel : ow 219 = (214, 14)) (by decide) (fun j => hV _ j (by decide))
  generalize mm_push G 13 60 = G1 at hb ⊢
  generalize mm_zero D 219 = D1 at hb ⊢
  refine h_putR (j := 14) dX12_init_48 f_X12_26_11 (Or.inr ⟨rfl, mm_finI (by decide +kernel), mm_decl (by decide +kernel)⟩) (Or.inr ⟨_, rfl⟩) rfl (by decide) (hb.k (a := 214) (v := (11, 0)) (by decide) (by decide) (by decide +kernel)) (by decide) (hb.lt (by decide)) ?_
  replace hb := hb.put (x := 219) (by decide +kernel) (by decide) (by decide)
  exact K _ _ hb
theorem k_s220 {kc ks : Nat} (hb : Bd 220 [] V G D) (hV : ∀ c k, 215 ≤ c → V c k = 0) (K : ∀ G' D', Bd 221 [] V G' D' → Go E (d + 1) kc ks mX12_init 59 [some (vR 214)] [] G' D' Q) : Go E (d + 1) (kc + 1) (ks + 60) mX12_init 51 [some (vR 214)] [] G D Q := by
  refine g_aload_n dX12_init_51 rfl rfl ?_
  refine g_bipush dX12_init_52 bp_60 ?_
  refine g_newa2 (N := 60) (at0 := .boolean) (kd := 13) dX12_init_54 (Or.inr ⟨rfl, rfl⟩) ka_Z (by decide) (by decide) rfl ?_
  rw [hb.1]
  replace hb := hb.push (kd := 13) (len := 60) (n' := 221) (by decide) (by decide) (by decide +kernel) (by decide +kernel : ow 220 = (214, 15)) (by decide) (fun j => hV _ j (by decide))
  generalize mm_push G 13 60 = G1 at hb ⊢
  generalize mm_zero D 220 = D1 at hb ⊢
  refine h_putR (j := 15) dX12_init_56 f_X12_30_11 (Or.inr ⟨rfl, mm_finI (by decide +kernel), mm_decl (by decide +kernel)⟩) (Or.inr ⟨_, rfl⟩) rfl (by decide) (hb.k (a := 214) (v := (11, 0)) (by decide) (by decide) (by decide +kernel)) (by decide) (hb.lt (by decide)) ?_
  replace hb := hb.put (x := 220) (by decide +kernel) (by decide) (by decide)
  exact K _ _ hb
theorem k_s221 {kc ks : Nat} (hb : Bd 221 [] V G D) (hV : ∀ c k, 215 ≤ c → V c k = 0) (K : ∀ G' D', Bd 222 [] V G' D' → Go E (d + 1) kc ks mX12_init 67 [some (vR 214)] [] G' D' Q) : Go E (d + 1) (kc + 1) (ks + 6) mX12_init 59 [some (vR 214)] [] G D Q := by
  refine g_aload_n dX12_init_59 rfl rfl ?_
  refine g_bipush dX12_init_60 bp_6 ?_
  refine g_newa2 (N := 6) (at0 := .int) (kd := 12) dX12_init_62 (Or.inl ⟨rfl, rfl⟩) ka_I (by decide) (by decide) rfl ?_
  rw [hb.1]
  replace hb := hb.push (kd := 12) (len := 6) (n' := 222) (by decide) (by decide) (by decide +kernel) (by decide +kernel : ow 221 = (214, 16)) (by decide) (fun j => hV _ j (by decide))
  generalize mm_push G 12 6 = G1 at hb ⊢
  generalize mm_zero D 221 = D1 at hb ⊢
  refine h_putR (j := 16) dX12_init_64 f_X12_33_11 (Or.inr ⟨rfl, mm_finI (by decide +kernel), mm_decl (by decide +kernel)⟩) (Or.inr ⟨_, rfl⟩) rfl (by decide) (hb.k (a := 214) (v := (11, 0)) (by decide) (by decide) (by decide +kernel)) (by decide) (hb.lt (by decide)) ?_
  replace hb := hb.put (x := 221) (by decide +kernel) (by decide) (by decide)
  exact K _ _ hb
theorem k_s222 {kc ks : Nat} (hb : Bd 222 [] V G D) (hV : ∀ c k, 215 ≤ c → V c k = 0) (K : ∀ G' D', Bd 223 [] V G' D' → Go E (d + 1) kc ks mX12_init 75 [some (vR 214)] [] G' D' Q) : Go E (d + 1) (kc + 1) (ks + 6) mX12_init 67 [some (vR 214)] [] G D Q := by
  refine g_aload_n dX12_init_67 rfl rfl ?_
  refine g_bipush dX12_init_68 bp_6 ?_
  refine g_newa2 (N := 6) (at0 := .int) (kd := 12) dX12_init_70 (Or.inl ⟨rfl, rfl⟩) ka_I (by decide) (by decide) rfl ?_
  rw [hb.1]
  replace hb := hb.push (kd := 12) (len := 6) (n' := 223) (by decide) (by decide) (by decide +kernel) (by decide +kernel : ow 222 = (214, 17)) (by decide) (fun j => hV _ j (by decide))
  generalize mm_push G 12 6 = G1 at hb ⊢
  generalize mm_zero D 222 = D1 at hb ⊢
  refine h_putR (j := 17) dX12_init_72 f_X12_36_11 (Or.inr ⟨rfl, mm_finI (by decide +kernel), mm_decl (by decide +kernel)⟩) (Or.inr ⟨_, rfl⟩) rfl (by decide) (hb.k (a := 214) (v := (11, 0)) (by decide) (by decide) (by decide +kernel)) (by decide) (hb.lt (by decide)) ?_
  replace hb := hb.put (x := 222) (by decide +kernel) (by decide) (by decide)
  exact K _ _ hb
theorem k_s223 {kc ks : Nat} (hb : Bd 223 [] V G D) (hV : ∀ c k, 215 ≤ c → V c k = 0) (K : ∀ G' D', Bd 224 [] V G' D' → Go E (d + 1) kc ks mX12_init 83 [some (vR 214)] [] G' D' Q) : Go E (d + 1) (kc + 1) (ks + 13) mX12_init 75 [some (vR 214)] [] G D Q := by
  refine g_aload_n dX12_init_75 rfl rfl ?_
  refine g_bipush dX12_init_76 bp_13 ?_
  refine g_newa2 (N := 13) (at0 := .int) (kd := 12) dX12_init_78 (Or.inl ⟨rfl, rfl⟩) ka_I (by decide) (by decide) rfl ?_
  rw [hb.1]
  replace hb := hb.push (kd := 12) (len := 13) (n' := 224) (by decide) (by decide) (by decide +kernel) (by decide +kernel : ow 223 = (214, 18)) (by decide) (fun j => hV _ j (by decide))
  generalize mm_push G 12 13 = G1 at hb ⊢
  generalize mm_zero D 223 = D1 at hb ⊢
  refine h_putR (j := 18) dX12_init_80 f_X12_39_11 (Or.inr ⟨rfl, mm_finI (by decide +kernel), mm_decl (by decide +kernel)⟩) (Or.inr ⟨_, rfl⟩) rfl (by decide) (hb.k (a := 214) (v := (11, 0)) (by decide) (by decide) (by decide +kernel)) (by decide) (hb.lt (by decide)) ?_
  replace hb := hb.put (x := 223) (by decide +kernel) (by decide) (by decide)
  exact K _ _ hb
theorem k_s224 {kc ks : Nat} (hb : Bd 224 [] V G D) (hV : ∀ c k, 215 ≤ c → V c k = 0) (K : ∀ G' D', Bd 225 [] V G' D' → Go E (d + 1) kc ks mX12_init 91 [some (vR 214)] [] G' D' Q) : Go E (d + 1) (kc + 1) (ks + 78) mX12_init 83 [some (vR 214)] [] G D Q := by
  refine g_aload_n dX12_init_83 rfl rfl ?_
  refine g_bipush dX12_init_84 bp_78 ?_
  refine g_newa2 (N := 78) (at0 := .int) (kd := 12) dX12_init_86 (Or.inl ⟨rfl, rfl⟩) ka_I (by decide) (by decide) rfl ?_
  rw [hb.1]
  replace hb := hb.push (kd := 12) (len := 78) (n' := 225) (by decide) (by decide) (by decide +kernel) (by decide +kernel : ow 224 = (214, 19)) (by decide) (fun j => hV _ j (by decide))
  generalize mm_push G 12 78 = G1 at hb ⊢
  generalize mm_zero D 224 = D1 at hb ⊢
  refine h_putR (j := 19) dX12_init_88 f_X12_42_11 (Or.inr ⟨rfl, mm_finI (by decide +kernel), mm_decl (by decide +kernel)⟩) (Or.inr ⟨_, rfl⟩) rfl (by decide) (hb.k (a := 214) (v := (11, 0)) (by decide) (by decide) (by decide +kernel)) (by decide) (hb.lt (by decide)) ?_
  replace hb := hb.put (x := 224) (by decide +kernel) (by decide) (by decide)
  exact K _ _ hb
theorem k_s225 {kc ks : Nat} (hb : Bd 225 [] V G D) (hV : ∀ c k, 215 ≤ c → V c k = 0) (K : ∀ G' D', Bd 226 [] V G' D' → Go E (d + 1) kc ks mX12_init 99 [some (vR 214)] [] G' D' Q) : Go E (d + 1) (kc + 1) (ks + 78) mX12_init 91 [some (vR 214)] [] G D Q := by
  refine g_aload_n dX12_init_91 rfl rfl ?_
  refine g_bipush dX12_init_92 bp_78 ?_
  refine g_newa2 (N := 78) (at0 := .int) (kd := 12) dX12_init_94 (Or.inl ⟨rfl, rfl⟩) ka_I (by decide) (by decide) rfl ?_
  rw [hb.1]
  replace hb := hb.push (kd := 12) (len := 78) (n' := 226) (by decide) (by decide) (by decide +kernel) (by decide +kernel : ow 225 = (214, 20)) (by decide) (fun j => hV _ j (by decide))
  generalize mm_push G 12 78 = G1 at hb ⊢
  generalize mm_zero D 225 = D1 at hb ⊢
  refine h_putR (j := 20) dX12_init_96 f_X12_45_11 (Or.inr ⟨rfl, mm_finI (by decide +kernel), mm_decl (by decide +kernel)⟩) (Or.inr ⟨_, rfl⟩) rfl (by decide) (hb.k (a := 214) (v := (11, 0)) (by decide) (by decide) (by decide +kernel)) (by decide) (hb.lt (by decide)) ?_
  replace hb := hb.put (x := 225) (by decide +kernel) (by decide) (by decide)
  exact K _ _ hb
theorem k_s226 {kc ks : Nat} (hb : Bd 226 [] V G D) (hV : ∀ c k, 215 ≤ c → V c k = 0) (K : ∀ G' D', Bd 227 [] V G' D' → Go E (d + 1) kc ks mX12_init 107 [some (vR 214)] [] G' D' Q) : Go E (d + 1) (kc + 1) (ks + 78) mX12_init 99 [some (vR 214)] [] G D Q := by
  refine g_aload_n dX12_init_99 rfl rfl ?_
  refine g_bipush dX12_init_100 bp_78 ?_
  refine g_newa2 (N := 78) (at0 := .int) (kd := 12) dX12_init_102 (Or.inl ⟨rfl, rfl⟩) ka_I (by decide) (by decide) rfl ?_
  rw [hb.1]
  replace hb := hb.push (kd := 12) (len := 78) (n' := 227) (by decide) (by decide) (by decide +kernel) (by decide +kernel : ow 226 = (214, 21)) (by decide) (fun j => hV _ j (by decide))
  generalize mm_push G 12 78 = G1 at hb ⊢
  generalize mm_zero D 226 = D1 at hb ⊢
  refine h_putR (j := 21) dX12_init_104 f_X12_48_11 (Or.inr ⟨rfl, mm_finI (by decide +kernel), mm_decl (by decide +kernel)⟩) (Or.inr ⟨_, rfl⟩) rfl (by decide) (hb.k (a := 214) (v := (11, 0)) (by decide) (by decide) (by decide +kernel)) (by decide) (hb.lt (by decide)) ?_
  replace hb := hb.put (x := 226) (by decide +kernel) (by decide) (by decide)
  exact K _ _ hb
theorem k_s227 {kc ks : Nat} (hb : Bd 227 [] V G D) (hV : ∀ c k, 215 ≤ c → V c k = 0) (K : ∀ G' D', Bd 228 [] V G' D' → Go E (d + 1) kc ks mX12_init 115 [some (vR 214)] [] G' D' Q) : Go E (d + 1) (kc + 1) (ks + 78) mX12_init 107 [some (vR 214)] [] G D Q := by
  refine g_aload_n dX12_init_107 rfl rfl ?_
  refine g_bipush dX12_init_108 bp_78 ?_
  refine g_newa2 (N := 78) (at0 := .int) (kd := 12) dX12_init_110 (Or.inl ⟨rfl, rfl⟩) ka_I (by decide) (by decide) rfl ?_
  rw [hb.1]
  replace hb := hb.push (kd := 12) (len := 78) (n' := 228) (by decide) (by decide) (by decide +kernel) (by decide +kernel : ow 227 = (214, 22)) (by decide) (fun j => hV _ j (by decide))
  generalize mm_push G 12 78 = G1 at hb ⊢
  generalize mm_zero D 227 = D1 at hb ⊢
  refine h_putR (j := 22) dX12_init_112 f_X12_51_11 (Or.inr ⟨rfl, mm_finI (by decide +kernel), mm_decl (by decide +kernel)⟩) (Or.inr ⟨_, rfl⟩) rfl (by decide) (hb.k (a := 214) (v := (11, 0)) (by decide) (by decide) (by decide +kernel)) (by decide) (hb.lt (by decide)) ?_
  replace hb := hb.put (x := 227) (by decide +kernel) (by decide) (by decide)
  exact K _ _ hb
theorem k_s228 {kc ks : Nat} (hb : Bd 228 [] V G D) (hV : ∀ c k, 215 ≤ c → V c k = 0) (K : ∀ G' D', Bd 229 [] V G' D' → Go E (d + 1) kc ks mX12_init 123 [some (vR 214)] [] G' D' Q) : Go E (d + 1) (kc + 1) (ks + 80) mX12_init 115 [some (vR 214)] [] G D Q := by
  refine g_aload_n dX12_init_115 rfl rfl ?_
  refine g_bipush dX12_init_116 bp_80 ?_
  refine g_newa2 (N := 80) (at0 := .int) (kd := 12) dX12_init_118 (Or.inl ⟨rfl, rfl⟩) ka_I (by decide) (by decide) rfl ?_
  rw [hb.1]
  replace hb := hb.push (kd := 12) (len := 80) (n' := 229) (by decide) (by decide) (by decide +kernel) (by decide +kernel : ow 228 = (214, 23)) (by decide) (fun j => hV _ j (by decide))
  generalize mm_push G 12 80 = G1 at hb ⊢
  generalize mm_zero D 228 = D1 at hb ⊢
  refine h_putR (j := 23) dX12_init_120 f_X12_54_11 (Or.inr ⟨rfl, mm_finI (by decide +kernel), mm_decl (by decide +kernel)⟩) (Or.inr ⟨_, rfl⟩) rfl (by decide) (hb.k (a := 214) (v := (11, 0)) (by decide) (by decide) (by decide +kernel)) (by decide) (hb.lt (by decide)) ?_
  replace hb := hb.put (x := 228) (by decide +kernel) (by decide) (by decide)
  exact K _ _ hb
theorem k_s229 {kc ks : Nat} (hb : Bd 229 [] V G D) (hV : ∀ c k, 215 ≤ c → V c k = 0) (K : ∀ G' D', Bd 230 [] V G' D' → Go E (d + 1) kc ks mX12_init 131 [some (vR 214)] [] G' D' Q) : Go E (d + 1) (kc + 1) (ks + 80) mX12_init 123 [some (vR 214)] [] G D Q := by
  refine g_aload_n dX12_init_123 rfl rfl ?_
  refine g_bipush dX12_init_124 bp_80 ?_
  refine g_newa2 (N := 80) (at0 := .int) (kd := 12) dX12_init_126 (Or.inl ⟨rfl, rfl⟩) ka_I (by decide) (by decide) rfl ?_
  rw [hb.1]
  replace hb := hb.push (kd := 12) (len := 80) (n' := 230) (by decide) (by decide) (by decide +kernel) (by decide +kernel : ow 229 = (214, 24)) (by decide) (fun j => hV _ j (by decide))
  generalize mm_push G 12 80 = G1 at hb ⊢
  generalize mm_zero D 229 = D1 at hb ⊢
  refine h_putR (j := 24) dX12_init_128 f_X12_57_11 (Or.inr ⟨rfl, mm_finI (by decide +kernel), mm_decl (by decide +kernel)⟩) (Or.inr ⟨_, rfl⟩) rfl (by decide) (hb.k (a := 214) (v := (11, 0)) (by decide) (by decide) (by decide +kernel)) (by decide) (hb.lt (by decide)) ?_
  replace hb := hb.put (x := 229) (by decide +kernel) (by decide) (by decide)
  exact K _ _ hb
theorem k_s230 {kc ks : Nat} (hb : Bd 230 [] V G D) (hV : ∀ c k, 215 ≤ c → V c k = 0) (K : ∀ G' D', Bd 231 [] V G' D' → Go E (d + 1) kc ks mX12_init 139 [some (vR 214)] [] G' D' Q) : Go E (d + 1) (kc + 1) (ks + 80) mX12_init 131 [some (vR 214)] [] G D Q := by
  refine g_aload_n dX12_init_131 rfl rfl ?_
  refine g_bipush dX12_init_132 bp_80 ?_
  refine g_newa2 (N := 80) (at0 := .int) (kd := 12) dX12_init_134 (Or.inl ⟨rfl, rfl⟩) ka_I (by decide) (by decide) rfl ?_
  rw [hb.1]
  replace hb := hb.push (kd := 12) (len := 80) (n' := 231) (by decide) (by decide) (by decide +kernel) (by decide +kernel : ow 230 = (214, 25)) (by decide) (fun j => hV _ j (by decide))
  generalize mm_push G 12 80 = G1 at hb ⊢
  generalize mm_zero D 230 = D1 at hb ⊢
  refine h_putR (j := 25) dX12_init_136 f_X12_60_11 (Or.inr ⟨rfl, mm_finI (by decide +kernel), mm_decl (by decide +kernel)⟩) (Or.inr ⟨_, rfl⟩) rfl (by decide) (hb.k (a := 214) (v := (11, 0)) (by decide) (by decide) (by decide +kernel)) (by decide) (hb.lt (by decide)) ?_
  replace hb := hb.put (x := 230) (by decide +kernel) (by decide) (by decide)
  exact K _ _ hb
theorem k_s231 {kc ks : Nat} (hb : Bd 231 [] V G D) (hV : ∀ c k, 215 ≤ c → V c k = 0) (K : ∀ G' D', Bd 232 [] V G' D' → Go E (d + 1) kc ks mX12_init 147 [some (vR 214)] [] G' D' Q) : Go E (d + 1) (kc + 1) (ks + 80) mX12_init 139 [some (vR 214)] [] G D Q := by
  refine g_aload_n dX12_init_139 rfl rfl ?_
  refine g_bipush dX12_init_140 bp_80 ?_
  refine g_newa2 (N := 80) (at0 := .int) (kd := 12) dX12_init_142 (Or.inl ⟨rfl, rfl⟩) ka_I (by decide) (by decide) rfl ?_
  rw [hb.1]
  replace hb := hb.push (kd := 12) (len := 80) (n' := 232) (by decide) (by decide) (by decide +kernel) (by decide +kernel : ow 231 = (214, 26)) (by decide) (fun j => hV _ j (by decide))
  generalize mm_push G 12 80 = G1 at hb ⊢
  generalize mm_zero D 231 = D1 at hb ⊢
  refine h_putR (j := 26) dX12_init_144 f_X12_63_11 (Or.inr ⟨rfl, mm_finI (by decide +kernel), mm_decl (by decide +kernel)⟩) (Or.inr ⟨_, rfl⟩) rfl (by decide) (hb.k (a := 214) (v := (11, 0)) (by decide) (by decide) (by decide +kernel)) (by decide) (hb.lt (by decide)) ?_
  replace hb := hb.put (x := 231) (by decide +kernel) (by decide) (by decide)
  exact K _ _ hb
theorem k_s232 {kc ks : Nat} (hb : Bd 232 [] V G D) (hV : ∀ c k, 215 ≤ c → V c k = 0) (K : ∀ G' D', Bd 233 [] V G' D' → Go E (d + 1) kc ks mX12_init 155 [some (vR 214)] [] G' D' Q) : Go E (d + 1) (kc + 1) (ks + 80) mX12_init 147 [some (vR 214)] [] G D Q := by
  refine g_aload_n dX12_init_147 rfl rfl ?_
  refine g_bipush dX12_init_148 bp_80 ?_
  refine g_newa2 (N := 80) (at0 := .int) (kd := 12) dX12_init_150 (Or.inl ⟨rfl, rfl⟩) ka_I (by decide) (by decide) rfl ?_
  rw [hb.1]
  replace hb := hb.push (kd := 12) (len := 80) (n' := 233) (by decide) (by decide) (by decide +kernel) (by decide +kernel : ow 232 = (214, 27)) (by decide) (fun j => hV _ j (by decide))
  generalize mm_push G 12 80 = G1 at hb ⊢
  generalize mm_zero D 232 = D1 at hb ⊢
  refine h_putR (j := 27) dX12_init_152 f_X12_66_11 (Or.inr ⟨rfl, mm_finI (by decide +kernel), mm_decl (by decide +kernel)⟩) (Or.inr ⟨_, rfl⟩) rfl (by decide) (hb.k (a := 214) (v := (11, 0)) (by decide) (by decide) (by decide +kernel)) (by decide) (hb.lt (by decide)) ?_
  replace hb := hb.put (x := 232) (by decide +kernel) (by decide) (by decide)
  exact K _ _ hb
theorem k_s233 {kc ks : Nat} (hb : Bd 233 [] V G D) (hV : ∀ c k, 215 ≤ c → V c k = 0) (K : ∀ G' D', Bd 234 [] V G' D' → Go E (d + 1) kc ks mX12_init 163 [some (vR 214)] [] G' D' Q) : Go E (d + 1) (kc + 1) (ks + 60) mX12_init 155 [some (vR 214)] [] G D Q := by
  refine g_aload_n dX12_init_155 rfl rfl ?_
  refine g_bipush dX12_init_156 bp_60 ?_
  refine g_newa2 (N := 60) (at0 := .int) (kd := 12) dX12_init_158 (Or.inl ⟨rfl, rfl⟩) ka_I (by decide) (by decide) rfl ?_
  rw [hb.1]
  replace hb := hb.push (kd := 12) (len := 60) (n' := 234) (by decide) (by decide) (by decide +kernel) (by decide +kernel : ow 233 = (214, 28)) (by decide) (fun j => hV _ j (by decide))
  generalize mm_push G 12 60 = G1 at hb ⊢
  generalize mm_zero D 233 = D1 at hb ⊢
  refine h_putR (j := 28) dX12_init_160 f_X12_69_11 (Or.inr ⟨rfl, mm_finI (by decide +kernel), mm_decl (by decide +kernel)⟩) (Or.inr ⟨_, rfl⟩) rfl (by decide) (hb.k (a := 214) (v := (11, 0)) (by decide) (by decide) (by decide +kernel)) (by decide) (hb.lt (by decide)) ?_
  replace hb := hb.put (x := 233) (by decide +kernel) (by decide) (by decide)
  exact K _ _ hb
theorem k_s234 {kc ks : Nat} (hb : Bd 234 [] V G D) (hV : ∀ c k, 215 ≤ c → V c k = 0) (K : ∀ G' D', Bd 235 [] V G' D' → Go E (d + 1) kc ks mX12_init 171 [some (vR 214)] [] G' D' Q) : Go E (d + 1) (kc + 1) (ks + 60) mX12_init 163 [some (vR 214)] [] G D Q := by
  refine g_aload_n dX12_init_163 rfl rfl ?_
  refine g_bipush dX12_init_164 bp_60 ?_
  refine g_newa2 (N := 60) (at0 := .boolean) (kd := 13) dX12_init_166 (Or.inr ⟨rfl, rfl⟩) ka_Z (by decide) (by decide) rfl ?_
  rw [hb.1]
  replace hb := hb.push (kd := 13) (len := 60) (n' := 235) (by decide) (by decide) (by decide +kernel) (by decide +kernel : ow 234 = (214, 29)) (by decide) (fun j => hV _ j (by decide))
  generalize mm_push G 13 60 = G1 at hb ⊢
  generalize mm_zero D 234 = D1 at hb ⊢
  refine h_putR (j := 29) dX12_init_168 f_X12_72_11 (Or.inr ⟨rfl, mm_finI (by decide +kernel), mm_decl (by decide +kernel)⟩) (Or.inr ⟨_, rfl⟩) rfl (by decide) (hb.k (a := 214) (v := (11, 0)) (by decide) (by decide) (by decide +kernel)) (by decide) (hb.lt (by decide)) ?_
  replace hb := hb.put (x := 234) (by decide +kernel) (by decide) (by decide)
  exact K _ _ hb
theorem k_s235 {kc ks : Nat} (hb : Bd 235 [] V G D) (hV : ∀ c k, 215 ≤ c → V c k = 0) (K : ∀ G' D', Bd 236 [] V G' D' → Go E (d + 1) kc ks mX12_init 179 [some (vR 214)] [] G' D' Q) : Go E (d + 1) (kc + 1) (ks + 8) mX12_init 171 [some (vR 214)] [] G D Q := by
  refine g_aload_n dX12_init_171 rfl rfl ?_
  refine g_bipush dX12_init_172 bp_8 ?_
  refine g_newa2 (N := 8) (at0 := .int) (kd := 12) dX12_init_174 (Or.inl ⟨rfl, rfl⟩) ka_I (by decide) (by decide) rfl ?_
  rw [hb.1]
  replace hb := hb.push (kd := 12) (len := 8) (n' := 236) (by decide) (by decide) (by decide +kernel) (by decide +kernel : ow 235 = (214, 33)) (by decide) (fun j => hV _ j (by decide))
  generalize mm_push G 12 8 = G1 at hb ⊢
  generalize mm_zero D 235 = D1 at hb ⊢
  refine h_putR (j := 33) dX12_init_176 f_X12_75_11 (Or.inr ⟨rfl, mm_finI (by decide +kernel), mm_decl (by decide +kernel)⟩) (Or.inr ⟨_, rfl⟩) rfl (by decide) (hb.k (a := 214) (v := (11, 0)) (by decide) (by decide) (by decide +kernel)) (by decide) (hb.lt (by decide)) ?_
  replace hb := hb.put (x := 235) (by decide +kernel) (by decide) (by decide)
  exact K _ _ hb
theorem k_s236 {kc ks : Nat} (hb : Bd 236 [] V G D) (hV : ∀ c k, 215 ≤ c → V c k = 0) (K : ∀ G' D', Bd 237 [] V G' D' → Go E (d + 1) kc ks mX12_init 187 [some (vR 214)] [] G' D' Q) : Go E (d + 1) (kc + 1) (ks + 8) mX12_init 179 [some (vR 214)] [] G D Q := by
  refine g_aload_n dX12_init_179 rfl rfl ?_
  refine g_bipush dX12_init_180 bp_8 ?_
  refine g_newa2 (N := 8) (at0 := .int) (kd := 12) dX12_init_182 (Or.inl ⟨rfl, rfl⟩) ka_I (by decide) (by decide) rfl ?_
  rw [hb.1]
  replace hb := hb.push (kd := 12) (len := 8) (n' := 237) (by decide) (by decide) (by decide +kernel) (by decide +kernel : ow 236 = (214, 34)) (by decide) (fun j => hV _ j (by decide))
  generalize mm_push G 12 8 = G1 at hb ⊢
  generalize mm_zero D 236 = D1 at hb ⊢
  refine h_putR (j := 34) dX12_init_184 f_X12_78_11 (Or.inr ⟨rfl, mm_finI (by decide +kernel), mm_decl (by decide +kernel)⟩) (Or.inr ⟨_, rfl⟩) rfl (by decide) (hb.k (a := 214) (v := (11, 0)) (by decide) (by decide) (by decide +kernel)) (by decide) (hb.lt (by decide)) ?_
  replace hb := hb.put (x := 236) (by decide +kernel) (by decide) (by decide)
  exact K _ _ hb
theorem k_s237 {kc ks : Nat} (hb : Bd 237 [] V G D) (hV : ∀ c k, 215 ≤ c → V c k = 0) (K : ∀ G' D', Bd 238 [] V G' D' → Go E (d + 1) kc ks mX12_init 195 [some (vR 214)] [] G' D' Q) : Go E (d + 1) (kc + 1) (ks + 81) mX12_init 187 [some (vR 214)] [] G D Q := by
  refine g_aload_n dX12_init_187 rfl rfl ?_
  refine g_bipush dX12_init_188 bp_81 ?_
  refine g_newa2 (N := 81) (at0 := .int) (kd := 12) dX12_init_190 (Or.inl ⟨rfl, rfl⟩) ka_I (by decide) (by decide) rfl ?_
  rw [hb.1]
  replace hb := hb.push (kd := 12) (len := 81) (n' := 238) (by decide) (by decide) (by decide +kernel) (by decide +kernel : ow 237 = (214, 36)) (by decide) (fun j => hV _ j (by decide))
  generalize mm_push G 12 81 = G1 at hb ⊢
  generalize mm_zero D 237 = D1 at hb ⊢
  refine h_putR (j := 36) dX12_init_192 f_X12_81_11 (Or.inr ⟨rfl, mm_finI (by decide +kernel), mm_decl (by decide +kernel)⟩) (Or.inr ⟨_, rfl⟩) rfl (by decide) (hb.k (a := 214) (v := (11, 0)) (by decide) (by decide) (by decide +kernel)) (by decide) (hb.lt (by decide)) ?_
  replace hb := hb.put (x := 237) (by decide +kernel) (by decide) (by decide)
  exact K _ _ hb
theorem k_s238 {kc ks : Nat} (hb : Bd 238 [] V G D) (hV : ∀ c k, 215 ≤ c → V c k = 0) (K : ∀ G' D', Bd 239 [] V G' D' → Go E (d + 1) kc ks mX12_init 203 [some (vR 214)] [] G' D' Q) : Go E (d + 1) (kc + 1) (ks + 16) mX12_init 195 [some (vR 214)] [] G D Q := by
  refine g_aload_n dX12_init_195 rfl rfl ?_
  refine g_bipush dX12_init_196 bp_16 ?_
  refine g_newa2 (N := 16) (at0 := .int) (kd := 12) dX12_init_198 (Or.inl ⟨rfl, rfl⟩) ka_I (by decide) (by decide) rfl ?_
  rw [hb.1]
  replace hb := hb.push (kd := 12) (len := 16) (n' := 239) (by decide) (by decide) (by decide +kernel) (by decide +kernel : ow 238 = (214, 37)) (by decide) (fun j => hV _ j (by decide))
  generalize mm_push G 12 16 = G1 at hb ⊢
  generalize mm_zero D 238 = D1 at hb ⊢
  refine h_putR (j := 37) dX12_init_200 f_X12_84_11 (Or.inr ⟨rfl, mm_finI (by decide +kernel), mm_decl (by decide +kernel)⟩) (Or.inr ⟨_, rfl⟩) rfl (by decide) (hb.k (a := 214) (v := (11, 0)) (by decide) (by decide) (by decide +kernel)) (by decide) (hb.lt (by decide)) ?_
  replace hb := hb.put (x := 238) (by decide +kernel) (by decide) (by decide)
  exact K _ _ hb
theorem k_s239 {kc ks : Nat} (hb : Bd 239 [] V G D) (hV : ∀ c k, 215 ≤ c → V c k = 0) (K : ∀ G' D', Bd 240 [] V G' D' → Go E (d + 1) kc ks mX12_init 210 [some (vR 214)] [] G' D' Q) : Go E (d + 1) (kc + 1) (ks + 4) mX12_init 203 [some (vR 214)] [] G D Q := by
  refine g_aload_n dX12_init_203 rfl rfl ?_
  refine g_iconst dX12_init_204 ?_
  refine g_newa2 (N := 4) (at0 := .int) (kd := 12) dX12_init_205 (Or.inl ⟨rfl, rfl⟩) ka_I (by decide) (by decide) rfl ?_
  rw [hb.1]
  replace hb := hb.push (kd := 12) (len := 4) (n' := 240) (by decide) (by decide) (by decide +kernel) (by decide +kernel : ow 239 = (214, 41)) (by decide) (fun j => hV _ j (by decide))
  generalize mm_push G 12 4 = G1 at hb ⊢
  generalize mm_zero D 239 = D1 at hb ⊢
  refine h_putR (j := 41) dX12_init_207 f_X12_87_11 (Or.inr ⟨rfl, mm_finI (by decide +kernel), mm_decl (by decide +kernel)⟩) (Or.inr ⟨_, rfl⟩) rfl (by decide) (hb.k (a := 214) (v := (11, 0)) (by decide) (by decide) (by decide +kernel)) (by decide) (hb.lt (by decide)) ?_
  replace hb := hb.put (x := 239) (by decide +kernel) (by decide) (by decide)
  exact K _ _ hb
theorem k_s240 {kc ks : Nat} (hb : Bd 240 [] V G D) (hV : ∀ c k, 215 ≤ c → V c k = 0) (K : ∀ G' D', Bd 241 [] V G' D' → Go E (d + 1) kc ks mX12_init 217 [some (vR 214)] [] G' D' Q) : Go E (d + 1) (kc + 1) (ks + 4) mX12_init 210 [some (vR 214)] [] G D Q := by
  refine g_aload_n dX12_init_210 rfl rfl ?_
  refine g_iconst dX12_init_211 ?_
  refine g_newa2 (N := 4) (at0 := .int) (kd := 12) dX12_init_212 (Or.inl ⟨rfl, rfl⟩) ka_I (by decide) (by decide) rfl ?_
  rw [hb.1]
  replace hb := hb.push (kd := 12) (len := 4) (n' := 241) (by decide) (by decide) (by decide +kernel) (by decide +kernel : ow 240 = (214, 42)) (by decide) (fun j => hV _ j (by decide))
  generalize mm_push G 12 4 = G1 at hb ⊢
  generalize mm_zero D 240 = D1 at hb ⊢
  refine h_putR (j := 42) dX12_init_214 f_X12_90_11 (Or.inr ⟨rfl, mm_finI (by decide +kernel), mm_decl (by decide +kernel)⟩) (Or.inr ⟨_, rfl⟩) rfl (by decide) (hb.k (a := 214) (v := (11, 0)) (by decide) (by decide) (by decide +kernel)) (by decide) (hb.lt (by decide)) ?_
  replace hb := hb.put (x := 240) (by decide +kernel) (by decide) (by decide)
  exact K _ _ hb
theorem k_s241 {kc ks : Nat} (hb : Bd 241 [] V G D) (hV : ∀ c k, 215 ≤ c → V c k = 0) (K : ∀ G' D', Bd 242 [] V G' D' → Go E (d + 1) kc ks mX12_init 224 [some (vR 214)] [] G' D' Q) : Go E (d + 1) (kc + 1) (ks + 4) mX12_init 217 [some (vR 214)] [] G D Q := by
  refine g_aload_n dX12_init_217 rfl rfl ?_
  refine g_iconst dX12_init_218 ?_
  refine g_newa2 (N := 4) (at0 := .int) (kd := 12) dX12_init_219 (Or.inl ⟨rfl, rfl⟩) ka_I (by decide) (by decide) rfl ?_
  rw [hb.1]
  replace hb := hb.push (kd := 12) (len := 4) (n' := 242) (by decide) (by decide) (by decide +kernel) (by decide +kernel : ow 241 = (214, 43)) (by decide) (fun j => hV _ j (by decide))
  generalize mm_push G 12 4 = G1 at hb ⊢
  generalize mm_zero D 241 = D1 at hb ⊢
  refine h_putR (j := 43) dX12_init_221 f_X12_93_11 (Or.inr ⟨rfl, mm_finI (by decide +kernel), mm_decl (by decide +kernel)⟩) (Or.inr ⟨_, rfl⟩) rfl (by decide) (hb.k (a := 214) (v := (11, 0)) (by decide) (by decide) (by decide +kernel)) (by decide) (hb.lt (by decide)) ?_
  replace hb := hb.put (x := 241) (by decide +kernel) (by decide) (by decide)
  exact K _ _ hb
theorem k_s242 {kc ks : Nat} (hb : Bd 242 [] V G D) (hV : ∀ c k, 215 ≤ c → V c k = 0) (K : ∀ G' D', Bd 243 [] V G' D' → Go E (d + 1) kc ks mX12_init 232 [some (vR 214)] [] G' D' Q) : Go E (d + 1) (kc + 1) (ks + 8) mX12_init 224 [some (vR 214)] [] G D Q := by
  refine g_aload_n dX12_init_224 rfl rfl ?_
  refine g_bipush dX12_init_225 bp_8 ?_
  refine g_newa2 (N := 8) (at0 := .int) (kd := 12) dX12_init_227 (Or.inl ⟨rfl, rfl⟩) ka_I (by decide) (by decide) rfl ?_
  rw [hb.1]
  replace hb := hb.push (kd := 12) (len := 8) (n' := 243) (by decide) (by decide) (by decide +kernel) (by decide +kernel : ow 242 = (214, 47)) (by decide) (fun j => hV _ j (by decide))
  generalize mm_push G 12 8 = G1 at hb ⊢
  generalize mm_zero D 242 = D1 at hb ⊢
  refine h_putR (j := 47) dX12_init_229 f_X12_96_11 (Or.inr ⟨rfl, mm_finI (by decide +kernel), mm_decl (by decide +kernel)⟩) (Or.inr ⟨_, rfl⟩) rfl (by decide) (hb.k (a := 214) (v := (11, 0)) (by decide) (by decide) (by decide +kernel)) (by decide) (hb.lt (by decide)) ?_
  replace hb := hb.put (x := 242) (by decide +kernel) (by decide) (by decide)
  exact K _ _ hb
theorem k_s243 {kc ks : Nat} (hb : Bd 243 [] V G D) (hV : ∀ c k, 215 ≤ c → V c k = 0) (K : ∀ G' D', Bd 244 [] V G' D' → Go E (d + 1) kc ks mX12_init 240 [some (vR 214)] [] G' D' Q) : Go E (d + 1) (kc + 1) (ks + 6) mX12_init 232 [some (vR 214)] [] G D Q := by
  refine g_aload_n dX12_init_232 rfl rfl ?_
  refine g_bipush dX12_init_233 bp_6 ?_
  refine g_newa2 (N := 6) (at0 := .int) (kd := 12) dX12_init_235 (Or.inl ⟨rfl, rfl⟩) ka_I (by decide) (by decide) rfl ?_
  rw [hb.1]
  replace hb := hb.push (kd := 12) (len := 6) (n' := 244) (by decide) (by decide) (by decide +kernel) (by decide +kernel : ow 243 = (214, 48)) (by decide) (fun j => hV _ j (by decide))
  generalize mm_push G 12 6 = G1 at hb ⊢
  generalize mm_zero D 243 = D1 at hb ⊢
  refine h_putR (j := 48) dX12_init_237 f_X12_99_11 (Or.inr ⟨rfl, mm_finI (by decide +kernel), mm_decl (by decide +kernel)⟩) (Or.inr ⟨_, rfl⟩) rfl (by decide) (hb.k (a := 214) (v := (11, 0)) (by decide) (by decide) (by decide +kernel)) (by decide) (hb.lt (by decide)) ?_
  replace hb := hb.put (x := 243) (by decide +kernel) (by decide) (by decide)
  exact K _ _ hb
theorem k_s244 {kc ks : Nat} (hb : Bd 244 [] V G D) (hV : ∀ c k, 215 ≤ c → V c k = 0) (K : ∀ G' D', Bd 245 [] V G' D' → Go E (d + 1) kc ks mX12_init 248 [some (vR 214)] [] G' D' Q) : Go E (d + 1) (kc + 1) (ks + 9) mX12_init 240 [some (vR 214)] [] G D Q := by
  refine g_aload_n dX12_init_240 rfl rfl ?_
  refine g_bipush dX12_init_241 bp_9 ?_
  refine g_newa2 (N := 9) (at0 := .int) (kd := 12) dX12_init_243 (Or.inl ⟨rfl, rfl⟩) ka_I (by decide) (by decide) rfl ?_
  rw [hb.1]
  replace hb := hb.push (kd := 12) (len := 9) (n' := 245) (by decide) (by decide) (by decide +kernel) (by decide +kernel : ow 244 = (214, 49)) (by decide) (fun j => hV _ j (by decide))
  generalize mm_push G 12 9 = G1 at hb ⊢
  generalize mm_zero D 244 = D1 at hb ⊢
  refine h_putR (j := 49) dX12_init_245 f_X12_102_11 (Or.inr ⟨rfl, mm_finI (by decide +kernel), mm_decl (by decide +kernel)⟩) (Or.inr ⟨_, rfl⟩) rfl (by decide) (hb.k (a := 214) (v := (11, 0)) (by decide) (by decide) (by decide +kernel)) (by decide) (hb.lt (by decide)) ?_
  replace hb := hb.put (x := 244) (by decide +kernel) (by decide) (by decide)
  exact K _ _ hb
theorem k_s245 {kc ks : Nat} (hb : Bd 245 [] V G D) (hV : ∀ c k, 215 ≤ c → V c k = 0) (K : ∀ G' D', Bd 246 [] V G' D' → Go E (d + 1) kc ks mX12_init 256 [some (vR 214)] [] G' D' Q) : Go E (d + 1) (kc + 1) (ks + 9) mX12_init 248 [some (vR 214)] [] G D Q := by
  refine g_aload_n dX12_init_248 rfl rfl ?_
  refine g_bipush dX12_init_249 bp_9 ?_
  refine g_newa2 (N := 9) (at0 := .int) (kd := 12) dX12_init_251 (Or.inl ⟨rfl, rfl⟩) ka_I (by decide) (by decide) rfl ?_
  rw [hb.1]
  replace hb := hb.push (kd := 12) (len := 9) (n' := 246) (by decide) (by decide) (by decide +kernel) (by decide +kernel : ow 245 = (214, 50)) (by decide) (fun j => hV _ j (by decide))
  generalize mm_push G 12 9 = G1 at hb ⊢
  generalize mm_zero D 245 = D1 at hb ⊢
  refine h_putR (j := 50) dX12_init_253 f_X12_105_11 (Or.inr ⟨rfl, mm_finI (by decide +kernel), mm_decl (by decide +kernel)⟩) (Or.inr ⟨_, rfl⟩) rfl (by decide) (hb.k (a := 214) (v := (11, 0)) (by decide) (by decide) (by decide +kernel)) (by decide) (hb.lt (by decide)) ?_
  replace hb := hb.put (x := 245) (by decide +kernel) (by decide) (by decide)
  exact K _ _ hb
theorem k_s246 {kc ks : Nat} (hb : Bd 246 [] V G D) (hV : ∀ c k, 215 ≤ c → V c k = 0) (K : ∀ G' D', Bd 247 [] V G' D' → Go E (d + 1) kc ks mX12_init 264 [some (vR 214)] [] G' D' Q) : Go E (d + 1) (kc + 1) (ks + 60) mX12_init 256 [some (vR 214)] [] G D Q := by
  refine g_aload_n dX12_init_256 rfl rfl ?_
  refine g_bipush dX12_init_257 bp_60 ?_
  refine g_newa2 (N := 60) (at0 := .int) (kd := 12) dX12_init_259 (Or.inl ⟨rfl, rfl⟩) ka_I (by decide) (by decide) rfl ?_
  rw [hb.1]
  replace hb := hb.push (kd := 12) (len := 60) (n' := 247) (by decide) (by decide) (by decide +kernel) (by decide +kernel : ow 246 = (214, 54)) (by decide) (fun j => hV _ j (by decide))
  generalize mm_push G 12 60 = G1 at hb ⊢
  generalize mm_zero D 246 = D1 at hb ⊢
  refine h_putR (j := 54) dX12_init_261 f_X12_108_11 (Or.inr ⟨rfl, mm_finI (by decide +kernel), mm_decl (by decide +kernel)⟩) (Or.inr ⟨_, rfl⟩) rfl (by decide) (hb.k (a := 214) (v := (11, 0)) (by decide) (by decide) (by decide +kernel)) (by decide) (hb.lt (by decide)) ?_
  replace hb := hb.put (x := 246) (by decide +kernel) (by decide) (by decide)
  exact K _ _ hb
theorem k_s247 {kc ks : Nat} (hb : Bd 247 [] V G D) (hV : ∀ c k, 215 ≤ c → V c k = 0) (K : ∀ G' D', Bd 248 [] V G' D' → Go E (d + 1) kc ks mX12_init 272 [some (vR 214)] [] G' D' Q) : Go E (d + 1) (kc + 1) (ks + 66) mX12_init 264 [some (vR 214)] [] G D Q := by
  refine g_aload_n dX12_init_264 rfl rfl ?_
  refine g_bipush dX12_init_265 bp_66 ?_
  refine g_newa2 (N := 66) (at0 := .int) (kd := 12) dX12_init_267 (Or.inl ⟨rfl, rfl⟩) ka_I (by decide) (by decide) rfl ?_
  rw [hb.1]
  replace hb := hb.push (kd := 12) (len := 66) (n' := 248) (by decide) (by decide) (by decide +kernel) (by decide +kernel : ow 247 = (214, 55)) (by decide) (fun j => hV _ j (by decide))
  generalize mm_push G 12 66 = G1 at hb ⊢
  generalize mm_zero D 247 = D1 at hb ⊢
  refine h_putR (j := 55) dX12_init_269 f_X12_111_11 (Or.inr ⟨rfl, mm_finI (by decide +kernel), mm_decl (by decide +kernel)⟩) (Or.inr ⟨_, rfl⟩) rfl (by decide) (hb.k (a := 214) (v := (11, 0)) (by decide) (by decide) (by decide +kernel)) (by decide) (hb.lt (by decide)) ?_
  replace hb := hb.put (x := 247) (by decide +kernel) (by decide) (by decide)
  exact K _ _ hb
theorem k_s248 {kc ks : Nat} (hb : Bd 248 [] V G D) (hV : ∀ c k, 215 ≤ c → V c k = 0) (K : ∀ G' D', Bd 249 [] V G' D' → Go E (d + 1) kc ks mX12_init 280 [some (vR 214)] [] G' D' Q) : Go E (d + 1) (kc + 1) (ks + 20) mX12_init 272 [some (vR 214)] [] G D Q := by
  refine g_aload_n dX12_init_272 rfl rfl ?_
  refine g_bipush dX12_init_273 bp_20 ?_
  refine g_newa2 (N := 20) (at0 := .int) (kd := 12) dX12_init_275 (Or.inl ⟨rfl, rfl⟩) ka_I (by decide) (by decide) rfl ?_
  rw [hb.1]
  replace hb := hb.push (kd := 12) (len := 20) (n' := 249) (by decide) (by decide) (by decide +kernel) (by decide +kernel : ow 248 = (214, 56)) (by decide) (fun j => hV _ j (by decide))
  generalize mm_push G 12 20 = G1 at hb ⊢
  generalize mm_zero D 248 = D1 at hb ⊢
  refine h_putR (j := 56) dX12_init_277 f_X12_114_11 (Or.inr ⟨rfl, mm_finI (by decide +kernel), mm_decl (by decide +kernel)⟩) (Or.inr ⟨_, rfl⟩) rfl (by decide) (hb.k (a := 214) (v := (11, 0)) (by decide) (by decide) (by decide +kernel)) (by decide) (hb.lt (by decide)) ?_
  replace hb := hb.put (x := 248) (by decide +kernel) (by decide) (by decide)
  exact K _ _ hb
theorem k_X12_init (hb : Bd 215 [] V G D) (hV : ∀ c k, 215 ≤ c → V c k = 0) (K : ∀ G' D', Bd 249 [] (up2 V 214 8 12) G' D' → Q none G' D') {kc ks c0 s0 : Nat} (hc : c0 = kc + 34) (hs : s0 = ks + 1960) : Call E (d + 1) c0 s0 mX12_init [vR 214] G D Q := by
  have hV2 : ∀ c k, 215 ≤ c → up2 V 214 8 12 c k = 0 := fun c k q => by rw [up2_ne (by omega)]; exact hV c k q
  have z249 : ∀ G D, Bd 249 [] (up2 V 214 8 12) G D → Go E (d + 1) kc ks mX12_init 280 [some (vR 214)] [] G D Q := fun G D hb => g_vret dX12_init_280 rfl (K _ _ hb)
  have z248 : ∀ G D, Bd 248 [] (up2 V 214 8 12) G D → Go E (d + 1) (kc + 1) (ks + 20) mX12_init 272 [some (vR 214)] [] G D Q := fun G D hb => k_s248 hb hV2 (z249)
  have z247 : ∀ G D, Bd 247 [] (up2 V 214 8 12) G D → Go E (d + 1) (kc + 1 + 1) (ks + 20 + 66) mX12_init 264 [some (vR 214)] [] G D Q := fun G D hb => k_s247 hb hV2 (z248)
  have z246 : ∀ G D, Bd 246 [] (up2 V 214 8 12) G D → Go E (d + 1) (kc + 1 + 1 + 1) (ks + 20 + 66 + 60) mX12_init 256 [some (vR 214)] [] G D Q := fun G D hb => k_s246 hb hV2 (z247)
  have z245 : ∀ G D, Bd 245 [] (up2 V 214 8 12) G D → Go E (d + 1) (kc + 1 + 1 + 1 + 1) (ks + 20 + 66 + 60 + 9) mX12_init 248 [some (vR 214)] [] G D Q := fun G D hb => k_s245 hb hV2 (z246)
  have z244 : ∀ G D, Bd 244 [] (up2 V 214 8 12) G D → Go E (d + 1) (kc + 1 + 1 + 1 + 1 + 1) (ks + 20 + 66 + 60 + 9 + 9) mX12_init 240 [some (vR 214)] [] G D Q := fun G D hb => k_s244 hb hV2 (z245)
  have z243 : ∀ G D, Bd 243 [] (up2 V 214 8 12) G D → Go E (d + 1) (kc + 1 + 1 + 1 + 1 + 1 + 1) (ks + 20 + 66 + 60 + 9 + 9 + 6) mX12_init 232 [some (vR 214)] [] G D Q := fun G D hb => k_s243 hb hV2 (z244)
  have z242 : ∀ G D, Bd 242 [] (up2 V 214 8 12) G D → Go E (d + 1) (kc + 1 + 1 + 1 + 1 + 1 + 1 + 1) (ks + 20 + 66 + 60 + 9 + 9 + 6 + 8) mX12_init 224 [some (vR 214)] [] G D Q := fun G D hb => k_s242 hb hV2 (z243)
  have z241 : ∀ G D, Bd 241 [] (up2 V 214 8 12) G D → Go E (d + 1) (kc + 1 + 1 + 1 + 1 + 1 + 1 + 1 + 1) (ks + 20 + 66 + 60 + 9 + 9 + 6 + 8 + 4) mX12_init 217 [some (vR 214)] [] G D Q := fun G D hb => k_s241 hb hV2 (z242)
  have z240 : ∀ G D, Bd 240 [] (up2 V 214 8 12) G D → Go E (d + 1) (kc + 1 + 1 + 1 + 1 + 1 + 1 + 1 + 1 + 1) (ks + 20 + 66 + 60 + 9 + 9 + 6 + 8 + 4 + 4) mX12_init 210 [some (vR 214)] [] G D Q := fun G D hb => k_s240 hb hV2 (z241)
  have z239 : ∀ G D, Bd 239 [] (up2 V 214 8 12) G D → Go E (d + 1) (kc + 1 + 1 + 1 + 1 + 1 + 1 + 1 + 1 + 1 + 1) (ks + 20 + 66 + 60 + 9 + 9 + 6 + 8 + 4 + 4 + 4) mX12_init 203 [some (vR 214)] [] G D Q := fun G D hb => k_s239 hb hV2 (z240)
  have z238 : ∀ G D, Bd 238 [] (up2 V 214 8 12) G D → Go E (d + 1) (kc + 1 + 1 + 1 + 1 + 1 + 1 + 1 + 1 + 1 + 1 + 1) (ks + 20 + 66 + 60 + 9 + 9 + 6 + 8 + 4 + 4 + 4 + 16) mX12_init 195 [some (vR 214)] [] G D Q := fun G D hb => k_s238 hb hV2 (z239)
  have z237 : ∀ G D, Bd 237 [] (up2 V 214 8 12) G D → Go E (d + 1) (kc + 1 + 1 + 1 + 1 + 1 + 1 + 1 + 1 + 1 + 1 + 1 + 1) (ks + 20 + 66 + 60 + 9 + 9 + 6 + 8 + 4 + 4 + 4 + 16 + 81) mX12_init 187 [some (vR 214)] [] G D Q := fun G D hb => k_s237 hb hV2 (z238)
  have z236 : ∀ G D, Bd 236 [] (up2 V 214 8 12) G D → Go E (d + 1) (kc + 1 + 1 + 1 + 1 + 1 + 1 + 1 + 1 + 1 + 1 + 1 + 1 + 1) (ks + 20 + 66 + 60 + 9 + 9 + 6 + 8 + 4 + 4 + 4 + 16 + 81 + 8) mX12_init 179 [some (vR 214)] [] G D Q := fun G D hb => k_s236 hb hV2 (z237)
  have z235 : ∀ G D, Bd 235 [] (up2 V 214 8 12) G D → Go E (d + 1) (kc + 1 + 1 + 1 + 1 + 1 + 1 + 1 + 1 + 1 + 1 + 1 + 1 + 1 + 1) (ks + 20 + 66 + 60 + 9 + 9 + 6 + 8 + 4 + 4 + 4 + 16 + 81 + 8 + 8) mX12_init 171 [some (vR 214)] [] G D Q := fun G D hb => k_s235 hb hV2 (z236)
  have z234 : ∀ G D, Bd 234 [] (up2 V 214 8 12) G D → Go E (d + 1) (kc + 1 + 1 + 1 + 1 + 1 + 1 + 1 + 1 + 1 + 1 + 1 + 1 + 1 + 1 + 1) (ks + 20 + 66 + 60 + 9 + 9 + 6 + 8 + 4 + 4 + 4 + 16 + 81 + 8 + 8 + 60) mX12_init 163 [some (vR 214)] [] G D Q := fun G D hb => k_s234 hb hV2 (z235)
  have z233 : ∀ G D, Bd 233 [] (up2 V 214 8 12) G D → Go E (d + 1) (kc + 1 + 1 + 1 + 1 + 1 + 1 + 1 + 1 + 1 + 1 + 1 + 1 + 1 + 1 + 1 + 1) (ks + 20 + 66 + 60 + 9 + 9 + 6 + 8 + 4 + 4 + 4 + 16 + 81 + 8 + 8 + 60 + 60) mX12_init 155 [some (vR 214)] [] G D Q := fun G D hb => k_s233 hb hV2 (z234)
  have z232 : ∀ G D, Bd 232 [] (up2 V 214 8 12) G D → Go E (d + 1) (kc + 1 + 1 + 1 + 1 + 1 + 1 + 1 + 1 + 1 + 1 + 1 + 1 + 1 + 1 + 1 + 1 + 1) (ks + 20 + 66 + 60 + 9 + 9 + 6 + 8 + 4 + 4 + 4 + 16 + 81 + 8 + 8 + 60 + 60 + 80) mX12_init 147 [some (vR 214)] [] G D Q := fun G D hb => k_s232 hb hV2 (z233)
  have z231 : ∀ G D, Bd 231 [] (up2 V 214 8 12) G D → Go E (d + 1) (kc + 1 + 1 + 1 + 1 + 1 + 1 + 1 + 1 + 1 + 1 + 1 + 1 + 1 + 1 + 1 + 1 + 1 + 1) (ks + 20 + 66 + 60 + 9 + 9 + 6 + 8 + 4 + 4 + 4 + 16 + 81 + 8 + 8 + 60 + 60 + 80 + 80) mX12_init 139 [some (vR 214)] [] G D Q := fun G D hb => k_s231 hb hV2 (z232)
  have z230 : ∀ G D, Bd 230 [] (up2 V 214 8 12) G D → Go E (d + 1) (kc + 1 + 1 + 1 + 1 + 1 + 1 + 1 + 1 + 1 + 1 + 1 + 1 + 1 + 1 + 1 + 1 + 1 + 1 + 1) (ks + 20 + 66 + 60 + 9 + 9 + 6 + 8 + 4 + 4 + 4 + 16 + 81 + 8 + 8 + 60 + 60 + 80 + 80 + 80) mX12_init 131 [some (vR 214)] [] G D Q := fun G D hb => k_s230 hb hV2 (z231)
  have z229 : ∀ G D, Bd 229 [] (up2 V 214 8 12) G D → Go E (d + 1) (kc + 1 + 1 + 1 + 1 + 1 + 1 + 1 + 1 + 1 + 1 + 1 + 1 + 1 + 1 + 1 + 1 + 1 + 1 + 1 + 1) (ks + 20 + 66 + 60 + 9 + 9 + 6 + 8 + 4 + 4 + 4 + 16 + 81 + 8 + 8 + 60 + 60 + 80 + 80 + 80 + 80) mX12_init 123 [some (vR 214)] [] G D Q := fun G D hb => k_s229 hb hV2 (z230)
  have z228 : ∀ G D, Bd 228 [] (up2 V 214 8 12) G D → Go E (d + 1) (kc + 1 + 1 + 1 + 1 + 1 + 1 + 1 + 1 + 1 + 1 + 1 + 1 + 1 + 1 + 1 + 1 + 1 + 1 + 1 + 1 + 1) (ks + 20 + 66 + 60 + 9 + 9 + 6 + 8 + 4 + 4 + 4 + 16 + 81 + 8 + 8 + 60 + 60 + 80 + 80 + 80 + 80 + 80) mX12_init 115 [some (vR 214)] [] G D Q := fun G D hb => k_s228 hb hV2 (z229)
  have z227 : ∀ G D, Bd 227 [] (up2 V 214 8 12) G D → Go E (d + 1) (kc + 1 + 1 + 1 + 1 + 1 + 1 + 1 + 1 + 1 + 1 + 1 + 1 + 1 + 1 + 1 + 1 + 1 + 1 + 1 + 1 + 1 + 1) (ks + 20 + 66 + 60 + 9 + 9 + 6 + 8 + 4 + 4 + 4 + 16 + 81 + 8 + 8 + 60 + 60 + 80 + 80 + 80 + 80 + 80 + 78) mX12_init 107 [some (vR 214)] [] G D Q := fun G D hb => k_s227 hb hV2 (z228)
  have z226 : ∀ G D, Bd 226 [] (up2 V 214 8 12) G D → Go E (d + 1) (kc + 1 + 1 + 1 + 1 + 1 + 1 + 1 + 1 + 1 + 1 + 1 + 1 + 1 + 1 + 1 + 1 + 1 + 1 + 1 + 1 + 1 + 1 + 1) (ks + 20 + 66 + 60 + 9 + 9 + 6 + 8 + 4 + 4 + 4 + 16 + 81 + 8 + 8 + 60 + 60 + 80 + 80 + 80 + 80 + 80 + 78 + 78) mX12_init 99 [some (vR 214)] [] G D Q := fun G D hb => k_s226 hb hV2 (z227)
  have z225 : ∀ G D, Bd 225 [] (up2 V 214 8 12) G D → Go E (d + 1) (kc + 1 + 1 + 1 + 1 + 1 + 1 + 1 + 1 + 1 + 1 + 1 + 1 + 1 + 1 + 1 + 1 + 1 + 1 + 1 + 1 + 1 + 1 + 1 + 1) (ks + 20 + 66 + 60 + 9 + 9 + 6 + 8 + 4 + 4 + 4 + 16 + 81 + 8 + 8 + 60 + 60 + 80 + 80 + 80 + 80 + 80 + 78 + 78 + 78) mX12_init 91 [some (vR 214)] [] G D Q := fun G D hb => k_s225 hb hV2 (z226)
  have z224 : ∀ G D, Bd 224 [] (up2 V 214 8 12) G D → Go E (d + 1) (kc + 1 + 1 + 1 + 1 + 1 + 1 + 1 + 1 + 1 + 1 + 1 + 1 + 1 + 1 + 1 + 1 + 1 + 1 + 1 + 1 + 1 + 1 + 1 + 1 + 1) (ks + 20 + 66 + 60 + 9 + 9 + 6 + 8 + 4 + 4 + 4 + 16 + 81 + 8 + 8 + 60 + 60 + 80 + 80 + 80 + 80 + 80 + 78 + 78 + 78 + 78) mX12_init 83 [some (vR 214)] [] G D Q := fun G D hb => k_s224 hb hV2 (z225)
  have z223 : ∀ G D, Bd 223 [] (up2 V 214 8 12) G D → Go E (d + 1) (kc + 1 + 1 + 1 + 1 + 1 + 1 + 1 + 1 + 1 + 1 + 1 + 1 + 1 + 1 + 1 + 1 + 1 + 1 + 1 + 1 + 1 + 1 + 1 + 1 + 1 + 1) (ks + 20 + 66 + 60 + 9 + 9 + 6 + 8 + 4 + 4 + 4 + 16 + 81 + 8 + 8 + 60 + 60 + 80 + 80 + 80 + 80 + 80 + 78 + 78 + 78 + 78 + 13) mX12_init 75 [some (vR 214)] [] G D Q := fun G D hb => k_s223 hb hV2 (z224)
  have z222 : ∀ G D, Bd 222 [] (up2 V 214 8 12) G D → Go E (d + 1) (kc + 1 + 1 + 1 + 1 + 1 + 1 + 1 + 1 + 1 + 1 + 1 + 1 + 1 + 1 + 1 + 1 + 1 + 1 + 1 + 1 + 1 + 1 + 1 + 1 + 1 + 1 + 1) (ks + 20 + 66 + 60 + 9 + 9 + 6 + 8 + 4 + 4 + 4 + 16 + 81 + 8 + 8 + 60 + 60 + 80 + 80 + 80 + 80 + 80 + 78 + 78 + 78 + 78 + 13 + 6) mX12_init 67 [some (vR 214)] [] G D Q := fun G D hb => k_s222 hb hV2 (z223)
  have z221 : ∀ G D, Bd 221 [] (up2 V 214 8 12) G D → Go E (d + 1) (kc + 1 + 1 + 1 + 1 + 1 + 1 + 1 + 1 + 1 + 1 + 1 + 1 + 1 + 1 + 1 + 1 + 1 + 1 + 1 + 1 + 1 + 1 + 1 + 1 + 1 + 1 + 1 + 1) (ks + 20 + 66 + 60 + 9 + 9 + 6 + 8 + 4 + 4 + 4 + 16 + 81 + 8 + 8 + 60 + 60 + 80 + 80 + 80 + 80 + 80 + 78 + 78 + 78 + 78 + 13 + 6 + 6) mX12_init 59 [some (vR 214)] [] G D Q := fun G D hb => k_s221 hb hV2 (z222)
  have z220 : ∀ G D, Bd 220 [] (up2 V 214 8 12) G D → Go E (d + 1) (kc + 1 + 1 + 1 + 1 + 1 + 1 + 1 + 1 + 1 + 1 + 1 + 1 + 1 + 1 + 1 + 1 + 1 + 1 + 1 + 1 + 1 + 1 + 1 + 1 + 1 + 1 + 1 + 1 + 1) (ks + 20 + 66 + 60 + 9 + 9 + 6 + 8 + 4 + 4 + 4 + 16 + 81 + 8 + 8 + 60 + 60 + 80 + 80 + 80 + 80 + 80 + 78 + 78 + 78 + 78 + 13 + 6 + 6 + 60) mX12_init 51 [some (vR 214)] [] G D Q := fun G D hb => k_s220 hb hV2 (z221)
  have z219 : ∀ G D, Bd 219 [] (up2 V 214 8 12) G D → Go E (d + 1) (kc + 1 + 1 + 1 + 1 + 1 + 1 + 1 + 1 + 1 + 1 + 1 + 1 + 1 + 1 + 1 + 1 + 1 + 1 + 1 + 1 + 1 + 1 + 1 + 1 + 1 + 1 + 1 + 1 + 1 + 1) (ks + 20 + 66 + 60 + 9 + 9 + 6 + 8 + 4 + 4 + 4 + 16 + 81 + 8 + 8 + 60 + 60 + 80 + 80 + 80 + 80 + 80 + 78 + 78 + 78 + 78 + 13 + 6 + 6 + 60 + 60) mX12_init 43 [some (vR 214)] [] G D Q := fun G D hb => k_s219 hb hV2 (z220)
  have z218 : ∀ G D, Bd 218 [] (up2 V 214 8 12) G D → Go E (d + 1) (kc + 1 + 1 + 1 + 1 + 1 + 1 + 1 + 1 + 1 + 1 + 1 + 1 + 1 + 1 + 1 + 1 + 1 + 1 + 1 + 1 + 1 + 1 + 1 + 1 + 1 + 1 + 1 + 1 + 1 + 1 + 1) (ks + 20 + 66 + 60 + 9 + 9 + 6 + 8 + 4 + 4 + 4 + 16 + 81 + 8 + 8 + 60 + 60 + 80 + 80 + 80 + 80 + 80 + 78 + 78 + 78 + 78 + 13 + 6 + 6 + 60 + 60 + 60) mX12_init 35 [some (vR 214)] [] G D Q := fun G D hb => k_s218 hb hV2 (z219)
  have z217 : ∀ G D, Bd 217 [] (up2 V 214 8 12) G D → Go E (d + 1) (kc + 1 + 1 + 1 + 1 + 1 + 1 + 1 + 1 + 1 + 1 + 1 + 1 + 1 + 1 + 1 + 1 + 1 + 1 + 1 + 1 + 1 + 1 + 1 + 1 + 1 + 1 + 1 + 1 + 1 + 1 + 1 + 1) (ks + 20 + 66 + 60 + 9 + 9 + 6 + 8 + 4 + 4 + 4 + 16 + 81 + 8 + 8 + 60 + 60 + 80 + 80 + 80 + 80 + 80 + 78 + 78 + 78 + 78 + 13 + 6 + 6 + 60 + 60 + 60 + 480) mX12_init 26 [some (vR 214)] [] G D Q := fun G D hb => k_s217 hb hV2 (z218)
  have z216 : ∀ G D, Bd 216 [] (up2 V 214 8 12) G D → Go E (d + 1) (kc + 1 + 1 + 1 + 1 + 1 + 1 + 1 + 1 + 1 + 1 + 1 + 1 + 1 + 1 + 1 + 1 + 1 + 1 + 1 + 1 + 1 + 1 + 1 + 1 + 1 + 1 + 1 + 1 + 1 + 1 + 1 + 1 + 1) (ks + 20 + 66 + 60 + 9 + 9 + 6 + 8 + 4 + 4 + 4 + 16 + 81 + 8 + 8 + 60 + 60 + 80 + 80 + 80 + 80 + 80 + 78 + 78 + 78 + 78 + 13 + 6 + 6 + 60 + 60 + 60 + 480 + 60) mX12_init 18 [some (vR 214)] [] G D Q := fun G D hb => k_s216 hb hV2 (z217)
  have z215 : ∀ G D, Bd 215 [] (up2 V 214 8 12) G D → Go E (d + 1) (kc + 1 + 1 + 1 + 1 + 1 + 1 + 1 + 1 + 1 + 1 + 1 + 1 + 1 + 1 + 1 + 1 + 1 + 1 + 1 + 1 + 1 + 1 + 1 + 1 + 1 + 1 + 1 + 1 + 1 + 1 + 1 + 1 + 1 + 1) (ks + 20 + 66 + 60 + 9 + 9 + 6 + 8 + 4 + 4 + 4 + 16 + 81 + 8 + 8 + 60 + 60 + 80 + 80 + 80 + 80 + 80 + 78 + 78 + 78 + 78 + 13 + 6 + 6 + 60 + 60 + 60 + 480 + 60 + 80) mX12_init 10 [some (vR 214)] [] G D Q := fun G D hb => k_s215 hb hV2 (z216)
  have e1 : c0 = kc + 1 + 1 + 1 + 1 + 1 + 1 + 1 + 1 + 1 + 1 + 1 + 1 + 1 + 1 + 1 + 1 + 1 + 1 + 1 + 1 + 1 + 1 + 1 + 1 + 1 + 1 + 1 + 1 + 1 + 1 + 1 + 1 + 1 + 1 := by omega
  have e2 : s0 = ks + 20 + 66 + 60 + 9 + 9 + 6 + 8 + 4 + 4 + 4 + 16 + 81 + 8 + 8 + 60 + 60 + 80 + 80 + 80 + 80 + 80 + 78 + 78 + 78 + 78 + 13 + 6 + 6 + 60 + 60 + 60 + 480 + 60 + 80 := by omega
  subst e1
  rw [e2]
  show Go E (d + 1) _ _ mX12_init 0 [some (vR 214)] [] G D Q
  refine g_aload_n dX12_init_0 rfl rfl ?_
  refine g_objinit dX12_init_1 oi_X12_1 (Nat.le_of_ble_eq_true rfl) (by decide) ?_
  refine g_aload_n dX12_init_4 rfl rfl ?_
  refine g_bipush dX12_init_5 bp_12 ?_
  refine h_putI (j := 8) dX12_init_7 f_X12_7_11 (Or.inl (mm_finI (by decide +kernel))) rfl rfl (by decide) (hb.k (a := 214) (v := (11, 0)) (by decide) (by decide) (by decide +kernel)) (by decide) (hb.lt (by decide)) ?_
  exact z215 _ _ (hb.putI (a := 214) (j := 8) (x := 12))
theorem l_laws (hV : ∀ c k, 3 ≤ c → V c k = 0) (K : ∀ G' D', Bd 214 [] V G' D' → Q none G' D') : ∀ (n : Nat) (G : mmG) (D : mmD) (i : Int), 12 - i = n → 0 ≤ i → Bd (142 + 6 * i) [] V G D → Go E (d + 2) (6 * n) (38 * n) mX11_init 134 [some (vR 2), some (vI i)] [] G D Q := by
  intro n
  induction n with
  | zero =>
    intro G D i hn i0 hb
    refine g_iload_n dX11_init_134 rfl rfl ?_
    refine g_bipush dX11_init_135 bp_12 ?_
    refine g_icmp_ge 159 dX11_init_137 (by decide) ?_
    refine br_le (fun _ => g_vret dX11_init_159 rfl (K _ _ ?_)) (fun g => by omega)
    rw [show (214 : Int) = 142 + 6 * i by omega]
    exact hb
  | succ n ih =>
    intro G D i hn i0 hb
    refine g_iload_n dX11_init_134 rfl rfl ?_
    refine g_bipush dX11_init_135 bp_12 ?_
    refine g_icmp_ge 159 dX11_init_137 (by decide) ?_
    refine br_le (fun g => by omega) (fun _ => ?_)
    refine g_aload_n dX11_init_140 rfl rfl ?_
    refine h_getR (j := 5) dX11_init_141 f_X11_24_10 rfl rfl (by decide) (hb.k (a := 2) (v := (10, 0)) (by decide) (by omega) (by decide +kernel)) (by decide) (hb.lt (by omega)) (hb.r (v := 6) (by decide) (by omega) (by decide +kernel) (by omega) (by simp)) ?_
    refine g_iload_n dX11_init_144 rfl rfl ?_
    rw [show 6 * (n + 1) = 6 * n + 5 + 1 by omega, show 38 * (n + 1) = 38 * n + 32 + 6 by omega]
    refine g_new (ci := 3) dX11_init_145 (by decide) nk_X11_22 ?_
    rw [hb.1]
    have hr6 : (142 + 6 * i - 142) % 6 = 0 := by omega
    have kr : ∀ k : Int, 0 ≤ k → k < 6 → (142 + 6 * i + k - 142) % 6 = k := fun k a b => by omega
    have kk : ∀ k : Int, 0 ≤ k → k < 6 → kd0 (142 + 6 * i + k) = if k = 0 then (3, 0) else if k = 5 then (12, 8) else (12, 6) := fun k a b => by
      unfold kd0
      rw [if_neg (by omega), if_neg (by omega), if_pos (by omega), kr k a b]
    have oo : ∀ k : Int, 0 < k → k < 6 → ow (142 + 6 * i + k) = (142 + 6 * i, k - 1) := fun k a b => by
      unfold ow
      rw [if_neg (by omega), if_neg (by omega), if_pos (by omega), kr k (by omega) b, if_neg (by omega)]
      rw [show 142 + 6 * i + k - k = 142 + 6 * i by omega]
    have rr : ∀ k : Int, 0 ≤ k → k < 5 → rf0 (142 + 6 * i) k = 142 + 6 * i + (k + 1) := fun k a b => by
      unfold rf0
      rw [if_neg (by omega), if_neg (by omega), if_pos (by omega), if_pos ⟨hr6, a, b⟩]; omega
    have k0 := kk 0 (by omega) (by omega)
    rw [Int.add_zero] at k0
    have o0 : ow (142 + 6 * i) = (6, i) := by
      unfold ow
      rw [if_neg (by omega), if_neg (by omega), if_pos (by omega), if_pos hr6, show (142 + 6 * i - 142) / 6 = i by omega]
    have r0 : rf0 6 i = 142 + 6 * i := by
      unfold rf0
      rw [if_pos (by omega), if_neg (by omega), if_neg (by omega), if_pos rfl, if_pos ⟨i0, by omega⟩]
    have np : ∀ k : Int, ((142 + 6 * i, k) : Int × Int) ∉ [((6 : Int), i)] := fun k q => by
      have := congrArg Prod.fst (List.mem_singleton.mp q)
      have : 142 + 6 * i = 6 := this
      omega
    replace hb := hb.push (kd := 3) (len := 0) (n' := 142 + 6 * i + 1) (by omega) (by omega) k0 o0 rfl (fun j => hV _ j (by omega))
    generalize mm_push G 3 0 = G1 at hb ⊢
    generalize mm_zero D (142 + 6 * i) = D1 at hb ⊢
    refine g_dup dX11_init_148 (fun _ h9 => by cases h9) ?_
    refine g_callI (kc := 6 * n) (kc' := 5) (ks := 38 * n) (ks' := 32) (as := []) (st := [vR (142 + 6 * i), vI i, vR 6]) dX11_init_149 cB_X4_init rfl lk_X11_63 in_X4_init rfl rfl (Nat.le_of_ble_eq_true rfl) (Nat.le_of_ble_eq_true rfl) (by omega) ?_
    refine k_X4_init (r := 142 + 6 * i) hb (by omega) (by omega) k0 (kk 1 (by omega) (by omega)) (oo 1 (by omega) (by omega)) (rr 0 (by omega) (by omega)) (np 0) (kk 2 (by omega) (by omega)) (oo 2 (by omega) (by omega)) (rr 1 (by omega) (by omega)) (np 1) (kk 3 (by omega) (by omega)) (oo 3 (by omega) (by omega)) (rr 2 (by omega) (by omega)) (np 2) (kk 4 (by omega) (by omega)) (oo 4 (by omega) (by omega)) (rr 3 (by omega) (by omega)) (np 3) (kk 5 (by omega) (by omega)) (oo 5 (by omega) (by omega)) (rr 4 (by omega) (by omega)) (np 4) (fun c k q => hV c k (by omega)) (fun G2 D2 hb => ?_)
    show Go E (d + 2) (6 * n) (38 * n) mX11_init 152 [some (vR 2), some (vI i)] [vR (142 + 6 * i), vI i, vR 6] G2 D2 Q
    refine g_aast dX11_init_152 (Or.inr (Or.inl ⟨rfl, rfl⟩)) (hb.k (a := 6) (v := (15, 12)) (by decide) (by omega) (by decide +kernel)) (by decide) (hb.lt (by omega)) (by decide) (by omega) (hb.lt (by omega)) (congrArg Prod.fst (hb.k (by omega) (by omega) k0)) (by decide) rfl (Or.inl rfl) ⟨⟨i0, by omega⟩, ?_⟩
    replace hb := hb.put (x := 142 + 6 * i) r0 (by omega) (by simp)
    generalize ((G2.1, G2.2.1, up2 G2.2.2 6 i (142 + 6 * i)) : mmG) = G3 at hb ⊢
    refine h_iinc (L' := [some (vR 2), some (vI (i + 1))]) dX11_init_153 (Nat.le_of_ble_eq_true rfl) rfl rfl rfl ?_
    refine g_goto 134 dX11_init_156 (by decide) ?_
    refine ih G3 D2 (i + 1) (by omega) (by omega) ?_
    rw [show 142 + 6 * (i + 1) = 142 + 6 * i + 6 by omega]
    exact hb
theorem l_words (hV : ∀ c k, 3 ≤ c → V c k = 0) (K : ∀ G' D', Bd 214 [] V G' D' → Q none G' D') : ∀ (n : Nat) (G : mmG) (D : mmD) (i : Int), 60 - i = n → 0 ≤ i → Bd (22 + 2 * i) [] V G D → Go E (d + 2) (2 * n + 72) (13 * n + 456) mX11_init 107 [some (vR 2), some (vI i)] [] G D Q := by
  intro n
  induction n with
  | zero =>
    intro G D i hn i0 hb
    refine g_iload_n dX11_init_107 rfl rfl ?_
    refine g_bipush dX11_init_108 bp_60 ?_
    refine g_icmp_ge 132 dX11_init_110 (by decide) ?_
    refine br_le (fun _ => ?_) (fun g => by omega)
    refine g_iconst dX11_init_132 ?_
    refine h_istore_n (L' := [some (vR 2), some (vI 0)]) dX11_init_133 rfl (Nat.le_of_ble_eq_true rfl) rfl rfl ?_
    refine l_laws hV K 12 G D 0 (by omega) (by omega) ?_
    rw [show (142 : Int) + 6 * 0 = 22 + 2 * i by omega]
    exact hb
  | succ n ih =>
    intro G D i hn i0 hb
    refine g_iload_n dX11_init_107 rfl rfl ?_
    refine g_bipush dX11_init_108 bp_60 ?_
    refine g_icmp_ge 132 dX11_init_110 (by decide) ?_
    refine br_le (fun g => by omega) (fun _ => ?_)
    refine g_aload_n dX11_init_113 rfl rfl ?_
    refine h_getR (j := 2) dX11_init_114 f_X11_15_10 rfl rfl (by decide) (hb.k (a := 2) (v := (10, 0)) (by decide) (by omega) (by decide +kernel)) (by decide) (hb.lt (by omega)) (hb.r (v := 4) (by decide) (by omega) (by decide +kernel) (by omega) (by simp)) ?_
    refine g_iload_n dX11_init_117 rfl rfl ?_
    rw [show 2 * (n + 1) + 72 = 2 * n + 72 + 1 + 1 by omega, show 13 * (n + 1) + 456 = 13 * n + 456 + 8 + 5 by omega]
    refine g_new (ci := 9) dX11_init_118 (by decide) nk_X11_13 ?_
    rw [hb.1]
    have k0 : kd0 (22 + 2 * i) = (9, 0) := by
      unfold kd0
      rw [if_neg (by omega), if_pos (by omega), if_pos (by omega)]
    have k1 : kd0 (22 + 2 * i + 1) = (12, 8) := by
      unfold kd0
      rw [if_neg (by omega), if_pos (by omega), if_neg (by omega)]
    have o0 : ow (22 + 2 * i) = (4, i) := by
      unfold ow
      rw [if_neg (by omega), if_pos (by omega), if_pos (by omega), show (22 + 2 * i - 22) / 2 = i by omega]
    have o1 : ow (22 + 2 * i + 1) = (22 + 2 * i, 0) := by
      unfold ow
      rw [if_neg (by omega), if_pos (by omega), if_neg (by omega), show 22 + 2 * i + 1 - 1 = 22 + 2 * i by omega]
    have r0 : rf0 4 i = 22 + 2 * i := by
      unfold rf0
      rw [if_pos (by omega), if_neg (by omega), if_pos rfl, if_pos ⟨i0, by omega⟩]
    have r1 : rf0 (22 + 2 * i) 0 = 22 + 2 * i + 1 := by
      unfold rf0
      rw [if_neg (by omega), if_pos (by omega), if_pos ⟨by omega, rfl⟩]
    replace hb := hb.push (kd := 9) (len := 0) (n' := 22 + 2 * i + 1) (by omega) (by omega) k0 o0 rfl (fun j => hV _ j (by omega))
    generalize mm_push G 9 0 = G1 at hb ⊢
    generalize mm_zero D (22 + 2 * i) = D1 at hb ⊢
    refine g_dup dX11_init_121 (fun _ h9 => by cases h9) ?_
    refine g_callI (kc := 2 * n + 72) (kc' := 1) (ks := 13 * n + 456) (ks' := 8) (as := []) (st := [vR (22 + 2 * i), vI i, vR 4]) dX11_init_122 cB_X10_init rfl lk_X11_55 in_X10_init rfl rfl (Nat.le_of_ble_eq_true rfl) (Nat.le_of_ble_eq_true rfl) (by omega) ?_
    refine k_X10_init (r := 22 + 2 * i) hb (by omega) (by omega) k0 k1 o1 r1 (fun q => by
      have := congrArg Prod.fst (List.mem_singleton.mp q)
      have : 22 + 2 * i = 4 := this
      omega) (fun c k q => hV c k (by omega)) (fun G2 D2 hb => ?_)
    show Go E (d + 2) (2 * n + 72) (13 * n + 456) mX11_init 125 [some (vR 2), some (vI i)] [vR (22 + 2 * i), vI i, vR 4] G2 D2 Q
    refine g_aast dX11_init_125 (Or.inl ⟨rfl, rfl⟩) (hb.k (a := 4) (v := (14, 60)) (by decide) (by omega) (by decide +kernel)) (by decide) (hb.lt (by omega)) (by decide) (by omega) (hb.lt (by omega)) (congrArg Prod.fst (hb.k (by omega) (by omega) k0)) (by decide) rfl (Or.inl rfl) ⟨⟨i0, by omega⟩, ?_⟩
    replace hb := hb.put (x := 22 + 2 * i) r0 (by omega) (by simp)
    generalize ((G2.1, G2.2.1, up2 G2.2.2 4 i (22 + 2 * i)) : mmG) = G3 at hb ⊢
    refine h_iinc (L' := [some (vR 2), some (vI (i + 1))]) dX11_init_126 (Nat.le_of_ble_eq_true rfl) rfl rfl rfl ?_
    refine g_goto 107 dX11_init_129 (by decide) ?_
    refine ih G3 D2 (i + 1) (by omega) (by omega) ?_
    rw [show 22 + 2 * (i + 1) = 22 + 2 * i + 2 by omega]
    exact hb
set_option maxRecDepth 20000 in
set_option maxHeartbeats 2000000 in
theorem k_X11_init (hb : Bd 3 [] V G D) (hV : ∀ c k, 3 ≤ c → V c k = 0) (K : ∀ G' D', Bd 214 [] (up2 V 2 13 12) G' D' → Q none G' D') {kc ks c0 s0 : Nat} (hc : c0 = kc + 211) (hs : s0 = ks + 1829) : Call E (d + 2) c0 s0 mX11_init [vR 2] G D Q := by
  subst hc hs
  show Go E (d + 2) (kc + 211) (ks + 1829) mX11_init 0 [some (vR 2), none] [] G D Q
  refine g_aload_n dX11_init_0 rfl rfl ?_
  refine g_objinit dX11_init_1 oi_X11_3 (Nat.le_of_ble_eq_true rfl) (by decide) ?_
  refine g_aload_n dX11_init_4 rfl rfl ?_
  refine g_bipush dX11_init_5 bp_80 ?_
  refine g_newa2 (N := 80) (at0 := .int) (kd := 12) (kc := kc + 210) (ks := ks + 1749) dX11_init_7 (Or.inl ⟨rfl, rfl⟩) ka_I (by decide) (by decide) rfl ?_
  rw [hb.1]
  replace hb := hb.push (kd := 12) (len := 80) (n' := 4) (by decide) (by decide) (by decide +kernel) (by decide +kernel : ow 3 = (2, 0)) (by decide) (fun j => hV _ j (by decide))
  generalize mm_push G 12 80 = G1 at hb ⊢
  generalize mm_zero D 3 = D1 at hb ⊢
  refine h_putR (j := 0) dX11_init_9 f_X11_9_10 (Or.inr ⟨rfl, mm_finI (by decide +kernel), mm_decl (by decide +kernel)⟩) (Or.inr ⟨_, rfl⟩) rfl (by decide) (hb.k (a := 2) (v := (10, 0)) (by decide) (by decide) (by decide +kernel)) (by decide) (hb.lt (by decide)) ?_
  replace hb := hb.put (x := 3) (by decide +kernel) (by decide) (by decide)
  generalize ((G1.1, G1.2.1, up2 G1.2.2 2 0 3) : mmG) = G2 at hb ⊢
  refine g_aload_n dX11_init_12 rfl rfl ?_
  refine g_bipush dX11_init_13 bp_60 ?_
  refine g_anewa2 (N := 60) (kc := kc + 209) (ks := ks + 1689) (kd := 14) dX11_init_15 (Or.inl ⟨rfl, rfl⟩) cl_X11_13 (by decide) (by decide) rfl ?_
  rw [hb.1]
  replace hb := hb.push (kd := 14) (len := 60) (n' := 5) (by decide) (by decide) (by decide +kernel) (by decide +kernel : ow 4 = (2, 2)) (by decide) (fun j => hV _ j (by decide))
  generalize mm_push G2 14 60 = G3 at hb ⊢
  generalize mm_zero D1 4 = D3 at hb ⊢
  refine h_putR (j := 2) dX11_init_18 f_X11_15_10 (Or.inr ⟨rfl, mm_finI (by decide +kernel), mm_decl (by decide +kernel)⟩) (Or.inr ⟨_, rfl⟩) rfl (by decide) (hb.k (a := 2) (v := (10, 0)) (by decide) (by decide) (by decide +kernel)) (by decide) (hb.lt (by decide)) ?_
  replace hb := hb.put (x := 4) (by decide +kernel) (by decide) (by decide)
  generalize ((G3.1, G3.2.1, up2 G3.2.2 2 2 4) : mmG) = G4 at hb ⊢
  refine g_aload_n dX11_init_21 rfl rfl ?_
  refine g_bipush dX11_init_22 bp_12 ?_
  refine g_newa2 (N := 12) (at0 := .int) (kd := 12) (kc := kc + 208) (ks := ks + 1677) dX11_init_24 (Or.inl ⟨rfl, rfl⟩) ka_I (by decide) (by decide) rfl ?_
  rw [hb.1]
  replace hb := hb.push (kd := 12) (len := 12) (n' := 6) (by decide) (by decide) (by decide +kernel) (by decide +kernel : ow 5 = (2, 4)) (by decide) (fun j => hV _ j (by decide))
  generalize mm_push G4 12 12 = G5 at hb ⊢
  generalize mm_zero D3 5 = D5 at hb ⊢
  refine h_putR (j := 4) dX11_init_26 f_X11_19_10 (Or.inr ⟨rfl, mm_finI (by decide +kernel), mm_decl (by decide +kernel)⟩) (Or.inr ⟨_, rfl⟩) rfl (by decide) (hb.k (a := 2) (v := (10, 0)) (by decide) (by decide) (by decide +kernel)) (by decide) (hb.lt (by decide)) ?_
  replace hb := hb.put (x := 5) (by decide +kernel) (by decide) (by decide)
  generalize ((G5.1, G5.2.1, up2 G5.2.2 2 4 5) : mmG) = G6 at hb ⊢
  refine g_aload_n dX11_init_29 rfl rfl ?_
  refine g_bipush dX11_init_30 bp_12 ?_
  refine g_anewa2 (N := 12) (kc := kc + 207) (ks := ks + 1665) (kd := 15) dX11_init_32 (Or.inr (Or.inl ⟨rfl, rfl⟩)) cl_X11_22 (by decide) (by decide) rfl ?_
  rw [hb.1]
  replace hb := hb.push (kd := 15) (len := 12) (n' := 7) (by decide) (by decide) (by decide +kernel) (by decide +kernel : ow 6 = (2, 5)) (by decide) (fun j => hV _ j (by decide))
  generalize mm_push G6 15 12 = G7 at hb ⊢
  generalize mm_zero D5 6 = D7 at hb ⊢
  refine h_putR (j := 5) dX11_init_35 f_X11_24_10 (Or.inr ⟨rfl, mm_finI (by decide +kernel), mm_decl (by decide +kernel)⟩) (Or.inr ⟨_, rfl⟩) rfl (by decide) (hb.k (a := 2) (v := (10, 0)) (by decide) (by decide) (by decide +kernel)) (by decide) (hb.lt (by decide)) ?_
  replace hb := hb.put (x := 6) (by decide +kernel) (by decide) (by decide)
  generalize ((G7.1, G7.2.1, up2 G7.2.2 2 5 6) : mmG) = G8 at hb ⊢
  refine g_aload_n dX11_init_38 rfl rfl ?_
  refine g_bipush dX11_init_39 bp_80 ?_
  refine g_anewa2 (N := 80) (kc := kc + 206) (ks := ks + 1585) (kd := 16) dX11_init_41 (Or.inr (Or.inr ⟨rfl, rfl⟩)) cl_X11_28 (by decide) (by decide) rfl ?_
  rw [hb.1]
  replace hb := hb.push (kd := 16) (len := 80) (n' := 8) (by decide) (by decide) (by decide +kernel) (by decide +kernel : ow 7 = (2, 7)) (by decide) (fun j => hV _ j (by decide))
  generalize mm_push G8 16 80 = G9 at hb ⊢
  generalize mm_zero D7 7 = D9 at hb ⊢
  refine h_putR (j := 7) dX11_init_44 f_X11_30_10 (Or.inr ⟨rfl, mm_finI (by decide +kernel), mm_decl (by decide +kernel)⟩) (Or.inr ⟨_, rfl⟩) rfl (by decide) (hb.k (a := 2) (v := (10, 0)) (by decide) (by decide) (by decide +kernel)) (by decide) (hb.lt (by decide)) ?_
  replace hb := hb.put (x := 7) (by decide +kernel) (by decide) (by decide)
  generalize ((G9.1, G9.2.1, up2 G9.2.2 2 7 7) : mmG) = G10 at hb ⊢
  refine g_aload_n dX11_init_47 rfl rfl ?_
  refine g_bipush dX11_init_48 bp_12 ?_
  refine h_putI (j := 13) dX11_init_50 f_X11_34_10 (Or.inl (mm_finI (by decide +kernel))) rfl rfl (by decide) (hb.k (a := 2) (v := (10, 0)) (by decide) (by decide) (by decide +kernel)) (by decide) (hb.lt (by decide)) ?_
  replace hb := hb.putI (a := 2) (j := 13) (x := 12)
  generalize up2 D9 2 13 12 = D11 at hb ⊢
  have hV2 : ∀ c k, 3 ≤ c → up2 V 2 13 12 c k = 0 := fun c k q => by rw [up2_ne (by omega)]; exact hV c k q
  refine g_aload_n dX11_init_53 rfl rfl ?_
  refine g_bipush dX11_init_54 bp_120 ?_
  refine g_newa2 (N := 120) (at0 := .int) (kd := 12) (kc := kc + 205) (ks := ks + 1465) dX11_init_56 (Or.inl ⟨rfl, rfl⟩) ka_I (by decide) (by decide) rfl ?_
  rw [hb.1]
  replace hb := hb.push (kd := 12) (len := 120) (n' := 9) (by decide) (by decide) (by decide +kernel) (by decide +kernel : ow 8 = (2, 14)) (by decide) (fun j => hV2 _ j (by decide))
  generalize mm_push G10 12 120 = G12 at hb ⊢
  generalize mm_zero D11 8 = D12 at hb ⊢
  refine h_putR (j := 14) dX11_init_58 f_X11_38_10 (Or.inr ⟨rfl, mm_finI (by decide +kernel), mm_decl (by decide +kernel)⟩) (Or.inr ⟨_, rfl⟩) rfl (by decide) (hb.k (a := 2) (v := (10, 0)) (by decide) (by decide) (by decide +kernel)) (by decide) (hb.lt (by decide)) ?_
  replace hb := hb.put (x := 8) (by decide +kernel) (by decide) (by decide)
  generalize ((G12.1, G12.2.1, up2 G12.2.2 2 14 8) : mmG) = G13 at hb ⊢
  refine g_aload_n dX11_init_61 rfl rfl ?_
  refine g_new (kc := kc + 204) (ks := ks + 1462) (N := 3) (ci := 6) dX11_init_62 (by decide) nk_X11_41 ?_
  rw [hb.1]
  replace hb := hb.push (kd := 6) (len := 0) (n' := 10) (by decide) (by decide) (by decide +kernel) (by decide +kernel : ow 9 = (2, 16)) (by decide) (fun j => hV2 _ j (by decide))
  generalize mm_push G13 6 0 = G14 at hb ⊢
  generalize mm_zero D12 9 = D14 at hb ⊢
  refine g_dup dX11_init_65 (fun _ h9 => by cases h9) ?_
  refine g_callI (kc := kc + 202) (kc' := 2) (ks := ks + 1365) (ks' := 97) (as := []) (st := [vR 9, vR 2]) dX11_init_66 cB_X7_init rfl lk_X11_43 in_X7_init rfl rfl (Nat.le_of_ble_eq_true rfl) (Nat.le_of_ble_eq_true rfl) (by decide) ?_
  refine k_X7_init hb (by decide) (fun c j q => hV2 c j (by omega)) (fun G15 D15 hb => ?_)
  show Go E (d + 2) (kc + 202) (ks + 1365) mX11_init 69 [some (vR 2), none] [vR 9, vR 2] G15 D15 Q
  refine h_putR (j := 16) dX11_init_69 f_X11_44_10 (Or.inr ⟨rfl, mm_finI (by decide +kernel), mm_decl (by decide +kernel)⟩) (Or.inl ⟨_, rfl⟩) rfl (by decide) (hb.k (a := 2) (v := (10, 0)) (by decide) (by decide) (by decide +kernel)) (by decide) (hb.lt (by decide)) ?_
  replace hb := hb.put (x := 9) (by decide +kernel) (by decide) (by decide)
  generalize ((G15.1, G15.2.1, up2 G15.2.2 2 16 9) : mmG) = G16 at hb ⊢
  refine g_aload_n dX11_init_72 rfl rfl ?_
  refine g_new (kc := kc + 201) (ks := ks + 1359) (N := 6) (ci := 0) dX11_init_73 (by decide) nk_X11_48 ?_
  rw [hb.1]
  replace hb := hb.push (kd := 0) (len := 0) (n' := 13) (by decide) (by decide) (by decide +kernel) (by decide +kernel : ow 12 = (2, 17)) (by decide) (fun j => hV2 _ j (by decide))
  generalize mm_push G16 0 0 = G17 at hb ⊢
  generalize mm_zero D15 12 = D17 at hb ⊢
  refine g_dup dX11_init_76 (fun _ h9 => by cases h9) ?_
  refine g_callI (kc := kc + 196) (kc' := 5) (ks := ks + 1262) (ks' := 97) (as := []) (st := [vR 12, vR 2]) dX11_init_77 cB_X0_init rfl lk_X11_50 in_X0_init rfl rfl (Nat.le_of_ble_eq_true rfl) (Nat.le_of_ble_eq_true rfl) (by decide) ?_
  refine k_X0_init hb (by decide) (fun c j q => hV2 c j (by omega)) (fun G18 D18 hb => ?_)
  show Go E (d + 2) (kc + 196) (ks + 1262) mX11_init 80 [some (vR 2), none] [vR 12, vR 2] G18 D18 Q
  refine h_putR (j := 17) dX11_init_80 f_X11_51_10 (Or.inr ⟨rfl, mm_finI (by decide +kernel), mm_decl (by decide +kernel)⟩) (Or.inl ⟨_, rfl⟩) rfl (by decide) (hb.k (a := 2) (v := (10, 0)) (by decide) (by decide) (by decide +kernel)) (by decide) (hb.lt (by decide)) ?_
  replace hb := hb.put (x := 12) (by decide +kernel) (by decide) (by decide)
  generalize ((G18.1, G18.2.1, up2 G18.2.2 2 17 12) : mmG) = G19 at hb ⊢
  refine g_aload_n dX11_init_83 rfl rfl ?_
  refine g_new (kc := kc + 195) (ks := ks + 1257) (N := 5) (ci := 9) dX11_init_84 (by decide) nk_X11_13 ?_
  rw [hb.1]
  replace hb := hb.push (kd := 9) (len := 0) (n' := 19) (by decide) (by decide) (by decide +kernel) (by decide +kernel : ow 18 = (2, 18)) (by decide) (fun j => hV2 _ j (by decide))
  generalize mm_push G19 9 0 = G20 at hb ⊢
  generalize mm_zero D18 18 = D20 at hb ⊢
  refine g_dup dX11_init_87 (fun _ h9 => by cases h9) ?_
  refine g_callI (kc := kc + 194) (kc' := 1) (ks := ks + 1249) (ks' := 8) (as := []) (st := [vR 18, vR 2]) dX11_init_88 cB_X10_init rfl lk_X11_55 in_X10_init rfl rfl (Nat.le_of_ble_eq_true rfl) (Nat.le_of_ble_eq_true rfl) (by decide) ?_
  refine k_X10_init (r := 18) hb (by decide) (by decide) (by decide +kernel) (by decide +kernel) (by decide +kernel) (by decide +kernel) (by decide) (fun c j q => hV2 c j (by omega)) (fun G21 D21 hb => ?_)
  show Go E (d + 2) (kc + 194) (ks + 1249) mX11_init 91 [some (vR 2), none] [vR 18, vR 2] G21 D21 Q
  refine h_putR (j := 18) dX11_init_91 f_X11_56_10 (Or.inr ⟨rfl, mm_finI (by decide +kernel), mm_decl (by decide +kernel)⟩) (Or.inl ⟨_, rfl⟩) rfl (by decide) (hb.k (a := 2) (v := (10, 0)) (by decide) (by decide) (by decide +kernel)) (by decide) (hb.lt (by decide)) ?_
  replace hb := hb.put (x := 18) (by decide +kernel) (by decide) (by decide)
  generalize ((G21.1, G21.2.1, up2 G21.2.2 2 18 18) : mmG) = G22 at hb ⊢
  refine g_aload_n dX11_init_94 rfl rfl ?_
  refine g_new (kc := kc + 193) (ks := ks + 1244) (N := 5) (ci := 9) dX11_init_95 (by decide) nk_X11_13 ?_
  rw [hb.1]
  replace hb := hb.push (kd := 9) (len := 0) (n' := 21) (by decide) (by decide) (by decide +kernel) (by decide +kernel : ow 20 = (2, 19)) (by decide) (fun j => hV2 _ j (by decide))
  generalize mm_push G22 9 0 = G23 at hb ⊢
  generalize mm_zero D21 20 = D23 at hb ⊢
  refine g_dup dX11_init_98 (fun _ h9 => by cases h9) ?_
  refine g_callI (kc := kc + 192) (kc' := 1) (ks := ks + 1236) (ks' := 8) (as := []) (st := [vR 20, vR 2]) dX11_init_99 cB_X10_init rfl lk_X11_55 in_X10_init rfl rfl (Nat.le_of_ble_eq_true rfl) (Nat.le_of_ble_eq_true rfl) (by decide) ?_
  refine k_X10_init (r := 20) hb (by decide) (by decide) (by decide +kernel) (by decide +kernel) (by decide +kernel) (by decide +kernel) (by decide) (fun c j q => hV2 c j (by omega)) (fun G24 D24 hb => ?_)
  show Go E (d + 2) (kc + 192) (ks + 1236) mX11_init 102 [some (vR 2), none] [vR 20, vR 2] G24 D24 Q
  refine h_putR (j := 19) dX11_init_102 f_X11_60_10 (Or.inr ⟨rfl, mm_finI (by decide +kernel), mm_decl (by decide +kernel)⟩) (Or.inl ⟨_, rfl⟩) rfl (by decide) (hb.k (a := 2) (v := (10, 0)) (by decide) (by decide) (by decide +kernel)) (by decide) (hb.lt (by decide)) ?_
  replace hb := hb.put (x := 20) (by decide +kernel) (by decide) (by decide)
  generalize ((G24.1, G24.2.1, up2 G24.2.2 2 19 20) : mmG) = G25 at hb ⊢
  refine g_iconst dX11_init_105 ?_
  refine h_istore_n (L' := [some (vR 2), some (vI 0)]) dX11_init_106 rfl (Nat.le_of_ble_eq_true rfl) rfl rfl ?_
  exact (l_words hV2 K 60 G25 D24 0 (by omega) (by omega) hb).wid (by omega) (by omega)
end Ctor
