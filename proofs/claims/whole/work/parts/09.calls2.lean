/-- an array's first n places become another's -/
def cp0 (D : mmD) (src dst n : Int) : mmD := fun c k => if c = dst ∧ 0 ≤ k ∧ k < n then D src k else D c k
section CallRules2
variable {E : mmE} {d kc ks kc' ks' : Nat} {Y Y' : mmM} {pc : Nat} {L : List (Option mmV)} {st : List mmV} {G : mmG} {D : mmD} {Q : mmQ}
theorem mm_val_i {a n : Int} (hk : G.2.1 a = (12, n)) : mm_val E G D a = fun j : Nat => Value.int (iv (D a j)) := by
  funext j
  unfold mm_val
  rw [hk]
  rfl
theorem g_acopy {a b n na nb : Int} {idx : Nat} (hd : decode Y.2.1 pc = .ok (.invokestatic idx, 3)) (hw : Cond.methodLink Y.1.cls idx arraycopyName ∈ mm_tbl ∧ Cond.native arraycopyName ∈ mm_tbl ∧ Cond.static arraycopyName ∈ mm_tbl ∧ Cond.initialized "java/lang/System" ∈ mm_tbl) (hst : st.length ≤ 4)
    (hka : G.2.1 a = (12, na)) (hkb : G.2.1 b = (12, nb)) (ha : 2 ≤ a) (ha2 : a < G.1) (hb : 2 ≤ b) (hb2 : b < G.1) (hna : na < 2147483648) (hnb : nb < 2147483648)
    (k : (0 ≤ n ∧ n ≤ na ∧ n ≤ nb) ∧ Go E (d + 1) kc ks Y (pc + 3) L st G (cp0 D a b n) Q) : Go E (d + 1) kc ks Y pc L (vI n :: vI 0 :: vR b :: vI 0 :: vR a :: st) G D Q := by
  intro p e s m args below meth c H locs cells slots ls R C hh hl hL
  obtain ⟨⟨n0, n1, n2⟩, k⟩ := k
  obtain ⟨c1, c2, c3, c4, c5, c6, c7, c8, c9, c10, c11, c12, c13⟩ := id C
  have hca := mm_arr hh ha ha2 hka (by omega)
  have hcb := mm_arr hh hb hb2 hkb (by omega)
  rw [mm_val_i hka] at hca
  rw [mm_val_i hkb] at hcb
  have hn : (iv n).toInt = n := iv_toInt (by omega) (by omega)
  have hnc : (iv n).toNatClampNeg = n.toNat := by show (iv n).toInt.toNat = _; rw [hn]
  have h0 : (iv 0).toInt = 0 := by decide +kernel
  have h0c : (iv 0).toNatClampNeg = 0 := by decide +kernel
  have z0 : (0 : Int32).toInt = 0 := by decide
  have g0 : ¬ iv 0 < 0 := by decide +kernel
  have gn : ¬ iv n < 0 := by rw [Int32.lt_iff_toInt_lt, hn, z0]; omega
  have hA := (c9.2.1 12 (by omega) (by omega)).1
  obtain ⟨-, k0, hk0, cm0, hkk0⟩ := hA na.toNat (fun j => .int (iv (D a j)))
  obtain ⟨-, k1, hk1, cm1, hkk1⟩ := hA nb.toNat (fun j => .int (iv (D b j)))
  have hnw : nativeFrameWords "java/lang/System" "arraycopy" 5 ≤ 40 := by decide +kernel
  have e1 : (vI n :: vI 0 :: vR b :: vI 0 :: vR a :: st).map (mm_sh E) = .int (iv n) :: .int (iv 0) :: .ref (mm_ad E b) :: .int (iv 0) :: .ref (mm_ad E a) :: st.map (mm_sh E) := by
    simp only [List.map_cons]
    rw [mm_sh_ref ha, ← mm_ad_2 ha, mm_sh_ref hb, ← mm_ad_2 hb]
    rfl
  rw [e1]
  intro T hT X
  have h8 := mm_st8 (E := E) (pc := pc) (m := m) (ls := ls) (st0 := []) hst
  have h8b : 0 + ((st.map (mm_sh E)).map fun v => v.category).sum ≤ 8 := h8
  obtain ⟨vm', X', step⟩ := X.arraycopy c1 c6 (c8 _ hw.1) (c8 _ hw.2.1) (c8 _ hw.2.2.1) (c8 _ hw.2.2.2) (src := mm_ad E a) (dst := mm_ad E b) (srcPos := iv 0) (destPos := iv 0) (n := iv n) (by rw [hT]; exact hca) (by rw [hT]; exact hcb)
    (fun _ h => by cases h) (fun _ h => by cases h) (fun h => by cases h) (fun h => by cases h) hk0 hk1 hkk0 hkk1 (by simp [mm_aty, refKind]) g0 g0 gn
    (by rw [h0, hn, arrV_size]; omega) (by rw [h0, hn, arrV_size]; omega)
    (fun vm₁ _ i hi => by
      have e : (arrV (E.2.2.2.2.2.2 12) na.toNat (fun j : Nat => Value.int (iv (D a j)))).slots.getD ((iv 0).toNatClampNeg + i) .null = .int (iv (D a (i : Nat))) := by
        rw [h0c, Nat.zero_add, Array.getD_eq_getD_getElem?, arrV_read _ _ (by omega)]
        rfl
      refine ⟨?_, ?_⟩
      · rw [e]; rfl
      · rw [e]; exact trivial)
    (g := F0 m pc ls (.int (iv n) :: .int (iv 0) :: .ref (mm_ad E b) :: .int (iv 0) :: .ref (mm_ad E a) :: st.map (mm_sh E))) rfl (by rw [c3]; exact hL.1) (rest := st.map (mm_sh E)) rfl (by rw [c2]; exact hd) (by omega) (by show 2 * 0 + _ + _ ≤ _; omega)
  have e2 : copied (arrV (E.2.2.2.2.2.2 12) na.toNat (fun j : Nat => Value.int (iv (D a j)))) (arrV (E.2.2.2.2.2.2 12) nb.toNat (fun j : Nat => Value.int (iv (D b j)))) (iv 0) (iv 0) (iv n) = arrV (E.2.2.2.2.2.2 12) nb.toNat (fun j => .int (va_cpy (fun j : Nat => iv (D a j)) (fun j : Nat => iv (D b j)) (iv 0).toNatClampNeg (iv 0).toNatClampNeg (iv n).toNatClampNeg j)) :=
    va_copied (fun z => .int z) _ _ (fun j : Nat => iv (D a j)) (fun j : Nat => iv (D b j)) (by rw [h0c, hnc]; omega)
  rw [e2, h0c, hnc] at X' step
  have hlt : mm_ad E b < H.size := (Array.getElem?_eq_some_iff.mp hcb).1
  generalize hcell : arrV (E.2.2.2.2.2.2 12) nb.toNat (fun j => Value.int (va_cpy (fun j : Nat => iv (D a j)) (fun j : Nat => iv (D b j)) 0 0 n.toNat j)) = cell at X' step
  have hheap : ((T.setVm vm').setCell (mm_ad E b) cell).heap = H.setIfInBounds (mm_ad E b) cell := by rw [← hT]; rfl
  obtain ⟨t, a1, b1⟩ := k p e s m args below meth c (H.setIfInBounds (mm_ad E b) cell) _ cells slots ls R C (hh.set (G' := G) (D' := cp0 D a b n) hb hb2 rfl (fun _ => rfl) (fun x hx => mm_val_k rfl (fun _ => rfl) (fun j => by unfold cp0; rw [if_neg (fun h => hx h.1)])) (by simp) (fun q hq => by simp [Array.getElem?_setIfInBounds, Ne.symm hq]) (by
      unfold mm_cell
      rw [hkb, if_neg (by simp)]
      rw [show (H.setIfInBounds (mm_ad E b) cell)[mm_ad E b]? = some cell by simp [Array.getElem?_setIfInBounds, hlt], ← hcell, mm_val_i hkb]
      congr 2
      funext j
      unfold va_cpy cp0
      by_cases hj : j < n.toNat
      · rw [if_pos ⟨by omega, by omega⟩, if_pos ⟨rfl, by omega, by omega⟩]
        simp
      · rw [if_neg (by omega), if_neg (by omega)]))
    (fun q hq => by
      rcases List.mem_append.mp hq with h | h
      · exact hl q h
      · obtain ⟨z, -, hz⟩ := List.mem_map.mp h
        rw [← hz]
        show E.2.2.1 ≤ mm_ad E b
        rw [mm_ad_2 hb]; omega) hL _ hheap X'
  exact ⟨t, step t a1, b1⟩
/-- a method of the superclass, its own or one that it inherits -/
theorem g_callSU {b : Int} {as : List mmV} {idx ci n : Nat} {x : MethodName} (hd : decode Y.2.1 pc = .ok (.invokespecial idx, 3)) (hB : mm_cB Y' n) (hlink : Cond.methodLink Y.1.cls idx x ∈ mm_tbl) (hsame : Cond.sameMethod x.cls Y'.1.cls x.name x.desc ∈ mm_tbl) (hxy : Y'.1 = ⟨Y'.1.cls, x.name, x.desc⟩) (hsup : Cond.superclass Y.1.cls x.cls ∈ mm_tbl) (hno : x.name ≠ "<init>") (hsub : x.cls = Y'.1.cls ∨ Cond.superclass x.cls Y'.1.cls ∈ mm_tbl)
    (hin : Cond.instanceMethod Y'.1 ∈ mm_tbl) (hci : ci < 12) (hn : as.length = n) (hent : (mm_ent (vR b :: as)).length ≤ Y'.2.2.1) (hst : st.length ≤ 4)
    (hb : 2 ≤ b) (hb2 : b < G.1) (hk : (G.2.1 b).1 = ci)
    (k : Call E d kc' ks' Y' (vR b :: as) G D (fun r G' D' => Go E (d + 1) kc ks Y (pc + 3) L (mm_pu r st) G' D' Q)) : Go E (d + 1) (kc + kc') (ks + ks') Y pc L (as.reverse ++ vR b :: st) G D Q := by
  intro p e s m args below meth c H locs cells slots ls R CC hh hl hL
  obtain ⟨c1, c2, c3, c4, c5, c6, c7, c8, c9, c10, c11, c12, c13⟩ := id CC
  obtain ⟨r, hr1, cell, q1, q2, q3, q4⟩ := mm_obj hh hb hb2 hk hci
  obtain ⟨hfc, kB, hkB, -⟩ := (c9.1.1 ci r hr1).2
  have e1 : (as.reverse ++ vR b :: st).map (mm_sh E) = (as.map (mm_sh E)).reverse ++ .ref (mm_ad E b) :: st.map (mm_sh E) := by rw [mm_rev, List.map_cons, mm_sh_ref hb, ← mm_ad_2 hb]
  rw [e1]
  refine mm_back (st := st) CC hl hL (a := (Value.ref (mm_ad E b) :: as.map (mm_sh E)).toArray) ?_
  have hM := mm_met hB.2.2.1 hent k
  have hK : Back E.1 R p e below s args Y'.1 3 8 (PreOf R kc' ks' (mm_Pc E (vR b :: as) G D)) (PostOf (mm_Q E (fun r G' D' => Go E (d + 1) kc ks Y (pc + 3) L (mm_pu r st) G' D' Q)) kc' ks' (fun q => E.2.2.1 ≤ q)) :=
    back_of (bytes := Y'.2.1) (maxL := Y'.2.2.1) (ret := Y'.2.2.2) hM mm_blind rfl rfl (by show d + 1 ≤ R.frames; omega) (by show 8 + (Y'.2.2.1 + 11) + 64 * d ≤ R.locals; have := hB.2.2.2.1; omega) (pay_in c8 (mm_goodws hB.1)) List.mem_cons_self (fun a' U hW => word_at hW (Or.inl (by first | rfl | simp [Cond.onTables, Cond.keeps, Cond.steady])) (c8 _ hB.2.1))
  intro T hT X
  obtain ⟨mk, methM, hnamed, hmethM, hstM, habM⟩ := Cond.instanceMethod_spec (c8 _ hin)
  obtain ⟨methM', cM, hmethM', -, -, -, -, -, -, hsigM⟩ := Cond.code_spec hnamed (c8 _ hB.1)
  cases hmethM.symm.trans hmethM'
  obtain ⟨ps, dk, kp, hps, hdk, hkp, hsuper, -, -, hnid⟩ := Cond.superclass_spec c6 (c8 _ hsup)
  have hn2 : s.methodNamed? ⟨Y'.1.cls, x.name, x.desc⟩ = some mk := by rw [← hxy]; exact hnamed
  have hmk : s.vm.findClass Y'.1.cls = some mk.cls := findClass_of_methodNamed hnamed
  have hsubc : s.vm.isSubclass ps mk.cls = true := by
    rcases hsub with h | h
    · rw [h] at hps
      rw [Option.some.inj (hps.symm.trans hmk)]
      simp [Vm.isSubclass, Vm.isSubclassAux]
    · obtain ⟨ps2, k2, kp2, h1, h2, h3, h4, -, -, -⟩ := Cond.superclass_spec hps (c8 _ h)
      have h5 : ps2 = mk.cls := Option.some.inj (h1.symm.trans hmk)
      subst h5
      have hpos : 2 ≤ s.vm.classes.size ∨ ps = mk.cls := by
        have l1 := (Array.getElem?_eq_some_iff.mp h2).1
        have l2 := (Array.getElem?_eq_some_iff.mp h3).1
        by_cases he : ps = mk.cls
        · exact Or.inr he
        · left
          rcases Nat.lt_or_gt_of_ne (show @Ne Nat ps mk.cls from he) with h | h
          · exact Nat.lt_of_le_of_lt (Nat.succ_le_of_lt (Nat.lt_of_le_of_lt (Nat.zero_le _) h)) l2
          · exact Nat.lt_of_le_of_lt (Nat.succ_le_of_lt (Nat.lt_of_le_of_lt (Nat.zero_le _) h)) l1
      rcases hpos with hp2 | he
      · obtain ⟨z, hz⟩ : ∃ z, s.vm.classes.size = z + 2 := ⟨s.vm.classes.size - 2, by omega⟩
        simp [Vm.isSubclass, hz, Vm.isSubclassAux, h2, h4]
      · rw [he]; simp [Vm.isSubclass, Vm.isSubclassAux]
  obtain ⟨vm₁, X₁, hstep₁⟩ := X.invokespecialUp c1 c6 (c8 _ hlink) (c8 _ hsame) hn2 hmethM hstM habM hno hdk hnid hps hsuper hsubc (a := mm_ad E b) (cell := cell) (by rw [hT]; exact q1)
    (fun z h => by rw [q3] at h; cases h) (by rw [q2]; exact hkB) (g := F0 m pc ls ((as.map (mm_sh E)).reverse ++ .ref (mm_ad E b) :: st.map (mm_sh E))) rfl (argsL := as.map (mm_sh E)) (rest := st.map (mm_sh E)) (by
      have h9 := hB.2.2.2.2.2.2
      rw [hsigM] at h9
      rw [List.length_map, hn]
      exact (Option.some.inj h9).symm) rfl (by rw [c2]; exact hd)
  obtain ⟨v, ⟨U', l2, c2', s2⟩, X', ⟨g', mk', t, L2, f1, f2, hq, g1, hL2, g2, g3⟩, hsteps⟩ := hK m meth c ⟨T.setVm vm₁, locs, cells, slots⟩ { (F0 m pc ls ((as.map (mm_sh E)).reverse ++ .ref (mm_ad E b) :: st.map (mm_sh E))) with stack := st.map (mm_sh E) } (.invokespecial idx) mk (Value.ref (mm_ad E b) :: as.map (mm_sh E)).toArray X₁ rfl (by rw [c3]; exact hL.1) (by rw [c2]; exact hd) (mm_st8 hst) (X₁.named hnamed)
    ⟨by show cells + kc' ≤ R.cells; omega, by show slots + ks' ≤ R.slots; omega, ⟨by rw [List.map_cons, mm_sh_ref hb, ← mm_ad_2 hb], by show mm_hold E (T.setVm vm₁) G D T.heap; rw [hT]; exact hh.moved X₁.warmed.alike, c9.warm X₁.warmed⟩⟩
  dsimp only [Pt.U, Pt.locs, Pt.cells, Pt.slots] at X' f1 f2 g1 g2 g3 hsteps
  subst g1; subst g2; subst g3
  exact ⟨v, (T.setVm vm₁).calling g' mk' (Value.ref (mm_ad E b) :: as.map (mm_sh E)).toArray, t, U', L2, hT, X', hL2, f1, f2, hq, fun target h => hstep₁ _ (by rw [doInvoke_state]; exact hsteps.trans h)⟩
end CallRules2
