def mm_push (G : mmG) (kd : Nat) (n : Int) : mmG := (G.1 + 1, (fun x => if x = G.1 then (kd, n) else G.2.1 x), (fun c k => if c = G.1 then 0 else G.2.2 c k))
def mm_zero (D : mmD) (a : Int) : mmD := fun c k => if c = a then 0 else D c k
theorem mm_hold.push {E : mmE} {s : State} {G : mmG} {D : mmD} {H H1 : Heap} {kd : Nat} {n : Int} (hh : mm_hold E s G D H) (z : H1.size = H.size + 1) (o : ∀ q, q < H.size → H1[q]? = H[q]?) (hc : mm_cell E (mm_push G kd n) (mm_zero D G.1) H1 G.1) : mm_hold E s (mm_push G kd n) (mm_zero D G.1) H1 := by
  obtain ⟨h1, h2, h3, h4, h5⟩ := hh
  refine ⟨h1.kept (o _ ?_), h2, ?_, ?_, fun k k2 kn => ?_⟩
  · omega
  · show 2 ≤ G.1 + 1; omega
  · show (H1.size : Int) = E.2.2.1 + (G.1 + 1) - 2
    rw [z]; omega
  · by_cases hk : k = G.1
    · rw [hk]; exact hc
    · have kn' : k < G.1 + 1 := kn
      refine (h5 k k2 (by omega)).kept ?_ (mm_val_k ?_ (fun j => ?_) (fun j => ?_)) (o _ ?_)
      · simp [mm_push, hk]
      · simp [mm_push, hk]
      · simp [mm_push, hk]
      · simp [mm_zero, hk]
      · rw [mm_ad_2 k2]; omega
theorem mm_sz {E : mmE} {s : State} {G : mmG} {D : mmD} {H : Heap} (hh : mm_hold E s G D H) : mm_sh E (vR G.1) = .ref H.size ∧ mm_ad E G.1 = H.size := by
  obtain ⟨h1, h2, h3, h4, h5⟩ := hh
  have e : mm_ad E G.1 = H.size := by rw [mm_ad_2 h3]; omega
  exact ⟨by rw [mm_sh_ref h3, ← mm_ad_2 h3, e], e⟩
section Rules5
variable {E : mmE} {d kc ks : Nat} {Y : mmM} {pc : Nat} {L : List (Option mmV)} {st : List mmV} {G : mmG} {D : mmD} {Q : mmQ}
theorem Go.mono {d' kc' ks' : Nat} (h1 : d ≤ d') (h2 : kc ≤ kc') (h3 : ks ≤ ks') (k : Go E d kc ks Y pc L st G D Q) : Go E d' kc' ks' Y pc L st G D Q := by
  intro p e s m args below meth c H locs cells slots ls R C hh hl hL
  obtain ⟨c1, c2, c3, c4, c5, c6, c7, c8, c9, c10, c11, c12, c13⟩ := C
  exact k p e s m args below meth c H locs cells slots ls R ⟨c1, c2, c3, c4, c5, c6, c7, c8, c9, by omega, by omega, by omega, by omega⟩ hh hl hL
theorem Go.to {Q' : mmQ} (h : ∀ r G D, Q r G D → Q' r G D) (k : Go E d kc ks Y pc L st G D Q) : Go E d kc ks Y pc L st G D Q' := by
  intro p e s m args below meth c H locs cells slots ls R C hh hl hL T hT X
  obtain ⟨t, a, o, b1, b2, ⟨r, G2, D2, b3, b4, b5⟩, b6⟩ := k p e s m args below meth c H locs cells slots ls R C hh hl hL T hT X
  exact ⟨t, a, o, b1, b2, ⟨r, G2, D2, b3, h _ _ _ b4, b5⟩, b6⟩
/-- the class of kind ci is made -/
abbrev mm_nok (own : String) (idx ci : Nat) (C : String) (N : Nat) : Prop := (vwCl[ci]?).map (fun r => (r.1, r.2.2)) = some (C, N) ∧ Cond.classLink own idx C ∈ mm_tbl ∧ Cond.instantiable C N ∈ mm_tbl ∧ Cond.initialized C ∈ mm_tbl
theorem mm_dflt (E : mmE) (ci k : Nat) (hci : ci < 12) (r : vw_C) (hr : vwCl[ci]? = some r) (hk : k < r.2.2) : defaultValue (mm_ty ci k) = mm_sh E (if mm_isR ci k = true then vR 0 else vI 0) := by
  have h0 : (mm_ty ci k = .int ∨ mm_ty ci k = .boolean) ∨ ((∃ n, mm_ty ci k = .object n) ∨ ∃ t, mm_ty ci k = .array t) := by
    have key : ∀ ci, ci < 12 → ∀ k, k < 61 → ((match mm_ty ci k with | .int => true | .boolean => true | .object _ => true | .array _ => true | _ => false) = true) := by decide +kernel
    have hk61 : k < 61 := by
      have hb : ∀ ci, ci < 12 → ((vwCl[ci]?).map (fun r => decide (r.2.2 ≤ 61))) = some true := by decide +kernel
      have := hb ci hci
      rw [hr] at this
      simp at this
      omega
    have := key ci hci k hk61
    revert this
    cases mm_ty ci k <;> simp
  rcases h0 with h | h
  · have hR : mm_isR ci k = false := by rcases h with h | h <;> simp [mm_isR, hci, h]
    rw [hR]
    rcases h with h | h <;> rw [h] <;> rfl
  · have hR : mm_isR ci k = true := by rcases h with ⟨n, h⟩ | ⟨n, h⟩ <;> simp [mm_isR, hci, h]
    rw [hR]
    rcases h with ⟨n, h⟩ | ⟨n, h⟩ <;> rw [h] <;> rfl
theorem g_new {idx ci N : Nat} {C : String} (hd : decode Y.2.1 pc = .ok (.new idx, 3)) (hci : ci < 12) (hw : mm_nok Y.1.cls idx ci C N) (k : Go E d kc ks Y (pc + 3) L (vR G.1 :: st) (mm_push G ci 0) (mm_zero D G.1) Q) : Go E d (kc + 1) (ks + N) Y pc L st G D Q := by
  intro p e s m args below meth c H locs cells slots ls R CC hh hl hL
  obtain ⟨c1, c2, c3, c4, c5, c6, c7, c8, c9, c10, c11, c12, c13⟩ := id CC
  obtain ⟨w1, w2, w3, w4⟩ := hw
  obtain ⟨r, hr, hrr⟩ := Option.map_eq_some_iff.mp w1
  obtain ⟨rC, rT, rN⟩ := r
  simp only [Prod.mk.injEq] at hrr
  obtain ⟨rfl, rfl⟩ := hrr
  have hKn := c9.1.1 ci _ hr
  refine W.newcK c1 c2 c6 (c8 _ w2) (c8 _ w3) (c8 _ w4) rfl hd (by omega) (by omega) hKn.2.1 rfl (fun H1 kC hkC e1 z1 o1 => ?_)
  have := k p e s m args below meth c H1 locs (cells + 1) (slots + rN) ls R ⟨c1, c2, c3, c4, c5, c6, c7, c8, c9, c10, c11, by omega, by omega⟩ (hh.push z1 o1 ?_) hl hL
  · rw [List.map_cons, (mm_sz hh).1] at this
    exact this
  · unfold mm_cell
    simp only [mm_push, if_true]
    rw [if_pos hci]
    refine ⟨_, hr, ?_⟩
    rw [(mm_sz hh).2]
    refine (u_born (mm_ty ci) c8 (mm_clw ci _ hr) hKn hkC e1 (mm_clt ci _ hr)).to (fun j hj => ?_)
    rw [mm_dflt E ci j hci _ hr hj]
    unfold mm_val
    simp [mm_zero]
theorem g_newa {n : Int} {kd : Nat} {at0 : ArrayType} (hd : decode Y.2.1 pc = .ok (.newarray at0, 2)) (hkd : (kd = 12 ∧ newarray.typeOf at0 = .int) ∨ (kd = 13 ∧ newarray.typeOf at0 = .boolean)) (hw : Cond.arrayClass (newarray.typeOf at0) ∈ mm_tbl) (hn : 0 ≤ n) (hn2 : n < 100000) {N : Nat} (hN : n.toNat = N) (k : Go E d kc ks Y (pc + 2) L (vR G.1 :: st) (mm_push G kd n) (mm_zero D G.1) Q) : Go E d (kc + 1) (ks + N) Y pc L (vI n :: st) G D Q := by
  intro p e s m args below meth c H locs cells slots ls R CC hh hl hL
  obtain ⟨c1, c2, c3, c4, c5, c6, c7, c8, c9, c10, c11, c12, c13⟩ := id CC
  have hcl : (iv n).toNatClampNeg = N := by
    show (iv n).toInt.toNat = N
    rw [iv_toInt (by omega) (by omega)]; exact hN
  have hneg : ¬ iv n < 0 := by
    rw [Int32.lt_iff_toInt_lt, iv_toInt (by omega) (by omega)]
    have h0 : (0 : Int32).toInt = 0 := by decide
    omega
  have hcA := c9.2.1 kd (by omega) (by omega)
  have haty : mm_aty kd = newarray.typeOf at0 := by rcases hkd with ⟨rfl, h⟩ | ⟨rfl, h⟩ <;> rw [h] <;> rfl
  refine va_newaK c1 c2 (c8 _ hw) rfl hd rfl hneg hcl ?_ (by omega) (by omega) rfl (fun H1 cA e1 z1 o1 hA hF => ?_)
  · rcases hkd with ⟨-, h⟩ | ⟨-, h⟩ <;> rw [h] <;> simp [componentBytes] <;> omega
  · have hcc : E.2.2.2.2.2.2 kd = cA := by
      have h9 := hcA.2
      rw [haty] at h9
      rcases hkd with ⟨-, h⟩ | ⟨-, h⟩ <;> rw [h] at h9 hF <;> exact Option.some.inj (h9.symm.trans hF)
    have := k p e s m args below meth c H1 locs (cells + 1) (slots + N) ls R ⟨c1, c2, c3, c4, c5, c6, c7, c8, c9, c10, c11, by omega, by omega⟩ (hh.push z1 o1 ?_) hl hL
    · rw [List.map_cons, (mm_sz hh).1] at this
      exact this
    · unfold mm_cell
      simp only [mm_push, if_true]
      rw [if_neg (by omega), (mm_sz hh).2, e1, hcc, hN]
      congr 2
      funext j
      unfold mm_val
      have hR : mm_isR kd j = false := by rcases hkd with ⟨rfl, -⟩ | ⟨rfl, -⟩ <;> rfl
      simp only [if_true, hR, mm_zero]
      rcases hkd with ⟨-, h⟩ | ⟨-, h⟩ <;> rw [h] <;> rfl
theorem g_anewa {n : Int} {idx kd : Nat} {C : String} (hd : decode Y.2.1 pc = .ok (.anewarray idx, 3)) (hkd : (kd = 14 ∧ C = RX10) ∨ (kd = 15 ∧ C = RX4) ∨ (kd = 16 ∧ C = RX2)) (hw : Cond.classLink Y.1.cls idx C ∈ mm_tbl) (hn : 0 ≤ n) (hn2 : n < 100000) {N : Nat} (hN : n.toNat = N) (k : Go E d kc ks Y (pc + 3) L (vR G.1 :: st) (mm_push G kd n) (mm_zero D G.1) Q) : Go E d (kc + 1) (ks + N) Y pc L (vI n :: st) G D Q := by
  intro p e s m args below meth c H locs cells slots ls R CC hh hl hL
  obtain ⟨c1, c2, c3, c4, c5, c6, c7, c8, c9, c10, c11, c12, c13⟩ := id CC
  have hcl : (iv n).toNatClampNeg = N := by
    show (iv n).toInt.toNat = N
    rw [iv_toInt (by omega) (by omega)]; exact hN
  have hneg : ¬ iv n < 0 := by
    rw [Int32.lt_iff_toInt_lt, iv_toInt (by omega) (by omega)]
    have h0 : (0 : Int32).toInt = 0 := by decide
    omega
  have hcA := c9.2.1 kd (by omega) (by omega)
  have haty : mm_aty kd = .object C := by rcases hkd with ⟨rfl, rfl⟩ | ⟨rfl, rfl⟩ | ⟨rfl, rfl⟩ <;> rfl
  have hov : va_AO C s := by
    rcases hkd with ⟨-, rfl⟩ | ⟨-, rfl⟩ | ⟨-, rfl⟩
    · exact c9.2.2.2.2.1
    · exact c9.2.2.2.2.2.1
    · exact c9.2.2.2.2.2.2.1
  refine W.anew c1 c2 c6 (c8 _ hw) (va_AO.use hov) rfl hd rfl hneg (by rw [hcl]; omega) (by omega) (by rw [hcl]; omega) (fun cA kA comp f1 f2 f3 f4 => ?_)
  rw [hcl]
  generalize hH1 : H.push ({ cls := cA, slots := Array.replicate N .null, vm := .none } : Cell) = H1
  have z1 : H1.size = H.size + 1 := by rw [← hH1, Array.size_push]
  have e1 : H1[H.size]? = some (arrV cA N (fun _ => .null)) := by rw [← hH1, Array.getElem?_push_size, ← arrV_new]
  have o1 : ∀ q : Nat, q < H.size → H1[q]? = H[q]? := fun q hq => by rw [← hH1, Array.getElem?_push, if_neg (Nat.ne_of_lt hq)]
  have hcc : E.2.2.2.2.2.2 kd = cA := by
    have h9 := hcA.2
    rw [haty] at h9
    obtain ⟨kA', comp', g1, g2, g3, g4⟩ := h9
    exact Option.some.inj (g4.symm.trans f1)
  have := k p e s m args below meth c H1 locs (cells + 1) (slots + N) ls R ⟨c1, c2, c3, c4, c5, c6, c7, c8, c9, c10, c11, by omega, by omega⟩ (hh.push z1 o1 ?_) hl hL
  · rw [List.map_cons, (mm_sz hh).1] at this
    exact this
  · unfold mm_cell
    simp only [mm_push, if_true]
    rw [if_neg (by omega), (mm_sz hh).2, e1, hcc, hN]
    congr 2
    funext j
    unfold mm_val
    have hR : mm_isR kd j = true := by rcases hkd with ⟨rfl, -⟩ | ⟨rfl, -⟩ | ⟨rfl, -⟩ <;> rfl
    simp only [if_true, hR]
    rfl
theorem mm_recv {s : State} {H : Heap} {a : Int} {ci : Nat} {r : vw_C} (hK : mm_K E s) (hh : mm_hold E s G D H) (ha : 2 ≤ a) (ha2 : a < G.1) (hk : (G.2.1 a).1 = ci) (hci : ci < 12) (hr : vwCl[ci]? = some r) : ∃ cell : Cell, H[mm_ad E a]? = some cell ∧ cell.vm.isStatics = false ∧ s.vm.findClass r.1 = some cell.cls := by
  obtain ⟨r', hr', cell, q1, q2, q3, q4⟩ := mm_obj hh ha ha2 hk hci
  cases hr.symm.trans hr'
  exact ⟨cell, q1, by rw [q3]; rfl, by rw [q2]; exact (hK.1.1 ci r hr).2.1⟩
theorem g_aast {a i x n : Int} {kd ci : Nat} {C : String} (hd : decode Y.2.1 pc = .ok (.aastore, 1)) (hkd : (kd = 14 ∧ C = RX10) ∨ (kd = 15 ∧ C = RX4) ∨ (kd = 16 ∧ C = RX2)) (hk : G.2.1 a = (kd, n)) (ha : 2 ≤ a) (ha2 : a < G.1) (hn : n < 2147483648) (hx : 2 ≤ x) (hx2 : x < G.1) (hkx : (G.2.1 x).1 = ci) (hci : ci < 12) {r : vw_C} (hr : vwCl[ci]? = some r) (hcast : r.1 = C ∨ (r.1, C) ∈ mm_yc)
    (k : (0 ≤ i ∧ i < n) ∧ Go E d kc ks Y (pc + 1) L st (G.1, G.2.1, up2 G.2.2 a i x) D Q) : Go E d kc ks Y pc L (vR x :: vI i :: vR a :: st) G D Q := by
  intro p e s m args below meth c H locs cells slots ls R CC hh hl hL
  obtain ⟨⟨hi, hin⟩, k⟩ := k
  obtain ⟨c1, c2, c3, c4, c5, c6, c7, c8, c9, c10, c11, c12, c13⟩ := id CC
  have hcell := mm_arr hh ha ha2 hk (by omega)
  obtain ⟨e1, e2⟩ := mm_in hi hin hn
  obtain ⟨cv, hv1, hv2, hv3⟩ := mm_recv c9 hh hx hx2 hkx hci hr
  have haty : mm_aty kd = .object C := by rcases hkd with ⟨rfl, rfl⟩ | ⟨rfl, rfl⟩ | ⟨rfl, rfl⟩ <;> rfl
  have h9 := (c9.2.1 kd (by omega) (by omega)).2
  rw [haty] at h9
  obtain ⟨kA, comp, g1, g2, g3, g4⟩ := h9
  obtain ⟨hfc, kC, hkC, -⟩ := (c9.1.1 ci r hr).2
  have hcv : cv.cls = E.2.2.2.2.2.1.1 ci := Option.some.inj (hv3.symm.trans hfc)
  have hass : s.vm.assignable cv.cls comp = true := by
    rcases hcast with h | h
    · have h1 : comp = cv.cls := Option.some.inj (g3.symm.trans (by rw [← h]; exact hv3))
      rw [h1, hcv]
      exact va_assign (c9.1.1 ci r hr).2
    · obtain ⟨c0, t0, f1, f2, f3⟩ := c9.2.2.2.1 _ h
      have h1 : c0 = cv.cls := Option.some.inj (f1.symm.trans hv3)
      have h2 : t0 = comp := Option.some.inj (f2.symm.trans g3)
      rw [← h1, ← h2]; exact f3
  obtain ⟨kcomp, hkcomp, -⟩ := Vm.findClass_spec g3
  rw [List.map_cons, List.map_cons, List.map_cons, mm_sh_ref ha, ← mm_ad_2 ha, mm_sh_ref hx, ← mm_ad_2 hx]
  refine W.aast (kcomp := kcomp) c1 c2 hcell (fun q h => by cases h) (fun h => by cases h) g1 g2 rfl hkcomp ⟨fun h => e2 (Or.inl h), by rw [arrV_size, e1]; omega⟩ hv1 (fun q h => by rw [h] at hv2; cases hv2) (by rw [hcv]; exact hkC) hass rfl rfl hd (fun H1 f1 f2 f3 => ?_)
  refine k p e s m args below meth c H1 _ cells slots ls R CC (hh.set ha ha2 rfl (fun _ => rfl) (fun k hka => mm_val_k rfl (fun j => up2_ne (fun h => hka h.1)) (fun _ => rfl)) f2 f3 ?_) ?_ hL
  · unfold mm_cell
    simp only [hk]
    rw [if_neg (by omega), f1, e1, arrV_store]
    congr 2
    funext j
    unfold updV mm_val
    have hR : ∀ j, mm_isR kd j = true := by rcases hkd with ⟨rfl, -⟩ | ⟨rfl, -⟩ | ⟨rfl, -⟩ <;> intro j <;> rfl
    simp only [hk, hR, if_true]
    by_cases hj : j = i.toNat
    · rw [if_pos hj]
      have e3 : ((j : Nat) : Int) = i := by omega
      rw [e3, up2_same, mm_sh_ref hx, ← mm_ad_2 hx]
    · rw [if_neg hj, up2_ne (fun h => hj (by omega))]
  · intro q hq
    rcases List.mem_append.mp hq with h | h
    · exact hl q h
    · rw [List.mem_singleton.mp h]
      show E.2.2.1 ≤ mm_ad E a
      rw [mm_ad_2 ha]; omega
theorem g_inst {a : Int} {idx ci : Nat} {nm : String} {b : Bool} (hd : decode Y.2.1 pc = .ok (.instanceof idx, 3)) (hw : Cond.classLink Y.1.cls idx nm ∈ mm_tbl) (ha : 2 ≤ a) (ha2 : a < G.1) (hk : (G.2.1 a).1 = ci) (hci : ci < 12) {r : vw_C} (hr : vwCl[ci]? = some r) (hb : (b = true ∧ (r.1 = nm ∨ (r.1, nm) ∈ mm_yc)) ∨ (b = false ∧ (r.1, nm) ∈ mm_nc)) (k : Go E d kc ks Y (pc + 3) L (vI (if b = true then 1 else 0) :: st) G D Q) : Go E d kc ks Y pc L (vR a :: st) G D Q := by
  intro p e s m args below meth c H locs cells slots ls R CC hh hl hL
  obtain ⟨c1, c2, c3, c4, c5, c6, c7, c8, c9, c10, c11, c12, c13⟩ := id CC
  obtain ⟨cv, hv1, hv2, hv3⟩ := mm_recv c9 hh ha ha2 hk hci hr
  have kk := k p e s m args below meth c H locs cells slots ls R CC hh hl hL
  rw [List.map_cons, mm_sh_ref ha, ← mm_ad_2 ha]
  rcases hb with ⟨rfl, h⟩ | ⟨rfl, h⟩
  · rcases h with h | h
    · subst h
      exact va_instS c1 c2 c6 (c8 _ hw) (c9.1.1 ci r hr).2 ⟨cv, hv1, hv2, hv3⟩ hd kk
    · obtain ⟨c0, t0, f1, f2, f3⟩ := c9.2.2.2.1 _ h
      have h1 : c0 = cv.cls := Option.some.inj (f1.symm.trans hv3)
      subst h1
      intro T hT X
      obtain ⟨vm', X', st'⟩ := X.instanceofYes c1 c6 (c8 _ hw) (by rw [hT]; exact hv1) hv2 f2 f3 (g := F0 m pc ls (.ref (mm_ad E a) :: st.map (mm_sh E))) rfl rfl (by rw [c2]; exact hd)
      obtain ⟨t, a1, b1⟩ := kk (T.setVm vm') hT X'
      exact ⟨t, st' t a1, b1⟩
  · exact va_instNo c1 c2 c6 (c8 _ hw) (c9.2.2.1 _ h) ⟨cv, hv1, hv2, hv3⟩ hd kk
theorem g_iret {x : Int} (hd : decode Y.2.1 pc = .ok (.ireturn, 1)) (hr : Y.2.2.2 = some .int) (k : Q (some (vI x)) G D) : Go E d kc ks Y pc L [vI x] G D Q := by
  intro p e s m args below meth c H locs cells slots ls R C hh hl hL
  obtain ⟨c1, c2, c3, c4, c5, c6, c7, c8, c9, c10, c11, c12, c13⟩ := C
  refine W.widen (k := R.cells) (n := R.slots) (by omega) (by omega) ?_
  exact W.iret (v := iv x) c1 c2 (c4.trans hr) (fun t ht hW => ⟨some (vI x), G, D, rfl, k, by rw [ht]; exact hh.moved hW.alike⟩) hl hd c5
theorem g_zret {x : Int} (hd : decode Y.2.1 pc = .ok (.ireturn, 1)) (hr : Y.2.2.2 = some .boolean) (k : (x = 0 ∨ x = 1) ∧ Q (some (vI x)) G D) : Go E d kc ks Y pc L [vI x] G D Q := by
  intro p e s m args below meth c H locs cells slots ls R C hh hl hL
  obtain ⟨c1, c2, c3, c4, c5, c6, c7, c8, c9, c10, c11, c12, c13⟩ := C
  refine W.widen (k := R.cells) (n := R.slots) (by omega) (by omega) ?_
  exact W.zret (v := iv x) c1 c2 (c4.trans hr) (by rcases k.1 with rfl | rfl <;> decide +kernel) (fun t ht hW => ⟨some (vI x), G, D, rfl, k.2, by rw [ht]; exact hh.moved hW.alike⟩) hl hd c5
theorem g_aret {x : Int} {rt : FieldType} (hd : decode Y.2.1 pc = .ok (.areturn, 1)) (hr : Y.2.2.2 = some rt) (hrt : (∃ n, rt = .object n) ∨ ∃ t, rt = .array t) (k : Q (some (vR x)) G D) : Go E d kc ks Y pc L [vR x] G D Q := by
  intro p e s m args below meth c H locs cells slots ls R C hh hl hL
  obtain ⟨c1, c2, c3, c4, c5, c6, c7, c8, c9, c10, c11, c12, c13⟩ := C
  refine W.widen (k := R.cells) (n := R.slots) (by omega) (by omega) ?_
  exact W.aret (v := mm_sh E (vR x)) c1 c2 (c4.trans hr) hrt (by by_cases hx : x = 0 <;> simp [mm_sh, hx]) (fun t ht hW => ⟨some (vR x), G, D, rfl, k, by rw [ht]; exact hh.moved hW.alike⟩) hl hd c5
theorem g_vret (hd : decode Y.2.1 pc = .ok (.return_, 1)) (hr : Y.2.2.2 = none) (k : Q none G D) : Go E d kc ks Y pc L [] G D Q := by
  intro p e s m args below meth c H locs cells slots ls R C hh hl hL
  obtain ⟨c1, c2, c3, c4, c5, c6, c7, c8, c9, c10, c11, c12, c13⟩ := C
  refine W.widen (k := R.cells) (n := R.slots) (by omega) (by omega) ?_
  exact W.vret c1 c2 (c4.trans hr) (fun t ht hW => ⟨none, G, D, rfl, k, by rw [ht]; exact hh.moved hW.alike⟩) hl hd c5
end Rules5
