theorem mm_ent_sl (E : mmE) : ∀ (as : List mmV), (lg_sl (as.map (mm_sh E))).length = (mm_ent as).length ∧ ∀ (k : Nat) (v : mmV), (mm_ent as)[k]? = some (some v) → (lg_sl (as.map (mm_sh E)))[k]? = some (.val (mm_sh E v)) := by
  intro as
  induction as with
  | nil => exact ⟨rfl, fun k v h => by simp [mm_ent] at h⟩
  | cons a t ih =>
    have hcons : ∀ (x : Value) (l : List Value), lg_sl (x :: l) = (if x.category = 2 then [.val x, .second] else [.val x]) ++ lg_sl l := fun x l => by simp [lg_sl]
    match a with
    | .inl z =>
      have e : lg_sl ((mm_sh E (.inl z)) :: t.map (mm_sh E)) = .val (mm_sh E (.inl z)) :: lg_sl (t.map (mm_sh E)) := by rw [hcons]; rfl
      rw [List.map_cons, e]
      refine ⟨by simp [mm_ent, ih.1], fun k v h => ?_⟩
      cases k with
      | zero => simp [mm_ent] at h; rw [← h]; rfl
      | succ k => simp only [mm_ent, List.getElem?_cons_succ] at h ⊢; exact ih.2 k v h
    | .inr (.inl z) =>
      have e : lg_sl ((mm_sh E (.inr (.inl z))) :: t.map (mm_sh E)) = .val (mm_sh E (.inr (.inl z))) :: lg_sl (t.map (mm_sh E)) := by
        rw [hcons, if_neg (by rw [mm_cat1 E (v := vR z) (fun w h => by cases h)]; decide)]; rfl
      rw [List.map_cons, e]
      refine ⟨by simp [mm_ent, ih.1], fun k v h => ?_⟩
      cases k with
      | zero => simp [mm_ent] at h; rw [← h]; rfl
      | succ k => simp only [mm_ent, List.getElem?_cons_succ] at h ⊢; exact ih.2 k v h
    | .inr (.inr w) =>
      have e : lg_sl ((mm_sh E (.inr (.inr w))) :: t.map (mm_sh E)) = .val (mm_sh E (.inr (.inr w))) :: .second :: lg_sl (t.map (mm_sh E)) := by rw [hcons]; rfl
      rw [List.map_cons, e]
      refine ⟨by simp [mm_ent, ih.1], fun k v h => ?_⟩
      match k with
      | 0 => simp [mm_ent] at h; rw [← h]; rfl
      | 1 => simp [mm_ent] at h
      | k + 2 => simp only [mm_ent, List.getElem?_cons_succ] at h ⊢; exact ih.2 k v h
theorem mm_entry {E : mmE} {as : List mmV} {n : Nat} (h : (mm_ent as).length ≤ n) : mm_L E ((lg_sl (as.map (mm_sh E)) ++ List.replicate (n - (lg_sl (as.map (mm_sh E))).length) Slot.unset).toArray) n (mm_ent as ++ List.replicate (n - (mm_ent as).length) none) := by
  obtain ⟨e1, e2⟩ := mm_ent_sl E as
  obtain ⟨h1, h2, -⟩ := lv_entry (as.map (mm_sh E)) (n := n) (by rw [e1]; exact h)
  refine ⟨h1, h2, fun k v hk => ?_⟩
  by_cases hl : k < (mm_ent as).length
  · rw [List.getElem?_append_left hl] at hk
    have := e2 k v hk
    simp only [List.getElem?_toArray]
    rw [List.getElem?_append_left (by rw [e1]; exact hl)]
    exact this
  · rw [List.getElem?_append_right (by omega)] at hk
    rw [List.getElem?_replicate] at hk
    split at hk <;> simp at hk
def mm_Pc (E : mmE) (as : List mmV) (G : mmG) (D : mmD) : Array Value → State → Prop := fun a U => a = (as.map (mm_sh E)).toArray ∧ mm_hold E U G D U.heap ∧ mm_K E U
def mm_rm (d kc ks : Nat) : Room := { frames := d, cells := kc, slots := ks, locals := 64 * d }
abbrev mm_ws (Y : mmM) : List Cond := Cond.code Y.1 Y.2.1 Y.2.2.1 Y.2.2.2 :: mm_tbl
theorem mm_met {E : mmE} {d kc ks : Nat} {Y : mmM} {as : List mmV} {G : mmG} {D : mmD} {Q : mmQ} (hp : plainName Y.1.cls = true) (hn : (mm_ent as).length ≤ Y.2.2.1) (k : Call E d kc ks Y as G D Q) :
    Met E.1 Y.1 (mm_ws Y) (mm_rm d kc ks) (mm_Pc E as G D) (mm_Q E Q) kc ks (fun q => E.2.2.1 ≤ q) := by
  refine Met.ofW (cc := Y.2.1) (maxL := Y.2.2.1) (ret := Y.2.2.2) hp rfl ?_
  intro p e s m args below meth c s₁ B hml hv
  obtain ⟨rfl, hh, hK⟩ := hv
  have hts := atoms_spec (ws := mm_ws Y) B.pre
  rw [lg_entry_eq]
  exact k p e s m _ below meth c s.heap [] 0 0 _ (mm_rm d kc ks) ⟨B.exec, B.bytes, hml, B.returns, B.notSynchronized, findClass_of_methodNamed B.named, (name_of_methodNamed B.named B.method).1, fun w hw => hts w (List.mem_cons_of_mem _ hw), hK, Nat.le_refl _, Nat.le_refl _, by show 0 + kc ≤ kc; omega, by show 0 + ks ≤ ks; omega⟩ hh (fun q hq => by cases hq) (mm_entry hn)
theorem mm_blind {E : mmE} {as : List mmV} {G : mmG} {D : mmD} : FrameBlind (mm_Pc E as G D) := by
  intro a U g mk h
  exact ⟨h.1, h.2.1.moved (Vm.Alike.refl U.vm), h.2.2.same rfl⟩
theorem mm_goodws {Y : mmM} (h : Cond.code Y.1 Y.2.1 Y.2.2.1 Y.2.2.2 ∈ mm_tbl) : ∀ w ∈ mm_ws Y, w ∈ mm_tbl ∧ ((w.onTables && w.keeps) = true ∨ ∃ ty, w = .arrayClass ty) := by
  intro w hw
  rcases List.mem_cons.mp hw with rfl | hw
  · exact ⟨h, (mm_tbl_good _ h).2⟩
  · exact ⟨hw, (mm_tbl_good _ hw).2⟩
/-- what every call asks of the method that is called -/
abbrev mm_cB (Y' : mmM) (n : Nat) : Prop := Cond.code Y'.1 Y'.2.1 Y'.2.2.1 Y'.2.2.2 ∈ mm_tbl ∧ Cond.initialized Y'.1.cls ∈ mm_tbl ∧ plainName Y'.1.cls = true ∧ Y'.2.2.1 ≤ 45 ∧ (Y'.1.cls ≠ "java/lang/invoke/MethodHandle" ∧ Y'.1.cls ≠ "java/lang/invoke/VarHandle" ∧ (parseMethodDescriptor Y'.1.desc).map (fun d => d.parameters.length) = some n)
section CallRules
variable {E : mmE} {d kc ks kc' ks' : Nat} {Y Y' : mmM} {pc : Nat} {L : List (Option mmV)} {st : List mmV} {G : mmG} {D : mmD} {Q : mmQ}
/-- what stands on the stack behind a call -/
def mm_pu (r : Option mmV) (st : List mmV) : List mmV := match r with
  | none => st
  | some v => v :: st
theorem mm_back {p : Program} {e : Env} {s : State} {m : MethodId} {args a : Array Value} {below : List Frame} {meth : Method} {c : Code} {H : Heap} {locs : List Loc} {cells slots : Nat} {ls : Array Slot} {R : Room} {st0 : List Value}
    (C : mm_ctx E Y (d + 1) (kc + kc') (ks + ks') p s m args meth c R cells slots) (hl : ∀ q ∈ locs, E.2.2.1 ≤ q.base) (hL : mm_L E ls Y.2.2.1 L)
    (hr : va_Run p E.1 e R s m args below meth c H locs cells slots kc' ks' (F0 m pc ls st0) (st.map (mm_sh E)) (mm_Q E (fun r G' D' => Go E (d + 1) kc ks Y (pc + 3) L (mm_pu r st) G' D' Q) a) (fun q => E.2.2.1 ≤ q)) :
    W p E.1 e R s m args below meth c H locs cells slots (MQ below (mm_Q E Q) args s R.cells R.slots (fun q => E.2.2.1 ≤ q)) (F0 m pc ls st0) := by
  obtain ⟨c1, c2, c3, c4, c5, c6, c7, c8, c9, c10, c11, c12, c13⟩ := C
  intro T hT X
  obtain ⟨v, st₀, t, T', L2, h0, X', hL2, e1, e2, ⟨r, G', D', hv, hq, hh⟩, stp⟩ := hr T hT X
  have hv2 : v = r.map (mm_sh E) := by cases hv; rfl
  have ha : t.vm.Alike s.vm := by rw [← e2]; exact X'.warmed.alike.symm
  obtain ⟨t2, a1, b1⟩ := hq p e s m args below meth c T'.heap (locs ++ L2) (cells + kc') (slots + ks') ls R ⟨c1, c2, c3, c4, c5, c6, c7, c8, c9, c10, c11, by omega, by omega⟩ (by rw [e1]; exact hh.moved ha)
    (fun q hq => by
      rcases List.mem_append.mp hq with h | h
      · exact hl q h
      · exact hL2 q h) hL T' rfl X'
  refine ⟨t2, stp t2 ?_, b1⟩
  have : (v.toList ++ st.map (mm_sh E)) = (mm_pu r st).map (mm_sh E) := by rw [hv2]; cases r <;> rfl
  show Steps p.tables e below (T'.setTop { method := m, pc := pc + 3, locals := ls, stack := v.toList ++ st.map (mm_sh E), locked := none }) t2
  rw [this]
  exact a1
theorem mm_rev (as : List mmV) (st : List mmV) : ((as.reverse ++ st).map (mm_sh E)) = (as.map (mm_sh E)).reverse ++ st.map (mm_sh E) := by simp
theorem mm_st8 {m : MethodId} {ls : Array Slot} {st0 : List Value} (h : st.length ≤ 4) : 2 * (F0 m pc ls st0).monitorRoom + ((st.map (mm_sh E)).map fun v => v.category).sum ≤ 8 := by
  refine lv_room ?_
  have : ∀ (l : List mmV), ((l.map (mm_sh E)).map fun v => v.category).sum ≤ 2 * l.length := by
    intro l
    induction l with
    | nil => simp
    | cons a t ih =>
      simp only [List.map_cons, List.sum_cons, List.length_cons]
      have : (mm_sh E a).category ≤ 2 := by cases mm_sh E a <;> simp [Value.category]
      omega
  have := this st
  omega
theorem mm_callB {p : Program} {s : State} {m : MethodId} {args : Array Value} {meth : Method} {c : Code} {R : Room} {cells slots n idx : Nat} (C : mm_ctx E Y (d + 1) (kc + kc') (ks + ks') p s m args meth c R cells slots) (hB : mm_cB Y' n) (hlink : Cond.methodLink Y.1.cls idx Y'.1 ∈ mm_tbl) :
    CallB R s args Y.1.cls idx Y'.1 Y'.2.1 Y'.2.2.1 Y'.2.2.2 (mm_ws Y') (mm_rm d kc' ks') kc' ks' n := by
  obtain ⟨c1, c2, c3, c4, c5, c6, c7, c8, c9, c10, c11, c12, c13⟩ := C
  exact callB_of n c8 (mm_goodws hB.1) rfl rfl rfl (c8 _ hB.2.1) (c8 _ hlink) hB.2.2.2.2 ⟨by show d + 1 ≤ R.frames; omega, by show 8 + (Y'.2.2.1 + 11) + 64 * d ≤ R.locals; have := hB.2.2.2.1; omega⟩
/-- a method of the receiver's own class -/
theorem g_callV {b : Int} {as : List mmV} {idx ci n : Nat} (hd : decode Y.2.1 pc = .ok (.invokevirtual idx, 3)) (hB : mm_cB Y' n) (hlink : Cond.methodLink Y.1.cls idx Y'.1 ∈ mm_tbl) (hin : Cond.instanceMethod Y'.1 ∈ mm_tbl) (hsel : Cond.selects Y'.1.cls Y'.1 Y'.1 ∈ mm_tbl) (hci : ci < 12) (hr : (vwCl[ci]?).map (fun r => r.1) = some Y'.1.cls) (hn : as.length = n) (hent : (mm_ent (vR b :: as)).length ≤ Y'.2.2.1) (hst : st.length ≤ 4)
    (hb : 2 ≤ b) (hb2 : b < G.1) (hk : (G.2.1 b).1 = ci)
    (k : Call E d kc' ks' Y' (vR b :: as) G D (fun r G' D' => Go E (d + 1) kc ks Y (pc + 3) L (mm_pu r st) G' D' Q)) : Go E (d + 1) (kc + kc') (ks + ks') Y pc L (as.reverse ++ vR b :: st) G D Q := by
  intro p e s m args below meth c H locs cells slots ls R C hh hl hL
  obtain ⟨c1, c2, c3, c4, c5, c6, c7, c8, c9, c10, c11, c12, c13⟩ := id C
  obtain ⟨r, hr1, hr2⟩ := Option.map_eq_some_iff.mp hr
  have hrc := mm_recv c9 hh hb hb2 hk hci hr1
  rw [hr2] at hrc
  have e1 : (as.reverse ++ vR b :: st).map (mm_sh E) = (as.map (mm_sh E)).reverse ++ .ref (mm_ad E b) :: st.map (mm_sh E) := by rw [mm_rev, List.map_cons, mm_sh_ref hb, ← mm_ad_2 hb]
  rw [e1]
  refine mm_back C hl hL (va_runV (As := as.map (mm_sh E)) (n := n) (nL := Y.2.2.1) (C := Y'.1.cls) (Ts := mm_tbl) ⟨c1, c2, c3, c6, c8⟩ (mm_met hB.2.2.1 hent k) ⟨mm_callB C hB hlink, c8 _ hin, c8 _ hsel⟩ ⟨mm_blind, hrc, fun U hU hW => ⟨?_, ?_, c9.warm hW⟩⟩ rfl (by rw [List.length_map]; exact hn) hL.1 rfl (mm_st8 hst) hd ⟨by omega, by omega⟩)
  · rw [List.map_cons, mm_sh_ref hb, ← mm_ad_2 hb]
  · rw [hU]; exact hh.moved hW.alike
theorem g_callS {as : List mmV} {idx n : Nat} (hd : decode Y.2.1 pc = .ok (.invokestatic idx, 3)) (hB : mm_cB Y' n) (hlink : Cond.methodLink Y.1.cls idx Y'.1 ∈ mm_tbl) (hstat : Cond.static Y'.1 ∈ mm_tbl) (hn : as.length = n) (hent : (mm_ent as).length ≤ Y'.2.2.1) (hst : st.length ≤ 4)
    (k : Call E d kc' ks' Y' as G D (fun r G' D' => Go E (d + 1) kc ks Y (pc + 3) L (mm_pu r st) G' D' Q)) : Go E (d + 1) (kc + kc') (ks + ks') Y pc L (as.reverse ++ st) G D Q := by
  intro p e s m args below meth c H locs cells slots ls R C hh hl hL
  obtain ⟨c1, c2, c3, c4, c5, c6, c7, c8, c9, c10, c11, c12, c13⟩ := id C
  rw [mm_rev]
  exact mm_back C hl hL (va_runS (As := as.map (mm_sh E)) (n := n) (nL := Y.2.2.1) (Ts := mm_tbl) ⟨c1, c2, c3, c6, c8⟩ (mm_met hB.2.2.1 hent k) ⟨mm_callB C hB hlink, c8 _ hstat⟩ ⟨mm_blind, fun U hU hW => ⟨rfl, by rw [hU]; exact hh.moved hW.alike, c9.warm hW⟩⟩ rfl (by rw [List.length_map]; exact hn) hL.1 rfl (mm_st8 hst) hd ⟨by omega, by omega⟩)
/-- a static method of a nest mate -/
theorem g_callSN {as : List mmV} {idx n : Nat} (hd : decode Y.2.1 pc = .ok (.invokestatic idx, 3)) (hB : mm_cB Y' n) (hlink : ∀ s, mm_K E s → va_Nw (.methodLinkNest Y.1.cls idx Y'.1 RX11) s) (hstat : Cond.static Y'.1 ∈ mm_tbl) (hn : as.length = n) (hent : (mm_ent as).length ≤ Y'.2.2.1) (hst : st.length ≤ 4)
    (k : Call E d kc' ks' Y' as G D (fun r G' D' => Go E (d + 1) kc ks Y (pc + 3) L (mm_pu r st) G' D' Q)) : Go E (d + 1) (kc + kc') (ks + ks') Y pc L (as.reverse ++ st) G D Q := by
  intro p e s m args below meth c H locs cells slots ls R C hh hl hL
  obtain ⟨c1, c2, c3, c4, c5, c6, c7, c8, c9, c10, c11, c12, c13⟩ := id C
  rw [mm_rev]
  exact mm_back C hl hL (va_runSN (As := as.map (mm_sh E)) (n := n) (nL := Y.2.2.1) (Ts := mm_tbl) (host := RX11) ⟨c1, c2, c3, c6, c8⟩ (mm_met hB.2.2.1 hent k) ⟨va_cnB n c8 (mm_goodws hB.1) rfl rfl rfl (hlink s c9) (c8 _ hB.2.1) hB.2.2.2.2 ⟨by show d + 1 ≤ R.frames; omega, by show 8 + (Y'.2.2.1 + 11) + 64 * d ≤ R.locals; have := hB.2.2.2.1; omega⟩, c8 _ hstat, trivial⟩ ⟨mm_blind, fun U hU hW => ⟨rfl, by rw [hU]; exact hh.moved hW.alike, c9.warm hW⟩⟩ rfl (by rw [List.length_map]; exact hn) hL.1 rfl (mm_st8 hst) hd ⟨by omega, by omega⟩)
/-- a constructor -/
theorem g_callI {b : Int} {as : List mmV} {idx n : Nat} (hd : decode Y.2.1 pc = .ok (.invokespecial idx, 3)) (hB : mm_cB Y' n) (hret : Y'.2.2.2 = none) (hlink : Cond.methodLink Y.1.cls idx Y'.1 ∈ mm_tbl) (hin : Cond.instanceMethod Y'.1 ∈ mm_tbl) (hnm : Y'.1.name = "<init>") (hn : as.length = n) (hent : (mm_ent (vR b :: as)).length ≤ Y'.2.2.1) (hst : st.length ≤ 4) (hb : 2 ≤ b)
    (k : Call E d kc' ks' Y' (vR b :: as) G D (fun r G' D' => Go E (d + 1) kc ks Y (pc + 3) L (mm_pu r st) G' D' Q)) : Go E (d + 1) (kc + kc') (ks + ks') Y pc L (as.reverse ++ vR b :: st) G D Q := by
  intro p e s m args below meth c H locs cells slots ls R C hh hl hL
  obtain ⟨c1, c2, c3, c4, c5, c6, c7, c8, c9, c10, c11, c12, c13⟩ := id C
  have e1 : (as.reverse ++ vR b :: st).map (mm_sh E) = (as.map (mm_sh E)).reverse ++ .ref (mm_ad E b) :: st.map (mm_sh E) := by rw [mm_rev, List.map_cons, mm_sh_ref hb, ← mm_ad_2 hb]
  rw [e1]
  have hcb := mm_callB C hB hlink
  rw [hret] at hcb
  refine mm_back C hl hL (va_runI (As := as.map (mm_sh E)) (n := n) (nL := Y.2.2.1) (Ts := mm_tbl) ⟨c1, c2, c3, c6, c8⟩ (mm_met hB.2.2.1 hent k) ⟨hcb, hnm, c8 _ hin⟩ ⟨mm_blind, fun U hU hW => ⟨?_, ?_, c9.warm hW⟩⟩ rfl (by rw [List.length_map]; exact hn) hL.1 rfl (mm_st8 hst) hd ⟨by omega, by omega⟩)
  · rw [List.map_cons, mm_sh_ref hb, ← mm_ad_2 hb]
  · rw [hU]; exact hh.moved hW.alike
/-- a method that the receiver's class inherits or overrides -/
theorem g_callU {b : Int} {as : List mmV} {idx ci n : Nat} {C owner : String} {x : MethodName} (hd : decode Y.2.1 pc = .ok (.invokevirtual idx, 3)) (hB : mm_cB Y' n) (hlink : Cond.methodLink Y.1.cls idx x ∈ mm_tbl) (hsame : Cond.sameMethod x.cls owner x.name x.desc ∈ mm_tbl) (hown : owner ≠ "java/lang/invoke/MethodHandle" ∧ owner ≠ "java/lang/invoke/VarHandle") (hxn : (parseMethodDescriptor x.desc).map (fun d => d.parameters.length) = some n)
    (hdecl : (Cond.instanceMethod ⟨owner, x.name, x.desc⟩ ∈ mm_tbl ∧ ∃ b0 m0 r0, Cond.code ⟨owner, x.name, x.desc⟩ b0 m0 r0 ∈ mm_tbl) ∨ (⟨owner, x.name, x.desc⟩ : MethodName) = ⟨RX2, "kindNumber", "()I"⟩) (hin : Cond.instanceMethod Y'.1 ∈ mm_tbl) (hsel : Cond.selects C x Y'.1 ∈ mm_tbl) (hci : ci < 12) (hr : (vwCl[ci]?).map (fun r => r.1) = some C) (hn : as.length = n) (hent : (mm_ent (vR b :: as)).length ≤ Y'.2.2.1) (hst : st.length ≤ 4)
    (hb : 2 ≤ b) (hb2 : b < G.1) (hk : (G.2.1 b).1 = ci)
    (k : Call E d kc' ks' Y' (vR b :: as) G D (fun r G' D' => Go E (d + 1) kc ks Y (pc + 3) L (mm_pu r st) G' D' Q)) : Go E (d + 1) (kc + kc') (ks + ks') Y pc L (as.reverse ++ vR b :: st) G D Q := by
  intro p e s m args below meth c H locs cells slots ls R CC hh hl hL
  obtain ⟨c1, c2, c3, c4, c5, c6, c7, c8, c9, c10, c11, c12, c13⟩ := id CC
  obtain ⟨r, hr1, hr2⟩ := Option.map_eq_some_iff.mp hr
  have hrc := mm_recv c9 hh hb hb2 hk hci hr1
  rw [hr2] at hrc
  have e1 : (as.reverse ++ vR b :: st).map (mm_sh E) = (as.map (mm_sh E)).reverse ++ .ref (mm_ad E b) :: st.map (mm_sh E) := by rw [mm_rev, List.map_cons, mm_sh_ref hb, ← mm_ad_2 hb]
  rw [e1]
  have hdc : va_Decl s ⟨owner, x.name, x.desc⟩ := by
    rcases hdecl with ⟨h1, b0, m0, r0, h2⟩ | h
    · exact va_Decl.of (c8 _ h1) (c8 _ h2)
    · rw [h]; exact va_Decl.abs c9.2.2.2.2.2.2.2.2.2.2
  have cw : va_CU R s args Y.1.cls C owner idx x Y'.1 Y'.2.1 Y'.2.2.1 Y'.2.2.2 (mm_ws Y') (mm_rm d kc' ks') kc' ks' n := by
    refine ⟨⟨rfl, rfl, by show d + 1 ≤ R.frames; omega, by show 8 + (Y'.2.2.1 + 11) + 64 * d ≤ R.locals; have := hB.2.2.2.1; omega, pay_in c8 (mm_goodws hB.1), List.mem_cons_self⟩, c8 _ hB.1, c8 _ hB.2.1, hown, fun sig h => ?_, c8 _ hlink, c8 _ hsame, hdc, c8 _ hsel, c8 _ hin⟩
    rw [h] at hxn
    exact (Option.some.inj hxn).symm
  refine mm_back CC hl hL (va_runU (As := as.map (mm_sh E)) (n := n) (nL := Y.2.2.1) (C := C) (Ts := mm_tbl) ⟨c1, c2, c3, c6, c8⟩ (mm_met hB.2.2.1 hent k) cw ⟨mm_blind, hrc, fun U hU hW => ⟨?_, ?_, c9.warm hW⟩⟩ rfl (by rw [List.length_map]; exact hn) hL.1 rfl (mm_st8 hst) hd ⟨by omega, by omega⟩)
  · rw [List.map_cons, mm_sh_ref hb, ← mm_ad_2 hb]
  · rw [hU]; exact hh.moved hW.alike
theorem g_objinit {b : Int} {idx : Nat} (hd : decode Y.2.1 pc = .ok (.invokespecial idx, 3)) (hw : Cond.methodLink Y.1.cls idx Lib.objectInit ∈ mm_tbl ∧ Cond.instanceMethod Lib.objectInit ∈ mm_tbl ∧ Cond.code Lib.objectInit ⟨#[0xb1]⟩ 1 none ∈ mm_tbl) (hst : st.length ≤ 4) (hb : 2 ≤ b) (k : Go E (d + 1) kc ks Y (pc + 3) L st G D Q) : Go E (d + 1) kc ks Y pc L (vR b :: st) G D Q := by
  intro p e s m args below meth c H locs cells slots ls R C hh hl hL
  obtain ⟨c1, c2, c3, c4, c5, c6, c7, c8, c9, c10, c11, c12, c13⟩ := id C
  rw [List.map_cons, mm_sh_ref hb, ← mm_ad_2 hb]
  have h8 := mm_st8 (E := E) (pc := pc) (m := m) (ls := ls) (st0 := []) hst
  refine W.objInit c1 c2 c6 (c8 _ hw.1) (c8 _ hw.2.1) (c8 _ hw.2.2) rfl (by rw [c3]; exact hL.1) rfl hd (by omega) ?_ (k p e s m args below meth c H locs cells slots ls R C hh hl hL)
  have : 2 * (F0 m pc ls (.ref (mm_ad E b) :: st.map (mm_sh E))).monitorRoom + ((st.map (mm_sh E)).map fun v => v.category).sum ≤ 8 := h8
  omega
end CallRules
