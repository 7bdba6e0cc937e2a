/-! ===== a small machine: memory is a map of whole numbers; a state of a method is a place, locals, a stack, a shape and the data ===== -/
abbrev iv (z : Int) : Int32 := Int32.ofInt z
abbrev mmV : Type := Int ⊕ Int ⊕ Int64
abbrev vI (z : Int) : mmV := Sum.inl z
abbrev vR (k : Int) : mmV := Sum.inr (Sum.inl k)
abbrev vL (w : Int64) : mmV := Sum.inr (Sum.inr w)
/-- launch, the script's address, the first new address, the script's size, the script, class numbers and slots, array class numbers -/
abbrev mmE : Type := Launch × Nat × Nat × Nat × (Nat → Int32) × va_G × (Nat → ClassId)
/-- the next free cell, kind and length of each, references -/
abbrev mmG : Type := Int × (Int → Nat × Int) × (Int → Int → Int)
abbrev mmD : Type := Int → Int → Int
abbrev mmM : Type := MethodName × ByteArray × Nat × Option FieldType
abbrev mmQ : Type := Option mmV → mmG → mmD → Prop
def mm_ad (E : mmE) (k : Int) : Nat := if k = 1 then E.2.1 else E.2.2.1 + (k - 2).toNat
def mm_sh (E : mmE) : mmV → Value
  | .inl z => .int (Int32.ofInt z)
  | .inr (.inl k) => if k = 0 then .null else .ref (mm_ad E k)
  | .inr (.inr w) => .long w
def mm_ty : Nat → Nat → FieldType
  | 0 => tyX0
  | 1 => tyX1
  | 2 => tyX3
  | 3 => tyX4
  | 4 => tyX5
  | 5 => tyX6
  | 6 => tyX7
  | 7 => tyX8
  | 8 => tyX9
  | 9 => tyX10
  | 10 => tyX11
  | _ => tyX12
def mm_isR (kind j : Nat) : Bool := if kind < 12 then (match mm_ty kind j with | .int => false | .boolean => false | _ => true) else if kind < 14 then false else true
def mm_aty : Nat → FieldType
  | 12 => .int
  | 13 => .boolean
  | 14 => .object RX10
  | 15 => .object RX4
  | _ => .object RX2
def mm_val (E : mmE) (G : mmG) (D : mmD) (k : Int) (j : Nat) : Value := mm_sh E (if mm_isR (G.2.1 k).1 j = true then vR (G.2.2 k j) else vI (D k j))
def mm_cell (E : mmE) (G : mmG) (D : mmD) (H : Heap) (k : Int) : Prop :=
  if (G.2.1 k).1 < 12 then ∃ r : vw_C, vwCl[(G.2.1 k).1]? = some r ∧ t_OB (mm_ad E k) (E.2.2.2.2.2.1.1 (G.2.1 k).1) r.2.2 (E.2.2.2.2.2.1.2 (G.2.1 k).1) H (mm_val E G D k)
  else H[mm_ad E k]? = some (arrV (E.2.2.2.2.2.2 (G.2.1 k).1) (G.2.1 k).2.toNat (mm_val E G D k))
def mm_hold (E : mmE) (U : State) (G : mmG) (D : mmD) (H : Heap) : Prop :=
  va_X E.2.1 E.2.2.2.1 E.2.2.2.2.1 U H ∧ E.2.1 < E.2.2.1 ∧ 2 ≤ G.1 ∧ (H.size : Int) = E.2.2.1 + G.1 - 2 ∧ ∀ k : Int, 2 ≤ k → k < G.1 → mm_cell E G D H k
def mm_nc : List (String × String) := [(RX1, RX8), (RX1, RX9), (RX1, RX6), (RX1, RX3), (RX3, RX8), (RX3, RX9), (RX3, RX6), (RX3, RX1), (RX5, RX8), (RX5, RX9), (RX5, RX6), (RX5, RX3), (RX5, RX1), (RX6, RX5), (RX6, RX9), (RX6, RX3), (RX6, RX1), (RX8, RX5), (RX8, RX9), (RX8, RX6), (RX8, RX3), (RX8, RX1), (RX9, RX8), (RX9, RX5), (RX9, RX6), (RX9, RX3), (RX9, RX1)]
def mm_tbl : List Cond := lw_tbl.filter goodWord
theorem mm_tbl_good : ∀ w ∈ mm_tbl, w ∈ lw_tbl ∧ ((w.onTables && w.keeps) = true ∨ ∃ ty, w = .arrayClass ty) := fun w hw => ⟨(List.mem_filter.mp hw).1, good_of_word (List.mem_filter.mp hw).2⟩
def mm_yc : List (String × String) := [(RX6, RX8), (RX1, RX5), (RX3, RX5), (RX1, RX2), (RX3, RX2), (RX5, RX2), (RX6, RX2), (RX8, RX2), (RX9, RX2)]
def mm_Yc (C T : String) (U : State) : Prop := ∃ c t : ClassId, U.vm.findClass C = some c ∧ U.vm.findClass T = some t ∧ U.vm.assignable c t = true
theorem mm_Yc.moved {C T : String} {u U : State} (hvm : u.vm.Alike U.vm) (h : mm_Yc C T u) : mm_Yc C T U := by
  obtain ⟨c, t, h1, h2, h3⟩ := h
  exact ⟨c, t, by rw [hvm.findClass]; exact h1, by rw [hvm.findClass]; exact h2, by rw [hvm.assignable]; exact h3⟩
def mm_K (E : mmE) (U : State) : Prop :=
  va_K E.2.2.2.2.2.1 vwCl [] U ∧ (∀ k : Nat, 12 ≤ k → k ≤ 16 → ArrOfT U (E.2.2.2.2.2.2 k) (mm_aty k) ∧ va_RA U (E.2.2.2.2.2.2 k) (mm_aty k)) ∧ (∀ q ∈ mm_nc, va_Nc q.1 q.2 U) ∧ (∀ q ∈ mm_yc, mm_Yc q.1 q.2 U)
  ∧ va_AO RX10 U ∧ va_AO RX4 U ∧ va_AO RX2 U ∧ va_Nw (.methodLinkNest RX4 43 yX11_isLetterByte RX11) U ∧ va_Nw (.methodLinkNest RX4 78 yX11_isVowel RX11) U ∧ va_Nw (.methodLinkNest RX7 37 yX11_isVowel RX11) U ∧ va_Nw (.declares ⟨RX2, "kindNumber", "()I"⟩) U
theorem mm_K.warm {E : mmE} {s U : State} (hW : s.WarmedH U.vm) (h : mm_K E s) : mm_K E U := by
  obtain ⟨h1, h2, h3, h4, h5, h6, h7, h8, h9, h10, h11⟩ := h
  exact ⟨va_K.moved hW.alike h1, fun k a b => ⟨arrOfT_moved hW.alike (h2 k a b).1, (h2 k a b).2.moved hW.alike⟩, fun q hq => (h3 q hq).moved hW.alike, fun q hq => (h4 q hq).moved hW.alike, h5.moved hW.alike, h6.moved hW.alike, h7.moved hW.alike, h8.warmM hW, h9.warmM hW, h10.warmM hW, h11.warmD hW⟩
theorem mm_K.same {E : mmE} {s U : State} (hW : s.vm = U.vm) (h : mm_K E s) : mm_K E U := by
  have ha : s.vm.Alike U.vm := hW ▸ Vm.Alike.refl s.vm
  obtain ⟨h1, h2, h3, h4, h5, h6, h7, h8, h9, h10, h11⟩ := h
  exact ⟨va_K.moved ha h1, fun k a b => ⟨arrOfT_moved ha (h2 k a b).1, (h2 k a b).2.moved ha⟩, fun q hq => (h3 q hq).moved ha, fun q hq => (h4 q hq).moved ha, h5.moved ha, h6.moved ha, h7.moved ha, h8.same rfl hW, h9.same rfl hW, h10.same rfl hW, h11.same rfl hW⟩
theorem mm_hold.moved {E : mmE} {s U : State} {G : mmG} {D : mmD} {H : Heap} (ha : s.vm.Alike U.vm) (h : mm_hold E s G D H) : mm_hold E U G D H := ⟨h.1.moved ha, h.2⟩
/-- the locals: what is known of them -/
def mm_L (E : mmE) (ls : Array Slot) (nL : Nat) (L : List (Option mmV)) : Prop := ls.size = nL ∧ lv_wf ls ∧ ∀ (k : Nat) (v : mmV), L[k]? = some (some v) → ls[k]? = some (.val (mm_sh E v))
def mm_ctx (E : mmE) (Y : mmM) (d kc ks : Nat) (p : Program) (s : State) (m : MethodId) (args : Array Value) (meth : Method) (c : Code) (R : Room) (cells slots : Nat) : Prop :=
  p.tables.exec = Jvm.exec ∧ c.code = Y.2.1 ∧ c.maxLocals = Y.2.2.1 ∧ meth.sig.returnType = Y.2.2.2 ∧ meth.locks = false ∧ s.vm.findClass Y.1.cls = some m.cls ∧ meth.name = Y.1.name ∧ (∀ w ∈ mm_tbl, w.before args s = true) ∧ mm_K E s
  ∧ d ≤ R.frames ∧ 64 * d ≤ R.locals ∧ cells + kc ≤ R.cells ∧ slots + ks ≤ R.slots
def mm_Q (E : mmE) (Q : mmQ) : Array Value → State → Outcome → State → Prop := fun _ _ o t => ∃ (r : Option mmV) (G : mmG) (D : mmD), o = .returned (r.map (mm_sh E)) ∧ Q r G D ∧ mm_hold E t G D t.heap
/-- from this place on the method returns, with Q of its answer and the memory -/
def Go (E : mmE) (d kc ks : Nat) (Y : mmM) (pc : Nat) (L : List (Option mmV)) (st : List mmV) (G : mmG) (D : mmD) (Q : mmQ) : Prop :=
  ∀ (p : Program) (e : Env) (s : State) (m : MethodId) (args : Array Value) (below : List Frame) (meth : Method) (c : Code) (H : Heap) (locs : List Loc) (cells slots : Nat) (ls : Array Slot) (R : Room),
    mm_ctx E Y d kc ks p s m args meth c R cells slots → mm_hold E s G D H → (∀ q ∈ locs, E.2.2.1 ≤ q.base) → mm_L E ls Y.2.2.1 L →
    W p E.1 e R s m args below meth c H locs cells slots (MQ below (mm_Q E Q) args s R.cells R.slots (fun q => E.2.2.1 ≤ q)) (F0 m pc ls (st.map (mm_sh E)))
/-- the locals at a method's entry -/
def mm_ent : List mmV → List (Option mmV)
  | [] => []
  | .inr (.inr w) :: r => some (vL w) :: none :: mm_ent r
  | v :: r => some v :: mm_ent r
def Call (E : mmE) (d kc ks : Nat) (Y : mmM) (as : List mmV) (G : mmG) (D : mmD) (Q : mmQ) : Prop := Go E d kc ks Y 0 (mm_ent as ++ List.replicate (Y.2.2.1 - (mm_ent as).length) none) [] G D Q
theorem mm_L.store1 {E : mmE} {ls : Array Slot} {nL : Nat} {L : List (Option mmV)} {i : Nat} {v : mmV} (h : mm_L E ls nL L) (hi : i < nL) (hc : (mm_sh E v).category = 1) (hb : ∀ w, i = 0 ∨ L[i - 1]? ≠ some (some (vL w))) :
    ∃ ls', storeLocals ls i (mm_sh E v) = some ls' ∧ mm_L E ls' nL (L.set i (some v)) := by
  obtain ⟨h1, h2, h3⟩ := h
  obtain ⟨ls', e1, e2⟩ := lv_store1 (l := (List.range L.length).filterMap (fun k => match L[k]? with | some (some v) => some (k, mm_sh E v) | _ => none)) (v := mm_sh E v) ⟨h1, h2, fun q hq => by
    obtain ⟨k, -, hk⟩ := List.mem_filterMap.mp hq
    split at hk
    · rename_i w hw
      cases hk
      exact h3 k w hw
    · cases hk⟩ hi hc
  refine ⟨ls', e1, e2.1, e2.2.1, fun k w hk => ?_⟩
  by_cases hki : k = i
  · subst hki
    have : (L.set k (some v))[k]? = some (some w) := hk
    rw [List.getElem?_set] at this
    simp at this
    obtain ⟨-, rfl⟩ := this
    exact e2.2.2 _ List.mem_cons_self
  · rw [List.getElem?_set_ne (Ne.symm hki)] at hk
    refine e2.2.2 (k, mm_sh E w) (List.mem_cons_of_mem _ (List.mem_filter.mpr ⟨List.mem_filterMap.mpr ⟨k, ?_, ?_⟩, ?_⟩))
    · exact List.mem_range.mpr (List.getElem?_eq_some_iff.mp hk).1
    · rw [hk]
    · have hn : ¬ (k + 1 = i ∧ (mm_sh E w).category = 2) := by
        intro ⟨ha, hb2⟩
        match w, hk, hb2 with
        | .inl z, _, hb2 => simp [mm_sh, Value.category] at hb2
        | .inr (.inl z), _, hb2 => by_cases hz : z = 0 <;> simp [mm_sh, hz, Value.category] at hb2
        | .inr (.inr w), hk, _ =>
          rcases hb w with h | h
          · omega
          · exact h (by rw [show i - 1 = k by omega]; exact hk)
      simp only [Bool.and_eq_true, Bool.not_eq_true', beq_eq_false_iff_ne, ne_eq, Bool.and_eq_false_iff]
      refine ⟨hki, ?_⟩
      by_cases ha : k + 1 = i
      · exact Or.inr (fun hc => hn ⟨ha, hc⟩)
      · exact Or.inl ha
