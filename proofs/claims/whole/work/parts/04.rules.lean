section Rules
variable {E : mmE} {d kc ks : Nat} {Y : mmM} {pc : Nat} {L : List (Option mmV)} {st : List mmV} {G : mmG} {D : mmD} {Q : mmQ}
theorem iv_add (a b : Int) : iv (a + b) = iv a + iv b := Int32.ofInt_add a b
theorem iv_sub (a b : Int) : iv (a - b) = iv a - iv b := Int32.ofInt_sub a b
theorem iv_mul (a b : Int) : iv (a * b) = iv a * iv b := Int32.ofInt_mul a b
theorem iv_neg (a : Int) : iv (-a) = - iv a := Int32.ofInt_neg a
theorem iv_toInt {a : Int} (h : -2147483648 ≤ a) (h2 : a < 2147483648) : (iv a).toInt = a := Int32.toInt_ofInt_of_le (by simpa using h) (by simpa using h2)
theorem iv_self (x : Int32) : iv x.toInt = x := Int32.ofInt_toInt x
theorem iv_lt {a b : Int} (h : -2147483648 ≤ a) (h2 : a < 2147483648) (h3 : -2147483648 ≤ b) (h4 : b < 2147483648) : iv a < iv b ↔ a < b := by
  rw [Int32.lt_iff_toInt_lt, iv_toInt h h2, iv_toInt h3 h4]
theorem iv_le {a b : Int} (h : -2147483648 ≤ a) (h2 : a < 2147483648) (h3 : -2147483648 ≤ b) (h4 : b < 2147483648) : iv a ≤ iv b ↔ a ≤ b := by
  rw [Int32.le_iff_toInt_le, iv_toInt h h2, iv_toInt h3 h4]
theorem iv_eq {a b : Int} (h : -2147483648 ≤ a) (h2 : a < 2147483648) (h3 : -2147483648 ≤ b) (h4 : b < 2147483648) : iv a = iv b ↔ a = b := by
  rw [← Int32.toInt_inj, iv_toInt h h2, iv_toInt h3 h4]
theorem g_iconst {n : Int} (hd : decode Y.2.1 pc = .ok (.iconst n, 1)) (k : Go E d kc ks Y (pc + 1) L (vI n :: st) G D Q) : Go E d kc ks Y pc L st G D Q := by
  intro p e s m args below meth c H locs cells slots ls R C hh hl hL
  exact lv_iconst C.1 C.2.1 hd rfl (k p e s m args below meth c H locs cells slots ls R C hh hl hL)
theorem g_bipush {n : Int} (hd : decode Y.2.1 pc = .ok (.bipush n, 2)) (hn : (Int8.ofInt n).toInt32 = iv n) (k : Go E d kc ks Y (pc + 2) L (vI n :: st) G D Q) : Go E d kc ks Y pc L st G D Q := by
  intro p e s m args below meth c H locs cells slots ls R C hh hl hL
  exact lv_bipush C.1 C.2.1 hd hn (k p e s m args below meth c H locs cells slots ls R C hh hl hL)
theorem g_sipush {n : Int} (hd : decode Y.2.1 pc = .ok (.sipush n, 3)) (hn : (Int16.ofInt n).toInt32 = iv n) (k : Go E d kc ks Y (pc + 3) L (vI n :: st) G D Q) : Go E d kc ks Y pc L st G D Q := by
  intro p e s m args below meth c H locs cells slots ls R C hh hl hL
  exact lv_sipush C.1 C.2.1 hd hn (k p e s m args below meth c H locs cells slots ls R C hh hl hL)
theorem g_ldc {i : Nat} {n : Int} {v : Int32} (hd : decode Y.2.1 pc = .ok (.ldc i, 2)) (hw : Cond.constant Y.1.cls i v ∈ mm_tbl) (hv : v = iv n) (k : Go E d kc ks Y (pc + 2) L (vI n :: st) G D Q) : Go E d kc ks Y pc L st G D Q := by
  intro p e s m args below meth c H locs cells slots ls R C hh hl hL
  subst hv
  exact lv_ldc C.1 C.2.1 C.2.2.2.2.2.1 (C.2.2.2.2.2.2.2.1 _ hw) hd (k p e s m args below meth c H locs cells slots ls R C hh hl hL)
theorem g_ldcw {i : Nat} {n : Int} {v : Int32} (hd : decode Y.2.1 pc = .ok (.ldc_w i, 3)) (hw : Cond.constant Y.1.cls i v ∈ mm_tbl) (hv : v = iv n) (k : Go E d kc ks Y (pc + 3) L (vI n :: st) G D Q) : Go E d kc ks Y pc L st G D Q := by
  intro p e s m args below meth c H locs cells slots ls R C hh hl hL
  subst hv
  exact lv_ldcw C.1 C.2.1 C.2.2.2.2.2.1 (C.2.2.2.2.2.2.2.1 _ hw) hd (k p e s m args below meth c H locs cells slots ls R C hh hl hL)
theorem g_ldc2 {i : Nat} {v : Int64} (hd : decode Y.2.1 pc = .ok (.ldc2_w i, 3)) (hw : Cond.constantLong Y.1.cls i v ∈ mm_tbl) (k : Go E d kc ks Y (pc + 3) L (vL v :: st) G D Q) : Go E d kc ks Y pc L st G D Q := by
  intro p e s m args below meth c H locs cells slots ls R C hh hl hL
  exact lv_ldc2 C.1 C.2.1 C.2.2.2.2.2.1 (C.2.2.2.2.2.2.2.1 _ hw) hd (k p e s m args below meth c H locs cells slots ls R C hh hl hL)
theorem g_iload {i : Nat} {x : Int} (hd : decode Y.2.1 pc = .ok (.iload i, 2)) (hl0 : L[i]? = some (some (vI x))) (k : Go E d kc ks Y (pc + 2) L (vI x :: st) G D Q) : Go E d kc ks Y pc L st G D Q := by
  intro p e s m args below meth c H locs cells slots ls R C hh hl hL
  exact lv_iload C.1 C.2.1 hd (hL.2.2 i _ hl0) (k p e s m args below meth c H locs cells slots ls R C hh hl hL)
theorem g_iload_n {j : Fin 4} {i : Nat} {x : Int} (hd : decode Y.2.1 pc = .ok (.iload_n j, 1)) (hi : (j : Nat) = i) (hl0 : L[i]? = some (some (vI x))) (k : Go E d kc ks Y (pc + 1) L (vI x :: st) G D Q) : Go E d kc ks Y pc L st G D Q := by
  intro p e s m args below meth c H locs cells slots ls R C hh hl hL
  exact lv_iload_n C.1 C.2.1 hd hi (hL.2.2 i _ hl0) (k p e s m args below meth c H locs cells slots ls R C hh hl hL)
theorem g_lload_n {j : Fin 4} {i : Nat} {x : Int64} (hd : decode Y.2.1 pc = .ok (.lload_n j, 1)) (hi : (j : Nat) = i) (hl0 : L[i]? = some (some (vL x))) (k : Go E d kc ks Y (pc + 1) L (vL x :: st) G D Q) : Go E d kc ks Y pc L st G D Q := by
  intro p e s m args below meth c H locs cells slots ls R C hh hl hL
  exact lv_lload_n C.1 C.2.1 hd hi (hL.2.2 i _ hl0) (k p e s m args below meth c H locs cells slots ls R C hh hl hL)
theorem g_aload {i : Nat} {x : Int} (hd : decode Y.2.1 pc = .ok (.aload i, 2)) (hl0 : L[i]? = some (some (vR x))) (k : Go E d kc ks Y (pc + 2) L (vR x :: st) G D Q) : Go E d kc ks Y pc L st G D Q := by
  intro p e s m args below meth c H locs cells slots ls R C hh hl hL
  have h1 := hL.2.2 i _ hl0
  have h2 := k p e s m args below meth c H locs cells slots ls R C hh hl hL
  by_cases hx : x = 0
  · simp only [List.map_cons, mm_sh, hx, if_true] at h1 h2
    exact lv_aloadN C.1 C.2.1 hd h1 h2
  · simp only [List.map_cons, mm_sh, hx, if_false] at h1 h2
    exact lv_aload C.1 C.2.1 hd h1 h2
theorem g_aload_n {j : Fin 4} {i : Nat} {x : Int} (hd : decode Y.2.1 pc = .ok (.aload_n j, 1)) (hi : (j : Nat) = i) (hl0 : L[i]? = some (some (vR x))) (k : Go E d kc ks Y (pc + 1) L (vR x :: st) G D Q) : Go E d kc ks Y pc L st G D Q := by
  intro p e s m args below meth c H locs cells slots ls R C hh hl hL
  have h1 := hL.2.2 i _ hl0
  have h2 := k p e s m args below meth c H locs cells slots ls R C hh hl hL
  by_cases hx : x = 0
  · simp only [List.map_cons, mm_sh, hx, if_true] at h1 h2
    exact lv_aload_nN C.1 C.2.1 hd hi h1 h2
  · simp only [List.map_cons, mm_sh, hx, if_false] at h1 h2
    exact lv_aload_n C.1 C.2.1 hd hi h1 h2
/-- the locals of a frame as the kit lists them -/
theorem mm_Lhas {E : mmE} {ls : Array Slot} {nL : Nat} {L : List (Option mmV)} (h : mm_L E ls nL L) : lv_has ls nL ((List.range L.length).filterMap (fun k => match L[k]? with | some (some v) => some (k, mm_sh E v) | _ => none)) := by
  obtain ⟨h1, h2, h3⟩ := h
  refine ⟨h1, h2, fun q hq => ?_⟩
  obtain ⟨k, -, hk⟩ := List.mem_filterMap.mp hq
  split at hk
  · rename_i w hw
    cases hk
    exact h3 k w hw
  · cases hk
/-- no long stands just ahead of place i -/
def mm_nl (L : List (Option mmV)) : Nat → Bool
  | 0 => true
  | i + 1 => match L[i]? with | some (some (.inr (.inr _))) => false | _ => true
theorem mm_nl_ok {L : List (Option mmV)} {i : Nat} (h : mm_nl L i = true) (w : Int64) : i = 0 ∨ L[i - 1]? ≠ some (some (vL w)) := by
  cases i with
  | zero => exact Or.inl rfl
  | succ i =>
    right
    intro hc
    simp only [Nat.add_sub_cancel] at hc
    simp [mm_nl, hc] at h
theorem mm_Lset {E : mmE} {ls ls' : Array Slot} {nL : Nat} {L : List (Option mmV)} {i : Nat} {v : mmV} (h : mm_L E ls nL L) (hn : mm_nl L i = true)
    (e2 : lv_has ls' nL ((i, mm_sh E v) :: ((List.range L.length).filterMap (fun k => match L[k]? with | some (some v) => some (k, mm_sh E v) | _ => none)).filter (fun q => !(q.1 == i) && !(q.1 + 1 == i && q.2.category == 2)))) : mm_L E ls' nL (L.set i (some v)) := by
  refine ⟨e2.1, e2.2.1, fun k w hk => ?_⟩
  by_cases hki : k = i
  · subst hki
    rw [List.getElem?_set] at hk
    simp at hk
    obtain ⟨-, rfl⟩ := hk
    exact e2.2.2 _ List.mem_cons_self
  · rw [List.getElem?_set_ne (Ne.symm hki)] at hk
    refine e2.2.2 (k, mm_sh E w) (List.mem_cons_of_mem _ (List.mem_filter.mpr ⟨List.mem_filterMap.mpr ⟨k, ?_, ?_⟩, ?_⟩))
    · exact List.mem_range.mpr (List.getElem?_eq_some_iff.mp hk).1
    · rw [hk]
    · have hn2 : ¬ (k + 1 = i ∧ (mm_sh E w).category = 2) := by
        intro ⟨ha, hb2⟩
        match w, hk, hb2 with
        | .inl z, _, hb2 => simp [mm_sh, Value.category] at hb2
        | .inr (.inl z), _, hb2 => by_cases hz : z = 0 <;> simp [mm_sh, hz, Value.category] at hb2
        | .inr (.inr w), hk, _ =>
          rcases mm_nl_ok hn w with h | h
          · omega
          · exact h (by rw [show i - 1 = k by omega]; exact hk)
      simp only [Bool.and_eq_true, Bool.not_eq_true', beq_eq_false_iff_ne, ne_eq, Bool.and_eq_false_iff]
      refine ⟨hki, ?_⟩
      by_cases ha : k + 1 = i
      · exact Or.inr (fun hc => hn2 ⟨ha, hc⟩)
      · exact Or.inl ha
theorem g_istore {i : Nat} {x : Int} (hd : decode Y.2.1 pc = .ok (.istore i, 2)) (hi : i < Y.2.2.1) (hn : mm_nl L i = true) (k : Go E d kc ks Y (pc + 2) (L.set i (some (vI x))) st G D Q) : Go E d kc ks Y pc L (vI x :: st) G D Q := by
  intro p e s m args below meth c H locs cells slots ls R C hh hl hL
  exact lv_istore C.1 C.2.1 hd (mm_Lhas hL) hi rfl (fun ls' hl' => k p e s m args below meth c H locs cells slots ls' R C hh hl (mm_Lset (v := vI x) hL hn hl'))
theorem g_istore_n {j : Fin 4} {i : Nat} {x : Int} (hd : decode Y.2.1 pc = .ok (.istore_n j, 1)) (hj : (j : Nat) = i) (hi : i < Y.2.2.1) (hn : mm_nl L i = true) (k : Go E d kc ks Y (pc + 1) (L.set i (some (vI x))) st G D Q) : Go E d kc ks Y pc L (vI x :: st) G D Q := by
  intro p e s m args below meth c H locs cells slots ls R C hh hl hL
  exact lv_istore_n C.1 C.2.1 hd hj (mm_Lhas hL) hi rfl (fun ls' hl' => k p e s m args below meth c H locs cells slots ls' R C hh hl (mm_Lset (v := vI x) hL hn hl'))
theorem g_astore {i : Nat} {x : Int} (hd : decode Y.2.1 pc = .ok (.astore i, 2)) (hi : i < Y.2.2.1) (hn : mm_nl L i = true) (k : Go E d kc ks Y (pc + 2) (L.set i (some (vR x))) st G D Q) : Go E d kc ks Y pc L (vR x :: st) G D Q := by
  intro p e s m args below meth c H locs cells slots ls R C hh hl hL
  by_cases hx : x = 0
  · have e1 : mm_sh E (vR x) = .null := by simp [mm_sh, hx]
    rw [List.map_cons, e1]
    exact lv_astoreN C.1 C.2.1 hd (mm_Lhas hL) hi rfl (fun ls' hl' => k p e s m args below meth c H locs cells slots ls' R C hh hl (mm_Lset (v := vR x) hL hn (by rw [e1]; exact hl')))
  · have e1 : mm_sh E (vR x) = .ref (mm_ad E x) := by simp [mm_sh, hx]
    rw [List.map_cons, e1]
    exact lv_astore C.1 C.2.1 hd (mm_Lhas hL) hi rfl (fun ls' hl' => k p e s m args below meth c H locs cells slots ls' R C hh hl (mm_Lset (v := vR x) hL hn (by rw [e1]; exact hl')))
theorem g_astore_n {j : Fin 4} {i : Nat} {x : Int} (hd : decode Y.2.1 pc = .ok (.astore_n j, 1)) (hj : (j : Nat) = i) (hi : i < Y.2.2.1) (hn : mm_nl L i = true) (k : Go E d kc ks Y (pc + 1) (L.set i (some (vR x))) st G D Q) : Go E d kc ks Y pc L (vR x :: st) G D Q := by
  intro p e s m args below meth c H locs cells slots ls R C hh hl hL
  by_cases hx : x = 0
  · have e1 : mm_sh E (vR x) = .null := by simp [mm_sh, hx]
    rw [List.map_cons, e1]
    exact lv_astore_nN C.1 C.2.1 hd hj (mm_Lhas hL) hi rfl (fun ls' hl' => k p e s m args below meth c H locs cells slots ls' R C hh hl (mm_Lset (v := vR x) hL hn (by rw [e1]; exact hl')))
  · have e1 : mm_sh E (vR x) = .ref (mm_ad E x) := by simp [mm_sh, hx]
    rw [List.map_cons, e1]
    exact lv_astore_n C.1 C.2.1 hd hj (mm_Lhas hL) hi rfl (fun ls' hl' => k p e s m args below meth c H locs cells slots ls' R C hh hl (mm_Lset (v := vR x) hL hn (by rw [e1]; exact hl')))
theorem g_iinc {i : Nat} {n x : Int} (hd : decode Y.2.1 pc = .ok (.iinc i n, 3)) (hi : i < Y.2.2.1) (hl0 : L[i]? = some (some (vI x))) (hn : mm_nl L i = true) (k : Go E d kc ks Y (pc + 3) (L.set i (some (vI (x + n)))) st G D Q) : Go E d kc ks Y pc L st G D Q := by
  intro p e s m args below meth c H locs cells slots ls R C hh hl hL
  have hm : (i, mm_sh E (vI x)) ∈ ((List.range L.length).filterMap (fun k => match L[k]? with | some (some v) => some (k, mm_sh E v) | _ => none)) :=
    List.mem_filterMap.mpr ⟨i, List.mem_range.mpr (List.getElem?_eq_some_iff.mp hl0).1, by rw [hl0]⟩
  obtain ⟨j, hj⟩ := List.getElem?_of_mem hm
  exact lv_iinc (v := iv (x + n)) C.1 C.2.1 hd (mm_Lhas hL) hj (iv_add x n).symm hi rfl (fun ls' hl' => k p e s m args below meth c H locs cells slots ls' R C hh hl (mm_Lset (v := vI (x + n)) hL hn hl'))
theorem g_iadd {x y : Int} (hd : decode Y.2.1 pc = .ok (.iadd, 1)) (k : Go E d kc ks Y (pc + 1) L (vI (x + y) :: st) G D Q) : Go E d kc ks Y pc L (vI y :: vI x :: st) G D Q := by
  intro p e s m args below meth c H locs cells slots ls R C hh hl hL
  refine lv_iadd C.1 C.2.1 hd ?_
  rw [← iv_add]
  exact k p e s m args below meth c H locs cells slots ls R C hh hl hL
theorem g_isub {x y : Int} (hd : decode Y.2.1 pc = .ok (.isub, 1)) (k : Go E d kc ks Y (pc + 1) L (vI (x - y) :: st) G D Q) : Go E d kc ks Y pc L (vI y :: vI x :: st) G D Q := by
  intro p e s m args below meth c H locs cells slots ls R C hh hl hL
  refine lv_isub C.1 C.2.1 hd ?_
  rw [← iv_sub]
  exact k p e s m args below meth c H locs cells slots ls R C hh hl hL
theorem g_imul {x y : Int} (hd : decode Y.2.1 pc = .ok (.imul, 1)) (k : Go E d kc ks Y (pc + 1) L (vI (x * y) :: st) G D Q) : Go E d kc ks Y pc L (vI y :: vI x :: st) G D Q := by
  intro p e s m args below meth c H locs cells slots ls R C hh hl hL
  refine lv_imul C.1 C.2.1 hd ?_
  rw [← iv_mul]
  exact k p e s m args below meth c H locs cells slots ls R C hh hl hL
theorem g_ineg {x : Int} (hd : decode Y.2.1 pc = .ok (.ineg, 1)) (k : Go E d kc ks Y (pc + 1) L (vI (-x) :: st) G D Q) : Go E d kc ks Y pc L (vI x :: st) G D Q := by
  intro p e s m args below meth c H locs cells slots ls R C hh hl hL
  refine lv_ineg C.1 C.2.1 hd ?_
  rw [← iv_neg]
  exact k p e s m args below meth c H locs cells slots ls R C hh hl hL
/-- what two ints make, as an int -/
def i2 (f : Int32 → Int32 → Int32) (x y : Int) : Int := (f (iv x) (iv y)).toInt
def ishl (x y : Int) : Int := (iv x <<< (iv y &&& 31)).toInt
def ishr (x y : Int) : Int := (iv x >>> (iv y &&& 31)).toInt
def iushr (x y : Int) : Int := ((iv x).toUInt32 >>> ((iv y).toUInt32 &&& Int32.toUInt32 31)).toInt32.toInt
def iand (x y : Int) : Int := (iv x &&& iv y).toInt
def ior (x y : Int) : Int := (iv x ||| iv y).toInt
def ixor (x y : Int) : Int := (iv x ^^^ iv y).toInt
def idiv (x y : Int) : Int := (iv x / iv y).toInt
def irem (x y : Int) : Int := (iv x - iv x / iv y * iv y).toInt
theorem g_ishl {x y : Int} (hd : decode Y.2.1 pc = .ok (.ishl, 1)) (k : Go E d kc ks Y (pc + 1) L (vI (ishl x y) :: st) G D Q) : Go E d kc ks Y pc L (vI y :: vI x :: st) G D Q := by
  intro p e s m args below meth c H locs cells slots ls R C hh hl hL
  refine lv_ishl C.1 C.2.1 hd ?_
  rw [← iv_self (iv x <<< (iv y &&& 31))]
  exact k p e s m args below meth c H locs cells slots ls R C hh hl hL
theorem g_ishr {x y : Int} (hd : decode Y.2.1 pc = .ok (.ishr, 1)) (k : Go E d kc ks Y (pc + 1) L (vI (ishr x y) :: st) G D Q) : Go E d kc ks Y pc L (vI y :: vI x :: st) G D Q := by
  intro p e s m args below meth c H locs cells slots ls R C hh hl hL
  refine lv_ishr C.1 C.2.1 hd ?_
  rw [← iv_self (iv x >>> (iv y &&& 31))]
  exact k p e s m args below meth c H locs cells slots ls R C hh hl hL
theorem g_iushr {x y : Int} (hd : decode Y.2.1 pc = .ok (.iushr, 1)) (k : Go E d kc ks Y (pc + 1) L (vI (iushr x y) :: st) G D Q) : Go E d kc ks Y pc L (vI y :: vI x :: st) G D Q := by
  intro p e s m args below meth c H locs cells slots ls R C hh hl hL
  refine lv_iushr C.1 C.2.1 hd (iv_self _).symm ?_
  exact k p e s m args below meth c H locs cells slots ls R C hh hl hL
theorem g_iand {x y : Int} (hd : decode Y.2.1 pc = .ok (.iand, 1)) (k : Go E d kc ks Y (pc + 1) L (vI (iand x y) :: st) G D Q) : Go E d kc ks Y pc L (vI y :: vI x :: st) G D Q := by
  intro p e s m args below meth c H locs cells slots ls R C hh hl hL
  refine lv_iand C.1 C.2.1 hd ?_
  rw [← iv_self (iv x &&& iv y)]
  exact k p e s m args below meth c H locs cells slots ls R C hh hl hL
theorem g_ior {x y : Int} (hd : decode Y.2.1 pc = .ok (.ior, 1)) (k : Go E d kc ks Y (pc + 1) L (vI (ior x y) :: st) G D Q) : Go E d kc ks Y pc L (vI y :: vI x :: st) G D Q := by
  intro p e s m args below meth c H locs cells slots ls R C hh hl hL
  refine lv_ior C.1 C.2.1 hd ?_
  rw [← iv_self (iv x ||| iv y)]
  exact k p e s m args below meth c H locs cells slots ls R C hh hl hL
theorem g_ixor {x y : Int} (hd : decode Y.2.1 pc = .ok (.ixor, 1)) (k : Go E d kc ks Y (pc + 1) L (vI (ixor x y) :: st) G D Q) : Go E d kc ks Y pc L (vI y :: vI x :: st) G D Q := by
  intro p e s m args below meth c H locs cells slots ls R C hh hl hL
  refine lv_ixor C.1 C.2.1 hd ?_
  rw [← iv_self (iv x ^^^ iv y)]
  exact k p e s m args below meth c H locs cells slots ls R C hh hl hL
theorem g_idiv {x y : Int} (hd : decode Y.2.1 pc = .ok (.idiv, 1)) (hy : ¬ iv y = 0) (k : Go E d kc ks Y (pc + 1) L (vI (idiv x y) :: st) G D Q) : Go E d kc ks Y pc L (vI y :: vI x :: st) G D Q := by
  intro p e s m args below meth c H locs cells slots ls R C hh hl hL
  refine lv_idiv C.1 C.2.1 hd hy ?_
  rw [← iv_self (iv x / iv y)]
  exact k p e s m args below meth c H locs cells slots ls R C hh hl hL
theorem g_irem {x y : Int} (hd : decode Y.2.1 pc = .ok (.irem, 1)) (hy : ¬ iv y = 0) (k : Go E d kc ks Y (pc + 1) L (vI (irem x y) :: st) G D Q) : Go E d kc ks Y pc L (vI y :: vI x :: st) G D Q := by
  intro p e s m args below meth c H locs cells slots ls R C hh hl hL
  refine lv_irem C.1 C.2.1 hd hy ?_
  rw [← iv_self (iv x - iv x / iv y * iv y)]
  exact k p e s m args below meth c H locs cells slots ls R C hh hl hL
theorem g_i2l {x : Int} (hd : decode Y.2.1 pc = .ok (.i2l, 1)) (k : Go E d kc ks Y (pc + 1) L (vL (iv x).toInt64 :: st) G D Q) : Go E d kc ks Y pc L (vI x :: st) G D Q := by
  intro p e s m args below meth c H locs cells slots ls R C hh hl hL
  exact lv_i2l C.1 C.2.1 hd rfl (k p e s m args below meth c H locs cells slots ls R C hh hl hL)
theorem g_l2i {x : Int64} (hd : decode Y.2.1 pc = .ok (.l2i, 1)) (k : Go E d kc ks Y (pc + 1) L (vI x.toInt32.toInt :: st) G D Q) : Go E d kc ks Y pc L (vL x :: st) G D Q := by
  intro p e s m args below meth c H locs cells slots ls R C hh hl hL
  exact lv_l2i C.1 C.2.1 hd (iv_self _).symm (k p e s m args below meth c H locs cells slots ls R C hh hl hL)
theorem g_land {x y : Int64} (hd : decode Y.2.1 pc = .ok (.land, 1)) (k : Go E d kc ks Y (pc + 1) L (vL (x &&& y) :: st) G D Q) : Go E d kc ks Y pc L (vL y :: vL x :: st) G D Q := by
  intro p e s m args below meth c H locs cells slots ls R C hh hl hL
  exact lv_land C.1 C.2.1 hd (k p e s m args below meth c H locs cells slots ls R C hh hl hL)
theorem g_lor {x y : Int64} (hd : decode Y.2.1 pc = .ok (.lor, 1)) (k : Go E d kc ks Y (pc + 1) L (vL (x ||| y) :: st) G D Q) : Go E d kc ks Y pc L (vL y :: vL x :: st) G D Q := by
  intro p e s m args below meth c H locs cells slots ls R C hh hl hL
  exact lv_lor C.1 C.2.1 hd (k p e s m args below meth c H locs cells slots ls R C hh hl hL)
theorem g_lshl {x : Int64} {y : Int} (hd : decode Y.2.1 pc = .ok (.lshl, 1)) (k : Go E d kc ks Y (pc + 1) L (vL (x <<< ((iv y).toInt64 &&& 63)) :: st) G D Q) : Go E d kc ks Y pc L (vI y :: vL x :: st) G D Q := by
  intro p e s m args below meth c H locs cells slots ls R C hh hl hL
  exact lv_lshl C.1 C.2.1 hd rfl (k p e s m args below meth c H locs cells slots ls R C hh hl hL)
theorem g_lshr {x : Int64} {y : Int} (hd : decode Y.2.1 pc = .ok (.lshr, 1)) (k : Go E d kc ks Y (pc + 1) L (vL (x >>> ((iv y).toInt64 &&& 63)) :: st) G D Q) : Go E d kc ks Y pc L (vI y :: vL x :: st) G D Q := by
  intro p e s m args below meth c H locs cells slots ls R C hh hl hL
  exact lv_lshr C.1 C.2.1 hd rfl (k p e s m args below meth c H locs cells slots ls R C hh hl hL)
theorem g_lushr {x : Int64} {y : Int} (hd : decode Y.2.1 pc = .ok (.lushr, 1)) (k : Go E d kc ks Y (pc + 1) L (vL ((x.toUInt64 >>> ((iv y).toInt64.toUInt64 &&& Int64.toUInt64 63)).toInt64) :: st) G D Q) : Go E d kc ks Y pc L (vI y :: vL x :: st) G D Q := by
  intro p e s m args below meth c H locs cells slots ls R C hh hl hL
  exact lv_lushr C.1 C.2.1 hd rfl (k p e s m args below meth c H locs cells slots ls R C hh hl hL)
theorem mm_cat1 (E : mmE) {v : mmV} (hv : ∀ w, v ≠ vL w) : (mm_sh E v).category = 1 := by
  match v, hv with
  | .inl z, _ => rfl
  | .inr (.inl z), _ => by_cases hz : z = 0 <;> simp [mm_sh, hz, Value.category]
  | .inr (.inr w), hv => exact absurd rfl (hv w)
theorem g_dup {v : mmV} (hd : decode Y.2.1 pc = .ok (.dup, 1)) (hv : ∀ w, v ≠ vL w) (k : Go E d kc ks Y (pc + 1) L (v :: v :: st) G D Q) : Go E d kc ks Y pc L (v :: st) G D Q := by
  intro p e s m args below meth c H locs cells slots ls R C hh hl hL
  exact lv_dup C.1 C.2.1 hd (mm_cat1 E hv) (k p e s m args below meth c H locs cells slots ls R C hh hl hL)
theorem g_dup2 {v w : mmV} (hd : decode Y.2.1 pc = .ok (.dup2, 1)) (hv : ∀ z, v ≠ vL z) (hw : ∀ z, w ≠ vL z) (k : Go E d kc ks Y (pc + 1) L (v :: w :: v :: w :: st) G D Q) : Go E d kc ks Y pc L (v :: w :: st) G D Q := by
  intro p e s m args below meth c H locs cells slots ls R C hh hl hL
  exact lv_dup2_11 C.1 C.2.1 hd (mm_cat1 E hv) (mm_cat1 E hw) (k p e s m args below meth c H locs cells slots ls R C hh hl hL)
theorem g_pop {v : mmV} (hd : decode Y.2.1 pc = .ok (.pop, 1)) (hv : ∀ w, v ≠ vL w) (k : Go E d kc ks Y (pc + 1) L st G D Q) : Go E d kc ks Y pc L (v :: st) G D Q := by
  intro p e s m args below meth c H locs cells slots ls R C hh hl hL
  exact lv_pop C.1 C.2.1 hd (mm_cat1 E hv) (k p e s m args below meth c H locs cells slots ls R C hh hl hL)
theorem g_null (hd : decode Y.2.1 pc = .ok (.aconst_null, 1)) (k : Go E d kc ks Y (pc + 1) L (vR 0 :: st) G D Q) : Go E d kc ks Y pc L st G D Q := by
  intro p e s m args below meth c H locs cells slots ls R C hh hl hL
  exact lv_null C.1 C.2.1 hd (k p e s m args below meth c H locs cells slots ls R C hh hl hL)
theorem g_goto {off : Int} (tgt : Nat) (hd : decode Y.2.1 pc = .ok (.goto off, 3)) (ht : (pc : Int) + off = (tgt : Int)) (k : Go E d kc ks Y tgt L st G D Q) : Go E d kc ks Y pc L st G D Q := by
  intro p e s m args below meth c H locs cells slots ls R C hh hl hL
  exact lv_goto C.1 C.2.1 hd ht (k p e s m args below meth c H locs cells slots ls R C hh hl hL)
end Rules
