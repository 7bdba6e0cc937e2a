section StepsR2
variable {E : mmE} {d : Nat} {G : mmG} {D0 D : mmD} {P : Int → mmD → Prop} {P0 : mmD → Prop} {T : Nat → Int} {N : Nat} {x m t : Int} {B : List (Nat × Nat)} {Lb : Nat → Int}
/-- a row of the reference's table -/
def tbr (D : mmD) (v : Nat) : Int → Int := fun s => D 247 (6 * (v : Int) + s)
theorem chs_drop {B : List (Nat × Nat)} {j v : Nat} (h : j < B.length) : chs (B.drop j) v = if (B.getD j (0, 0)).1 = v then (B.getD j (0, 0)).2 :: chs (B.drop (j + 1)) v else chs (B.drop (j + 1)) v := by
  rw [List.drop_eq_getElem_cons h]
  have e : B.getD j (0, 0) = B[j] := by rw [List.getD_eq_getElem?_getD, List.getElem?_eq_getElem h]; rfl
  rw [e]
  unfold chs
  rw [List.filter_cons]
  by_cases q : B[j].1 = v
  · rw [if_pos (by simp [q]), if_pos q]; rfl
  · rw [if_neg (by simp [q]), if_neg q]
theorem mem_chs {B : List (Nat × Nat)} {v w : Nat} (h : w ∈ chs B v) : ∃ b : Nat, b < B.length ∧ B.getD b (0, 0) = (v, w) := by
  unfold chs at h
  obtain ⟨p, hp, rfl⟩ := List.mem_map.mp h
  obtain ⟨h1, h2⟩ := List.mem_filter.mp hp
  obtain ⟨i, hi, e⟩ := List.getElem_of_mem h1
  refine ⟨i, hi, ?_⟩
  rw [List.getD_eq_getElem?_getD, List.getElem?_eq_getElem hi, e]
  have : p.1 = v := by simpa using h2
  rw [← this]
  rfl
theorem lsum_rg {f : Nat → Int} {b : Int} : ∀ l : List Nat, (∀ w ∈ l, 0 ≤ f w ∧ f w ≤ b) → 0 ≤ lsum f l ∧ lsum f l ≤ b * l.length
  | [], _ => by simp [lsum]
  | w :: l, h => by
    have h1 := h w List.mem_cons_self
    have h2 := lsum_rg l (fun w hw => h w (List.mem_cons_of_mem _ hw))
    simp only [lsum, List.length_cons]
    have : b * ((l.length + 1 : Nat) : Int) = b * (l.length : Int) + b := by
      rw [show ((l.length + 1 : Nat) : Int) = (l.length : Int) + 1 by omega, Int.mul_add, Int.mul_one]
    omega
theorem lsum_congr {f g : Nat → Int} : ∀ l : List Nat, (∀ w ∈ l, f w = g w) → lsum f l = lsum g l
  | [], _ => rfl
  | w :: l, h => by
    simp only [lsum]
    rw [h w List.mem_cons_self, lsum_congr l (fun w hw => h w (List.mem_cons_of_mem _ hw))]
theorem r_leaf {q : Nat} {s : Int} (hG : Sh G) (m0 : 0 ≤ m) (m1 : m < 10) (q6 : q < 6) (s0 : 0 ≤ s) (s1 : s < 6) (l0 : -1 ≤ Lb q) (l1 : Lb q < 6) (hl : D 246 (6 * m + (q : Int)) = Lb q) (h : P (if Lb q = -1 ∨ Lb q = s then 0 else 1000000) D) : Call E d 0 0 mX12_below [vR 214, vI m, vI (q : Int), vI s] G D (retI G P) := by
  refine w_X12_below hG (br_le (fun g => by omega) (fun _ => ⟨⟨by omega, by omega⟩, ?_⟩))
  rw [hl]
  refine br_eq (fun e => rI ?_) (fun e => ⟨⟨by omega, by omega⟩, br_ne (fun e2 => rI ?_) (fun e2 => rI ?_)⟩)
  · rw [if_pos (Or.inl e)] at h; exact h
  · rw [if_neg (by omega)] at h; exact h
  · rw [if_pos (Or.inr e2)] at h; exact h
theorem r_below {v : Nat} {s : Int} (hG : Sh G) (v6 : 6 ≤ v) (v10 : v < 10) (s0 : 0 ≤ s) (s1 : s < 6) (l9 : B.length ≤ 9) (h52 : D 214 52 = (B.length : Int)) (hb : brR D B) (hB : ∀ b : Nat, b < B.length → (B.getD b (0, 0)).1 < 10 ∧ (B.getD b (0, 0)).2 < 10) (hr : ∀ w ∈ chs B v, ∀ u : Int, 0 ≤ u → u < 6 → 0 ≤ tbr D w u ∧ tbr D w u ≤ 3000000) (h : P (lsum (fun w => emn (tbr D w) s) (chs B v)) D) : Call E d 0 0 mX12_below [vR 214, vI m, vI (v : Int), vI s] G D (retI G P) := by
  have lb : ∀ w ∈ chs B v, 0 ≤ emn (tbr D w) s ∧ emn (tbr D w) s ≤ 1000000 := fun w hw => emk_rg (fun u a b => (hr w hw u a b).1)
  have lp : ∀ (n : Nat) (j : Nat) (y : Int), B.length - j = n → j ≤ B.length → 0 ≤ y → y + lsum (fun w => emn (tbr D w) s) (chs (B.drop j) v) = lsum (fun w => emn (tbr D w) s) (chs B v) → Go E d 0 0 mX12_below 49 [some (vR 214), none, some (vI (v : Int)), some (vI s), some (vI y), some (vI (j : Int)), none, none, none] [] G D (retI G P) := by
    intro n
    induction n with
    | zero =>
      intro j y jn j1 y0 e
      refine w_X12_below_49 hG ?_
      rw [h52]
      refine br_le (fun _ => rI ?_) (fun g => by omega)
      rw [List.drop_eq_nil_of_le (by omega)] at e
      have : y = lsum (fun w => emn (tbr D w) s) (chs B v) := by
        have z : lsum (fun w => emn (tbr D w) s) (chs [] v) = 0 := rfl
        omega
      rw [this]; exact h
    | succ n ih =>
      intro j y jn j1 y0 e
      have hj : j < B.length := by omega
      rw [chs_drop hj] at e
      have hbj := hb j hj
      have hBj := hB j hj
      refine w_X12_below_49 hG ?_
      rw [h52, hbj.1]
      refine br_le (fun g => by omega) (fun _ => ⟨⟨by omega, by omega⟩, br_ne (fun g => ?_) (fun g => ?_)⟩)
      · rw [if_neg (by omega)] at e
        have nx := ih (j + 1) y (by omega) (by omega) y0 e
        rw [show ((j + 1 : Nat) : Int) = (j : Int) + 1 by omega] at nx
        exact nx
      · have g' : (B.getD j (0, 0)).1 = v := by omega
        rw [if_pos g'] at e
        have mw : (B.getD j (0, 0)).2 ∈ chs B v := by
          unfold chs
          refine List.mem_map.mpr ⟨B.getD j (0, 0), List.mem_filter.mpr ⟨?_, beq_iff_eq.mpr g'⟩, rfl⟩
          rw [List.getD_eq_getElem?_getD, List.getElem?_eq_getElem hj]
          exact List.getElem_mem _
        have e2 : y + (emn (tbr D (B.getD j (0, 0)).2) s + lsum (fun w => emn (tbr D w) s) (chs (B.drop (j + 1)) v)) = lsum (fun w => emn (tbr D w) s) (chs B v) := e
        generalize hw : (B.getD j (0, 0)).2 = w at *
        have rw' := hr w mw
        have row : ∀ (n2 : Nat) (k : Nat), 6 - k = n2 → k ≤ 6 → Go E d 0 0 mX12_below 76 [some (vR 214), none, some (vI (v : Int)), some (vI s), some (vI y), some (vI (j : Int)), some (vI (emk (tbr D w) s k)), some (vI (k : Int)), none] [] G D (retI G P) := by
          intro n2
          induction n2 with
          | zero =>
            intro k kn k1
            have ek : k = 6 := by omega
            subst ek
            refine w_X12_below_76 hG (br_le (fun _ => ?_) (fun g => by omega))
            have nx := ih (j + 1) (y + emn (tbr D w) s) (by omega) (by omega) (by have := lb w mw; omega) (by omega)
            rw [show ((j + 1 : Nat) : Int) = (j : Int) + 1 by omega] at nx
            exact nx
          | succ n2 ih2 =>
            intro k kn k1
            have nx := ih2 (k + 1) (by omega) (by omega)
            rw [show ((k + 1 : Nat) : Int) = (k : Int) + 1 by omega] at nx
            simp only [emk] at nx
            have rk := rw' (k : Int) (by omega) (by omega)
            have er : 0 ≤ emk (tbr D w) s k ∧ emk (tbr D w) s k ≤ 1000000 := by
              refine ⟨emk_ge (by omega) k (fun u u0 u1 => by have := rw' u u0 (by omega); split <;> omega), ?_⟩
              have : ∀ k : Nat, emk (tbr D w) s k ≤ 1000000 := fun k => by
                induction k with
                | zero => exact Int.le_refl _
                | succ k ih => simp only [emk]; omega
              exact this k
            have et : D 247 (6 * (w : Int) + (k : Int)) = tbr D w (k : Int) := rfl
            refine w_X12_below_76 hG (br_le (fun g => by omega) (fun _ => ⟨⟨by omega, by omega⟩, ?_⟩))
            rw [hbj.2, et]
            refine ⟨⟨by omega, by omega⟩, br_ne (fun gs => ?_) (fun gs => ?_)⟩
            · rw [if_neg gs] at nx
              refine br_le (fun gm => ?_) (fun gm => ?_)
              · rw [Int.min_eq_left gm] at nx; exact nx
              · rw [Int.min_eq_right (by omega)] at nx; exact nx
            · rw [if_pos gs] at nx
              refine br_le (fun gm => ?_) (fun gm => ?_)
              · rw [Int.min_eq_left gm] at nx; exact nx
              · rw [Int.min_eq_right (by omega)] at nx; exact nx
        exact row 6 0 (by omega) (by omega)
  refine w_X12_below hG (br_le (fun _ => lp B.length 0 0 (by omega) (by omega) (by omega) (by rw [List.drop_zero]; omega)) (fun g => by omega))
/-- what the reference holds of a TREE while it counts a MEANING -/
def rTr (D : mmD) (N : Nat) (B : List (Nat × Nat)) : Prop := D 214 51 = (N : Int) ∧ D 214 52 = (B.length : Int) ∧ D 214 53 = ((N + 4 : Nat) : Int) ∧ brR D B
theorem rTr.keep {D' : mmD} (h : rTr D N B) (k : ∀ c j, c ≠ 247 → D' c j = D c j) : rTr D' N B :=
  ⟨by rw [k _ _ (by omega)]; exact h.1, by rw [k _ _ (by omega)]; exact h.2.1, by rw [k _ _ (by omega)]; exact h.2.2.1, fun b hb => by rw [k _ _ (by omega), k _ _ (by omega)]; exact h.2.2.2 b hb⟩
/-- rows that are done -/
def dnI (D : mmD) (N : Nat) (B : List (Nat × Nat)) (Lb : Nat → Int) (dn : Nat) : Prop :=
  (∀ q : Nat, q < N → ∀ s : Int, 0 ≤ s → s < 6 → tbr D q s = if Lb q = -1 ∨ Lb q = s then 0 else 1000000) ∧
  (∀ v : Nat, 6 ≤ v → v < N + 4 → dn.testBit (v - 6) = true → (∀ s : Int, 0 ≤ s → s < 6 → tbr D v s = lsum (fun w => emn (tbr D w) s) (chs B v) ∧ 0 ≤ tbr D v s ∧ tbr D v s ≤ 3000000) ∧ ∀ w ∈ chs B v, w < 6 ∨ dn.testBit (w - 6) = true)
theorem r_mean (hG : Sh G) (n3 : 3 ≤ N) (n6 : N ≤ 6) (hf : fac N B = true) (hT : rTr D N B) (m0 : 0 ≤ m) (m1 : m < 10) (hL : ∀ q, -1 ≤ Lb q ∧ Lb q < 6) (h46 : ∀ q : Nat, q < N → D 246 (6 * m + (q : Int)) = Lb q) {y : Int} {Q : mmQ}
    (K : ∀ D', (∀ c k, c ≠ 247 → D' c k = D c k) → Go E (d + 1) 0 0 mX12_stepsOf 9 [some (vR 214), none, some (vI (y + ((rvB B).foldl fst1 (S0f Lb, 0)).2)), some (vI (m + 1)), none, none, none, none] [] G D' Q) :
    Go E (d + 1) 0 0 mX12_stepsOf 18 [some (vR 214), none, some (vI y), some (vI m), some (vI 0), none, none, none] [] G D Q := by
  obtain ⟨f1, f2, f3, f4, f5, f6⟩ := fac_B hf
  have hB : ∀ b : Nat, b < B.length → (B.getD b (0, 0)).1 < 10 ∧ (B.getD b (0, 0)).2 < 10 := fun b hb => by have := f4 b hb; omega
  have chB : ∀ v w : Nat, w ∈ chs B v → (6 ≤ v ∧ v < N + 4) ∧ (w < N ∨ (6 ≤ w ∧ w < N + 4)) := fun v w hw => by
    obtain ⟨b, hb, e⟩ := mem_chs hw
    have := f4 b hb
    rw [e] at this
    exact this
  -- the least of the first knot
  have mn : ∀ (n : Nat) (D' : mmD) (k : Nat), 6 - k = n → k ≤ 6 → (∀ c k, c ≠ 247 → D' c k = D c k) → (∀ s : Int, 0 ≤ s → s < 6 → 0 ≤ tbr D' 6 s ∧ tbr D' 6 s ≤ 3000000) → mnk (tbr D' 6) 6 = ((rvB B).foldl fst1 (S0f Lb, 0)).2 → Go E (d + 1) 0 0 mX12_stepsOf 276 [some (vR 214), none, some (vI y), some (vI m), none, some (vI (mnk (tbr D' 6) k)), some (vI (k : Int)), none] [] G D' Q := by
    intro n
    induction n with
    | zero =>
      intro D' k kn k1 fr rr e
      have ek : k = 6 := by omega
      subst ek
      refine w_X12_stepsOf_276 hG (br_le (fun _ => ?_) (fun g => by omega))
      rw [e]
      exact K D' fr
    | succ n ih =>
      intro D' k kn k1 fr rr e
      have nx := ih D' (k + 1) (by omega) (by omega) fr rr e
      rw [show ((k + 1 : Nat) : Int) = (k : Int) + 1 by omega] at nx
      simp only [mnk] at nx
      have rk := rr (k : Int) (by omega) (by omega)
      have et : D' 247 (36 + (k : Int)) = tbr D' 6 (k : Int) := rfl
      have er : 0 ≤ mnk (tbr D' 6) k ∧ mnk (tbr D' 6) k ≤ 1000000 := by
        refine ⟨mnk_ge (by omega) k (fun u u0 u1 => (rr u u0 (by omega)).1), ?_⟩
        have : ∀ k : Nat, mnk (tbr D' 6) k ≤ 1000000 := fun k => by
          induction k with
          | zero => exact Int.le_refl _
          | succ k ih => simp only [mnk]; omega
        exact this k
      refine w_X12_stepsOf_276 hG (br_le (fun g => by omega) (fun _ => ⟨⟨by omega, by omega⟩, ?_⟩))
      rw [et]
      refine br_le (fun gm => ?_) (fun gm => ⟨⟨by omega, by omega⟩, ?_⟩)
      · rw [Int.min_eq_left gm] at nx; exact nx
      · rw [Int.min_eq_right (by omega)] at nx; exact nx
  -- one knot's row
  have rowc : ∀ (dn v : Nat), dn < 16 → 6 ≤ v → v < N + 4 → ¬ dn.testBit (v - 6) = true → (∀ w ∈ chs B v, w < 6 ∨ dn.testBit (w - 6) = true) → ∀ (Dz : mmD), (∀ c k, c ≠ 247 → Dz c k = D c k) → dnI Dz N B Lb dn →
      (∀ D', (∀ c k, c ≠ 247 → D' c k = D c k) → dnI D' N B Lb (dn ||| 2 ^ (v - 6)) → Go E (d + 1) 0 0 mX12_stepsOf 98 [some (vR 214), none, some (vI y), some (vI m), some (vI ((dn ||| 2 ^ (v - 6) : Nat) : Int)), some (vI ((v : Int) + (-1))), none, none] [] G D' Q) →
      ∀ (n : Nat) (D' : mmD) (s : Int), 6 - s = n → 0 ≤ s → s ≤ 6 → (∀ c k, ¬ (c = 247 ∧ 6 * (v : Int) ≤ k ∧ k < 6 * (v : Int) + 6) → D' c k = Dz c k) → (∀ u : Int, 0 ≤ u → u < s → tbr D' v u = lsum (fun w => emn (tbr Dz w) u) (chs B v)) →
      Go E (d + 1) 0 0 mX12_stepsOf 199 [some (vR 214), none, some (vI y), some (vI m), some (vI (dn : Int)), some (vI (v : Int)), some (vI 1), some (vI s)] [] G D' Q := by
    intro dn v d16 v6 vN nd rd Dz frz hz Kn n
    have wv : ∀ w ∈ chs B v, w ≠ v := fun w hw e => by
      subst e
      rcases rd w hw with q | q
      · omega
      · exact nd q
    have rwb : ∀ w ∈ chs B v, ∀ u : Int, 0 ≤ u → u < 6 → 0 ≤ tbr Dz w u ∧ tbr Dz w u ≤ 3000000 := fun w hw u u0 u1 => by
      have c := chB v w hw
      rcases c.2 with q | q
      · rw [hz.1 w q u u0 u1]; split <;> omega
      · rcases rd w hw with q' | q'
        · omega
        · exact ((hz.2 w q.1 q.2 q').1 u u0 u1).2
    have row : ∀ D' : mmD, (∀ c k, ¬ (c = 247 ∧ 6 * (v : Int) ≤ k ∧ k < 6 * (v : Int) + 6) → D' c k = Dz c k) → ∀ w : Nat, w ≠ v → ∀ u : Int, 0 ≤ u → u < 6 → tbr D' w u = tbr Dz w u := fun D' fr w hw u u0 u1 => by
      unfold tbr
      exact fr _ _ (by omega)
    have lval : ∀ s : Int, 0 ≤ s → s < 6 → 0 ≤ lsum (fun w => emn (tbr Dz w) s) (chs B v) ∧ lsum (fun w => emn (tbr Dz w) s) (chs B v) ≤ 3000000 := fun s s0 s1 => by
      have := lsum_rg (f := fun w => emn (tbr Dz w) s) (b := 1000000) (chs B v) (fun w hw => emk_rg (fun u a b => (rwb w hw u a b).1))
      have c3 := f6 v v6 (by omega)
      omega
    have lcg : ∀ D' : mmD, (∀ c k, ¬ (c = 247 ∧ 6 * (v : Int) ≤ k ∧ k < 6 * (v : Int) + 6) → D' c k = Dz c k) → ∀ (v' : Nat) (s : Int), (∀ w ∈ chs B v', w ≠ v) → lsum (fun w => emn (tbr D' w) s) (chs B v') = lsum (fun w => emn (tbr Dz w) s) (chs B v') := fun D' fr v' s hw => lsum_congr _ (fun w hwm => emk_congr 6 (fun u u0 u1 => row D' fr w (hw w hwm) u u0 (by omega)))
    induction n with
    | zero =>
      intro D' s sn s0 s1 fr z
      refine w_X12_stepsOf_199 hG (br_le (fun _ => b_t ?_) (fun g => by omega))
      have eo : ior (dn : Int) (ishl 1 ((v : Int) - 6)) = ((dn ||| 2 ^ (v - 6) : Nat) : Int) := by
        have p8 : 2 ^ (v - 6) ≤ 2 ^ 3 := Nat.pow_le_pow_right (by omega) (by omega)
        have p9 : ((2 ^ (v - 6) : Nat) : Int) < ((16 : Nat) : Int) := Int.ofNat_lt.mpr (by omega)
        rw [show (v : Int) - 6 = ((v - 6 : Nat) : Int) by omega, ishl_1 (by omega) (by omega), Int.toNat_natCast, ior_n (by omega) (by omega) (Int.natCast_nonneg _) (by omega), Int.toNat_natCast, Int.toNat_natCast]
      rw [eo]
      have tb : ∀ i : Nat, (dn ||| 2 ^ (v - 6)).testBit i = (dn.testBit i || decide (v - 6 = i)) := fun i => by rw [Nat.testBit_or, Nat.testBit_two_pow]
      refine Kn D' (fun c k q => by rw [fr c k (fun t => q t.1)]; exact frz c k q) ⟨fun q hq s s0 s1 => ?_, fun v' a b c => ?_⟩
      · rw [row D' fr q (by omega) s s0 s1]; exact hz.1 q hq s s0 s1
      · by_cases e : v' = v
        · subst e
          refine ⟨fun s s0 s1 => ?_, fun w hw => ?_⟩
          · rw [z s s0 (by omega), lcg D' fr v' s wv]
            exact ⟨rfl, lval s s0 s1⟩
          · rcases rd w hw with q | q
            · exact Or.inl q
            · exact Or.inr (by rw [tb, q]; rfl)
        · rw [tb, Bool.or_eq_true, decide_eq_true_eq] at c
          have c' : dn.testBit (v' - 6) = true := c.resolve_right (by omega)
          obtain ⟨h1, h2⟩ := hz.2 v' a b c'
          have nv : ∀ w ∈ chs B v', w ≠ v := fun w hw e2 => by
            subst e2
            rcases h2 w hw with q | q
            · omega
            · exact nd q
          refine ⟨fun s s0 s1 => ?_, fun w hw => ?_⟩
          · rw [row D' fr v' e s s0 s1, lcg D' fr v' s nv]; exact h1 s s0 s1
          · rcases h2 w hw with q | q
            · exact Or.inl q
            · exact Or.inr (by rw [tb, q]; rfl)
    | succ n ih =>
      intro D' s sn s0 s1 fr z
      have hT' : rTr D' N B := hT.keep (fun c j q => by rw [fr c j (fun t => q t.1)]; exact frz c j q)
      refine w_X12_stepsOf_199 hG (br_le (fun g => by omega) (fun _ => b_t ?_))
      refine r_below hG v6 (by omega) s0 (by omega) (by omega) hT'.2.1 hT'.2.2.2 hB (fun w hw u u0 u1 => by rw [row D' fr w (wv w hw) u u0 u1]; exact rwb w hw u u0 u1) ⟨⟨by omega, by omega⟩, fun D3 e3 => ?_⟩
      rw [lcg D' fr v s wv] at e3
      refine ih D3 (s + 1) (by omega) (by omega) (by omega) (fun c k q => by rw [e3, up2_ne (by omega)]; exact fr c k q) (fun u u0 u1 => ?_)
      by_cases e : u = s
      · subst e
        unfold tbr
        rw [e3, up2_same]
        rfl
      · have : tbr D3 v u = tbr D' v u := by unfold tbr; rw [e3, up2_ne (by omega)]
        rw [this]
        exact z u u0 (by omega)
  -- is a knot ready?
  have rdy : ∀ (dn v : Nat), dn < 16 → 6 ≤ v → v < N + 4 → ∀ (Dz : mmD), (∀ c k, c ≠ 247 → Dz c k = D c k) → (∀ fl : Bool, fl = rdyB B dn v → Go E (d + 1) 0 0 mX12_stepsOf 199 [some (vR 214), none, some (vI y), some (vI m), some (vI (dn : Int)), some (vI (v : Int)), some (vI (if fl = true then 1 else 0)), some (vI 0)] [] G Dz Q) →
      ∀ (n : Nat) (j : Nat) (fl : Bool), B.length - j = n → j ≤ B.length → (fl && (B.drop j).all (fun b => !(b.1 == v && decide (5 < b.2) && !(dn.testBit (b.2 - 6))))) = rdyB B dn v → Go E (d + 1) 0 0 mX12_stepsOf 128 [some (vR 214), none, some (vI y), some (vI m), some (vI (dn : Int)), some (vI (v : Int)), some (vI (if fl = true then 1 else 0)), some (vI (j : Int))] [] G Dz Q := by
    intro dn v d16 v6 vN Dz frz Kr n
    have hTz := hT.keep frz
    induction n with
    | zero =>
      intro j fl jn j1 e
      refine w_X12_stepsOf_128 hG ?_
      rw [hTz.2.1]
      refine br_le (fun _ => Kr fl ?_) (fun g => by omega)
      rw [← e, List.drop_eq_nil_of_le (by omega)]
      simp
    | succ n ih =>
      intro j fl jn j1 e
      have hj : j < B.length := by omega
      have eg : B.getD j (0, 0) = B[j] := by rw [List.getD_eq_getElem?_getD, List.getElem?_eq_getElem hj]; rfl
      rw [List.drop_eq_getElem_cons hj, List.all_cons, ← eg] at e
      have hbj := hTz.2.2.2 j hj
      have hBj := f4 j hj
      generalize hbr : B.getD j (0, 0) = br at *
      have nx : ∀ fl' : Bool, (fl' && (B.drop (j + 1)).all (fun b => !(b.1 == v && decide (5 < b.2) && !(dn.testBit (b.2 - 6))))) = rdyB B dn v → Go E (d + 1) 0 0 mX12_stepsOf 128 [some (vR 214), none, some (vI y), some (vI m), some (vI (dn : Int)), some (vI (v : Int)), some (vI (if fl' = true then 1 else 0)), some (vI ((j : Int) + 1))] [] G Dz Q := fun fl' e' => by
        have q := ih (j + 1) fl' (by omega) (by omega) e'
        rw [show ((j + 1 : Nat) : Int) = (j : Int) + 1 by omega] at q
        exact q
      have nt := nx true
      have nf := nx false
      simp only [if_true] at nt
      simp only [Bool.false_eq_true, if_false] at nf
      refine w_X12_stepsOf_128 hG ?_
      rw [hTz.2.1, hbj.1, hbj.2]
      refine br_le (fun g => by omega) (fun _ => ?_)
      cases fl with
      | false =>
        rw [show (if (false : Bool) = true then (1 : Int) else 0) = 0 from rfl]
        refine b_f (nf ?_)
        rw [← e]; rfl
      | true =>
        rw [show (if (true : Bool) = true then (1 : Int) else 0) = 1 from rfl]
        refine b_t ⟨⟨by omega, by omega⟩, br_ne (fun g => nt ?_) (fun g => ⟨⟨by omega, by omega⟩, br_le (fun g2 => nt ?_) (fun g2 => ⟨⟨by omega, by omega⟩, ?_⟩)⟩)⟩
        · have : (br.1 == v) = false := by simp; omega
          rw [← e, this]; rfl
        · have : decide (5 < br.2) = false := by simp; omega
          rw [← e, this, Bool.and_false]; rfl
        · have e1 : (br.1 == v) = true := by simp; omega
          have e2 : decide (5 < br.2) = true := by simp; omega
          rw [e1, e2] at e
          have ew : (br.2 : Int) - 6 = ((br.2 - 6 : Nat) : Int) := by omega
          rw [ew]
          by_cases hbt : dn.testBit (br.2 - 6) = true
          · rw [tb_1 (by omega) (by omega) (by omega) (by omega) (by unfold bt; rw [Int.toNat_natCast, Int.toNat_natCast]; exact hbt)]
            refine b_t (nt ?_)
            rw [← e, hbt]; rfl
          · rw [tb_0 (by omega) (by omega) (by omega) (by omega) (by unfold bt; rw [Int.toNat_natCast, Int.toNat_natCast]; exact hbt)]
            refine b_f (nf ?_)
            have hbt' : dn.testBit (br.2 - 6) = false := by simpa using hbt
            rw [← e, hbt']; rfl
  -- one pass, passes
  have pass : ∀ (Kp : ∀ (dn : Nat) (D' : mmD), dn < 16 → (∀ c k, c ≠ 247 → D' c k = D c k) → dnI D' N B Lb dn → True) (Kq : Nat → Prop), ∀ (k : Nat), k ≤ N - 2 → ∀ (dn : Nat) (D' : mmD), dn < 16 → (∀ c k, c ≠ 247 → D' c k = D c k) → dnI D' N B Lb dn →
      (∀ D2, (∀ c k, c ≠ 247 → D2 c k = D c k) → dnI D2 N B Lb (pasB B k dn) → pasB B k dn < 16 → Go E (d + 1) 0 0 mX12_stepsOf 74 [some (vR 214), none, some (vI y), some (vI m), some (vI ((pasB B k dn : Nat) : Int)), none, none, none] [] G D2 Q) →
      Go E (d + 1) 0 0 mX12_stepsOf 98 [some (vR 214), none, some (vI y), some (vI m), some (vI (dn : Int)), some (vI ((k : Int) + 5)), none, none] [] G D' Q := by
    intro _ _ k
    induction k with
    | zero =>
      intro k1 dn D' d16 fr hz Kn
      exact w_X12_stepsOf_98 hG (br_lt (fun _ => Kn D' fr hz d16) (fun g => by omega))
    | succ k ih =>
      intro k1 dn D' d16 fr hz Kn
      have ev : ((k + 1 : Nat) : Int) + 5 = ((6 + k : Nat) : Int) := by omega
      have go : ∀ fl0 : Bool, fl0 = !(dn.testBit k) → Go E (d + 1) 0 0 mX12_stepsOf 128 [some (vR 214), none, some (vI y), some (vI m), some (vI (dn : Int)), some (vI ((6 + k : Nat) : Int)), some (vI (if fl0 = true then 1 else 0)), some (vI 0)] [] G D' Q := fun fl0 e0 => by
        refine rdy dn (6 + k) d16 (by omega) (by omega) D' fr (fun fl ef => ?_) B.length 0 fl0 (by omega) (by omega) (by rw [List.drop_zero, e0]; unfold rdyB; rw [show 6 + k - 6 = k by omega])
        cases fl with
        | false =>
          simp only [Bool.false_eq_true, if_false]
          have ep : pasB B (k + 1) dn = pasB B k dn := by simp only [pasB]; rw [← ef]; rfl
          rw [ep] at Kn
          have nx := ih (by omega) dn D' d16 fr hz Kn
          refine w_X12_stepsOf_199 hG (br_le (fun g => by omega) (fun _ => b_f (b_f ?_)))
          rw [ior0 (by omega) (by omega), show ((6 + k : Nat) : Int) + -1 = (k : Int) + 5 by omega]
          exact nx
        | true =>
          simp only [if_true]
          have ep : pasB B (k + 1) dn = pasB B k (dn ||| 2 ^ k) := by simp only [pasB]; rw [← ef]; rfl
          rw [ep] at Kn
          have er := ef.symm
          unfold rdyB at er
          rw [Bool.and_eq_true, List.all_eq_true, Bool.not_eq_true', show 6 + k - 6 = k by omega] at er
          have p16 : dn ||| 2 ^ k < 16 := by
            have : 2 ^ k ≤ 2 ^ 3 := Nat.pow_le_pow_right (by omega) (by omega)
            exact Nat.or_lt_two_pow (n := 4) d16 (by omega)
          refine rowc dn (6 + k) d16 (by omega) (by omega) (by rw [show 6 + k - 6 = k by omega, er.1]; simp) (fun w hw => ?_) D' fr hz (fun D2 fr2 hz2 => ?_) 6 D' 0 (by omega) (by omega) (by omega) (fun _ _ _ => rfl) (fun u u0 u1 => by omega)
          · obtain ⟨b, hb, eb⟩ := mem_chs hw
            have mb : B.getD b (0, 0) ∈ B := by
              rw [List.getD_eq_getElem?_getD, List.getElem?_eq_getElem hb]
              exact List.getElem_mem _
            have q := er.2 _ mb
            rw [eb] at q
            by_cases w6 : w < 6
            · exact Or.inl w6
            · right
              have e2 : decide (5 < w) = true := by simp; omega
              simp only [beq_self_eq_true, e2, Bool.and_self, Bool.true_and, Bool.not_not] at q
              exact q
          · rw [show 6 + k - 6 = k by omega] at hz2 ⊢
            have nx := ih (by omega) (dn ||| 2 ^ k) D2 p16 fr2 hz2 Kn
            rw [show ((6 + k : Nat) : Int) + -1 = (k : Int) + 5 by omega]
            exact nx
      rw [ev]
      refine w_X12_stepsOf_98 hG (br_lt (fun g => by omega) (fun _ => ?_))
      rw [show ((6 + k : Nat) : Int) - 6 = (k : Int) by omega]
      by_cases hbt : dn.testBit k = true
      · rw [tb_1 (by omega) (by omega) (by omega) (by omega) (by unfold bt; rw [Int.toNat_natCast, Int.toNat_natCast]; exact hbt)]
        have g := go false (by rw [hbt]; rfl)
        simp only [Bool.false_eq_true, if_false] at g
        exact n_t g
      · rw [tb_0 (by omega) (by omega) (by omega) (by omega) (by unfold bt; rw [Int.toNat_natCast, Int.toNat_natCast]; exact hbt)]
        have hbt' : dn.testBit k = false := by simpa using hbt
        have g := go true (by rw [hbt']; rfl)
        simp only [if_true] at g
        exact n_f g
  have it : ∀ (f : Nat) (dn : Nat) (D' : mmD), dn < 16 → itB B (N - 2) f dn = true → (∀ c k, c ≠ 247 → D' c k = D c k) → dnI D' N B Lb dn → Go E (d + 1) 0 0 mX12_stepsOf 74 [some (vR 214), none, some (vI y), some (vI m), some (vI (dn : Int)), none, none, none] [] G D' Q := by
    intro f
    have pw : ∀ D' : mmD, (∀ c k, c ≠ 247 → D' c k = D c k) → ishl 1 (D' 214 53 - 6) - 1 = ((2 ^ (N - 2) - 1 : Nat) : Int) := fun D' fr => by
      rw [fr _ _ (by omega), hT.2.2.1, show ((N + 4 : Nat) : Int) - 6 = ((N - 2 : Nat) : Int) by omega, ishl_1 (by omega) (by omega), Int.toNat_natCast]
      have : 0 < 2 ^ (N - 2) := Nat.pow_pos (by omega)
      omega
    have p16 : 2 ^ (N - 2) ≤ 2 ^ 4 := Nat.pow_le_pow_right (by omega) (by omega)
    have full : ∀ D' : mmD, (∀ c k, c ≠ 247 → D' c k = D c k) → dnI D' N B Lb (2 ^ (N - 2) - 1) → Go E (d + 1) 0 0 mX12_stepsOf 276 [some (vR 214), none, some (vI y), some (vI m), none, some (vI 1000000), some (vI 0), none] [] G D' Q := fun D' fr hz => by
      have db : ∀ v, 6 ≤ v → v < N + 4 → (2 ^ (N - 2) - 1).testBit (v - 6) = true := fun v a b => by
        rw [Nat.testBit_two_pow_sub_one]
        simp; omega
      have hM : tabE N B Lb (fun v s => tbr D' v s) := by
        refine ⟨hz.1, fun v v6 v10 hl s s0 s1 => ?_⟩
        have vN : v < N + 4 := by
          obtain ⟨w, hw⟩ := List.exists_mem_of_length_pos hl
          exact (chB v w hw).1.2
        exact ((hz.2 v v6 vN (db v v6 vN)).1 s s0 s1).1
      have ft := fitch hL hM n3 n6 hf
      exact mn 6 D' 0 (by omega) (by omega) fr (fun s s0 s1 => ((hz.2 6 (by omega) (by omega) (db 6 (by omega) (by omega))).1 s s0 s1).2) ft.1.symm
    induction f with
    | zero =>
      intro dn D' d16 hi fr hz
      simp only [itB, beq_iff_eq] at hi
      subst hi
      refine w_X12_stepsOf_74 hG ?_
      rw [pw D' fr]
      exact br_eq (fun _ => full D' fr hz) (fun g => absurd rfl g)
    | succ f ih =>
      intro dn D' d16 hi fr hz
      simp only [itB, beq_iff_eq, Bool.or_eq_true] at hi
      refine w_X12_stepsOf_74 hG ?_
      rw [pw D' fr]
      refine br_eq (fun g => ?_) (fun g => ?_)
      · have e : dn = 2 ^ (N - 2) - 1 := by omega
        rw [e] at hz
        exact full D' fr hz
      · have hi' := hi.resolve_left (fun q => g (by rw [q]))
        rw [fr 214 53 (by omega), hT.2.2.1]
        have nx := pass (fun _ _ _ _ _ => trivial) (fun _ => True) (N - 2) (by omega) dn D' d16 fr hz (fun D2 fr2 hz2 l2 => ih _ D2 l2 hi' fr2 hz2)
        rw [show ((N - 2 : Nat) : Int) + 5 = ((N + 4 : Nat) : Int) - 1 by omega] at nx
        exact nx
  -- the leaves' rows
  have leaves : ∀ (n : Nat) (D' : mmD) (q : Nat), N - q = n → q ≤ N → (∀ c k, c ≠ 247 → D' c k = D c k) → (∀ q' : Nat, q' < q → ∀ s : Int, 0 ≤ s → s < 6 → tbr D' q' s = if Lb q' = -1 ∨ Lb q' = s then 0 else 1000000) → Go E (d + 1) 0 0 mX12_stepsOf 18 [some (vR 214), none, some (vI y), some (vI m), some (vI (q : Int)), none, none, none] [] G D' Q := by
    intro n
    induction n with
    | zero =>
      intro D' q qn q1 fr z
      refine w_X12_stepsOf_18 hG ?_
      rw [fr 214 51 (by omega), hT.1]
      exact br_le (fun _ => it 5 0 D' (by omega) f5 fr ⟨fun q' hq => z q' (by omega), fun v a b c => absurd c (by simp)⟩) (fun g => by omega)
    | succ n ih =>
      intro D' q qn q1 fr z
      refine w_X12_stepsOf_18 hG ?_
      rw [fr 214 51 (by omega), hT.1]
      refine br_le (fun g => by omega) (fun _ => ?_)
      have row : ∀ (n2 : Nat) (D2 : mmD) (s : Int), 6 - s = n2 → 0 ≤ s → s ≤ 6 → (∀ c k, c ≠ 247 → D2 c k = D c k) → (∀ q' : Nat, q' < q → ∀ s : Int, 0 ≤ s → s < 6 → tbr D2 q' s = if Lb q' = -1 ∨ Lb q' = s then 0 else 1000000) → (∀ u : Int, 0 ≤ u → u < s → tbr D2 q u = if Lb q = -1 ∨ Lb q = u then 0 else 1000000) → Go E (d + 1) 0 0 mX12_stepsOf 30 [some (vR 214), none, some (vI y), some (vI m), some (vI (q : Int)), some (vI s), none, none] [] G D2 Q := by
        intro n2
        induction n2 with
        | zero =>
          intro D2 s sn s0 s1 fr2 z2 u2
          refine w_X12_stepsOf_30 hG (br_le (fun _ => ?_) (fun g => by omega))
          have nx := ih D2 (q + 1) (by omega) (by omega) fr2 (fun q' hq s s0 s1 => by
            by_cases e : q' = q
            · rw [e]; exact u2 s s0 (by omega)
            · exact z2 q' (by omega) s s0 s1)
          rw [show ((q + 1 : Nat) : Int) = (q : Int) + 1 by omega] at nx
          exact nx
        | succ n2 ih2 =>
          intro D2 s sn s0 s1 fr2 z2 u2
          refine w_X12_stepsOf_30 hG (br_le (fun g => by omega) (fun _ => r_leaf (Lb := Lb) hG m0 m1 (by omega) s0 (by omega) (hL q).1 (hL q).2 (by rw [fr2 _ _ (by omega)]; exact h46 q (by omega)) ⟨⟨by omega, by omega⟩, fun D3 e3 => ?_⟩))
          refine ih2 D3 (s + 1) (by omega) (by omega) (by omega) (fun c k p => by rw [e3, up2_ne (fun t => p t.1)]; exact fr2 c k p) (fun q' hq u u0 u1 => ?_) (fun u u0 u1 => ?_)
          · have : tbr D3 q' u = tbr D2 q' u := by unfold tbr; rw [e3, up2_ne (by omega)]
            rw [this]; exact z2 q' hq u u0 u1
          · by_cases e : u = s
            · subst e
              unfold tbr
              rw [e3, up2_same]
            · have : tbr D3 q u = tbr D2 q u := by unfold tbr; rw [e3, up2_ne (by omega)]
              rw [this]; exact u2 u u0 (by omega)
      exact row 6 D' 0 (by omega) (by omega) (by omega) fr z (fun u u0 u1 => by omega)
  exact leaves N D 0 (by omega) (by omega) (fun _ _ _ => rfl) (fun q' hq => by omega)
end StepsR2
