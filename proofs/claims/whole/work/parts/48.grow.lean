theorem idiv_all : ∀ (x : Fin 106) (y : Fin 35), idiv ((x.1 : Nat) : Int) ((y.1 + 1 : Nat) : Int) = ((x.1 : Nat) : Int) / ((y.1 + 1 : Nat) : Int) ∧ irem ((x.1 : Nat) : Int) ((y.1 + 1 : Nat) : Int) = ((x.1 : Nat) : Int) % ((y.1 + 1 : Nat) : Int) := by decide +kernel
theorem idiv_n {x y : Int} (x0 : 0 ≤ x) (x1 : x ≤ 105) (y0 : 1 ≤ y) (y1 : y ≤ 35) : idiv x y = x / y ∧ irem x y = x % y := by
  have h := idiv_all ⟨x.toNat, by omega⟩ ⟨(y - 1).toNat, by omega⟩
  simp only [show (((y - 1).toNat + 1 : Nat) : Int) = y by omega, show ((x.toNat : Nat) : Int) = x by omega] at h
  exact h
theorem iv_nz {y : Int} (y0 : 1 ≤ y) (y1 : y < 2147483648) : ¬ iv y = 0 := fun h => by
  have : (iv y).toInt = (0 : Int32).toInt := congrArg Int32.toInt h
  rw [iv_toInt (by omega) y1] at this
  have z : (0 : Int32).toInt = 0 := by decide
  omega
/-- the digit of a leaf -/
def dgx (r : Int) : Nat → Int → Int
  | 0, z => z % (2 * r - 3)
  | k + 1, z => dgx r k (z / (2 * (r + ((k : Int) + 1)) - 3))
theorem dgx_rg {r : Int} (r3 : 3 ≤ r) : ∀ (k : Nat) (z : Int), 0 ≤ dgx r k z ∧ dgx r k z < 2 * r - 3
  | 0, z => ⟨Int.emod_nonneg _ (by omega), Int.emod_lt_of_pos _ (by omega)⟩
  | k + 1, z => dgx_rg r3 k _
def lab (T : Nat → Int) (e : Nat) : Int := if e < 6 then T e else (e : Int)
/-- the branches as the class has them -/
def brC (D : mmD) (T : Nat → Int) (B : List (Nat × Nat)) : Prop := D 12 2 = (B.length : Int) ∧ ∀ b : Nat, b < B.length → D 13 (b : Int) = ((B.getD b (0, 0)).1 : Int) ∧ D 14 (b : Int) = lab T (B.getD b (0, 0)).2
theorem gP_app {l : List (Nat × Nat)} {x : Nat × Nat} {k : Nat} (h : k < l.length) : (l ++ [x]).getD k (0, 0) = l.getD k (0, 0) := by
  rw [List.getD_eq_getElem?_getD, List.getD_eq_getElem?_getD, List.getElem?_append_left h]
theorem gP_end {l : List (Nat × Nat)} {x : Nat × Nat} : (l ++ [x]).getD l.length (0, 0) = x := by
  rw [List.getD_eq_getElem?_getD, List.getElem?_append_right (Nat.le_refl _)]; simp
theorem gP_set {l : List (Nat × Nat)} {x : Nat × Nat} {i k : Nat} (hi : i < l.length) : (l.set i x).getD k (0, 0) = if k = i then x else l.getD k (0, 0) := by
  rw [List.getD_eq_getElem?_getD, List.getElem?_set]
  by_cases h : i = k
  · subst h
    rw [if_pos rfl, if_pos hi, if_pos rfl]; rfl
  · rw [if_neg h, if_neg (fun e => h e.symm), List.getD_eq_getElem?_getD]
section Grow
variable {E : mmE} {d : Nat} {G : mmG} {D0 D : mmD} {P : Int → mmD → Prop} {P0 : mmD → Prop} {T : Nat → Int} {N : Nat} {x z r : Int} {B : List (Nat × Nat)}
theorem c_whenSet (hG : Sh G) (r2 : 2 ≤ r) (r9 : r ≤ 1000) (h : P (2 * r - 3) D) : Call E (d + 1) 0 0 mX0_whenSet [vI r] G D (retI G P) := by
  refine w_X0_whenSet hG ?_
  have e : (if iv 1 < iv ((2 * r) - 3) then ((2 * r) - 3) else 1) = 2 * r - 3 := by
    by_cases q : iv 1 < iv ((2 * r) - 3)
    · rw [if_pos q]
    · rw [if_neg q]
      rw [iv_lt (by omega) (by omega) (by omega) (by omega)] at q
      omega
  rw [e]
  exact rI h
theorem c_digit (hG : Sh G) (x0 : 0 ≤ x) (x1 : x < 4096) (hN : pcn x 12 = (N : Int)) (r3 : 3 ≤ r) (rN : r < N) (n6 : N ≤ 6) (z0 : 0 ≤ z) (z1 : z ≤ 105) (h : P (dgx r ((N : Int) - 1 - r).toNat z) D) : Call E (d + 1 + 1) 0 0 mX0_digit [vI x, vI z, vI r] G D (retI G P) := by
  have lp : ∀ (k : Nat) (z : Int), 0 ≤ z → z ≤ 105 → r + k ≤ 5 → P (dgx r k z) D → Go E (d + 1 + 1) 0 0 mX0_digit 10 [none, none, some (vI r), some (vI z), some (vI (r + (k : Int)))] [] G D (retI G P) := by
    intro k
    induction k with
    | zero =>
      intro z z0 z1 rk hz
      refine w_X0_digit_10 hG (br_le (fun _ => c_whenSet hG (by omega) (by omega) ⟨iv_nz (by omega) (by omega), ?_⟩) (fun g => by omega))
      rw [(idiv_n z0 z1 (show 1 ≤ 2 * r - 3 by omega) (by omega)).2]
      exact rI hz
    | succ k ih =>
      intro z z0 z1 rk hz
      refine w_X0_digit_10 hG (br_le (fun g => by omega) (fun _ => c_whenSet hG (by omega) (by omega) ⟨iv_nz (by omega) (by omega), ?_⟩))
      rw [show r + ((k + 1 : Nat) : Int) = r + ((k : Int) + 1) by omega, (idiv_n z0 z1 (show 1 ≤ 2 * (r + ((k : Int) + 1)) - 3 by omega) (by omega)).1]
      have q : 0 ≤ z / (2 * (r + ((k : Int) + 1)) - 3) ∧ z / (2 * (r + ((k : Int) + 1)) - 3) ≤ z := ⟨Int.ediv_nonneg z0 (by omega), Int.ediv_le_self _ z0⟩
      have nx := ih _ q.1 (by omega) (by omega) hz
      rw [show r + ((k : Int) + 1) + -1 = r + (k : Int) by omega]
      exact nx
  refine w_X0_digit hG (c_bitCount12 hG x0 x1 ?_)
  rw [hN]
  have nx := lp ((N : Int) - 1 - r).toNat z z0 z1 (by omega) h
  rw [show r + ((((N : Int) - 1 - r).toNat : Nat) : Int) = (N : Int) - 1 by omega] at nx
  exact nx
theorem c_add {s e : Nat} {x1 x2 : Int} (hG : Sh G) (hb : brC D T B) (l9 : B.length < 9) (e1 : x1 = (s : Int)) (e2 : x2 = lab T e) (h : ∀ D' : mmD, (∀ c k, ¬ (c = 12 ∧ k = 2) → c ≠ 13 → c ≠ 14 → D' c k = D c k) → brC D' T (B ++ [(s, e)]) → P0 D') : Call E d 0 0 mX0_add [vR 12, vI x1, vI x2] G D (retV G P0) := by
  obtain ⟨b1, b2⟩ := hb
  refine w_X0_add hG ?_
  rw [b1]
  refine br_le (fun g => by omega) (fun _ => ⟨⟨by omega, by omega⟩, fun D1 r1 => ?_⟩)
  have a1 : D1 12 2 = (B.length : Int) := by rw [r1, up2_ne (by omega)]; exact b1
  rw [a1]
  refine ⟨⟨by omega, by omega⟩, fun D2 r2 D3 r3 => rV (h D3 (fun c k p q t => ?_) ⟨?_, fun b hb => ?_⟩)⟩
  · rw [r3, up2_ne p, r2, up2_ne (fun u => t u.1), r1, up2_ne (fun u => q u.1)]
  · rw [r3, up2_same, r2, up2_ne (by omega), a1, List.length_append, List.length_singleton]; omega
  · rw [List.length_append, List.length_singleton] at hb
    by_cases e' : b = B.length
    · subst e'
      rw [gP_end, r3, up2_ne (by omega), r2, up2_ne (by omega), r1, up2_same, up2_ne (by omega), up2_same]
      exact ⟨e1, e2⟩
    · rw [gP_app (by omega), r3, up2_ne (by omega), r2, up2_ne (by omega), r1, up2_ne (by omega), up2_ne (by omega), up2_ne (by omega), up2_ne (by omega)]
      exact b2 b (by omega)
theorem c_setOn {b rr : Nat} {x1 x2 x3 : Int} (hG : Sh G) (hb : brC D T B) (l7 : B.length + 2 ≤ 9) (hbl : b < B.length) (e1 : x1 = (b : Int)) (e2 : x2 = lab T rr) (e3 : x3 = ((rr + 4 : Nat) : Int)) (r3 : 3 ≤ rr) (h : ∀ D' : mmD, (∀ c k, ¬ (c = 12 ∧ k = 2) → c ≠ 13 → c ≠ 14 → D' c k = D c k) → brC D' T (B.set b ((B.getD b (0, 0)).1, rr + 4) ++ [(rr + 4, (B.getD b (0, 0)).2), (rr + 4, rr)]) → P0 D') : Call E (d + 1) 0 0 mX0_setOn [vR 12, vI x1, vI x2, vI x3] G D (retV G P0) := by
  obtain ⟨b1, b2⟩ := id hb
  refine w_X0_setOn hG ?_
  rw [b1, e1, e3]
  refine br_lt (fun g => by omega) (fun _ => br_le (fun g => by omega) (fun _ => ⟨⟨by omega, by omega⟩, ⟨by omega, by omega⟩, fun D1 r1 => ?_⟩))
  have h1 : brC D1 T (B.set b ((B.getD b (0, 0)).1, rr + 4)) := by
    refine ⟨by rw [r1, up2_ne (by omega), List.length_set]; exact b1, fun q hq => ?_⟩
    rw [List.length_set] at hq
    rw [gP_set hbl]
    by_cases e : q = b
    · subst e
      rw [if_pos rfl, r1, up2_ne (by omega), up2_same]
      refine ⟨(b2 q hq).1, ?_⟩
      show _ = lab T (rr + 4)
      unfold lab
      rw [if_neg (by omega)]
    · rw [if_neg e, r1, up2_ne (by omega), up2_ne (by omega)]
      exact b2 q hq
  refine c_add (s := rr + 4) (e := (B.getD b (0, 0)).2) hG h1 (by rw [List.length_set]; omega) rfl (b2 b hbl).2 (fun D2 k2 h2 => ?_)
  refine c_add (s := rr + 4) (e := rr) hG h2 (by rw [List.length_append, List.length_singleton, List.length_set]; omega) rfl e2 (fun D3 k3 h3 => rV (h D3 (fun c k p q t => ?_) ?_))
  · rw [k3 c k p q t, k2 c k p q t, r1, up2_ne (fun u => t u.1)]
  · rw [List.append_assoc] at h3
    exact h3
theorem owf_len {B : List (Nat × Nat)} : ∀ (f a : Nat) (L : List Nat), L.length ≤ (owf B f a L).length
  | 0, _, L => Nat.le_refl _
  | f + 1, a, L => by
    simp only [owf]
    split
    · have := owf_len (B := B) f (a + 1) (L ++ owk B (B.getD (L.getD a 0) (0, 0)).2)
      rw [List.length_append] at this
      omega
    · exact Nat.le_refl _
theorem l_oo {Q : mmQ} {k : Nat} {x2 x3 : Int} (hG : Sh G) (hb : brC D0 T B) (l9 : B.length ≤ 9) (hk : ∀ b : Nat, b < B.length → (D0 13 (b : Int) = x3 ↔ (B.getD b (0, 0)).1 = k)) (rg3 : -100 ≤ x3 ∧ x3 ≤ 100) (hs : ∀ b : Nat, b < B.length → (B.getD b (0, 0)).1 < 10) (Lf : List Nat) (lf : Lf.length ≤ 9)
    (K : ∀ D' : mmD, (∀ c j, c ≠ 15 → D' c j = D0 c j) → (∀ i : Nat, i < Lf.length → D' 15 (i : Int) = ((Lf.getD i 0 : Nat) : Int)) → Go E d 0 0 mX0_orderOutward 4 [some (vR 12), some (vI (Lf.length : Int)), some (vI (x2 + 1)), none, none] [] G D' Q) :
    ∀ (n : Nat) (D : mmD) (L : List Nat) (j : Nat), B.length - j = n → j ≤ B.length → (∀ c j, c ≠ 15 → D c j = D0 c j) → (∀ i : Nat, i < L.length → D 15 (i : Int) = ((L.getD i 0 : Nat) : Int)) → L ++ (List.range' j (B.length - j)).filter (fun b => (B.getD b (0, 0)).1 == k) = Lf →
      Go E d 0 0 mX0_orderOutward 39 [some (vR 12), some (vI (L.length : Int)), some (vI x2), some (vI x3), some (vI (j : Int))] [] G D Q := by
  intro n
  induction n with
  | zero =>
    intro D L j jn j1 fr z e
    have ej : B.length - j = 0 := by omega
    rw [ej] at e
    have eL : L = Lf := by rw [← e]; simp
    subst eL
    refine w_X0_orderOutward_39 hG ?_
    rw [fr 12 2 (by omega), hb.1]
    exact br_le (fun _ => K D fr z) (fun g => by omega)
  | succ n ih =>
    intro D L j jn j1 fr z e
    have en : B.length - (j + 1) = n := by omega
    rw [jn, List.range'_succ, List.filter_cons] at e
    refine w_X0_orderOutward_39 hG ?_
    rw [fr 12 2 (by omega), hb.1]
    refine br_le (fun g => by omega) (fun _ => ⟨⟨by omega, by omega⟩, ?_⟩)
    have hbj := hb.2 j (by omega)
    have hsj := hs j (by omega)
    have hkj := hk j (by omega)
    rw [fr 13 _ (by omega)]
    have r13 : 0 ≤ D0 13 (j : Int) ∧ D0 13 (j : Int) < 10 := by rw [hbj.1]; omega
    refine br_ne (fun g => ?_) (fun g => ?_)
    · rw [if_neg (by simp; exact fun q => g (hkj.mpr q))] at e
      have nx := ih D L (j + 1) en (by omega) fr z (by rw [en]; exact e)
      rw [show ((j + 1 : Nat) : Int) = (j : Int) + 1 by omega] at nx
      exact nx
    · rw [if_pos (by simp; exact hkj.mp g)] at e
      have ll := congrArg List.length e
      rw [List.length_append, List.length_cons] at ll
      refine br_le (fun g => by omega) (fun _ => ⟨⟨by omega, by omega⟩, fun D1 e1 => ?_⟩)
      have nx := ih D1 (L ++ [j]) (j + 1) en (by omega) (fun c i q => by rw [e1, up2_ne (fun t => q t.1)]; exact fr c i q) (fun i hi => ?_) (by rw [en, List.append_assoc]; exact e)
      · rw [show ((j + 1 : Nat) : Int) = (j : Int) + 1 by omega, List.length_append, List.length_singleton, show ((L.length + 1 : Nat) : Int) = (L.length : Int) + 1 by omega] at nx
        exact nx
      · rw [List.length_append, List.length_singleton] at hi
        by_cases ei : i = L.length
        · rw [ei, getD_end', e1, up2_same]
        · rw [getD_app' (by omega), e1, up2_ne (by omega)]
          exact z i (by omega)
theorem c_outward (hG : Sh G) (hT : ∀ q : Nat, q < 6 → 0 ≤ T q ∧ T q < 6) (hb : brC D T B) (l9 : B.length ≤ 9) (ho : (owt B).length ≤ 9) (hB : ∀ b : Nat, b < B.length → (6 ≤ (B.getD b (0, 0)).1 ∧ (B.getD b (0, 0)).1 < 10) ∧ (B.getD b (0, 0)).2 < 10) (h : ∀ D' : mmD, (∀ c j, c ≠ 15 → D' c j = D c j) → (∀ i : Nat, i < (owt B).length → D' 15 (i : Int) = (((owt B).getD i 0 : Nat) : Int)) → P0 D') : Call E d 0 0 mX0_orderOutward [vR 12] G D (retV G P0) := by
  have lr : ∀ e : Nat, e < 10 → 0 ≤ lab T e ∧ lab T e < 10 := fun e he => by
    unfold lab
    split
    · rename_i q; have := hT e q; omega
    · omega
  have hk : ∀ e : Nat, e < 10 → ∀ b : Nat, b < B.length → (D 13 (b : Int) = lab T e ↔ (B.getD b (0, 0)).1 = e) := fun e he b hbl => by
    have := hB b hbl
    rw [(hb.2 b hbl).1]
    unfold lab
    split
    · rename_i q; have := hT e q; constructor <;> intro _ <;> omega
    · constructor <;> intro _ <;> omega
  have mem : ∀ k : Nat, ∀ b ∈ owk B k, b < B.length := fun k b hbm => by
    unfold owk at hbm
    have := (List.mem_filter.mp hbm).1
    rw [List.mem_range'_1] at this
    omega
  have out : ∀ (f : Nat) (D' : mmD) (L : List Nat) (a : Nat), a + f = 10 → (∀ c j, c ≠ 15 → D' c j = D c j) → (∀ i : Nat, i < L.length → D' 15 (i : Int) = ((L.getD i 0 : Nat) : Int)) → (∀ b ∈ L, b < B.length) → owf B f a L = owt B → Go E d 0 0 mX0_orderOutward 4 [some (vR 12), some (vI (L.length : Int)), some (vI (a : Int)), none, none] [] G D' (retV G P0) := by
    intro f
    induction f with
    | zero =>
      intro D' L a af fr z mb e
      simp only [owf] at e
      subst e
      exact w_X0_orderOutward_4 hG (br_le (fun _ => rV (h D' fr z)) (fun g => by omega))
    | succ f ih =>
      intro D' L a af fr z mb e
      have lL := owf_len (B := B) (f + 1) a L
      rw [e] at lL
      simp only [owf] at e
      by_cases al : a < L.length
      · rw [if_pos al] at e
        have lL' := owf_len (B := B) f (a + 1) (L ++ owk B (B.getD (L.getD a 0) (0, 0)).2)
        rw [e] at lL'
        have hm : L.getD a 0 < B.length := by
          rw [List.getD_eq_getElem?_getD, List.getElem?_eq_getElem al]
          exact mb _ (List.getElem_mem _)
        have hBa := hB _ hm
        refine w_X0_orderOutward_4 hG (br_le (fun g => by omega) (fun _ => br_le (fun g => by omega) (fun _ => br_le (fun _ => ⟨⟨by omega, by omega⟩, ?_⟩) (fun g => by omega))))
        rw [z a al]
        refine ⟨⟨by omega, by omega⟩, ?_⟩
        rw [fr 14 _ (by omega), (hb.2 _ hm).2]
        have e2 := lr _ hBa.2
        refine l_oo (D0 := D) hG hb l9 (hk _ hBa.2) (by omega) (fun b hbl => (hB b hbl).1.2) (L ++ owk B (B.getD (L.getD a 0) (0, 0)).2) (by omega) (fun D2 fr2 z2 => ?_) B.length D' L 0 (by omega) (by omega) fr z (by rw [Nat.sub_zero]; rfl)
        have nx := ih D2 _ (a + 1) (by omega) fr2 z2 (fun b hbm => ?_) e
        · rw [show ((a + 1 : Nat) : Int) = (a : Int) + 1 by omega] at nx
          exact nx
        · rcases List.mem_append.mp hbm with q | q
          · exact mb b q
          · exact mem _ b q
      · rw [if_neg al] at e
        subst e
        exact w_X0_orderOutward_4 hG (br_le (fun _ => rV (h D' fr z)) (fun g => by omega))
  have l0 := owf_len (B := B) 10 0 (owk B 6)
  have e0 : owf B 10 0 (owk B 6) = owt B := rfl
  rw [e0] at l0
  refine w_X0_orderOutward hG (w_X0_orderOutward_4 hG (br_le (fun g => by omega) (fun _ => br_le (fun g => by omega) (fun _ => br_le (fun g => by omega) (fun _ => ?_)))))
  have l6 : lab T 6 = 6 := by unfold lab; rw [if_neg (by omega)]; rfl
  refine l_oo (D0 := D) hG hb l9 (k := 6) (fun b hbl => by rw [← l6]; exact hk 6 (by omega) b hbl) (by omega) (fun b hbl => (hB b hbl).1.2) (owk B 6) (by omega) (fun D2 fr2 z2 => ?_) B.length D [] 0 (by omega) (by omega) (fun _ _ _ => rfl) (fun i hi => absurd hi (by simp)) (by rw [Nat.sub_zero]; rfl)
  exact out 10 D2 (owk B 6) 0 (by omega) fr2 z2 (fun b hbm => mem 6 b hbm) rfl
theorem fac_B {n : Nat} (h : fac n B = true) : B.length = 2 * n - 3 ∧ (owt B).length = 2 * n - 3 ∧ (∀ i ∈ owt B, i < 2 * n - 3) ∧ (∀ b : Nat, b < B.length → (6 ≤ (B.getD b (0, 0)).1 ∧ (B.getD b (0, 0)).1 < n + 4) ∧ ((B.getD b (0, 0)).2 < n ∨ (6 ≤ (B.getD b (0, 0)).2 ∧ (B.getD b (0, 0)).2 < n + 4))) ∧ itB B (n - 2) 5 0 = true ∧ (∀ v, 6 ≤ v → v < 10 → (chs B v).length ≤ 3) := by
  simp only [fac, Bool.and_eq_true, beq_iff_eq, List.all_eq_true, decide_eq_true_eq, Bool.or_eq_true] at h
  obtain ⟨⟨⟨⟨⟨⟨⟨⟨⟨f1, f2⟩, f3⟩, -⟩, f5⟩, f6⟩, c6⟩, c7⟩, c8⟩, c9⟩ := h
  refine ⟨f1, f2, f3, fun b hb => ?_, f5, fun v v6 v10 => ?_⟩
  · rw [List.getD_eq_getElem?_getD, List.getElem?_eq_getElem hb]
    have := f6 _ (List.getElem_mem hb)
    exact ⟨this.1, this.2⟩
  · have : v = 6 ∨ v = 7 ∨ v = 8 ∨ v = 9 := by omega
    rcases this with rfl | rfl | rfl | rfl <;> assumption
theorem bl_at {x k : Int} {m : Nat} (k0 : 0 ≤ k) (km : k < m) (hb : bt x k) : (bl x m).getD (bl x k.toNat).length 0 = k ∧ (bl x k.toNat).length < (bl x m).length := by
  obtain ⟨l, hl⟩ := bl_pre (x := x) (n := (k + 1).toNat) (m - (k + 1).toNat)
  rw [show (k + 1).toNat + (m - (k + 1).toNat) = m by omega, bl_s k0, cif_t hb] at hl
  rw [hl]
  constructor
  · rw [List.getD_eq_getElem?_getD, List.getElem?_append_left (by simp), List.getElem?_append_right (Nat.le_refl _)]
    simp
  · simp
/-- the class's TREE -/
theorem c_grow {num : Int} {dg : Nat → Nat} (hG : Sh G) (x0 : 0 ≤ x) (x1 : x < 64) (hN : (bl x 6).length = N) (n3 : 3 ≤ N) (n6 : N ≤ 6) (z0 : 0 ≤ num) (z1 : num ≤ 105) (hdg : ∀ r : Nat, 3 ≤ r → r < N → (dg r : Int) = dgx (r : Int) ((N : Int) - 1 - (r : Int)).toNat num)
    (h : ∀ D' : mmD, (∀ c k, ¬ (c = 12 ∧ k = 2) → c ≠ 13 → c ≠ 14 → c ≠ 15 → D' c k = D c k) → brC D' (fun q => (bl x 6).getD q 0) (pbr dg N) → (∀ i : Nat, i < (owt (pbr dg N)).length → D' 15 (i : Int) = (((owt (pbr dg N)).getD i 0 : Nat) : Int)) → P0 D') : Call E (d + 3) 0 0 mX0_grow [vR 12, vI x, vI num] G D (retV G P0) := by
  have p12 : pcn x 12 = (N : Int) := by
    have := bl_len (x := x) 6
    rw [← hN, this]
    exact pcn_hi (m := 6) x0 (by rw [pw6]; exact x1) 6
  have dlt : ∀ r : Nat, 3 ≤ r → r < N → dg r < 2 * r - 3 := fun r r3 rN => by
    have := dgx_rg (r := (r : Int)) (by omega) ((N : Int) - 1 - (r : Int)).toNat num
    rw [← hdg r r3 rN] at this
    omega
  have fa := fac_of n3 n6 dlt
  obtain ⟨f1, f2, f3, f4, -⟩ := fac_B fa
  have hT6 : ∀ q : Nat, 0 ≤ (bl x 6).getD q 0 ∧ (bl x 6).getD q 0 < 6 := fun q => by
    by_cases e : q < (bl x 6).length
    · have := bl_rg (x := x) 6 q e
      exact ⟨this.1, this.2.1⟩
    · rw [List.getD_eq_getElem?_getD, List.getElem?_eq_none (by omega)]
      show 0 ≤ (0 : Int) ∧ (0 : Int) < 6
      omega
  have lp : ∀ (n : Nat) (D' : mmD) (t : Int), 6 - t = n → 0 ≤ t → t ≤ 6 → (∀ c k, ¬ (c = 12 ∧ k = 2) → c ≠ 13 → c ≠ 14 → D' c k = D c k) → brC D' (fun q => (bl x 6).getD q 0) (pbr dg (bl x t.toNat).length) → Go E (d + 3) 0 0 mX0_grow 10 [some (vR 12), some (vI x), some (vI num), some (vI ((bl x t.toNat).length : Int)), some (vI t)] [] G D' (retV G P0) := by
    intro n
    induction n with
    | zero =>
      intro D' t tn t0 t1 fr hb
      have e : t = 6 := by omega
      subst e
      rw [show (6 : Int).toNat = 6 from rfl, hN] at hb ⊢
      refine w_X0_grow_10 hG (br_le (fun _ => c_outward hG (fun q _ => hT6 q) hb (by omega) (by omega) (fun b hbl => ?_) (fun D2 k2 w2 => rV (h D2 (fun c k p q u v => by rw [k2 c k v]; exact fr c k p q u) ?_ w2))) (fun g => by omega))
      · have := f4 b hbl; omega
      · exact ⟨by rw [k2 _ _ (by omega)]; exact hb.1, fun b hbl => by rw [k2 _ _ (by omega), k2 _ _ (by omega)]; exact hb.2 b hbl⟩
    | succ n ih =>
      intro D' t tn t0 t1 fr hb
      have es := bl_s (x := x) t0
      refine w_X0_grow_10 hG (br_le (fun g => by omega) (fun _ => ?_))
      by_cases hbt : bt x t
      · rw [cif_t hbt] at es
        obtain ⟨at1, at2⟩ := bl_at (m := 6) t0 (by omega) hbt
        rw [hN] at at2
        have lg := pbr_len (dg := dg) (bl x t.toNat).length
        have elb : t = lab (fun q => (bl x 6).getD q 0) (bl x t.toNat).length := by
          unfold lab
          rw [if_pos (by omega)]
          exact at1.symm
        have nxt' := fun D2 (fr2 : ∀ c k, ¬ (c = 12 ∧ k = 2) → c ≠ 13 → c ≠ 14 → D2 c k = D c k) hb2 => ih D2 (t + 1) (by omega) (by omega) (by omega) fr2 hb2
        rw [es, List.length_append, List.length_singleton] at nxt'
        rw [show (((bl x t.toNat).length + 1 : Nat) : Int) = ((bl x t.toNat).length : Int) + 1 by omega] at nxt'
        rw [tb_1 x0 (by omega) t0 (by omega) hbt]
        refine b_t (br_le (fun g => ?_) (fun g => ?_))
        · have eB : pbr dg ((bl x t.toNat).length + 1) = (pbr dg (bl x t.toNat).length).set (dg (bl x t.toNat).length) (((pbr dg (bl x t.toNat).length).getD (dg (bl x t.toNat).length) (0, 0)).1, (bl x t.toNat).length + 4) ++ [((bl x t.toNat).length + 4, ((pbr dg (bl x t.toNat).length).getD (dg (bl x t.toNat).length) (0, 0)).2), ((bl x t.toNat).length + 4, (bl x t.toNat).length)] := by
            show (if (bl x t.toNat).length < 3 then _ else _) = _
            rw [if_neg (by omega)]
          rw [eB] at nxt'
          have dl := dlt (bl x t.toNat).length (by omega) at2
          have lg' : (pbr dg (bl x t.toNat).length).length = 2 * (bl x t.toNat).length - 3 := by
            have := pbr_len (dg := dg) (bl x t.toNat).length
            split at this <;> omega
          refine c_digit hG x0 (by omega) p12 (by omega) (by omega) n6 z0 z1 ?_
          rw [← hdg _ (by omega) at2]
          refine c_setOn hG hb (by omega) (by omega) rfl elb (by omega) (by omega) (fun D2 k2 hb2 => nxt' D2 (fun c k p q u => by rw [k2 c k p q u]; exact fr c k p q u) hb2)
        · have lg' : (pbr dg (bl x t.toNat).length).length < 9 := by
            have := pbr_len (dg := dg) (bl x t.toNat).length
            split at this <;> omega
          have eB : pbr dg ((bl x t.toNat).length + 1) = pbr dg (bl x t.toNat).length ++ [(6, (bl x t.toNat).length)] := by
            show (if (bl x t.toNat).length < 3 then _ else _) = _
            rw [if_pos (by omega)]
          rw [eB] at nxt'
          refine c_add hG hb lg' rfl elb (fun D2 k2 hb2 => nxt' D2 (fun c k p q u => by rw [k2 c k p q u]; exact fr c k p q u) hb2)
      · rw [cif_f hbt] at es
        have nx := ih D' (t + 1) (by omega) (by omega) (by omega) fr (by rw [es]; exact hb)
        rw [es] at nx
        rw [tb_0 x0 (by omega) t0 (by omega) hbt]
        exact b_f nx
  refine w_X0_grow hG (fun D1 e1 => lp 6 D1 0 (by omega) (by omega) (by omega) (fun c k p _ _ => by rw [e1, up2_ne p]) ⟨by rw [e1, up2_same]; rfl, fun b hb => absurd hb (by simp [bl, pbr])⟩)
end Grow
