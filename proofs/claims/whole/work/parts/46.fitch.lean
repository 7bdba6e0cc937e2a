/-! ===== TREES: two ways to count the changes ===== -/
def pbr (dg : Nat → Nat) : Nat → List (Nat × Nat)
  | 0 => []
  | r + 1 => if r < 3 then pbr dg r ++ [(6, r)] else (pbr dg r).set (dg r) (((pbr dg r).getD (dg r) (0, 0)).1, r + 4) ++ [(r + 4, ((pbr dg r).getD (dg r) (0, 0)).2), (r + 4, r)]
def owk (B : List (Nat × Nat)) (k : Nat) : List Nat := (List.range' 0 B.length).filter (fun b => (B.getD b (0, 0)).1 == k)
def owf (B : List (Nat × Nat)) : Nat → Nat → List Nat → List Nat
  | 0, _, L => L
  | f + 1, a, L => if a < L.length then owf B f (a + 1) (L ++ owk B (B.getD (L.getD a 0) (0, 0)).2) else L
/-- the branches from the first knot outward -/
def owt (B : List (Nat × Nat)) : List Nat := owf B 10 0 (owk B 6)
def chs (B : List (Nat × Nat)) (v : Nat) : List Nat := (B.filter (fun b => b.1 == v)).map (fun b => b.2)
def cld (Pd : List (Nat × Nat)) (v : Nat) : Bool := Pd.any (fun b => b.2 == v)
/-- in that order each branch comes behind those that go on from it -/
def ckb (n : Nat) (B : List (Nat × Nat)) : List (Nat × Nat) → List (Nat × Nat) → Bool
  | [], Pd => (chs Pd 6 == (chs B 6).reverse) && (chs Pd 6).length == 3 && [7, 8, 9].all (fun v => (chs Pd v).isEmpty || cld Pd v)
  | b :: r, Pd => decide (6 ≤ b.1) && decide (b.1 < 10) && decide (b.2 < 10) && decide (b.2 ≠ b.1) && decide (b.2 ≠ 6) && !(cld Pd b.2) && !(cld Pd b.1) && (decide (b.2 < n) || (decide (6 ≤ b.2) && (chs Pd b.2 == (chs B b.2).reverse) && (chs Pd b.2).length == 2)) && decide ((chs Pd b.1).length < if b.1 = 6 then 3 else 2) && ckb n B r (Pd ++ [b])
def rdyB (B : List (Nat × Nat)) (dn v : Nat) : Bool := !(dn.testBit (v - 6)) && B.all (fun b => !(b.1 == v && decide (5 < b.2) && !(dn.testBit (b.2 - 6))))
def pasB (B : List (Nat × Nat)) : Nat → Nat → Nat
  | 0, dn => dn
  | k + 1, dn => pasB B k (if rdyB B dn (6 + k) = true then dn ||| 2 ^ k else dn)
def itB (B : List (Nat × Nat)) (K : Nat) : Nat → Nat → Bool
  | 0, dn => dn == 2 ^ K - 1
  | f + 1, dn => dn == 2 ^ K - 1 || itB B K f (pasB B K dn)
def d345 (a b c : Nat) : Nat → Nat := fun r => if r = 3 then a else if r = 4 then b else c
def rvB (B : List (Nat × Nat)) : List (Nat × Nat) := ((owt B).map (fun b => B.getD b (0, 0))).reverse
def fac (n : Nat) (B : List (Nat × Nat)) : Bool := B.length == 2 * n - 3 && (owt B).length == 2 * n - 3 && (owt B).all (fun b => decide (b < 2 * n - 3)) && ckb n B (rvB B) [] && itB B (n - 2) 5 0 && B.all (fun b => decide (6 ≤ b.1) && decide (b.1 < n + 4) && (decide (b.2 < n) || (decide (6 ≤ b.2) && decide (b.2 < n + 4)))) && decide ((chs B 6).length ≤ 3) && decide ((chs B 7).length ≤ 3) && decide ((chs B 8).length ≤ 3) && decide ((chs B 9).length ≤ 3)
theorem fac_all : ∀ (n : Fin 4) (a : Fin 3) (b : Fin 5) (c : Fin 7), fac (n.1 + 3) (pbr (d345 a.1 b.1 c.1) (n.1 + 3)) = true := by decide +kernel
theorem pbr_congr {dg dg' : Nat → Nat} : ∀ n : Nat, (∀ r, 3 ≤ r → r < n → dg r = dg' r) → pbr dg n = pbr dg' n
  | 0, _ => rfl
  | n + 1, h => by
    have i := pbr_congr n (fun r a b => h r a (by omega))
    simp only [pbr]
    by_cases e : n < 3
    · rw [if_pos e, if_pos e, i]
    · rw [if_neg e, if_neg e, i, h n (by omega) (by omega)]
theorem fac_of {dg : Nat → Nat} {n : Nat} (n3 : 3 ≤ n) (n6 : n ≤ 6) (h : ∀ r, 3 ≤ r → r < n → dg r < 2 * r - 3) : fac n (pbr dg n) = true := by
  have h3 : 3 < n → dg 3 < 3 := fun q => h 3 (by omega) q
  have h4 : 4 < n → dg 4 < 5 := fun q => h 4 (by omega) q
  have h5 : 5 < n → dg 5 < 7 := fun q => h 5 (by omega) q
  have f := fac_all ⟨n - 3, by omega⟩ ⟨if 3 < n then dg 3 else 0, by split <;> omega⟩ ⟨if 4 < n then dg 4 else 0, by split <;> omega⟩ ⟨if 5 < n then dg 5 else 0, by split <;> omega⟩
  simp only [show n - 3 + 3 = n by omega] at f
  rw [pbr_congr n (dg' := d345 (if 3 < n then dg 3 else 0) (if 4 < n then dg 4 else 0) (if 5 < n then dg 5 else 0)) (fun r a b => ?_)]
  · exact f
  · unfold d345
    have : r = 3 ∨ r = 4 ∨ r = 5 := by omega
    rcases this with rfl | rfl | rfl
    · rw [if_pos rfl, if_pos b]
    · rw [if_neg (by omega), if_pos rfl, if_pos b]
    · rw [if_neg (by omega), if_neg (by omega), if_pos b]
theorem pbr_len {dg : Nat → Nat} : ∀ n : Nat, (pbr dg n).length = if n ≤ 3 then n else 2 * n - 3
  | 0 => rfl
  | n + 1 => by
    have i := pbr_len (dg := dg) n
    simp only [pbr]
    by_cases e : n < 3
    · rw [if_pos e, List.length_append, i, if_pos (by omega), if_pos (by omega)]; rfl
    · rw [if_neg e, List.length_append, List.length_set, i]
      show _ + 2 = _
      rw [if_neg (show ¬ n + 1 ≤ 3 by omega)]
      by_cases e2 : n ≤ 3
      · rw [if_pos e2]; omega
      · rw [if_neg e2]; omega
def lsum (f : Nat → Int) : List Nat → Int
  | [] => 0
  | w :: l => f w + lsum f l
theorem lsum_app {f : Nat → Int} : ∀ l l' : List Nat, lsum f (l ++ l') = lsum f l + lsum f l'
  | [], l' => by simp [lsum]
  | w :: l, l' => by
    show f w + lsum f (l ++ l') = f w + lsum f l + lsum f l'
    rw [lsum_app l l']; omega
theorem lsum_rev {f : Nat → Int} : ∀ l : List Nat, lsum f l.reverse = lsum f l
  | [] => rfl
  | w :: l => by
    rw [List.reverse_cons, lsum_app, lsum_rev l]
    simp only [lsum]
    omega
/-- the least over a branch -/
def emk (g : Int → Int) (s : Int) : Nat → Int
  | 0 => 1000000
  | k + 1 => min (emk g s k) (g k + if (k : Int) = s then 0 else 1)
def emn (g : Int → Int) (s : Int) : Int := emk g s 6
theorem emk_ge {g : Int → Int} {s x : Int} (hx : x ≤ 1000000) : ∀ k : Nat, (∀ t : Int, 0 ≤ t → t < k → x ≤ g t + if t = s then 0 else 1) → x ≤ emk g s k
  | 0, _ => hx
  | k + 1, h => by
    simp only [emk]
    have := emk_ge hx k (fun t a b => h t a (by omega))
    have := h k (by omega) (by omega)
    omega
theorem emk_le {g : Int → Int} {s t : Int} (t0 : 0 ≤ t) : ∀ k : Nat, t < k → emk g s k ≤ g t + if t = s then 0 else 1
  | 0, h => by omega
  | k + 1, h => by
    simp only [emk]
    by_cases e : t = k
    · rw [e]; exact Int.min_le_right _ _
    · have := emk_le (g := g) (s := s) t0 k (by omega)
      omega
theorem emk_at {g : Int → Int} {s : Int} : ∀ k : Nat, emk g s k = 1000000 ∨ ∃ t : Int, 0 ≤ t ∧ t < k ∧ emk g s k = g t + if t = s then 0 else 1
  | 0 => Or.inl rfl
  | k + 1 => by
    simp only [emk]
    by_cases e : emk g s k ≤ g k + if (k : Int) = s then 0 else 1
    · rw [Int.min_eq_left e]
      rcases emk_at (g := g) (s := s) k with h | ⟨t, a, b, c⟩
      · exact Or.inl h
      · exact Or.inr ⟨t, a, by omega, c⟩
    · rw [Int.min_eq_right (by omega)]
      exact Or.inr ⟨k, by omega, by omega, rfl⟩
theorem emk_congr {g g' : Int → Int} {s : Int} : ∀ k : Nat, (∀ t : Int, 0 ≤ t → t < k → g t = g' t) → emk g s k = emk g' s k
  | 0, _ => rfl
  | k + 1, h => by
    simp only [emk]
    rw [emk_congr k (fun t a b => h t a (by omega)), h k (by omega) (by omega)]
theorem emk_rg {g : Int → Int} {s : Int} (h : ∀ t : Int, 0 ≤ t → t < 6 → 0 ≤ g t) : 0 ≤ emn g s ∧ emn g s ≤ 1000000 := by
  refine ⟨emk_ge (by omega) 6 (fun t a b => by have := h t a b; split <;> omega), ?_⟩
  have : ∀ k : Nat, emk g s k ≤ 1000000 := fun k => by
    induction k with
    | zero => exact Int.le_refl _
    | succ k ih => simp only [emk]; omega
  exact this 6
theorem emn_eq {g : Int → Int} {s x : Int} (hx : x ≤ 1000000) (h : ∀ t : Int, 0 ≤ t → t < 6 → x ≤ g t + if t = s then 0 else 1) (h2 : ∃ t : Int, 0 ≤ t ∧ t < 6 ∧ g t + (if t = s then 0 else 1) ≤ x) : emn g s = x := by
  obtain ⟨t, a, b, c⟩ := h2
  have := emk_ge hx 6 h
  have := emk_le (g := g) (s := s) a 6 b
  unfold emn
  omega
/-- 1 beyond a set -/
noncomputable def ind (S s : Int) : Int := cif (bt S s) 0 1
theorem ind_t {S s : Int} (h : bt S s) : ind S s = 0 := by unfold ind; rw [cif_t h]
theorem ind_f {S s : Int} (h : ¬ bt S s) : ind S s = 1 := by unfold ind; rw [cif_f h]
theorem ind_rg (S s : Int) : 0 ≤ ind S s ∧ ind S s ≤ 1 := by
  by_cases h : bt S s
  · rw [ind_t h]; omega
  · rw [ind_f h]; omega
theorem set_some {A : Int} (a0 : 0 < A) (a1 : A < 64) : ∃ s : Int, 0 ≤ s ∧ s < 6 ∧ bt A s := by
  by_cases h : ∃ s : Int, 0 ≤ s ∧ s < 6 ∧ bt A s
  · exact h
  · exfalso
    have := bt_ext (x := A) (y := 0) 6 (by omega) (by rw [pw6]; exact a1) (by omega) (by rw [pw6]; omega) (fun k k0 k1 => ⟨fun q => absurd ⟨k, k0, k1, q⟩ h, fun q => absurd q bt_0⟩)
    omega
theorem set_and {A B : Int} (a0 : 0 < A) (a1 : A < 64) (b0 : 0 < B) (b1 : B < 64) (h : iand A B ≠ 0) : (0 < iand A B ∧ iand A B < 64) ∧ ∀ s, bt (iand A B) s ↔ bt A s ∧ bt B s := by
  have r := and_rg (x := A) (y := B) (by omega) (by omega) (by omega) (by omega)
  exact ⟨by omega, fun s => bt_and (by omega) (by omega) (by omega) (by omega)⟩
theorem set_or {A B : Int} (a0 : 0 < A) (a1 : A < 64) (b0 : 0 < B) (b1 : B < 64) (h : iand A B = 0) : (0 < ior A B ∧ ior A B < 64) ∧ (∀ s, bt (ior A B) s ↔ bt A s ∨ bt B s) ∧ ∀ s, ¬ (bt A s ∧ bt B s) := by
  have r := or_rg (x := A) (y := B) 6 (by omega) (by omega) (by rw [pw6]; exact a1) (by omega) (by rw [pw6]; exact b1)
  rw [pw6] at r
  have o : ∀ s, bt (ior A B) s ↔ bt A s ∨ bt B s := fun s => bt_or (by omega) (by omega) (by omega) (by omega)
  refine ⟨⟨?_, r.2⟩, o, fun s q => ?_⟩
  · obtain ⟨s, s0, s1, hs⟩ := set_some a0 a1
    have : ior A B ≠ 0 := fun e => by
      have := (o s).mpr (Or.inl hs)
      rw [e] at this
      exact bt_0 this
    omega
  · have := (bt_and (x := A) (y := B) (k := s) (by omega) (by omega) (by omega) (by omega)).mpr q
    rw [h] at this
    exact bt_0 this
/-- two branches meet -/
theorem two_and {g : Int → Int} {A B K : Int} (k1 : K + 2 ≤ 1000000) (hg : ∀ s : Int, 0 ≤ s → s < 6 → g s = K + ind A s + ind B s) (a0 : 0 < A) (a1 : A < 64) (b0 : 0 < B) (b1 : B < 64) (h : iand A B ≠ 0) (s : Int) (s0 : 0 ≤ s) (s1 : s < 6) : emn g s = K + ind (iand A B) s := by
  obtain ⟨⟨r0, r1⟩, hb⟩ := set_and a0 a1 b0 b1 h
  obtain ⟨u, u0, u1, hu⟩ := set_some r0 r1
  obtain ⟨ua, ub⟩ := (hb u).mp hu
  by_cases e : bt (iand A B) s
  · obtain ⟨sa, sb⟩ := (hb s).mp e
    rw [ind_t e]
    refine emn_eq (by omega) (fun t t0 t1 => ?_) ⟨s, s0, s1, ?_⟩
    · rw [hg t t0 t1]
      have := ind_rg A t
      have := ind_rg B t
      split <;> omega
    · rw [hg s s0 s1, ind_t sa, ind_t sb, if_pos rfl]; omega
  · rw [ind_f e]
    refine emn_eq (by omega) (fun t t0 t1 => ?_) ⟨u, u0, u1, ?_⟩
    · rw [hg t t0 t1]
      have := ind_rg A t
      have := ind_rg B t
      by_cases ts : t = s
      · rw [if_pos ts]
        subst ts
        by_cases ta : bt A t
        · rw [ind_f (S := B) (fun q => e ((hb t).mpr ⟨ta, q⟩))]; omega
        · rw [ind_f (S := A) ta]; omega
      · rw [if_neg ts]; omega
    · rw [hg u u0 u1, ind_t ua, ind_t ub, if_neg (fun q : u = s => e (q ▸ hu))]; omega
theorem two_or {g : Int → Int} {A B K : Int} (k1 : K + 2 ≤ 1000000) (hg : ∀ s : Int, 0 ≤ s → s < 6 → g s = K + ind A s + ind B s) (a0 : 0 < A) (a1 : A < 64) (b0 : 0 < B) (b1 : B < 64) (h : iand A B = 0) (s : Int) (s0 : 0 ≤ s) (s1 : s < 6) : emn g s = K + 1 + ind (ior A B) s := by
  obtain ⟨⟨r0, r1⟩, hb, hd⟩ := set_or a0 a1 b0 b1 h
  obtain ⟨u, u0, u1, hu⟩ := set_some a0 a1
  have ge : ∀ t, 1 ≤ ind A t + ind B t := fun t => by
    have := ind_rg A t
    have := ind_rg B t
    by_cases ta : bt A t
    · rw [ind_f (S := B) (fun q => hd t ⟨ta, q⟩)]; omega
    · rw [ind_f (S := A) ta]; omega
  by_cases e : bt (ior A B) s
  · rw [ind_t e]
    refine emn_eq (by omega) (fun t t0 t1 => ?_) ⟨s, s0, s1, ?_⟩
    · rw [hg t t0 t1]
      have := ge t
      split <;> omega
    · rw [hg s s0 s1, if_pos rfl]
      rcases (hb s).mp e with q | q
      · rw [ind_t q, ind_f (S := B) (fun q' => hd s ⟨q, q'⟩)]; omega
      · rw [ind_t q, ind_f (S := A) (fun q' => hd s ⟨q', q⟩)]; omega
  · rw [ind_f e]
    refine emn_eq (by omega) (fun t t0 t1 => ?_) ⟨u, u0, u1, ?_⟩
    · rw [hg t t0 t1]
      have := ge t
      by_cases ts : t = s
      · subst ts
        rw [if_pos rfl, ind_f (S := A) (fun q => e ((hb t).mpr (Or.inl q))), ind_f (S := B) (fun q => e ((hb t).mpr (Or.inr q)))]
        omega
      · rw [if_neg ts]; omega
    · rw [hg u u0 u1, ind_t hu, ind_f (S := B) (fun q => hd u ⟨hu, q⟩), if_neg (fun q : u = s => e (q ▸ (hb u).mpr (Or.inl hu)))]
      omega
/-- the third branch of the first knot -/
theorem three {g h : Int → Int} {A B K L d : Int} (k1 : K ≤ 900000) (hg : ∀ s : Int, 0 ≤ s → s < 6 → emn g s = K + ind A s) (hh : ∀ s : Int, 0 ≤ s → s < 6 → h s = L + ind B s) (a0 : 0 < A) (a1 : A < 64) (b0 : 0 < B) (b1 : B < 64) (hd : (iand A B ≠ 0 ∧ d = 0) ∨ (iand A B = 0 ∧ d = 1)) :
    (∀ s : Int, 0 ≤ s → s < 6 → K + L + d ≤ g s + h s) ∧ ∃ s : Int, 0 ≤ s ∧ s < 6 ∧ g s + h s = K + L + d := by
  have lo : ∀ s : Int, 0 ≤ s → s < 6 → K + ind A s ≤ g s := fun s s0 s1 => by
    have := emk_le (g := g) (s := s) s0 6 s1
    rw [if_pos rfl] at this
    have := hg s s0 s1
    unfold emn at this
    omega
  have ex : ∀ s : Int, 0 ≤ s → s < 6 → bt A s → g s = K := fun s s0 s1 hs => by
    have e := hg s s0 s1
    rw [ind_t hs] at e
    rcases emk_at (g := g) (s := s) 6 with q | ⟨t, t0, t1, q⟩
    · unfold emn at e; omega
    · unfold emn at e
      by_cases ts : t = s
      · subst ts
        rw [if_pos rfl] at q
        omega
      · rw [if_neg ts] at q
        have := lo t t0 (by omega)
        have := ind_rg A t
        omega
  rcases hd with ⟨hd, rfl⟩ | ⟨hd, rfl⟩
  · obtain ⟨⟨r0, r1⟩, hb⟩ := set_and a0 a1 b0 b1 hd
    obtain ⟨u, u0, u1, hu⟩ := set_some r0 r1
    obtain ⟨ua, ub⟩ := (hb u).mp hu
    refine ⟨fun s s0 s1 => ?_, u, u0, u1, ?_⟩
    · have := lo s s0 s1
      have := ind_rg A s
      have := ind_rg B s
      rw [hh s s0 s1]; omega
    · rw [ex u u0 u1 ua, hh u u0 u1, ind_t ub]; omega
  · obtain ⟨⟨r0, r1⟩, hb, hn⟩ := set_or a0 a1 b0 b1 hd
    obtain ⟨u, u0, u1, hu⟩ := set_some a0 a1
    refine ⟨fun s s0 s1 => ?_, u, u0, u1, ?_⟩
    · have := lo s s0 s1
      have := ind_rg A s
      have := ind_rg B s
      rw [hh s s0 s1]
      by_cases ta : bt A s
      · rw [ind_f (S := B) (fun q => hn s ⟨ta, q⟩)]; omega
      · rw [ind_f (S := A) ta] at *; omega
    · rw [ex u u0 u1 hu, hh u u0 u1, ind_f (S := B) (fun q => hn u ⟨hu, q⟩)]; omega
theorem fsum_one {f f' : Int → Int} {v : Int} : ∀ n : Nat, (∀ k : Int, 0 ≤ k → k < n → k ≠ v → f' k = f k) → 0 ≤ v → fsum f' n = fsum f n + cif (v < n) (f' v - f v) 0
  | 0, _, v0 => by rw [cif_f (by omega)]; rfl
  | n + 1, h, v0 => by
    have i := fsum_one n (fun k a b c => h k a (by omega) c) v0
    show fsum f' n + f' n = fsum f n + f n + _
    rw [i]
    by_cases e : v = n
    · rw [cif_f (by omega), cif_t (by omega), e]; omega
    · rw [h n (by omega) (by omega) (fun q => e q.symm)]
      by_cases e2 : v < n
      · rw [cif_t e2, cif_t (by omega)]; omega
      · rw [cif_f e2, cif_f (by omega)]; omega
theorem fsum_ge1 {f : Int → Int} {v : Int} (h : ∀ k, 0 ≤ f k) : ∀ n : Nat, 0 ≤ v → v < n → f v ≤ fsum f n ∧ 0 ≤ fsum f n
  | 0, v0, v1 => by omega
  | n + 1, v0, v1 => by
    show f v ≤ fsum f n + f n ∧ 0 ≤ fsum f n + f n
    have hn := h n
    have nn : ∀ m : Nat, 0 ≤ fsum f m := fun m => by
      induction m with
      | zero => exact Int.le_refl _
      | succ m ih => show 0 ≤ fsum f m + f m; have := h m; omega
    have := nn n
    by_cases e : v = n
    · rw [e]; omega
    · have := fsum_ge1 h n v0 (by omega)
      omega
