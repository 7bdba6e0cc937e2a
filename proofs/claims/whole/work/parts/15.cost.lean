/-! ===== COST ===== -/
def vow (x : Int) : Int := if x = 1 ∨ x = 5 ∨ x = 9 ∨ x = 15 ∨ x = 21 then 1 else 0
theorem vow_01 (x : Int) : 0 ≤ vow x ∧ vow x ≤ 1 := by unfold vow; split <;> omega
def apt (x y : Int) : Int := if x = y then 0 else if vow x = vow y then 1 else 3
theorem apt_rg (x y : Int) : 0 ≤ apt x y ∧ apt x y ≤ 3 := by unfold apt; split <;> (try split) <;> omega
theorem apt_comm (x y : Int) : apt x y = apt y x := by
  unfold apt
  by_cases h : x = y
  · rw [if_pos h, if_pos h.symm]
  · rw [if_neg h, if_neg (Ne.symm h)]
    by_cases h2 : vow x = vow y
    · rw [if_pos h2, if_pos h2.symm]
    · rw [if_neg h2, if_neg (Ne.symm h2)]
/-- least cost of what is left of two WORDS, by fuel -/
def ecf (a b : Int → Int) (u v : Int) : Nat → Int → Int → Int
  | 0, _, _ => 0
  | n + 1, i, j => if i < u ∧ j < v then min (apt (a i) (b j) + ecf a b u v n (i + 1) (j + 1)) (min (2 + ecf a b u v n (i + 1) j) (2 + ecf a b u v n i (j + 1))) else 2 * (u - i + v - j)
def ec (a b : Int → Int) (u v i j : Int) : Int := ecf a b u v (u - i + (v - j)).toNat i j
theorem ecf_step (a b : Int → Int) (u v : Int) : ∀ (n : Nat) (i j : Int), i ≤ u → j ≤ v → u - i + (v - j) ≤ n → ecf a b u v (n + 1) i j = ecf a b u v n i j := by
  intro n
  induction n with
  | zero =>
    intro i j h1 h2 h3
    have : i = u := by omega
    have : j = v := by omega
    simp only [ecf]
    rw [if_neg (by omega)]
    omega
  | succ n ih =>
    intro i j h1 h2 h3
    show (if i < u ∧ j < v then min (apt (a i) (b j) + ecf a b u v (n + 1) (i + 1) (j + 1)) (min (2 + ecf a b u v (n + 1) (i + 1) j) (2 + ecf a b u v (n + 1) i (j + 1))) else 2 * (u - i + v - j)) = ecf a b u v (n + 1) i j
    by_cases hc : i < u ∧ j < v
    · rw [if_pos hc, ih _ _ (by omega) (by omega) (by omega), ih _ _ (by omega) (by omega) (by omega), ih _ _ (by omega) (by omega) (by omega)]
      simp only [ecf]
      rw [if_pos hc]
    · rw [if_neg hc]
      simp only [ecf]
      rw [if_neg hc]
theorem ecf_ec (a b : Int → Int) (u v : Int) (n : Nat) (i j : Int) (h1 : i ≤ u) (h2 : j ≤ v) (h3 : u - i + (v - j) ≤ n) : ecf a b u v n i j = ec a b u v i j := by
  unfold ec
  obtain ⟨k, hk⟩ : ∃ k : Nat, n = (u - i + (v - j)).toNat + k := ⟨n - (u - i + (v - j)).toNat, by omega⟩
  subst hk
  induction k with
  | zero => rfl
  | succ k ih =>
    rw [← Nat.add_assoc, ecf_step a b u v _ i j h1 h2 (by omega)]
    exact ih (by omega)
theorem ec_in {a b : Int → Int} {u v i j : Int} (h1 : i < u) (h2 : j < v) : ec a b u v i j = min (apt (a i) (b j) + ec a b u v (i + 1) (j + 1)) (min (2 + ec a b u v (i + 1) j) (2 + ec a b u v i (j + 1))) := by
  obtain ⟨n, hn⟩ : ∃ n : Nat, (u - i + (v - j)).toNat = n + 1 := ⟨(u - i + (v - j)).toNat - 1, by omega⟩
  have e : ec a b u v i j = ecf a b u v (n + 1) i j := by unfold ec; rw [hn]
  rw [e]
  simp only [ecf]
  rw [if_pos ⟨h1, h2⟩, ecf_ec a b u v n _ _ (by omega) (by omega) (by omega), ecf_ec a b u v n _ _ (by omega) (by omega) (by omega), ecf_ec a b u v n _ _ (by omega) (by omega) (by omega)]
theorem ec_out {a b : Int → Int} {u v i j : Int} (h1 : i ≤ u) (h2 : j ≤ v) (h : u ≤ i ∨ v ≤ j) : ec a b u v i j = 2 * (u - i + v - j) := by
  unfold ec
  generalize hn : (u - i + (v - j)).toNat = n
  cases n with
  | zero => simp only [ecf]; omega
  | succ n => simp only [ecf]; rw [if_neg (by omega)]
theorem ec_rg (a b : Int → Int) (u v : Int) : ∀ (n : Nat) (i j : Int), i ≤ u → j ≤ v → u - i + (v - j) = n → 0 ≤ ec a b u v i j ∧ ec a b u v i j ≤ 2 * (u - i + v - j) := by
  intro n
  induction n using Nat.strongRecOn with
  | _ n ih =>
    intro i j h1 h2 h3
    by_cases h : i < u ∧ j < v
    · rw [ec_in h.1 h.2]
      have p := ih (n - 2) (by omega) (i + 1) (j + 1) (by omega) (by omega) (by omega)
      have q := ih (n - 1) (by omega) (i + 1) j (by omega) (by omega) (by omega)
      have r := ih (n - 1) (by omega) i (j + 1) (by omega) (by omega) (by omega)
      have s := apt_rg (a i) (b j)
      omega
    · rw [ec_out h1 h2 (by omega)]
      omega
theorem ec_rg8 {a b : Int → Int} {u v i j : Int} (h0 : 0 ≤ i) (h1 : i ≤ u) (h2 : 0 ≤ j) (h3 : j ≤ v) (hu : u ≤ 8) (hv : v ≤ 8) : 0 ≤ ec a b u v i j ∧ ec a b u v i j ≤ 32 := by
  have := ec_rg a b u v (u - i + (v - j)).toNat i j h1 h3 (by omega)
  omega
theorem ec_symm (a b : Int → Int) (u v : Int) : ∀ (n : Nat) (i j : Int), i ≤ u → j ≤ v → u - i + (v - j) = n → ec a b u v i j = ec b a v u j i := by
  intro n
  induction n using Nat.strongRecOn with
  | _ n ih =>
    intro i j h1 h2 h3
    by_cases h : i < u ∧ j < v
    · rw [ec_in h.1 h.2, ec_in h.2 h.1, apt_comm, ih (n - 2) (by omega) (i + 1) (j + 1) (by omega) (by omega) (by omega), ih (n - 1) (by omega) (i + 1) j (by omega) (by omega) (by omega), ih (n - 1) (by omega) i (j + 1) (by omega) (by omega) (by omega)]
      omega
    · rw [ec_out h1 h2 (by omega), ec_out h2 h1 (by omega)]
      omega
theorem ec_congr {a b a' b' : Int → Int} {u v : Int} : ∀ (n : Nat) (i j : Int), 0 ≤ i → 0 ≤ j → i ≤ u → j ≤ v → u - i + (v - j) = n → (∀ k, 0 ≤ k → k < u → a k = a' k) → (∀ k, 0 ≤ k → k < v → b k = b' k) → ec a b u v i j = ec a' b' u v i j := by
  intro n
  induction n using Nat.strongRecOn with
  | _ n ih =>
    intro i j i0 j0 h1 h2 h3 ha hb
    by_cases h : i < u ∧ j < v
    · rw [ec_in h.1 h.2, ec_in h.1 h.2, ha i i0 h.1, hb j j0 h.2, ih (n - 2) (by omega) (i + 1) (j + 1) (by omega) (by omega) (by omega) (by omega) (by omega) ha hb, ih (n - 1) (by omega) (i + 1) j (by omega) (by omega) (by omega) (by omega) (by omega) ha hb, ih (n - 1) (by omega) i (j + 1) (by omega) (by omega) (by omega) (by omega) (by omega) ha hb]
    · rw [ec_out h1 h2 (by omega), ec_out h1 h2 (by omega)]
/-- the table behind place (i, j), row by row -/
def tab (c : Int) (D : mmD) (a b : Int → Int) (u v i j : Int) : Prop := ∀ p q : Int, 0 ≤ p → p ≤ u → 0 ≤ q → q ≤ v → (i < p ∨ (p = i ∧ j < q)) → D c (9 * p + q) = ec a b u v p q
theorem tab.put {c : Int} {D D' : mmD} {a b : Int → Int} {u v i j x : Int} (h : tab c D a b u v i j) (hv : v ≤ 8) (hj : 0 ≤ j) (hj2 : j ≤ v) (hx : x = ec a b u v i j) (he : D' = up2 D c (9 * i + j) x) : tab c D' a b u v i (j - 1) := by
  intro p q p0 p1 q0 q1 hpq
  rw [he]
  by_cases hh : p = i ∧ q = j
  · obtain ⟨rfl, rfl⟩ := hh
    rw [up2_same, hx]
  · rw [up2_ne (by omega)]
    exact h p q p0 p1 q0 q1 (by omega)
theorem tab.row {c : Int} {D : mmD} {a b : Int → Int} {u v i : Int} (h : tab c D a b u v i (-1)) : tab c D a b u v (i - 1) v := by
  intro p q p0 p1 q0 q1 hpq
  exact h p q p0 p1 q0 q1 (by omega)
section Cost
variable {E : mmE} {d kc ks : Nat} {G : mmG} {D : mmD} {P : Int → mmD → Prop} {x y : Int}
theorem c_isVowel (hG : Sh G) (hx : rg x) (h : P (vow (x + 1)) D) : Call E d kc ks mX11_isVowel [vI x] G D (retI G P) := by
  unfold rg at hx
  unfold vow at h
  refine w_X11_isVowel hG (br_eq (fun a => ?_) (fun a => br_eq (fun b => ?_) (fun b => br_eq (fun c => ?_) (fun c => br_eq (fun e => ?_) (fun e => br_ne (fun f => ?_) (fun f => ?_))))))
  · rw [if_pos (by omega)] at h; exact rI h
  · rw [if_pos (by omega)] at h; exact rI h
  · rw [if_pos (by omega)] at h; exact rI h
  · rw [if_pos (by omega)] at h; exact rI h
  · rw [if_neg (by omega)] at h; exact rI h
  · rw [if_pos (by omega)] at h; exact rI h
theorem c_rVowel (hG : Sh G) (hx : rg x) (h : P (vow x) D) : Call E d kc ks mX12_isVowel [vI x] G D (retI G P) := by
  unfold rg at hx
  unfold vow at h
  refine w_X12_isVowel hG (br_eq (fun a => ?_) (fun a => br_eq (fun b => ?_) (fun b => br_eq (fun c => ?_) (fun c => br_eq (fun e => ?_) (fun e => br_ne (fun f => ?_) (fun f => ?_))))))
  · rw [if_pos (by omega)] at h; exact rI h
  · rw [if_pos (by omega)] at h; exact rI h
  · rw [if_pos (by omega)] at h; exact rI h
  · rw [if_pos (by omega)] at h; exact rI h
  · rw [if_neg (by omega)] at h; exact rI h
  · rw [if_pos (by omega)] at h; exact rI h
theorem c_apart (hG : Sh G) (hx : rg x) (hy : rg y) (h : P (apt x y) D) : Call E (d + 1) kc ks mX12_apart [vI x, vI y] G D (retI G P) := by
  have hx' := hx
  have hy' := hy
  unfold rg at hx' hy'
  unfold apt at h
  have v1 := vow_01 x
  have v2 := vow_01 y
  refine w_X12_apart hG (br_ne (fun a => c_rVowel hG hx (c_rVowel hG hy (br_ne (fun b => rI ?_) (fun b => rI ?_)))) (fun a => rI ?_))
  · rw [if_neg a, if_neg b] at h; exact h
  · rw [if_neg a, if_pos b] at h; exact h
  · rw [if_pos a] at h; exact h
end Cost
section Least
variable {E : mmE} {d kc ks : Nat} {G : mmG} {D : mmD} {P : Int → mmD → Prop} {r1 r2 : Int}
theorem c_costOfBoth {i j : Int} (hG : Sh G) (hw1 : isW r1) (hw2 : isW r2) (hi : 0 ≤ i ∧ i < 8) (hj : 0 ≤ j ∧ j < 8) (h1 : 0 ≤ D (r1 + 1) i ∧ D (r1 + 1) i < 26) (h2 : 0 ≤ D (r2 + 1) j ∧ D (r2 + 1) j < 26)
    (h : P (apt (D (r1 + 1) i + 1) (D (r2 + 1) j + 1) + D 10 (9 * (i + 1) + (j + 1))) D) : Call E (d + 1) kc ks mX7_costOfBoth [vR 9, vR r1, vR r2, vI i, vI j] G D (retI G P) := by
  have e : (i + 1) * 9 + j + 1 = 9 * (i + 1) + (j + 1) := by omega
  have v1 := vow_01 (D (r1 + 1) i + 1)
  have v2 := vow_01 (D (r2 + 1) j + 1)
  unfold apt at h
  refine w_X7_costOfBoth hG hw1 hw2 ⟨hi, hj, by omega, ?_⟩
  rw [e]
  refine br_ne (fun a => c_isVowel hG (by unfold rg; omega) (c_isVowel hG (by unfold rg; omega) (br_ne (fun b => rI ?_) (fun b => rI ?_)))) (fun a => rI ?_)
  · rw [if_neg (by omega), if_neg b, Int.add_comm] at h; exact h
  · rw [if_neg (by omega), if_pos b, Int.add_comm] at h; exact h
  · rw [if_pos (by omega), Int.zero_add] at h; exact h
/-- letters of a WORD of the class, from 1 on -/
abbrev cla (D : mmD) (r : Int) : Int → Int := fun i => D (r + 1) i + 1
theorem l_least15 {D0 : mmD} {Q : mmQ} {u v : Int} (hG : Sh G) (hw1 : isW r1) (hw2 : isW r2) (hu : D0 r1 1 = u ∧ 0 ≤ u ∧ u ≤ 8) (hv : D0 r2 1 = v ∧ 0 ≤ v ∧ v ≤ 8) (l1 : ∀ k, 0 ≤ k → k < u → 0 ≤ D0 (r1 + 1) k ∧ D0 (r1 + 1) k < 26) (l2 : ∀ k, 0 ≤ k → k < v → 0 ≤ D0 (r2 + 1) k ∧ D0 (r2 + 1) k < 26) {i : Int} (hi : 0 ≤ i ∧ i ≤ u)
    (K : ∀ D' : mmD, (∀ c k, c ≠ 10 → D' c k = D0 c k) → tab 10 D' (cla D0 r1) (cla D0 r2) u v i (-1) → Go E (d + 2) kc ks mX7_leastCost 5 [some (vR 9), some (vR r1), some (vR r2), some (vI (i + (-1))), none, none, none] [] G D' Q) :
    ∀ (n : Nat) (D : mmD) (j : Int), j + 1 = n → j ≤ v → (∀ c k, c ≠ 10 → D c k = D0 c k) → tab 10 D (cla D0 r1) (cla D0 r2) u v i j → Go E (d + 2) kc ks mX7_leastCost 15 [some (vR 9), some (vR r1), some (vR r2), some (vI i), some (vI j), none, none] [] G D Q := by
  intro n
  induction n with
  | zero =>
    intro D j hj hjv ha ht
    have e : j = -1 := by omega
    subst e
    exact w_X7_leastCost_15 hG (br_lt (fun _ => K D ha ht) (fun h => by omega))
  | succ n ih =>
    intro D j hj hjv ha ht
    have w1 : r1 ≠ 10 ∧ r1 + 1 ≠ 10 := by unfold isW at hw1; omega
    have w2 : r2 ≠ 10 ∧ r2 + 1 ≠ 10 := by unfold isW at hw2; omega
    have e1 : D r1 1 = u := by rw [ha _ _ w1.1]; exact hu.1
    have e2 : D r2 1 = v := by rw [ha _ _ w2.1]; exact hv.1
    have e3 : i * 9 + j = 9 * i + j := by omega
    have up : ∀ (x : Int) (D' : mmD), D' = up2 D 10 (9 * i + j) x → x = ec (cla D0 r1) (cla D0 r2) u v i j → Go E (d + 2) kc ks mX7_leastCost 15 [some (vR 9), some (vR r1), some (vR r2), some (vI i), some (vI (j + (-1))), none, none] [] G D' Q := by
      intro x D' he hx
      refine ih D' (j + (-1)) (by omega) (by omega) (fun c k hc => ?_) (ht.put hv.2.2 (by omega) hjv hx he)
      rw [he, up2_ne (by omega)]
      exact ha c k hc
    refine w_X7_leastCost_15 hG (br_lt (fun h => by omega) (fun _ => ⟨hw1, hw2, ?_⟩))
    rw [e1, e2, e3]
    refine br_le (fun h => ⟨⟨by omega, by omega⟩, fun D3 he => up _ D3 he (by rw [ec_out (by omega) hjv (by omega)])⟩) (fun h => ?_)
    refine br_le (fun h' => ⟨⟨by omega, by omega⟩, fun D3 he => up _ D3 he (by rw [ec_out (by omega) hjv (by omega)])⟩) (fun h' => ?_)
    refine ⟨⟨by omega, by omega⟩, ⟨by omega, by omega⟩, ?_⟩
    have p1 := l1 i (by omega) (by omega)
    have p2 := l2 j (by omega) (by omega)
    have q1 : D (r1 + 1) i = D0 (r1 + 1) i := ha _ _ w1.2
    have q2 : D (r2 + 1) j = D0 (r2 + 1) j := ha _ _ w2.2
    refine c_costOfBoth hG hw1 hw2 (by omega) (by omega) (by rw [q1]; exact p1) (by rw [q2]; exact p2) ⟨⟨by omega, by omega⟩, fun D7 he => up _ D7 he ?_⟩
    have t1 : D 10 (9 * i + j + 1) = ec (cla D0 r1) (cla D0 r2) u v i (j + 1) := by
      have := ht i (j + 1) (by omega) (by omega) (by omega) (by omega) (by omega)
      rw [← this]; congr 1; omega
    have t2 : D 10 ((i + 1) * 9 + j) = ec (cla D0 r1) (cla D0 r2) u v (i + 1) j := by
      have := ht (i + 1) j (by omega) (by omega) (by omega) (by omega) (by omega)
      rw [← this]; congr 1; omega
    have t3 : D 10 (9 * (i + 1) + (j + 1)) = ec (cla D0 r1) (cla D0 r2) u v (i + 1) (j + 1) := ht (i + 1) (j + 1) (by omega) (by omega) (by omega) (by omega) (by omega)
    rw [t1, t2, t3, q1, q2]
    have b1 := ec_rg8 (a := cla D0 r1) (b := cla D0 r2) (u := u) (v := v) (i := i) (j := j + 1) (by omega) (by omega) (by omega) (by omega) hu.2.2 hv.2.2
    have b2 := ec_rg8 (a := cla D0 r1) (b := cla D0 r2) (u := u) (v := v) (i := i + 1) (j := j) (by omega) (by omega) (by omega) (by omega) hu.2.2 hv.2.2
    have b3 := ec_rg8 (a := cla D0 r1) (b := cla D0 r2) (u := u) (v := v) (i := i + 1) (j := j + 1) (by omega) (by omega) (by omega) (by omega) hu.2.2 hv.2.2
    have b4 := apt_rg (D0 (r1 + 1) i + 1) (D0 (r2 + 1) j + 1)
    rw [ec_in h h']
    show _ = min (apt (D0 (r1 + 1) i + 1) (D0 (r2 + 1) j + 1) + _) _
    generalize ec (cla D0 r1) (cla D0 r2) u v i (j + 1) = A at *
    generalize ec (cla D0 r1) (cla D0 r2) u v (i + 1) j = B at *
    generalize ec (cla D0 r1) (cla D0 r2) u v (i + 1) (j + 1) = C at *
    generalize apt (D0 (r1 + 1) i + 1) (D0 (r2 + 1) j + 1) = F at *
    have i1 := iv_lt (a := A) (b := B) (by omega) (by omega) (by omega) (by omega)
    simp only [i1]
    by_cases hab : A < B
    · rw [if_pos hab]
      have i2 := iv_lt (a := 2 + A) (b := F + C) (by omega) (by omega) (by omega) (by omega)
      simp only [i2]
      split <;> omega
    · rw [if_neg hab]
      have i2 := iv_lt (a := 2 + B) (b := F + C) (by omega) (by omega) (by omega) (by omega)
      simp only [i2]
      split <;> omega
theorem c_least {u v : Int} (hG : Sh G) (hw1 : isW r1) (hw2 : isW r2) (hu : D r1 1 = u ∧ 0 ≤ u ∧ u ≤ 8) (hv : D r2 1 = v ∧ 0 ≤ v ∧ v ≤ 8) (l1 : ∀ k, 0 ≤ k → k < u → 0 ≤ D (r1 + 1) k ∧ D (r1 + 1) k < 26) (l2 : ∀ k, 0 ≤ k → k < v → 0 ≤ D (r2 + 1) k ∧ D (r2 + 1) k < 26)
    (h : ∀ D' : mmD, (∀ c k, c ≠ 10 → D' c k = D c k) → tab 10 D' (cla D r1) (cla D r2) u v (-1) v → P (ec (cla D r1) (cla D r2) u v 0 0) D') : Call E (d + 2) kc ks mX7_leastCost [vR 9, vR r1, vR r2] G D (retI G P) := by
  have outer : ∀ (n : Nat) (D' : mmD) (i : Int), i + 1 = n → i ≤ u → (∀ c k, c ≠ 10 → D' c k = D c k) → tab 10 D' (cla D r1) (cla D r2) u v i v → Go E (d + 2) kc ks mX7_leastCost 5 [some (vR 9), some (vR r1), some (vR r2), some (vI i), none, none, none] [] G D' (retI G P) := by
    intro n
    induction n with
    | zero =>
      intro D' i hi hiu ha ht
      have e : i = -1 := by omega
      subst e
      refine w_X7_leastCost_5 hG (br_lt (fun _ => ?_) (fun h => by omega))
      have e0 : D' 10 0 = ec (cla D r1) (cla D r2) u v 0 0 := ht 0 0 (by omega) (by omega) (by omega) (by omega) (by omega)
      rw [e0]
      exact rI (h D' ha ht)
    | succ n ih =>
      intro D' i hi hiu ha ht
      refine w_X7_leastCost_5 hG (br_lt (fun h => by omega) (fun _ => ⟨hw2, ?_⟩))
      have w2 : r2 ≠ 10 := by unfold isW at hw2; omega
      rw [ha _ _ w2, hv.1]
      exact l_least15 hG hw1 hw2 hu hv l1 l2 ⟨by omega, hiu⟩ (fun D2 ha2 ht2 => ih D2 (i + (-1)) (by omega) (by omega) ha2 ht2.row) (v + 1).toNat D' v (by omega) (by omega) ha ht
  refine w_X7_leastCost hG hw1 hw2 ?_
  rw [hu.1]
  exact outer (u + 1).toNat D u (by omega) (by omega) (fun _ _ _ => rfl) (fun p q p0 p1 q0 q1 hpq => by omega)
end Least
