/-! ===== THE WAY ===== -/
def wk (a b : Int → Int) (u v : Int) : Nat → Int → Int → List Int
  | 0, _, _ => []
  | n + 1, i, j => if i < u ∨ j < v then (if i < u ∧ j < v ∧ apt (a i) (b j) + ec a b u v (i + 1) (j + 1) = ec a b u v i j then (100 * a i + b j) :: wk a b u v n (i + 1) (j + 1) else if i < u ∧ 2 + ec a b u v (i + 1) j = ec a b u v i j then (100 * a i) :: wk a b u v n (i + 1) j else b j :: wk a b u v n i (j + 1)) else []
theorem wk_rg {a b : Int → Int} {u v : Int} (ha : ∀ k, 0 ≤ k → k < u → 1 ≤ a k ∧ a k ≤ 26) (hb : ∀ k, 0 ≤ k → k < v → 1 ≤ b k ∧ b k ≤ 26) : ∀ (n : Nat) (i j : Int), 0 ≤ i → i ≤ u → 0 ≤ j → j ≤ v → ∀ x ∈ wk a b u v n i j, 0 ≤ x ∧ x ≤ 2626
  | 0, _, _, _, _, _, _, x, h => by simp [wk] at h
  | n + 1, i, j, i0, i1, j0, j1, x, h => by
    simp only [wk] at h
    by_cases h1 : i < u ∨ j < v
    · rw [if_pos h1] at h
      by_cases h2 : i < u ∧ j < v ∧ apt (a i) (b j) + ec a b u v (i + 1) (j + 1) = ec a b u v i j
      · rw [if_pos h2] at h
        have p := ha i i0 h2.1
        have q := hb j j0 h2.2.1
        rcases List.mem_cons.mp h with h | h
        · omega
        · exact wk_rg ha hb n _ _ (by omega) (by omega) (by omega) (by omega) x h
      · rw [if_neg h2] at h
        by_cases h3 : i < u ∧ 2 + ec a b u v (i + 1) j = ec a b u v i j
        · rw [if_pos h3] at h
          have p := ha i i0 h3.1
          rcases List.mem_cons.mp h with h | h
          · omega
          · exact wk_rg ha hb n _ _ (by omega) (by omega) (by omega) (by omega) x h
        · rw [if_neg h3] at h
          have hj : j < v := by
            by_cases hj : j < v
            · exact hj
            · exfalso
              have e1 : ec a b u v i j = 2 * (u - i + v - j) := ec_out (by omega) (by omega) (by omega)
              have e2 : ec a b u v (i + 1) j = 2 * (u - (i + 1) + v - j) := ec_out (by omega) (by omega) (by omega)
              omega
          have q := hb j j0 hj
          rcases List.mem_cons.mp h with h | h
          · omega
          · exact wk_rg ha hb n _ _ (by omega) (by omega) (by omega) (by omega) x h
    · rw [if_neg h1] at h
      cases h
/-- a row and its size hold a list -/
def hl (c cc ck : Int) (D : mmD) (l : List Int) : Prop := D cc ck = l.length ∧ ∀ k : Nat, k < l.length → D c k = l.getD k 0
theorem hl_put {c cc ck x : Int} {D D1 D2 : mmD} {l : List Int} (hcc : c ≠ cc) (h : hl c cc ck D l) (e1 : D1 = up2 D c (D cc ck) x) (e2 : D2 = up2 D1 cc ck (D1 cc ck + 1)) : hl c cc ck D2 (l ++ [x]) ∧ ∀ c' k', c' ≠ c → ¬ (c' = cc ∧ k' = ck) → D2 c' k' = D c' k' := by
  have f1 : D1 cc ck = D cc ck := by rw [e1, up2_ne (fun q => hcc q.1.symm)]
  refine ⟨⟨?_, fun k hk => ?_⟩, fun c' k' p q => ?_⟩
  · rw [e2, up2_same, f1, h.1]; simp
  · rw [e2, up2_ne (fun q => hcc q.1), e1]
    rw [List.length_append, List.length_singleton] at hk
    by_cases hkl : k < l.length
    · rw [up2_ne (by rw [h.1]; omega), h.2 k hkl, List.getD_eq_getElem?_getD, List.getD_eq_getElem?_getD, List.getElem?_append_left hkl]
    · have : k = l.length := by omega
      subst this
      rw [h.1, up2_same, List.getD_eq_getElem?_getD, List.getElem?_append_right (Nat.le_refl _)]
      simp
  · rw [e2, up2_ne q, e1, up2_ne (fun q => p q.1)]
section Way
variable {E : mmE} {d : Nat} {G : mmG} {D0 D : mmD} {x1 x2 x3 x4 x5 ja jb : Int}
theorem l_lay {W : List Int} {Q : mmQ} {u v : Int} (hI : Inv G D0) (a0 : 0 ≤ ja) (a1 : ja < 60) (b0 : 0 ≤ jb) (b1 : jb < 60) (hu : D0 216 ja = u) (hv : D0 216 jb = v) (K : ∀ D', ag D0 D' → hl 11 9 2 D' W → Q none G D') :
    ∀ (n : Nat) (D : mmD) (i j : Int) (pre : List Int), ag D0 D → (∀ p q, 0 ≤ p → p ≤ u → 0 ≤ q → q ≤ v → D 10 (9 * p + q) = ec (rla D0 ja) (rla D0 jb) u v p q) → 0 ≤ i → i ≤ u → 0 ≤ j → j ≤ v → u - i + (v - j) ≤ n → (pre.length : Int) ≤ i + j → hl 11 9 2 D pre → pre ++ wk (rla D0 ja) (rla D0 jb) u v n i j = W →
    Go E (d + 2) 0 0 mX7_lay 17 [some (vR 9), some (vR (22 + 2 * ja)), some (vR (22 + 2 * jb)), some (vI i), some (vI j), none] [] G D Q := by
  have hG := hI.1
  have w8a := hI.w8 a0 a1
  have w8b := hI.w8 b0 b1
  have hu8 : 0 ≤ u ∧ u ≤ 8 := by rw [← hu]; exact w8a.1
  have hv8 : 0 ≤ v ∧ v ≤ 8 := by rw [← hv]; exact w8b.1
  have wa := isW.of a0 a1
  have wb := isW.of b0 b1
  have sz : ∀ D, ag D0 D → D (22 + 2 * ja) 1 = u ∧ D (22 + 2 * jb) 1 = v := fun D hd => by
    have hI' := hI.ag hd
    rw [(hI'.2.2.2.1 ja a0 a1).1.1, (hI'.2.2.2.1 jb b0 b1).1.1, hd.a (by omega) (by omega), hd.a (by omega) (by omega), hu, hv]
    exact ⟨rfl, rfl⟩
  have lt : ∀ D, ag D0 D → (∀ k, 0 ≤ k → k < u → D (22 + 2 * ja + 1) k + 1 = rla D0 ja k ∧ 1 ≤ rla D0 ja k ∧ rla D0 ja k ≤ 26) ∧ (∀ k, 0 ≤ k → k < v → D (22 + 2 * jb + 1) k + 1 = rla D0 jb k ∧ 1 ≤ rla D0 jb k ∧ rla D0 jb k ≤ 26) := fun D hd => by
    have hI' := hI.ag hd
    have r := hd.a (c := 216) (k := ja) (by omega) (by omega)
    have r' := hd.a (c := 216) (k := jb) (by omega) (by omega)
    refine ⟨fun k k0 k1 => ?_, fun k k0 k1 => ?_⟩
    · have := (hI'.2.2.2.1 ja a0 a1).2.1 k k0 (by omega)
      rw [hd.a (c := 217) (by omega) (by omega)] at this
      exact this
    · have := (hI'.2.2.2.1 jb b0 b1).2.1 k k0 (by omega)
      rw [hd.a (c := 217) (by omega) (by omega)] at this
      exact this
  have fin : ∀ (D : mmD) (i j : Int), ag D0 D → 0 ≤ i → 0 ≤ j → i = u → j = v → (W.length : Int) ≤ i + j → hl 11 9 2 D W → Go E (d + 2) 0 0 mX7_lay 17 [some (vR 9), some (vR (22 + 2 * ja)), some (vR (22 + 2 * jb)), some (vI i), some (vI j), none] [] G D Q := by
    intro D i j hd i0 j0 h1 h2 hl hp
    have hp1 := hp.1
    obtain ⟨z1, z2⟩ := sz D hd
    refine w_X7_lay_17 hG (br_le (fun _ => K D hd hp) (fun _ => ⟨wa, ?_⟩))
    rw [z1]
    refine br_lt (fun q => by omega) (fun _ => ⟨wb, ?_⟩)
    rw [z2]
    exact br_le (fun _ => K D hd hp) (fun q => by omega)
  intro n
  induction n with
  | zero =>
    intro D i j pre hd ht i0 i1 j0 j1 hn hl hp hW
    rw [wk, List.append_nil] at hW
    subst hW
    exact fin D i j hd i0 j0 (by omega) (by omega) hl hp
  | succ n ih =>
    intro D i j pre hd ht i0 i1 j0 j1 hn hl hp hW
    simp only [wk] at hW
    by_cases hij : i < u ∨ j < v
    · rw [if_pos hij] at hW
      have hp1 := hp.1
      obtain ⟨z1, z2⟩ := sz D hd
      obtain ⟨l1, l2⟩ := lt D hd
      have nx : ∀ (x i' j' : Int) (D1 D2 : mmD), D1 = up2 D 11 (D 9 2) x → D2 = up2 D1 9 2 (D1 9 2 + 1) → pre ++ (x :: wk (rla D0 ja) (rla D0 jb) u v n i' j') = W → 0 ≤ i' → i' ≤ u → 0 ≤ j' → j' ≤ v → i + j + 1 ≤ i' + j' → Go E (d + 2) 0 0 mX7_lay 17 [some (vR 9), some (vR (22 + 2 * ja)), some (vR (22 + 2 * jb)), some (vI i'), some (vI j'), none] [] G D2 Q := by
        intro x i' j' D1 D2 e1 e2 hW' q0 q1 q2 q3 q4
        obtain ⟨p1, p2⟩ := hl_put (by decide) hp e1 e2
        refine ih D2 i' j' (pre ++ [x]) (hd.trans (fun c k pp => p2 c k (fun e => by unfold pers at pp; omega) (fun e => by unfold pers at pp; omega))) (fun p q r0 r1 r2 r3 => ?_) q0 q1 q2 q3 (by omega) ?_ p1 (by rw [List.append_assoc]; exact hW')
        · rw [p2 _ _ (by decide) (by omega)]; exact ht p q r0 r1 r2 r3
        · rw [List.length_append, List.length_singleton]; omega
      have ee : i * 9 + j = 9 * i + j := by omega
      have t0 := ht i j i0 i1 j0 j1
      have r0 := ec_rg8 (a := rla D0 ja) (b := rla D0 jb) i0 i1 j0 j1 hu8.2 hv8.2
      -- the second and the third
      have g127 : ¬ (i < u ∧ j < v ∧ apt (rla D0 ja i) (rla D0 jb j) + ec (rla D0 ja) (rla D0 jb) u v (i + 1) (j + 1) = ec (rla D0 ja) (rla D0 jb) u v i j) → Go E (d + 2) 0 0 mX7_lay 127 [some (vR 9), some (vR (22 + 2 * ja)), some (vR (22 + 2 * jb)), some (vI i), some (vI j), some (vI (ec (rla D0 ja) (rla D0 jb) u v i j))] [] G D Q := by
        intro hc
        rw [if_neg hc] at hW
        have third : j < v → ¬ (i < u ∧ 2 + ec (rla D0 ja) (rla D0 jb) u v (i + 1) j = ec (rla D0 ja) (rla D0 jb) u v i j) → (0 ≤ j ∧ j < 8) ∧ (0 ≤ D 9 2 ∧ D 9 2 < 16) ∧ (∀ D4 : mmD, D4 = up2 D 11 (D 9 2) (D (22 + 2 * jb + 1) j + 1) → ∀ D5 : mmD, D5 = up2 D4 9 2 (D4 9 2 + 1) → Go E (d + 2) 0 0 mX7_lay 17 [some (vR 9), some (vR (22 + 2 * ja)), some (vR (22 + 2 * jb)), some (vI i), some (vI (j + 1)), none] [] G D5 Q) := by
          intro hj hc2
          rw [if_neg hc2] at hW
          refine ⟨⟨by omega, by omega⟩, ⟨by omega, by omega⟩, fun D4 e4 D5 e5 => ?_⟩
          rw [(l2 j j0 hj).1] at e4
          exact nx _ i (j + 1) D4 D5 e4 e5 hW i0 i1 (by omega) (by omega) (by omega)
        refine w_X7_lay_127 hG ⟨wa, ?_⟩
        rw [z1, z2]
        refine br_le (fun q => ⟨wb, br_le (fun q' => by omega) (fun q' => third q' (by omega))⟩) (fun q => ⟨⟨by omega, by omega⟩, ?_⟩)
        have t1 : D 10 ((i + 1) * 9 + j) = ec (rla D0 ja) (rla D0 jb) u v (i + 1) j := by
          rw [show (i + 1) * 9 + j = 9 * (i + 1) + j by omega]
          exact ht (i + 1) j (by omega) (by omega) j0 j1
        have r1 := ec_rg8 (a := rla D0 ja) (b := rla D0 jb) (u := u) (v := v) (i := i + 1) (j := j) (by omega) (by omega) j0 j1 hu8.2 hv8.2
        rw [t1]
        refine br_ne (fun q' => ⟨wb, br_le (fun q2 => ?_) (fun q2 => third q2 (fun q3 => q' q3.2))⟩) (fun q' => ⟨⟨by omega, by omega⟩, ⟨by omega, by omega⟩, fun D4 e4 D5 e5 => ?_⟩)
        · exfalso
          have e1 : ec (rla D0 ja) (rla D0 jb) u v i j = 2 * (u - i + v - j) := ec_out (by omega) (by omega) (by omega)
          have e2 : ec (rla D0 ja) (rla D0 jb) u v (i + 1) j = 2 * (u - (i + 1) + v - j) := ec_out (by omega) (by omega) (by omega)
          omega
        · rw [if_pos ⟨q, q'⟩] at hW
          rw [(l1 i i0 q).1] at e4
          exact nx _ (i + 1) j D4 D5 e4 e5 hW (by omega) (by omega) j0 j1 (by omega)
      have g43 : Go E (d + 2) 0 0 mX7_lay 43 [some (vR 9), some (vR (22 + 2 * ja)), some (vR (22 + 2 * jb)), some (vI i), some (vI j), none] [] G D Q := by
        refine w_X7_lay_43 hG ⟨⟨by omega, by omega⟩, wa, ?_⟩
        rw [z1, z2, ee, t0]
        refine br_le (fun q => g127 (by omega)) (fun q => ⟨wb, br_le (fun q' => g127 (by omega)) (fun q' => ?_)⟩)
        have p1 := l1 i i0 q
        have p2 := l2 j j0 q'
        refine c_costOfBoth hG wa wb ⟨by omega, by omega⟩ ⟨by omega, by omega⟩ (by omega) (by omega) ?_
        rw [p1.1, p2.1, ht (i + 1) (j + 1) (by omega) (by omega) (by omega) (by omega)]
        have r1 := ec_rg8 (a := rla D0 ja) (b := rla D0 jb) (u := u) (v := v) (i := i + 1) (j := j + 1) (by omega) (by omega) (by omega) (by omega) hu8.2 hv8.2
        have r2 := apt_rg (rla D0 ja i) (rla D0 jb j)
        refine br_ne (fun c => g127 (fun c' => c c'.2.2)) (fun c => ⟨⟨by omega, by omega⟩, ⟨by omega, by omega⟩, ⟨by omega, by omega⟩, fun D5 e5 D6 e6 => ?_⟩)
        rw [if_pos ⟨q, q', c⟩] at hW
        have ev : 100 * rla D0 ja i + D (22 + 2 * jb + 1) j + 1 = 100 * rla D0 ja i + rla D0 jb j := by omega
        rw [ev] at e5
        exact nx _ (i + 1) (j + 1) D5 D6 e5 e6 hW (by omega) (by omega) (by omega) (by omega) (by omega)
      refine w_X7_lay_17 hG (br_le (fun q => by omega) (fun _ => ⟨wa, ?_⟩))
      rw [z1]
      refine br_lt (fun q => g43) (fun _ => ⟨wb, ?_⟩)
      rw [z2]
      exact br_le (fun q => by omega) (fun q => g43)
    · rw [if_neg hij, List.append_nil] at hW
      subst hW
      exact fin D i j hd i0 j0 (by omega) (by omega) hl hp
/-- THE WAY of two places -/
def wy (D : mmD) (ja jb : Int) : List Int := wk (rla D ja) (rla D jb) (D 216 ja) (D 216 jb) 16 0 0
theorem wy_rg (hI : Inv G D0) (a0 : 0 ≤ ja) (a1 : ja < 60) (b0 : 0 ≤ jb) (b1 : jb < 60) : ∀ x ∈ wy D0 ja jb, 0 ≤ x ∧ x ≤ 2626 := by
  have p := hI.w8 a0 a1
  have q := hI.w8 b0 b1
  exact wk_rg p.2 q.2 16 0 0 (by omega) p.1.1 (by omega) q.1.1
theorem c_lay {P : mmD → Prop} (hI : Inv G D0) (ha : ag D0 D) (a0 : 0 ≤ ja) (a1 : ja < 60) (b0 : 0 ≤ jb) (b1 : jb < 60) (h : ∀ D', ag D0 D' → hl 11 9 2 D' (wy D0 ja jb) → P D') : Call E (d + 3) 0 0 mX7_lay [vR 9, vR (22 + 2 * ja), vR (22 + 2 * jb)] G D (retV G P) := by
  have p := (hI.w8 a0 a1).1
  have q := (hI.w8 b0 b1).1
  refine w_X7_lay hI.1 (isW.of a0 a1) (isW.of b0 b1) (c_lw hI ha a0 a1 b0 b1 (fun D1 h1 _ h3 D3 e3 => ?_))
  have k3 : ∀ c k, ¬ (c = 9 ∧ k = 2) → D3 c k = D1 c k := fun c k q => by rw [e3, up2_ne q]
  refine l_lay hI a0 a1 b0 b1 rfl rfl (fun D' a b => rV (h D' a b)) 16 D3 0 0 [] (h1.trans (fun c k pp => k3 c k (fun e => by unfold pers at pp; omega))) (fun p q p0 p1 q0 q1 => ?_) (by omega) p.1 (by omega) q.1 (by omega) (by simp) ⟨?_, fun k hk => ?_⟩ rfl
  · rw [k3 _ _ (by omega)]; exact h3 p q p0 p1 q0 q1
  · rw [e3, up2_same]; rfl
  · simp at hk
theorem l_walks {W : List Int} {Q : mmQ} {u v : Int} (hI : Inv G D0) (eja : 10 * x2 + x1 = ja) (ejb : 10 * x3 + x1 = jb) (a0 : 0 ≤ ja) (a1 : ja < 60) (b0 : 0 ≤ jb) (b1 : jb < 60) (hu : D0 216 ja = u) (hv : D0 216 jb = v) (K : ∀ D', ag D0 D' → hl 238 214 38 D' W → Q none G D') :
    ∀ (n : Nat) (D : mmD) (i j : Int) (pre : List Int), ag D0 D → (∀ p q, 0 ≤ p → p ≤ u → 0 ≤ q → q ≤ v → D 237 (9 * p + q) = ec (rla D0 ja) (rla D0 jb) u v p q) → 0 ≤ i → i ≤ u → 0 ≤ j → j ≤ v → u - i + (v - j) ≤ n → (pre.length : Int) ≤ i + j → hl 238 214 38 D pre → pre ++ wk (rla D0 ja) (rla D0 jb) u v n i j = W →
    Go E (d + 2) 0 0 mX12_walks 47 [some (vR 214), some (vI x1), some (vI x2), some (vI x3), none, some (vI u), some (vI v), some (vI i), some (vI j), none, none, none] [] G D Q := by
  have hG := hI.1
  have w8a := hI.w8 a0 a1
  have w8b := hI.w8 b0 b1
  have hu8 : 0 ≤ u ∧ u ≤ 8 := by rw [← hu]; exact w8a.1
  have hv8 : 0 ≤ v ∧ v ≤ 8 := by rw [← hv]; exact w8b.1
  have fin : ∀ (D : mmD) (i j : Int), ag D0 D → 0 ≤ i → 0 ≤ j → i = u → j = v → (W.length : Int) ≤ i + j → hl 238 214 38 D W → Go E (d + 2) 0 0 mX12_walks 47 [some (vR 214), some (vI x1), some (vI x2), some (vI x3), none, some (vI u), some (vI v), some (vI i), some (vI j), none, none, none] [] G D Q := by
    intro D i j hd i0 j0 h1 h2 hl hp
    exact w_X12_walks_47 hG (br_lt (fun q => by omega) (fun _ => br_le (fun _ => K D hd hp) (fun q => by omega)))
  intro n
  induction n with
  | zero =>
    intro D i j pre hd ht i0 i1 j0 j1 hn hl hp hW
    rw [wk, List.append_nil] at hW
    subst hW
    exact fin D i j hd i0 j0 (by omega) (by omega) hl hp
  | succ n ih =>
    intro D i j pre hd ht i0 i1 j0 j1 hn hl hp hW
    simp only [wk] at hW
    by_cases hij : i < u ∨ j < v
    · rw [if_pos hij] at hW
      have hp1 := hp.1
      have la : ∀ k, 0 ≤ k → k < u → D 217 (80 * x2 + 8 * x1 + k) = rla D0 ja k ∧ 1 ≤ rla D0 ja k ∧ rla D0 ja k ≤ 26 := fun k k0 k1 => by
        rw [hd.a (by omega) (by omega), show 80 * x2 + 8 * x1 + k = 8 * ja + k by omega]
        exact ⟨rfl, w8a.2 k k0 (by omega)⟩
      have lb : ∀ k, 0 ≤ k → k < v → D 217 (80 * x3 + 8 * x1 + k) = rla D0 jb k ∧ 1 ≤ rla D0 jb k ∧ rla D0 jb k ≤ 26 := fun k k0 k1 => by
        rw [hd.a (by omega) (by omega), show 80 * x3 + 8 * x1 + k = 8 * jb + k by omega]
        exact ⟨rfl, w8b.2 k k0 (by omega)⟩
      have nx : ∀ (x i' j' : Int) (D1 D2 : mmD), D1 = up2 D 238 (D 214 38) x → D2 = up2 D1 214 38 (D1 214 38 + 1) → pre ++ (x :: wk (rla D0 ja) (rla D0 jb) u v n i' j') = W → 0 ≤ i' → i' ≤ u → 0 ≤ j' → j' ≤ v → i + j + 1 ≤ i' + j' → Go E (d + 2) 0 0 mX12_walks 47 [some (vR 214), some (vI x1), some (vI x2), some (vI x3), none, some (vI u), some (vI v), some (vI i'), some (vI j'), none, none, none] [] G D2 Q := by
        intro x i' j' D1 D2 e1 e2 hW' q0 q1 q2 q3 q4
        obtain ⟨p1, p2⟩ := hl_put (by decide) hp e1 e2
        refine ih D2 i' j' (pre ++ [x]) (hd.trans (fun c k pp => p2 c k (fun e => by unfold pers at pp; omega) (fun e => by unfold pers at pp; omega))) (fun p q r0 r1 r2 r3 => ?_) q0 q1 q2 q3 (by omega) ?_ p1 (by rw [List.append_assoc]; exact hW')
        · rw [p2 _ _ (by decide) (by omega)]; exact ht p q r0 r1 r2 r3
        · rw [List.length_append, List.length_singleton]; omega
      have t0 := ht i j i0 i1 j0 j1
      have r0 := ec_rg8 (a := rla D0 ja) (b := rla D0 jb) i0 i1 j0 j1 hu8.2 hv8.2
      have g205 : ∀ x y : Int, (i < u → x = rla D0 ja i) → (j < v → y = rla D0 jb j) → ¬ (i < u ∧ j < v ∧ apt (rla D0 ja i) (rla D0 jb j) + ec (rla D0 ja) (rla D0 jb) u v (i + 1) (j + 1) = ec (rla D0 ja) (rla D0 jb) u v i j) → Go E (d + 2) 0 0 mX12_walks 205 [some (vR 214), some (vI x1), some (vI x2), some (vI x3), none, some (vI u), some (vI v), some (vI i), some (vI j), some (vI (ec (rla D0 ja) (rla D0 jb) u v i j)), some (vI x), some (vI y)] [] G D Q := by
        intro x y hx hy hc
        rw [if_neg hc] at hW
        have third : j < v → ¬ (i < u ∧ 2 + ec (rla D0 ja) (rla D0 jb) u v (i + 1) j = ec (rla D0 ja) (rla D0 jb) u v i j) → (0 ≤ D 214 38 ∧ D 214 38 < 16) ∧ (∀ D4 : mmD, D4 = up2 D 238 (D 214 38) y → ∀ D5 : mmD, D5 = up2 D4 214 38 (D4 214 38 + 1) → Go E (d + 2) 0 0 mX12_walks 47 [some (vR 214), some (vI x1), some (vI x2), some (vI x3), none, some (vI u), some (vI v), some (vI i), some (vI (j + 1)), none, none, none] [] G D5 Q) := by
          intro hj hc2
          rw [if_neg hc2, ← hy hj] at hW
          exact ⟨⟨by omega, by omega⟩, fun D4 e4 D5 e5 => nx _ i (j + 1) D4 D5 e4 e5 hW i0 i1 (by omega) (by omega) (by omega)⟩
        refine w_X12_walks_205 hG (br_le (fun q => third (by omega) (by omega)) (fun q => ⟨⟨by omega, by omega⟩, ?_⟩))
        have t1 : D 237 (9 * i + j + 9) = ec (rla D0 ja) (rla D0 jb) u v (i + 1) j := by
          rw [show 9 * i + j + 9 = 9 * (i + 1) + j by omega]
          exact ht (i + 1) j (by omega) (by omega) j0 j1
        have r1 := ec_rg8 (a := rla D0 ja) (b := rla D0 jb) (u := u) (v := v) (i := i + 1) (j := j) (by omega) (by omega) j0 j1 hu8.2 hv8.2
        rw [t1]
        refine br_ne (fun q' => third ?_ (fun q3 => q' (by omega))) (fun q' => ⟨⟨by omega, by omega⟩, fun D4 e4 D5 e5 => ?_⟩)
        · by_cases hj : j < v
          · exact hj
          · exfalso
            have e1 : ec (rla D0 ja) (rla D0 jb) u v i j = 2 * (u - i + v - j) := ec_out (by omega) (by omega) (by omega)
            have e2 : ec (rla D0 ja) (rla D0 jb) u v (i + 1) j = 2 * (u - (i + 1) + v - j) := ec_out (by omega) (by omega) (by omega)
            omega
        · rw [if_pos ⟨q, by omega⟩, ← hx q] at hW
          exact nx _ (i + 1) j D4 D5 e4 e5 hW (by omega) (by omega) j0 j1 (by omega)
      have g134 : ∀ x y : Int, (i < u → x = rla D0 ja i) → (j < v → y = rla D0 jb j) → Go E (d + 2) 0 0 mX12_walks 134 [some (vR 214), some (vI x1), some (vI x2), some (vI x3), none, some (vI u), some (vI v), some (vI i), some (vI j), some (vI (ec (rla D0 ja) (rla D0 jb) u v i j)), some (vI x), none] [vI y] G D Q := by
        intro x y hx hy
        refine w_X12_walks_134 hG (br_le (fun q => g205 x y hx hy (by omega)) (fun q => br_le (fun q' => g205 x y hx hy (by omega)) (fun q' => ?_)))
        have e1 := hx q
        have e2 := hy q'
        have p1 := la i i0 q
        have p2 := lb j j0 q'
        refine c_apart hG (by unfold rg; omega) (by unfold rg; omega) ⟨⟨by omega, by omega⟩, ?_⟩
        rw [show 9 * i + j + 10 = 9 * (i + 1) + (j + 1) by omega, ht (i + 1) (j + 1) (by omega) (by omega) (by omega) (by omega)]
        have r1 := ec_rg8 (a := rla D0 ja) (b := rla D0 jb) (u := u) (v := v) (i := i + 1) (j := j + 1) (by omega) (by omega) (by omega) (by omega) hu8.2 hv8.2
        have r2 := apt_rg x y
        refine br_ne (fun c => g205 x y hx hy (fun c' => c (by rw [e1, e2]; exact c'.2.2))) (fun c => ⟨⟨by omega, by omega⟩, fun D5 e5 D6 e6 => ?_⟩)
        rw [if_pos ⟨q, q', by rw [← e1, ← e2]; exact c⟩, ← e1, ← e2] at hW
        exact nx _ (i + 1) (j + 1) D5 D6 e5 e6 hW (by omega) (by omega) (by omega) (by omega) (by omega)
      have g61 : Go E (d + 2) 0 0 mX12_walks 61 [some (vR 214), some (vI x1), some (vI x2), some (vI x3), none, some (vI u), some (vI v), some (vI i), some (vI j), none, none, none] [] G D Q := by
        refine w_X12_walks_61 hG ⟨⟨by omega, by omega⟩, ?_⟩
        rw [t0]
        refine br_le (fun q => br_le (fun q' => by omega) (fun q' => ⟨⟨by omega, by omega⟩, ?_⟩)) (fun q => ⟨⟨by omega, by omega⟩, br_le (fun q' => ?_) (fun q' => ⟨⟨by omega, by omega⟩, ?_⟩)⟩)
        · exact g134 _ _ (by omega) (fun _ => (lb j j0 q').1)
        · exact g134 _ _ (fun _ => (la i i0 q).1) (by omega)
        · exact g134 _ _ (fun _ => (la i i0 q).1) (fun _ => (lb j j0 q').1)
      exact w_X12_walks_47 hG (br_lt (fun q => g61) (fun _ => br_le (fun q => by omega) (fun q => g61)))
    · rw [if_neg hij, List.append_nil] at hW
      subst hW
      exact fin D i j hd i0 j0 (by omega) (by omega) hl hp
theorem c_walks {P : mmD → Prop} (hI : Inv G D0) (ha : ag D0 D) (eja : 10 * x2 + x1 = ja) (ejb : 10 * x3 + x1 = jb) (a0 : 0 ≤ ja) (a1 : ja < 60) (b0 : 0 ≤ jb) (b1 : jb < 60) (h : ∀ D', ag D0 D' → hl 238 214 38 D' (wy D0 ja jb) → P D') : Call E (d + 3) 0 0 mX12_walks [vR 214, vI x1, vI x2, vI x3] G D (retV G P) := by
  have p := (hI.w8 a0 a1).1
  have q := (hI.w8 b0 b1).1
  refine w_X12_walks hI.1 (c_rcost hI ha eja ejb a0 a1 b0 b1 (fun D1 h1 _ h3 => ⟨⟨by omega, by omega⟩, ⟨by omega, by omega⟩, fun D3 e3 => ?_⟩))
  have k3 : ∀ c k, ¬ (c = 214 ∧ k = 38) → D3 c k = D1 c k := fun c k q => by rw [e3, up2_ne q]
  rw [eja, ejb, h1.a (by omega) (by omega), h1.a (by omega) (by omega)]
  refine l_walks hI eja ejb a0 a1 b0 b1 rfl rfl (fun D' a b => rV (h D' a b)) 16 D3 0 0 [] (h1.trans (fun c k pp => k3 c k (fun e => by unfold pers at pp; omega))) (fun p q p0 p1 q0 q1 => ?_) (by omega) p.1 (by omega) q.1 (by omega) (by simp) ⟨?_, fun k hk => ?_⟩ rfl
  · rw [k3 _ _ (by omega)]; exact h3 p q p0 p1 q0 q1
  · rw [e3, up2_same]; rfl
  · simp at hk
theorem wk_len {a b : Int → Int} {u v : Int} : ∀ (n : Nat) (i j : Int), (wk a b u v n i j).length ≤ n
  | 0, _, _ => by simp [wk]
  | n + 1, i, j => by
    simp only [wk]
    split
    · split
      · have := wk_len (a := a) (b := b) (u := u) (v := v) n (i + 1) (j + 1); simp; omega
      · split
        · have := wk_len (a := a) (b := b) (u := u) (v := v) n (i + 1) j; simp; omega
        · have := wk_len (a := a) (b := b) (u := u) (v := v) n i (j + 1); simp; omega
    · simp
theorem p_way (hI : Inv G D0) (h1 : rg x1) (h2 : rg x2) (h3 : rg x3) (h4 : rg x4) : Pair E (d + 4) mX11_way mX12_way [vI x1, vI x2, vI x3, vI x4] G D0 := by
  have hG := hI.1
  have h4' := h4
  unfold rg at h4'
  have no : ¬ (lst D0 x2 x1 ∧ lst D0 x3 x1) → Call E (d + 4) 0 0 mX12_way [vR 214, vI x1, vI x2, vI x3, vI x4] G D0 (retI G (fun y D2 => iv (-1) = iv y ∧ Inv G D2)) := fun q =>
    w_X12_way hG (c_hasA hI ag.rfl h2 h1 (fun a => b_t (c_hasA hI ag.rfl h3 h1 (fun b => absurd ⟨a, b⟩ q) (fun _ => b_f (rI ⟨rfl, hI⟩)))) (fun _ => b_f (rI ⟨rfl, hI⟩)))
  refine w_X11_way hG (c_listedA hI ag.rfl h2 h1 (fun a => c_listedA hI ag.rfl h3 h1 (fun b => ⟨fun q => ?_, fun _ => ⟨fun q => ?_, fun _ => ?_⟩⟩) (fun b => ⟨fun q => ?_, fun _ => ⟨fun _ => rI (no (fun q => b q.2)), fun q => absurd rfl q⟩⟩)) (fun a => c_listedA hI ag.rfl h3 h1 (fun b => ⟨fun _ => rI (no (fun q => a q.1)), fun q => absurd rfl q⟩) (fun b => ⟨fun _ => rI (no (fun q => a q.1)), fun q => absurd rfl q⟩)))
  · have := a.j hI; omega
  · have := b.j hI; omega
  · obtain ⟨a0, a1⟩ := a.j hI
    obtain ⟨b0, b1⟩ := b.j hI
    have ln : (wy D0 (10 * x2 + x1) (10 * x3 + x1)).length ≤ 16 := wk_len 16 0 0
    refine br_le (fun g => c_lay hI ag.rfl a0 a1 b0 b1 (fun D1 hd1 hl1 => ?_)) (fun g => rI ?_)
    · have f1 := hl1.1
      have yes : ∀ v : Int, (x4 = -1 → v = (wy D0 (10 * x2 + x1) (10 * x3 + x1)).length) → ((wy D0 (10 * x2 + x1) (10 * x3 + x1)).length ≤ x4 → v = -1) → (0 ≤ x4 → x4 < (wy D0 (10 * x2 + x1) (10 * x3 + x1)).length → v = (wy D0 (10 * x2 + x1) (10 * x3 + x1)).getD x4.toNat 0) → Call E (d + 4) 0 0 mX12_way [vR 214, vI x1, vI x2, vI x3, vI x4] G D1 (retI G (fun y D2 => iv v = iv y ∧ Inv G D2)) := fun v v1 v2 v3 =>
        w_X12_way hG (c_hasA hI hd1 h2 h1 (fun _ => b_t (c_hasA hI hd1 h3 h1 (fun _ => b_t (br_le (fun _ => c_walks hI hd1 rfl rfl a0 a1 b0 b1 (fun D2 hd2 hl2 => by
          have f2 := hl2.1
          refine br_ne (fun e => br_le (fun e' => rI ⟨by rw [v2 (by omega)], hI.ag hd2⟩) (fun e' => ⟨⟨by omega, by omega⟩, rI ⟨?_, hI.ag hd2⟩⟩)) (fun e => rI ⟨by rw [v1 e, f2], hI.ag hd2⟩)
          have := hl2.2 x4.toNat (by omega)
          rw [Int.toNat_of_nonneg (by omega)] at this
          rw [this, v3 (by omega) (by omega)])) (fun e => by omega))) (fun q => absurd b q))) (fun q => absurd a q))
      refine br_lt (fun e => br_le (fun e' => ⟨⟨by omega, by omega⟩, rI (yes _ (fun q => by omega) (fun q => by omega) (fun _ q => ?_))⟩) (fun e' => rI (yes _ (fun _ => f1) (fun q => by omega) (fun q => by omega)))) (fun e => rI (yes _ (fun q => by omega) (fun _ => rfl) (fun _ q => by omega)))
      have := hl1.2 x4.toNat (by omega)
      rw [Int.toNat_of_nonneg (by omega)] at this
      exact this
    · exact w_X12_way hG (c_hasA hI ag.rfl h2 h1 (fun _ => b_t (c_hasA hI ag.rfl h3 h1 (fun _ => b_t (br_le (fun q => by omega) (fun _ => rI ⟨rfl, hI⟩))) (fun q => absurd b q))) (fun q => absurd a q))
  · have := a.j hI; omega
end Way
