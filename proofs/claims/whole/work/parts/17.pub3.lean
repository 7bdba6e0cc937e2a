section Pub3
variable {E : mmE} {d : Nat} {G : mmG} {D : mmD} {x1 x2 x3 x4 x5 : Int}
theorem p_tongue (hI : Inv G D) : Pair E (d + 1) mX11_tongue mX12_tongue [] G D := by
  obtain ⟨hG, hs, h3, h4, h5, h6, h7, h8, h9⟩ := id hI
  have s1 := hs.1
  have s3 := hs.2.2.1
  refine w_X11_tongue hG ?_
  rw [s1.1]
  refine br_lt (fun a => w_X11_newTongue hG ?_) (fun a => rI (w_X12_tongue hG (br_ne (fun b => by omega) (fun b => rI ⟨rfl, hI⟩))))
  rw [s1.1]
  refine br_le (fun b => by omega) (fun _ => ⟨⟨by omega, by omega⟩, fun D1 e1 => ?_⟩)
  have q1 : D1 2 3 = D 214 1 := by rw [e1, up2_ne (by omega)]; exact s1.1
  rw [q1]
  refine ⟨⟨by omega, by omega⟩, fun D2 e2 D3 e3 => rI (rI ?_)⟩
  have q2 : D2 2 3 = D 214 1 := by rw [e2, up2_ne (by omega)]; exact q1
  have q3 : D3 2 3 = D 214 1 + 1 := by rw [e3, up2_same, q2]
  have k3 : ∀ c k, ¬ (c = 2 ∧ k = 3) → c ≠ 5 → D3 c k = D c k := fun c k a b => by rw [e3, up2_ne a, e2, up2_ne (fun q => b q.1), e1, up2_ne (fun q => b q.1)]
  have r1 : D3 214 1 = D 214 1 := k3 _ _ (by omega) (by omega)
  refine w_X12_tongue hG ?_
  rw [r1]
  refine br_ne (fun _ => ⟨⟨by omega, by omega⟩, fun D4 e4 D5 e5 => rI ⟨?_, ?_⟩⟩) (fun b => by omega)
  · have q4 : D4 214 1 = D 214 1 := by rw [e4, up2_ne (by omega)]; exact r1
    have q5 : D5 214 1 = D 214 1 + 1 := by rw [e5, up2_same, q4]
    rw [q3, q5]
  · have k5 : ∀ c k, ¬ (c = 2 ∧ k = 3) → c ≠ 5 → c ≠ 221 → ¬ (c = 214 ∧ k = 1) → D5 c k = D c k := fun c k a b a' b' => by rw [e5, up2_ne b', e4, up2_ne (fun q => a' q.1)]; exact k3 c k a b
    have q4 : D4 214 1 = D 214 1 := by rw [e4, up2_ne (by omega)]; exact r1
    have q5 : D5 214 1 = D 214 1 + 1 := by rw [e5, up2_same, q4]
    have q6 : D5 2 3 = D 214 1 + 1 := by rw [e5, up2_ne (by omega), e4, up2_ne (by omega)]; exact q3
    refine ⟨hG, ?_, h3.keep (fun k => k5 _ _ (by omega) (by omega) (by omega) (by omega)) (fun k => k5 _ _ (by omega) (by omega) (by omega) (by omega)), h4.keep (fun c k _ _ => k5 _ _ (by omega) (by omega) (by omega) (by omega)) (fun c k _ _ => k5 _ _ (by omega) (by omega) (by omega) (by omega)), ?_, h6.keep s3.2.2 (k5 _ _ (by omega) (by omega) (by omega) (by omega)) (fun c k _ _ _ => k5 _ _ (by omega) (by omega) (by omega) (by omega)) (fun c k _ _ => k5 _ _ (by omega) (by omega) (by omega) (by omega)), h7.keep (k5 _ _ (by omega) (by omega) (by omega) (by omega)) (fun c k _ _ => k5 _ _ (by omega) (by omega) (by omega) (by omega)) (fun c k _ _ _ => k5 _ _ (by omega) (by omega) (by omega) (by omega)), h8.keep (k5 _ _ (by omega) (by omega) (by omega) (by omega)) (fun k => k5 _ _ (by omega) (by omega) (by omega) (by omega)) (fun k => k5 _ _ (by omega) (by omega) (by omega) (by omega)) (fun k => k5 _ _ (by omega) (by omega) (by omega) (by omega)), h9.keep h7 (k5 _ _ (by omega) (by omega) (by omega) (by omega)) (k5 _ _ (by omega) (by omega) (by omega) (by omega)) (fun k => k5 _ _ (by omega) (by omega) (by omega) (by omega)) (fun c k _ => k5 _ _ (by omega) (by omega) (by omega) (by omega))⟩
    · unfold i_sc at hs ⊢
      rw [q5, q6, k5 2 11 (by omega) (by omega) (by omega) (by omega), k5 2 6 (by omega) (by omega) (by omega) (by omega), k5 2 8 (by omega) (by omega) (by omega) (by omega), k5 2 10 (by omega) (by omega) (by omega) (by omega), k5 2 15 (by omega) (by omega) (by omega) (by omega), k5 2 1 (by omega) (by omega) (by omega) (by omega), k5 2 13 (by omega) (by omega) (by omega) (by omega), k5 2 12 (by omega) (by omega) (by omega) (by omega), k5 214 2 (by omega) (by omega) (by omega) (by omega), k5 214 3 (by omega) (by omega) (by omega) (by omega), k5 214 4 (by omega) (by omega) (by omega) (by omega), k5 214 5 (by omega) (by omega) (by omega) (by omega), k5 214 6 (by omega) (by omega) (by omega) (by omega), k5 214 7 (by omega) (by omega) (by omega) (by omega), k5 214 8 (by omega) (by omega) (by omega) (by omega), k5 214 9 (by omega) (by omega) (by omega) (by omega)]
      omega
    · intro t t0 t1
      rw [q5] at t1
      by_cases ht : t = D 214 1
      · left
        refine ⟨?_, ?_, ?_⟩
        · rw [e5, up2_ne (by omega), e4, ht, up2_same]
        · rw [e5, up2_ne (by omega), e4, up2_ne (by omega), e3, up2_ne (by omega), e2, up2_ne (by omega), e1, ht, up2_same]
        · rw [e5, up2_ne (by omega), e4, up2_ne (by omega), e3, up2_ne (by omega), e2, ht, up2_same]
      · have a1 : D5 221 t = D 221 t := by rw [e5, up2_ne (by omega), e4, up2_ne (by omega)]; exact k3 _ _ (by omega) (by omega)
        have a2 : D5 222 t = D 222 t := k5 _ _ (by omega) (by omega) (by omega) (by omega)
        have a3 : ∀ k, k ≠ 2 * D 214 1 → k ≠ 2 * D 214 1 + 1 → D5 5 k = D 5 k := fun k p q => by rw [e5, up2_ne (by omega), e4, up2_ne (by omega), e3, up2_ne (by omega), e2, up2_ne (by omega), e1, up2_ne (by omega)]
        rw [a1, a2, a3 _ (by omega) (by omega), a3 _ (by omega) (by omega)]
        exact h5 t t0 (by omega)
theorem p_hole (hI : Inv G D) (h1 : rg x1) (h2 : rg x2) (hb : x3 = 0 ∨ x3 = 1) : Pair E (d + 2) mX11_hole mX12_hole [vI x1, vI x2, vI x3] G D := by
  obtain ⟨hG, hs, h3, h4, h5, h6, h7, h8, h9⟩ := id hI
  have s1 := hs.1
  refine w_X11_hole hG (c_isTongue hI h1 (fun a b => b_t ?_) (fun a => b_f (rI (w_X12_hole hG (c_rTongue hG hI.ri h1 (fun p q => by omega) (fun _ => b_f (rI ⟨rfl, hI⟩)))))))
  refine c_isMeaning hG h2 (fun a' b' => n_t ⟨⟨by omega, by omega⟩, hb, fun D7 e7 => ?_⟩) (fun a' => n_f (rI (w_X12_hole hG (c_rTongue hG hI.ri h1 (fun _ _ => b_t (c_rMeaning hG h2 (fun p q => by omega) (fun _ => n_f (rI ⟨rfl, hI⟩)))) (fun p => by omega)))))
  have ej : x1 * 10 + x2 = 10 * x1 + x2 := by omega
  rw [ej] at e7 ⊢
  generalize hj : 10 * x1 + x2 = j at *
  obtain ⟨-, -, -, -, ⟨w1, w2⟩⟩ := h4 j (by omega) (by omega)
  rw [w1]
  have k7 : ∀ c k, ¬ (c = 22 + 2 * j ∧ k = 4) → D7 c k = D c k := fun c k a => by rw [e7, up2_ne a]
  have hr : ri D7 := hI.ri.keep (k7 _ _ (by omega)) (k7 _ _ (by omega)) (fun k => k7 _ _ (by omega)) (fun k => k7 _ _ (by omega))
  refine c_oneIf hG w2 (rI ?_)
  have fin : ∀ D5 : mmD, D5 = up2 D7 220 j x3 → Inv G D5 := by
    intro D5 e5
    have k5 : ∀ c k, ¬ (c = 22 + 2 * j ∧ k = 4) → ¬ (c = 220 ∧ k = j) → D5 c k = D c k := fun c k a b => by rw [e5, up2_ne b]; exact k7 c k a
    refine ⟨hG, hs.keep (fun k => k5 _ _ (by omega) (by omega)) (fun k _ _ => k5 _ _ (by omega) (by omega)), h3.keep (fun k => k5 _ _ (by omega) (by omega)) (fun k => k5 _ _ (by omega) (by omega)), ?_, h5.keep (k5 _ _ (by omega) (by omega)) (fun k => k5 _ _ (by omega) (by omega)) (fun k => k5 _ _ (by omega) (by omega)) (fun k => k5 _ _ (by omega) (by omega)), h6.keep hs.2.2.1.2.2 (k5 _ _ (by omega) (by omega)) (fun c k _ _ _ => k5 _ _ (by omega) (by omega)) (fun c k _ _ => k5 _ _ (by omega) (by omega)), h7.keep (k5 _ _ (by omega) (by omega)) (fun c k _ _ => k5 _ _ (by omega) (by omega)) (fun c k _ _ _ => k5 _ _ (by omega) (by omega)), h8.keep (k5 _ _ (by omega) (by omega)) (fun k => k5 _ _ (by omega) (by omega)) (fun k => k5 _ _ (by omega) (by omega)) (fun k => k5 _ _ (by omega) (by omega)), h9.keep h7 (k5 _ _ (by omega) (by omega)) (k5 _ _ (by omega) (by omega)) (fun k => k5 _ _ (by omega) (by omega)) (fun c k _ => k5 _ _ (by omega) (by omega))⟩
    intro i i0 i1
    by_cases hij : i = j
    · subst hij
      have g := h4 i i0 i1
      unfold i_w1 at g ⊢
      have q1 : D5 (22 + 2 * i) 4 = x3 := by rw [e5, up2_ne (by omega), e7, up2_same]
      have q2 : D5 220 i = x3 := by rw [e5, up2_same]
      rw [q1, q2, k5 (22 + 2 * i) 1 (by omega) (by omega), k5 (22 + 2 * i) 2 (by omega) (by omega), k5 (22 + 2 * i) 3 (by omega) (by omega), k5 216 i (by omega) (by omega), k5 218 i (by omega) (by omega), k5 219 i (by omega) (by omega)]
      refine ⟨g.1, fun k k0 k1 => ?_, g.2.2.1, g.2.2.2.1, rfl, hb⟩
      rw [k5 (22 + 2 * i + 1) k (by omega) (by omega), k5 217 _ (by omega) (by omega)]
      exact g.2.1 k k0 k1
    · exact (h4 i i0 i1).keep (fun k => k5 _ _ (by omega) (by omega)) (fun k => k5 _ _ (by omega) (by omega)) (k5 _ _ (by omega) (by omega)) (fun k _ _ => k5 _ _ (by omega) (by omega)) (k5 _ _ (by omega) (by omega)) (k5 _ _ (by omega) (by omega)) (k5 _ _ (by omega) (by omega))
  refine w_X12_hole hG (c_rTongue hG hr h1 (fun _ _ => b_t (c_rMeaning hG h2 (fun _ _ => n_t ?_) (fun g => by omega))) (fun g => by rw [k7 214 1 (by omega)] at g; omega))
  rw [hj, k7 220 j (by omega)]
  exact ⟨⟨by omega, by omega⟩, br_eq (fun g => ⟨⟨by omega, by omega⟩, hb, fun D5 e5 => rI ⟨by rw [g], fin D5 e5⟩⟩) (fun g => ⟨⟨by omega, by omega⟩, hb, fun D5 e5 => rI ⟨by rw [show D 220 j = 1 by omega], fin D5 e5⟩⟩)⟩
/-- a sum over the first n -/
def fsum (f : Int → Int) : Nat → Int
  | 0 => 0
  | n + 1 => fsum f n + f n
theorem fsum_congr {f g : Int → Int} : ∀ n : Nat, (∀ k : Int, 0 ≤ k → k < n → f k = g k) → fsum f n = fsum g n
  | 0, _ => rfl
  | n + 1, h => by
    simp only [fsum]
    rw [fsum_congr n (fun k a b => h k a (by omega)), h n (by omega) (by omega)]
theorem fsum_rg {f : Int → Int} : ∀ n : Nat, (∀ k : Int, 0 ≤ k → k < n → 0 ≤ f k ∧ f k ≤ 1) → 0 ≤ fsum f n ∧ fsum f n ≤ n
  | 0, _ => by simp [fsum]
  | n + 1, h => by
    simp only [fsum]
    have := fsum_rg n (fun k a b => h k a (by omega))
    have := h n (by omega) (by omega)
    omega
/-- a CLAIM that counts -/
def clf (D : mmD) (s w : Int) : Int → Int := fun c => if D 233 c = s then (if w = 0 then 1 else D 234 c) else 0
theorem p_sure (hI : Inv G D) (h1 : rg x1) (h2 : rg x2) : Pair E (d + 1) mX11_sure mX12_sure [vI x1, vI x2] G D := by
  obtain ⟨hG, hs, -, -, -, -, -, h8, -⟩ := id hI
  have s6 := hs.2.2.2.2.2.1
  have s9 := hs.2.2.2.2.2.2.2.2
  have h1' := h1
  have h2' := h2
  unfold rg at h1' h2'
  have clr : ∀ c, 0 ≤ c → c < D 214 6 → 0 ≤ clf D x1 x2 c ∧ clf D x1 x2 c ≤ 1 := fun c a b => by
    have := h8 c a b
    unfold clf
    split
    · split <;> omega
    · omega
  -- the class's loop
  have lc : ∀ (Q : mmQ), Q (some (vI (fsum (clf D x1 x2) (D 214 6).toNat))) G D → ∀ (n : Nat) (c : Int), 0 ≤ c → c ≤ D 214 6 → D 214 6 - c = n → Go E (d + 1) 0 0 mX11_sure 41 [some (vR 2), some (vI x1), some (vI x2), some (vI (fsum (clf D x1 x2) c.toNat)), some (vI c)] [] G D Q := by
    intro Q hQ n
    induction n with
    | zero =>
      intro c c0 c1 cn
      have e : c = D 214 6 := by omega
      refine w_X11_sure_41 hG ?_
      rw [s6.1, e]
      exact br_le (fun _ => hQ) (fun h => by omega)
    | succ n ih =>
      intro c c0 c1 cn
      obtain ⟨k1, k2, k3, k4, k5⟩ := h8 c c0 (by omega)
      have nx := ih (c + 1) (by omega) (by omega) (by omega)
      have e : fsum (clf D x1 x2) (c + 1).toNat = fsum (clf D x1 x2) c.toNat + clf D x1 x2 c := by
        rw [show (c + 1).toNat = c.toNat + 1 by omega]
        simp only [fsum]
        rw [Int.toNat_of_nonneg c0]
      rw [e] at nx
      unfold clf at nx
      refine w_X11_sure_41 hG ?_
      rw [s6.1, k1, k4]
      refine br_le (fun h => by omega) (fun _ => ⟨⟨by omega, by omega⟩, br_ne (fun a => ?_) (fun a => br_ne (fun b => ⟨⟨by omega, by omega⟩, ?_⟩) (fun b => ?_))⟩)
      · rw [if_neg a, Int.add_zero] at nx; exact nx
      · rw [if_pos a, if_neg b] at nx; exact nx
      · rw [if_pos a, if_pos b] at nx; exact nx
  have lr : ∀ (Q : mmQ), Q (some (vI (fsum (clf D x1 x2) (D 214 6).toNat))) G D → ∀ (n : Nat) (c : Int), 0 ≤ c → c ≤ D 214 6 → D 214 6 - c = n → Go E (d + 1) 0 0 mX12_sure 44 [some (vR 214), some (vI x1), some (vI x2), some (vI (fsum (clf D x1 x2) c.toNat)), some (vI c)] [] G D Q := by
    intro Q hQ n
    induction n with
    | zero =>
      intro c c0 c1 cn
      have e : c = D 214 6 := by omega
      refine w_X12_sure_44 hG ?_
      rw [e]
      exact br_le (fun _ => hQ) (fun h => by omega)
    | succ n ih =>
      intro c c0 c1 cn
      obtain ⟨k1, k2, k3, k4, k5⟩ := h8 c c0 (by omega)
      have nx := ih (c + 1) (by omega) (by omega) (by omega)
      have e : fsum (clf D x1 x2) (c + 1).toNat = fsum (clf D x1 x2) c.toNat + clf D x1 x2 c := by
        rw [show (c + 1).toNat = c.toNat + 1 by omega]
        simp only [fsum]
        rw [Int.toNat_of_nonneg c0]
      rw [e] at nx
      unfold clf at nx
      refine w_X12_sure_44 hG (br_le (fun h => by omega) (fun _ => ⟨⟨by omega, by omega⟩, br_ne (fun a => ?_) (fun a => br_eq (fun b => ?_) (fun b => ⟨⟨by omega, by omega⟩, br_eq (fun f => ?_) (fun f => ?_)⟩))⟩))
      · rw [if_neg a] at nx; exact nx
      · rw [if_pos a, if_pos b] at nx; exact nx
      · rw [if_pos a, if_neg b, f] at nx; exact nx
      · rw [if_pos a, if_neg b, show D 234 c = 1 by omega] at nx; exact nx
  have fin : 0 ≤ x1 → x1 ≤ 10 → 0 ≤ x2 → x2 ≤ 1 → ¬ (x2 = 1 ∧ D 214 9 = 0) → Call E (d + 1) 0 0 mX12_sure [vR 214, vI x1, vI x2] G D (retI G (fun y D2 => iv (fsum (clf D x1 x2) (D 214 6).toNat) = iv y ∧ Inv G D2)) := fun a b c e f =>
    w_X12_sure hG (c_in hG h2 (by unfold rg; omega) (by unfold rg; omega) (fun _ _ => n_t (c_in hG h1 (by unfold rg; omega) (by unfold rg; omega) (fun _ _ => n_t (br_ne (fun _ => lr _ (rI ⟨rfl, hI⟩) (D 214 6).toNat 0 (by omega) (by omega) (by omega)) (fun g => br_ne (fun _ => lr _ (rI ⟨rfl, hI⟩) (D 214 6).toNat 0 (by omega) (by omega) (by omega)) (fun g' => absurd ⟨g, g'⟩ f)))) (fun g => by omega))) (fun g => by omega))
  have no1 : (x2 < 0 ∨ 1 < x2) → Call E (d + 1) 0 0 mX12_sure [vR 214, vI x1, vI x2] G D (retI G (fun y D2 => iv (-1) = iv y ∧ Inv G D2)) := fun a =>
    w_X12_sure hG (c_in hG h2 (by unfold rg; omega) (by unfold rg; omega) (fun _ _ => by omega) (fun _ => n_f (rI ⟨rfl, hI⟩)))
  have no2 : 0 ≤ x2 → x2 ≤ 1 → (x1 < 0 ∨ 10 < x1) → Call E (d + 1) 0 0 mX12_sure [vR 214, vI x1, vI x2] G D (retI G (fun y D2 => iv (-2) = iv y ∧ Inv G D2)) := fun a b c =>
    w_X12_sure hG (c_in hG h2 (by unfold rg; omega) (by unfold rg; omega) (fun _ _ => n_t (c_in hG h1 (by unfold rg; omega) (by unfold rg; omega) (fun _ _ => by omega) (fun _ => n_f (rI ⟨rfl, hI⟩)))) (fun _ => by omega))
  have no3 : 0 ≤ x1 → x1 ≤ 10 → x2 = 1 → D 214 9 = 0 → Call E (d + 1) 0 0 mX12_sure [vR 214, vI x1, vI x2] G D (retI G (fun y D2 => iv (-3) = iv y ∧ Inv G D2)) := fun a b c e =>
    w_X12_sure hG (c_in hG h2 (by unfold rg; omega) (by unfold rg; omega) (fun _ _ => n_t (c_in hG h1 (by unfold rg; omega) (by unfold rg; omega) (fun _ _ => n_t (br_ne (fun g => absurd c g) (fun _ => br_ne (fun g => absurd e g) (fun _ => rI ⟨rfl, hI⟩)))) (fun g => by omega))) (fun g => by omega))
  have s9' := s9.1
  refine w_X11_sure hG (br_lt (fun a => rI (no1 (by omega))) (fun a => br_le (fun b => w_X11_isSureness hG (br_lt (fun c => rI (n_f (rI (no2 a b (by omega))))) (fun c => br_lt (fun e => rI (n_f (rI (no2 a b (by omega))))) (fun e => rI (n_t ?_))))) (fun b => rI (no1 (by omega)))))
  rw [s9']
  exact br_ne (fun f => lc _ (rI (fin c e a b (fun g => f g.1))) (D 214 6).toNat 0 (by omega) (by omega) (by omega)) (fun f => br_ne (fun g => lc _ (rI (fin c e a b (fun q => g q.2))) (D 214 6).toNat 0 (by omega) (by omega) (by omega)) (fun g => rI (no3 c e f g)))
end Pub3
