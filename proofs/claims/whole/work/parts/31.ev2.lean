theorem i_wd.one {D D' : mmD} {j : Int} (h : i_wd D) (h1 : ∀ c k, 22 ≤ c → c < 142 → c ≠ 22 + 2 * j → c ≠ 22 + 2 * j + 1 → D' c k = D c k) (h2 : ∀ c k, 216 ≤ c → c ≤ 220 → (c = 217 → ¬ (8 * j ≤ k ∧ k < 8 * j + 8)) → (c ≠ 217 → k ≠ j) → D' c k = D c k) (hj : i_w1 D' j) : i_wd D' := by
  intro i i0 i1
  by_cases e : i = j
  · subst e; exact hj
  · exact (h i i0 i1).keep (fun k => h1 _ k (by omega) (by omega) (by omega) (by omega)) (fun k => h1 _ k (by omega) (by omega) (by omega) (by omega)) (h2 _ _ (by omega) (by omega) (by omega) (by omega)) (fun q _ _ => h2 _ _ (by omega) (by omega) (by omega) (by omega)) (h2 _ _ (by omega) (by omega) (by omega) (by omega)) (h2 _ _ (by omega) (by omega) (by omega) (by omega)) (h2 _ _ (by omega) (by omega) (by omega) (by omega))
section Ev2
variable {E : mmE} {d : Nat} {G : mmG} {D0 D : mmD} {x1 x2 x3 : Int}
theorem rIG' {G : mmG} {D : mmD} {P : Int → mmG → mmD → Prop} {x : Int} (h : P x G D) : retIG P (some (vI x)) G D := ⟨x, rfl, h⟩
/-- an EVENT more, one place of a WORD changed -/
theorem Inv.w1 {D' : mmD} {ci : Nat} {kind n e j : Int} (hI : Inv G D0) (he : G.1 = e) (hn : D0 214 4 = n) (n80 : n < 80) (hk : evk kind ci) (h2 : D' 2 8 = n + 1) (h4 : D' 214 4 = n + 1)
    (kk : ∀ c k, c < e → ¬ (c = 2 ∧ k = 8) → ¬ (c = 214 ∧ (k = 4 ∨ 10 ≤ k ∧ k ≠ 57)) → ¬ (228 ≤ c ∧ c ≤ 232 ∧ k = n) → ¬ (235 ≤ c ∧ c ≤ 247) → c ≠ 22 + 2 * j → c ≠ 22 + 2 * j + 1 → ¬ (216 ≤ c ∧ c ≤ 220 ∧ c ≠ 217 ∧ k = j) → ¬ (c = 217 ∧ 8 * j ≤ k ∧ k < 8 * j + 8) → D' c k = D0 c k)
    (j0 : 0 ≤ j) (j60 : j < 60) (hj : i_w1 D' j) (n0 : D' 228 n = kind) (n1 : D' e 0 = n) (n2 : D' e 1 = D' 229 n) (n3 : D' e 2 = D' 230 n) (n4 : D' e 3 = D' 231 n) (n5 : D' e 4 = D' 232 n) (n6 : 0 ≤ D' 229 n ∧ D' 229 n ≤ 9999) : Inv (evG G ci n) D' := by
  obtain ⟨hG, hs, q3, q4, q5, q6, q7, q8, q9⟩ := id hI
  have g1 := hG.1
  refine hI.ev he hn hk ?_ h4 (q3.keep (fun k => kk _ _ (by omega) (by omega) (by omega) (by omega) (by omega) (by omega) (by omega) (by omega) (by omega)) (fun k => kk _ _ (by omega) (by omega) (by omega) (by omega) (by omega) (by omega) (by omega) (by omega) (by omega))) (q4.one (fun c k _ _ _ _ => kk _ _ (by omega) (by omega) (by omega) (by omega) (by omega) (by omega) (by omega) (by omega) (by omega)) (fun c k _ _ _ _ => kk _ _ (by omega) (by omega) (by omega) (by omega) (by omega) (by omega) (by omega) (by omega) (by omega)) hj) (q5.keep (kk _ _ (by omega) (by omega) (by omega) (by omega) (by omega) (by omega) (by omega) (by omega) (by omega)) (fun k => kk _ _ (by omega) (by omega) (by omega) (by omega) (by omega) (by omega) (by omega) (by omega) (by omega)) (fun k => kk _ _ (by omega) (by omega) (by omega) (by omega) (by omega) (by omega) (by omega) (by omega) (by omega)) (fun k => kk _ _ (by omega) (by omega) (by omega) (by omega) (by omega) (by omega) (by omega) (by omega) (by omega))) (fun c k hc => kk _ _ (by omega) (by omega) (by omega) (by omega) (by omega) (by omega) (by omega) (by omega) (by omega)) n0 n1 n2 n3 n4 n5 n6
  unfold i_sc at hs ⊢
  have q : ∀ c k, (c = 2 ∧ k ≠ 8) ∨ (c = 214 ∧ 1 ≤ k ∧ k ≤ 9 ∧ k ≠ 4) → D' c k = D0 c k := fun c k hc => kk _ _ (by omega) (by omega) (by omega) (by omega) (by omega) (by omega) (by omega) (by omega) (by omega)
  rw [h2, h4, q 2 3 (by omega), q 2 11 (by omega), q 2 6 (by omega), q 2 10 (by omega), q 2 15 (by omega), q 2 1 (by omega), q 2 13 (by omega), q 2 12 (by omega), q 214 1 (by omega), q 214 2 (by omega), q 214 3 (by omega), q 214 5 (by omega), q 214 6 (by omega), q 214 7 (by omega), q 214 8 (by omega), q 214 9 (by omega)]
  omega
theorem p_shorten (hI : Inv G D0) (h1 : rg x1) (h2 : rg x2) : PairG E (d + 4) mX11_shorten mX12_shorten [vI x1, vI x2] G D0 := by
  obtain ⟨hG, hs, q3, q4, -⟩ := id hI
  have s2 := hs.2.1
  have s4 := hs.2.2.2.1
  have g1 := hG.1
  by_cases hw : hasW D0 x1 x2
  · obtain ⟨a, b, c⟩ := hw.w hI
    obtain ⟨⟨w1, w2, w3⟩, w4, w5, w6, w7⟩ := id (q4 _ b c)
    have hw' := hw
    unfold hasW at hw'
    generalize hj : 10 * x1 + x2 = j at *
    have no : ∀ v : Int, (D0 216 j = 1 → v = -3) → (D0 216 j ≠ 1 → v = -4 ∧ D0 214 4 = 80) → Call E (d + 4) 0 0 mX12_shorten [vR 214, vI x1, vI x2] G D0 (retI G (fun y D2 => iv v = iv y ∧ Inv G D2)) := fun v v1 v2 =>
      w_X12_shorten hG (c_hasWord hG hI.ri h1 h2 (fun _ => n_t (by
        rw [hj]
        exact ⟨⟨b, c⟩, br_ne (fun g => br_ne (fun g' => absurd (v2 g).2 g') (fun g' => rI ⟨by rw [(v2 g).1], hI⟩)) (fun g => rI ⟨by rw [v1 g], hI⟩)⟩)) (fun q => absurd hw q))
    refine w_X11_shorten hG (c_spoken hI h1 h2 (fun _ => ?_) (fun q => absurd hw q))
    rw [hj, w1, s4.1]
    refine ⟨fun _ => ⟨a, br_le (fun g => br_lt (fun g' D4 e4 => ?_) (fun g' => rIG' ⟨hG, no _ (by omega) (fun _ => ⟨rfl, by omega⟩)⟩)) (fun g => rIG' ⟨hG, no _ (fun _ => rfl) (by omega)⟩)⟩, fun q => by unfold isW at a; omega⟩
    have k4 : ∀ c k, ¬ (c = 22 + 2 * j ∧ k = 1) → D4 c k = D0 c k := fun c k q => by rw [e4, up2_ne q]
    refine mk_ev5 hG (n := D0 214 4) (by rw [k4 _ _ (by omega)]; exact s4.1) s4.2.1 g' (fun D5 k5 m5 v0 v1 v2 v3 v4 => rIG' ⟨hG.evG, ?_⟩)
    have kc : ∀ c k, c < G.1 → ¬ (c = 2 ∧ k = 8) → ¬ (c = 22 + 2 * j ∧ k = 1) → D5 c k = D0 c k := fun c k p q r => by rw [k5 c k p q, k4 c k r]
    have sz5 : D5 (22 + 2 * j) 1 = D0 216 j - 1 := by rw [k5 _ _ (by omega) (by omega), e4, up2_same]
    have ri5 : ri D5 := hI.ri.keep (kc _ _ (by omega) (by omega) (by omega)) (kc _ _ (by omega) (by omega) (by omega)) (fun k => kc _ _ (by omega) (by omega) (by omega)) (fun k => kc _ _ (by omega) (by omega) (by omega))
    have hw5 : hasW D5 x1 x2 := by
      unfold hasW at hw ⊢
      rw [kc _ _ (by omega) (by omega) (by omega), kc _ _ (by omega) (by omega) (by omega)]
      exact hw
    have hG5 : Sh (evG G 5 (D0 214 4)) := hG.evG
    rw [sz5]
    refine w_X12_shorten hG5 (c_hasWord hG5 ri5 h1 h2 (fun _ => n_t ?_) (fun q => absurd hw5 q))
    rw [hj, kc 216 j (by omega) (by omega) (by omega), kc 214 4 (by omega) (by omega) (by omega)]
    refine ⟨⟨b, c⟩, br_ne (fun _ => br_ne (fun _ => ⟨⟨b, c⟩, ⟨b, c⟩, fun D6 e6 => ?_⟩) (fun q => by omega)) (fun q => by omega)⟩
    have k6 : ∀ c k, ¬ (c = 216 ∧ k = j) → D6 c k = D5 c k := fun c k q => by rw [e6, up2_ne q]
    refine c_happens hG5 (n := D0 214 4) (by rw [k6 _ _ (by omega)]; exact kc _ _ (by omega) (by omega) (by omega)) s4.2.1 g' (fun D7 k7 m7 u0 u1 u2 u3 u4 => ⟨⟨b, c⟩, ?_⟩)
    have sz7 : D7 216 j = D0 216 j - 1 := by rw [k7 _ _ (by omega) (by omega), e6, up2_same]
    have k7' : ∀ c k, c < G.1 → ¬ (c = 2 ∧ k = 8) → ¬ (c = 22 + 2 * j ∧ k = 1) → ¬ (c = 216 ∧ k = j) → ¬ (c = 214 ∧ k = 4) → ¬ (228 ≤ c ∧ c ≤ 232 ∧ k = D0 214 4) → D7 c k = D0 c k := fun c k p1 p2 p3 p4 p5 p6 => by rw [k7 c k p5 p6, k6 c k p4, kc c k p1 p2 p3]
    have kE : ∀ k, D7 G.1 k = D5 G.1 k := fun k => by rw [k7 _ _ (by omega) (by omega), k6 _ _ (by omega)]
    rw [sz7]
    have y229 : D7 229 (D0 214 4) = D0 214 2 := by rw [u1, k6 _ _ (by omega)]; exact kc _ _ (by omega) (by omega) (by omega)
    refine rI ⟨rfl, Inv.w1 (j := j) hI rfl rfl g' (Or.inr (Or.inr (Or.inr (Or.inl ⟨rfl, rfl⟩)))) ?_ m7 (fun c k p1 p2 p3 p4 p5 p6 p7 p8 p9 => k7' c k p1 p2 (by omega) (by omega) (by omega) p4) b c ?_ u0 ?_ ?_ ?_ ?_ ?_ ?_⟩
    · rw [k7 _ _ (by omega) (by omega), k6 _ _ (by omega)]; exact m5
    · unfold i_w1
      rw [sz7, k7 (22 + 2 * j) 1 (by omega) (by omega), k6 (22 + 2 * j) 1 (by omega), sz5, k7' (22 + 2 * j) 2 (by omega) (by omega) (by omega) (by omega) (by omega) (by omega), k7' (22 + 2 * j) 3 (by omega) (by omega) (by omega) (by omega) (by omega) (by omega), k7' (22 + 2 * j) 4 (by omega) (by omega) (by omega) (by omega) (by omega) (by omega), k7' 218 j (by omega) (by omega) (by omega) (by omega) (by omega) (by omega), k7' 219 j (by omega) (by omega) (by omega) (by omega) (by omega) (by omega), k7' 220 j (by omega) (by omega) (by omega) (by omega) (by omega) (by omega)]
      refine ⟨⟨rfl, by omega, by omega⟩, fun i i0 i1 => ?_, w5, w6, w7⟩
      rw [k7' (22 + 2 * j + 1) i (by omega) (by omega) (by omega) (by omega) (by omega) (by omega), k7' 217 _ (by omega) (by omega) (by omega) (by omega) (by omega) (by omega)]
      exact w4 i i0 (by omega)
    · rw [kE]; exact v0
    · rw [kE, v1, y229, k4 _ _ (by omega)]; exact s2.1
    · rw [kE, v2, u2]
    · rw [kE, v3, u3]
    · rw [kE, v4, u4]
    · rw [y229]; exact s2.2
  · refine w_X11_shorten hG (c_spoken hI h1 h2 (fun q => absurd q hw) (fun _ => ⟨fun q => absurd rfl q, fun _ => rIG' ⟨hG, w_X12_shorten hG (c_hasWord hG hI.ri h1 h2 (fun q => absurd q hw) (fun _ => n_f (rI ⟨rfl, hI⟩)))⟩⟩))
theorem p_forget (hI : Inv G D0) (h1 : rg x1) (h2 : rg x2) : PairG E (d + 4) mX11_forget mX12_forget [vI x1, vI x2] G D0 := by
  obtain ⟨hG, hs, q3, q4, -⟩ := id hI
  have s2 := hs.2.1
  have s4 := hs.2.2.2.1
  have g1 := hG.1
  by_cases hw : hasW D0 x1 x2
  · obtain ⟨a, b, c⟩ := hw.w hI
    obtain ⟨⟨w1, w2, w3⟩, w4, w5, w6, w7⟩ := id (q4 _ b c)
    have hw' := hw
    unfold hasW at hw'
    generalize hj : 10 * x1 + x2 = j at *
    refine w_X11_forget hG (c_spoken hI h1 h2 (fun _ => ?_) (fun q => absurd hw q))
    rw [hj, s4.1]
    refine ⟨fun _ => br_lt (fun g' => ⟨a, fun D4 e4 => ?_⟩) (fun g' => rIG' ⟨hG, w_X12_forget hG (c_hasWord hG hI.ri h1 h2 (fun _ => n_t (br_ne (fun q => by omega) (fun _ => rI ⟨rfl, hI⟩))) (fun q => absurd hw q))⟩), fun q => by unfold isW at a; omega⟩
    have k4 : ∀ c k, ¬ (c = 22 + 2 * j ∧ k = 1) → D4 c k = D0 c k := fun c k q => by rw [e4, up2_ne q]
    refine mk_ev2 hG (n := D0 214 4) (by rw [k4 _ _ (by omega)]; exact s4.1) s4.2.1 g' (fun D5 k5 m5 v0 v1 v2 v3 v4 => rIG' ⟨hG.evG, ?_⟩)
    have kc : ∀ c k, c < G.1 → ¬ (c = 2 ∧ k = 8) → ¬ (c = 22 + 2 * j ∧ k = 1) → D5 c k = D0 c k := fun c k p q r => by rw [k5 c k p q, k4 c k r]
    have sz5 : D5 (22 + 2 * j) 1 = 0 := by rw [k5 _ _ (by omega) (by omega), e4, up2_same]
    have ri5 : ri D5 := hI.ri.keep (kc _ _ (by omega) (by omega) (by omega)) (kc _ _ (by omega) (by omega) (by omega)) (fun k => kc _ _ (by omega) (by omega) (by omega)) (fun k => kc _ _ (by omega) (by omega) (by omega))
    have hw5 : hasW D5 x1 x2 := by
      unfold hasW at hw ⊢
      rw [kc _ _ (by omega) (by omega) (by omega), kc _ _ (by omega) (by omega) (by omega)]
      exact hw
    have hG5 : Sh (evG G 2 (D0 214 4)) := hG.evG
    rw [kc (22 + 2 * j) 2 (by omega) (by omega) (by omega), w5]
    refine w_X12_forget hG5 (c_hasWord hG5 ri5 h1 h2 (fun _ => n_t ?_) (fun q => absurd hw5 q))
    rw [hj, kc 214 4 (by omega) (by omega) (by omega)]
    refine br_ne (fun _ => ⟨⟨b, c⟩, fun D6 e6 => ?_⟩) (fun q => by omega)
    have k6 : ∀ c k, ¬ (c = 216 ∧ k = j) → D6 c k = D5 c k := fun c k q => by rw [e6, up2_ne q]
    refine c_happens hG5 (n := D0 214 4) (by rw [k6 _ _ (by omega)]; exact kc _ _ (by omega) (by omega) (by omega)) s4.2.1 g' (fun D7 k7 m7 u0 u1 u2 u3 u4 => ⟨⟨b, c⟩, ?_⟩)
    have sz7 : D7 216 j = 0 := by rw [k7 _ _ (by omega) (by omega), e6, up2_same]
    have k7' : ∀ c k, c < G.1 → ¬ (c = 2 ∧ k = 8) → ¬ (c = 22 + 2 * j ∧ k = 1) → ¬ (c = 216 ∧ k = j) → ¬ (c = 214 ∧ k = 4) → ¬ (228 ≤ c ∧ c ≤ 232 ∧ k = D0 214 4) → D7 c k = D0 c k := fun c k p1 p2 p3 p4 p5 p6 => by rw [k7 c k p5 p6, k6 c k p4, kc c k p1 p2 p3]
    have kE : ∀ k, D7 G.1 k = D5 G.1 k := fun k => by rw [k7 _ _ (by omega) (by omega), k6 _ _ (by omega)]
    have y229 : D7 229 (D0 214 4) = D0 214 2 := by rw [u1, k6 _ _ (by omega)]; exact kc _ _ (by omega) (by omega) (by omega)
    rw [k7' 218 j (by omega) (by omega) (by omega) (by omega) (by omega) (by omega)]
    refine rI ⟨rfl, Inv.w1 (j := j) hI rfl rfl g' (Or.inr (Or.inr (Or.inr (Or.inr (Or.inl ⟨rfl, rfl⟩))))) ?_ m7 (fun c k p1 p2 p3 p4 p5 p6 p7 p8 p9 => k7' c k p1 p2 (by omega) (by omega) (by omega) p4) b c ?_ u0 ?_ ?_ ?_ ?_ ?_ ?_⟩
    · rw [k7 _ _ (by omega) (by omega), k6 _ _ (by omega)]; exact m5
    · unfold i_w1
      rw [sz7, k7 (22 + 2 * j) 1 (by omega) (by omega), k6 (22 + 2 * j) 1 (by omega), sz5, k7' (22 + 2 * j) 2 (by omega) (by omega) (by omega) (by omega) (by omega) (by omega), k7' (22 + 2 * j) 3 (by omega) (by omega) (by omega) (by omega) (by omega) (by omega), k7' (22 + 2 * j) 4 (by omega) (by omega) (by omega) (by omega) (by omega) (by omega), k7' 218 j (by omega) (by omega) (by omega) (by omega) (by omega) (by omega), k7' 219 j (by omega) (by omega) (by omega) (by omega) (by omega) (by omega), k7' 220 j (by omega) (by omega) (by omega) (by omega) (by omega) (by omega)]
      exact ⟨⟨rfl, by omega, by omega⟩, fun i i0 i1 => by omega, w5, w6, w7⟩
    · rw [kE]; exact v0
    · rw [kE, v1, y229, k4 _ _ (by omega)]; exact s2.1
    · rw [kE, v2, u2]
    · rw [kE, v3, u3]
    · rw [kE, v4, u4]
    · rw [y229]; exact s2.2
  · refine w_X11_forget hG (c_spoken hI h1 h2 (fun q => absurd q hw) (fun _ => ⟨fun q => absurd rfl q, fun _ => rIG' ⟨hG, w_X12_forget hG (c_hasWord hG hI.ri h1 h2 (fun q => absurd q hw) (fun _ => n_f (rI ⟨rfl, hI⟩)))⟩⟩))
end Ev2
