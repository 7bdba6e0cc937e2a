section Ev3
variable {E : mmE} {d : Nat} {G : mmG} {D0 D : mmD} {x1 x2 x3 j : Int}
theorem Inv.w2 {D' : mmD} {ci : Nat} {kind n e j : Int} (hI : Inv G D0) (he : G.1 = e) (hn : D0 214 4 = n) (hk : evk kind ci) (hsc : i_sc D') (h4 : D' 214 4 = n + 1)
    (kk : ∀ c k, c < e → c ≠ 2 → (c = 214 → k = 1 ∨ k = 3 ∨ k = 6 ∨ k = 57) → ¬ (228 ≤ c ∧ c ≤ 232 ∧ k = n) → ¬ (235 ≤ c ∧ c ≤ 247) → c ≠ 22 + 2 * j → c ≠ 22 + 2 * j + 1 → ¬ (216 ≤ c ∧ c ≤ 220 ∧ c ≠ 217 ∧ k = j) → ¬ (c = 217 ∧ 8 * j ≤ k ∧ k < 8 * j + 8) → D' c k = D0 c k)
    (j0 : 0 ≤ j) (j60 : j < 60) (hj : i_w1 D' j) (n0 : D' 228 n = kind) (n1 : D' e 0 = n) (n2 : D' e 1 = D' 229 n) (n3 : D' e 2 = D' 230 n) (n4 : D' e 3 = D' 231 n) (n5 : D' e 4 = D' 232 n) (n6 : 0 ≤ D' 229 n ∧ D' 229 n ≤ 9999) : Inv (evG G ci n) D' := by
  obtain ⟨hG, hs, q3, q4, q5, q6, q7, q8, q9⟩ := id hI
  have g1 := hG.1
  exact hI.ev he hn hk hsc h4 (q3.keep (fun k => kk _ _ (by omega) (by omega) (by omega) (by omega) (by omega) (by omega) (by omega) (by omega) (by omega)) (fun k => kk _ _ (by omega) (by omega) (by omega) (by omega) (by omega) (by omega) (by omega) (by omega) (by omega))) (q4.one (fun c k _ _ _ _ => kk _ _ (by omega) (by omega) (by omega) (by omega) (by omega) (by omega) (by omega) (by omega) (by omega)) (fun c k _ _ _ _ => kk _ _ (by omega) (by omega) (by omega) (by omega) (by omega) (by omega) (by omega) (by omega) (by omega)) hj) (q5.keep (kk _ _ (by omega) (by omega) (by omega) (by omega) (by omega) (by omega) (by omega) (by omega) (by omega)) (fun k => kk _ _ (by omega) (by omega) (by omega) (by omega) (by omega) (by omega) (by omega) (by omega) (by omega)) (fun k => kk _ _ (by omega) (by omega) (by omega) (by omega) (by omega) (by omega) (by omega) (by omega) (by omega)) (fun k => kk _ _ (by omega) (by omega) (by omega) (by omega) (by omega) (by omega) (by omega) (by omega) (by omega))) (fun c k hc => kk _ _ (by omega) (by omega) (by omega) (by omega) (by omega) (by omega) (by omega) (by omega) (by omega)) n0 n1 n2 n3 n4 n5 n6
theorem c_copy {P : mmD → Prop} {r0 r1 : Int} (hG : Sh G) (hw0 : isW r0) (hw1 : isW r1) (h : ∀ D', (∀ c k, ¬ (c = r0 ∧ k = 1) → c ≠ r0 + 1 → D' c k = D c k) → D' r0 1 = D r1 1 → (∀ k, 0 ≤ k → k < 8 → D' (r0 + 1) k = D (r1 + 1) k) → P D') : Call E (d + 1) 0 0 mX10_copySounds [vR r0, vR r1] G D (retV G P) := by
  refine w_X10_copySounds hG hw0 hw1 (fun D1 e1 D2 e2 => rV (h D2 (fun c k p q => ?_) ?_ (fun k k0 k8 => ?_)))
  · rw [e2]; unfold cp0; rw [if_neg (fun t => q t.1), e1, up2_ne p]
  · rw [e2]; unfold cp0; rw [if_neg (by omega), e1, up2_same]
  · rw [e2]; unfold cp0; rw [if_pos ⟨rfl, k0, k8⟩, e1, up2_ne (by unfold isW at hw0 hw1; omega)]
theorem c_takes {P : mmD → Prop} (hG : Sh G) (hj : 10 * x1 + x2 = j) (j0 : 0 ≤ j) (j1 : j < 60) (w : 0 ≤ D 216 j ∧ D 216 j ≤ 8) (h : ∀ D', (∀ c k, ¬ (c = 214 ∧ k = 35) → c ≠ 235 → D' c k = D c k) → D' 214 35 = D 216 j → (∀ k, 0 ≤ k → k < D 216 j → D' 235 k = D 217 (8 * j + k)) → P D') : Call E d 0 0 mX12_takes [vR 214, vI x1, vI x2] G D (retV G P) := by
  have lp : ∀ (n : Nat) (D' : mmD) (k : Int), D 216 j - k = n → 0 ≤ k → k ≤ D 216 j → (∀ c k, ¬ (c = 214 ∧ k = 35) → c ≠ 235 → D' c k = D c k) → D' 214 35 = D 216 j → (∀ i, 0 ≤ i → i < k → D' 235 i = D 217 (8 * j + i)) → Go E d 0 0 mX12_takes 17 [some (vR 214), some (vI x1), some (vI x2), some (vI k)] [] G D' (retV G P) := by
    intro n
    induction n with
    | zero =>
      intro D' k kn k0 k1 fr m q
      refine w_X12_takes_17 hG ?_
      rw [m]
      exact br_le (fun _ => rV (h D' fr m (fun i i0 i1 => q i i0 (by omega)))) (fun g => by omega)
    | succ n ih =>
      intro D' k kn k0 k1 fr m q
      refine w_X12_takes_17 hG ?_
      rw [m]
      refine br_le (fun g => by omega) (fun _ => ⟨⟨by omega, by omega⟩, ⟨by omega, by omega⟩, fun D1 e1 => ih D1 (k + 1) (by omega) (by omega) (by omega) (fun c i p p' => ?_) ?_ (fun i i0 i1 => ?_)⟩)
      · rw [e1, up2_ne (fun t => p' t.1)]; exact fr c i p p'
      · rw [e1, up2_ne (by omega)]; exact m
      · by_cases e : i = k
        · subst e
          rw [e1, up2_same, fr _ _ (by omega) (by omega), show 80 * x1 + 8 * x2 + i = 8 * j + i by omega]
        · rw [e1, up2_ne (by omega)]; exact q i i0 (by omega)
  refine w_X12_takes hG ⟨⟨by omega, by omega⟩, fun D1 e1 => ?_⟩
  rw [hj] at e1
  exact lp (D 216 j).toNat D1 0 (by omega) (by omega) (by omega) (fun c k p _ => by rw [e1, up2_ne p]) (by rw [e1, up2_same]) (fun i i0 i1 => by omega)
theorem c_puts {P : mmD → Prop} {w : Int} (hG : Sh G) (hj : 10 * x1 + x2 = j) (j0 : 0 ≤ j) (j1 : j < 60) (hw : D 214 35 = w) (w0 : 0 ≤ w) (w8 : w ≤ 8) (h : ∀ D', (∀ c k, ¬ (c = 216 ∧ k = j) → ¬ (c = 217 ∧ 8 * j ≤ k ∧ k < 8 * j + 8) → D' c k = D c k) → D' 216 j = w → (∀ k, 0 ≤ k → k < w → D' 217 (8 * j + k) = D 235 k) → P D') : Call E d 0 0 mX12_puts [vR 214, vI x1, vI x2] G D (retV G P) := by
  have lp : ∀ (n : Nat) (D' : mmD) (k : Int), w - k = n → 0 ≤ k → k ≤ w → (∀ c k, ¬ (c = 216 ∧ k = j) → ¬ (c = 217 ∧ 8 * j ≤ k ∧ k < 8 * j + 8) → D' c k = D c k) → D' 216 j = w → (∀ i, 0 ≤ i → i < k → D' 217 (8 * j + i) = D 235 i) → Go E d 0 0 mX12_puts 17 [some (vR 214), some (vI x1), some (vI x2), some (vI k)] [] G D' (retV G P) := by
    intro n
    induction n with
    | zero =>
      intro D' k kn k0 k1 fr m q
      refine w_X12_puts_17 hG ?_
      rw [fr 214 35 (by omega) (by omega), hw]
      exact br_le (fun _ => rV (h D' fr m (fun i i0 i1 => q i i0 (by omega)))) (fun g => by omega)
    | succ n ih =>
      intro D' k kn k0 k1 fr m q
      refine w_X12_puts_17 hG ?_
      rw [fr 214 35 (by omega) (by omega), hw]
      refine br_le (fun g => by omega) (fun _ => ⟨⟨by omega, by omega⟩, ⟨by omega, by omega⟩, fun D1 e1 => ih D1 (k + 1) (by omega) (by omega) (by omega) (fun c i p p' => ?_) ?_ (fun i i0 i1 => ?_)⟩)
      · rw [e1, up2_ne (by omega)]; exact fr c i p p'
      · rw [e1, up2_ne (by omega)]; exact m
      · by_cases e : i = k
        · subst e
          rw [e1, show 80 * x1 + 8 * x2 + i = 8 * j + i by omega, up2_same, fr _ _ (by omega) (by omega)]
        · rw [e1, up2_ne (by omega)]; exact q i i0 (by omega)
  refine w_X12_puts hG ⟨⟨by omega, by omega⟩, fun D1 e1 => ?_⟩
  rw [hj, hw] at e1
  exact lp w.toNat D1 0 (by omega) (by omega) (by omega) (fun c k p _ => by rw [e1, up2_ne p]) (by rw [e1, up2_same]) (fun i i0 i1 => by omega)
theorem p_loan (hI : Inv G D0) (h1 : rg x1) (h2 : rg x2) (h3 : rg x3) : PairG E (d + 4) mX11_loan mX12_loan [vI x1, vI x2, vI x3] G D0 := by
  obtain ⟨hG, hs, q3, q4, -⟩ := id hI
  have s1 := hs.1
  have s2 := hs.2.1
  have s4 := hs.2.2.2.1
  have g1 := hG.1
  have h2' := h2
  have h3' := h3
  unfold rg at h2' h3'
  by_cases hw : hasW D0 x2 x1
  · obtain ⟨a, b, c⟩ := hw.w hI
    obtain ⟨⟨w1, w2, w3⟩, w4, w5, w6, w7⟩ := id (q4 _ b c)
    have hw' := hw
    unfold hasW at hw'
    have no : ∀ v : Int, ((x3 < 0 ∨ D0 214 1 ≤ x3) → v = -1) → (0 ≤ x3 → x3 < D0 214 1 → (x2 = x3 → v = -2) ∧ (x2 ≠ x3 → v = -4 ∧ D0 214 4 = 80)) → Call E (d + 4) 0 0 mX12_loan [vR 214, vI x1, vI x2, vI x3] G D0 (retI G (fun y D2 => iv v = iv y ∧ Inv G D2)) := fun v v1 v2 =>
      w_X12_loan hG (c_hasWord hG hI.ri h2 h1 (fun _ => b_t (c_rTongue hG hI.ri h3 (fun p q => n_t (br_ne (fun g => br_ne (fun g' => absurd ((v2 p q).2 g).2 g') (fun g' => rI ⟨by rw [((v2 p q).2 g).1], hI⟩)) (fun g => rI ⟨by rw [(v2 p q).1 g], hI⟩))) (fun q => n_f (rI ⟨by rw [v1 q], hI⟩)))) (fun q => absurd hw q))
    refine w_X11_loan hG (c_spoken hI h2 h1 (fun _ => ⟨fun q => by unfold isW at a; omega, fun _ => c_isTongue hI h3 (fun p q => n_t ?_) (fun q => n_f (rIG' ⟨hG, no _ (fun _ => rfl) (by omega)⟩))⟩) (fun q => absurd hw q))
    rw [s4.1]
    refine br_ne (fun g => br_lt (fun g' => ?_) (fun g' => rIG' ⟨hG, no _ (by omega) (fun _ _ => ⟨fun q => absurd q g, fun _ => ⟨rfl, by omega⟩⟩)⟩)) (fun g => rIG' ⟨hG, no _ (by omega) (fun _ _ => ⟨fun _ => rfl, fun q => absurd g q⟩)⟩)
    rw [show x3 * 10 + x1 = 10 * x3 + x1 by omega]
    generalize hi : 10 * x2 + x1 = i at *
    generalize hj : 10 * x3 + x1 = j at *
    have j0 : 0 ≤ j ∧ j < 60 := by omega
    have ij : i ≠ j := by omega
    obtain ⟨⟨y1, y2, y3⟩, y4, y5, y6, y7⟩ := id (q4 j j0.1 j0.2)
    refine ⟨j0, c_copy hG (isW.of j0.1 j0.2) a (fun D4 k4 m4 l4 => ⟨a, fun D10 e10 D11 e11 => ?_⟩)⟩
    have k11 : ∀ c k, ¬ (c = 22 + 2 * j ∧ (k = 1 ∨ k = 2 ∨ k = 3)) → c ≠ 22 + 2 * j + 1 → D11 c k = D0 c k := fun c k p q => by rw [e11, up2_ne (by omega), e10, up2_ne (by omega), k4 c k (by omega) q]
    have r11 : D11 (22 + 2 * j) 2 = D0 218 i := by rw [e11, up2_ne (by omega), e10, up2_same, k4 _ _ (by omega) (by omega)]; exact w5
    have n11 : D11 (22 + 2 * j) 3 = 1 := by rw [e11, up2_same]
    have z11 : D11 (22 + 2 * j) 1 = D0 216 i := by rw [e11, up2_ne (by omega), e10, up2_ne (by omega), m4]; exact w1
    have l11 : ∀ k, 0 ≤ k → k < 8 → D11 (22 + 2 * j + 1) k = D0 (22 + 2 * i + 1) k := fun k k0 k8 => by rw [e11, up2_ne (by omega), e10, up2_ne (by omega)]; exact l4 k k0 k8
    refine mk_ev4 hG (n := D0 214 4) (by rw [k11 _ _ (by omega) (by omega)]; exact s4.1) s4.2.1 g' (fun D5 k5 m5 v0 v1 v2 v3 v4 => rIG' ⟨hG.evG, ?_⟩)
    have kc : ∀ c k, c < G.1 → ¬ (c = 2 ∧ k = 8) → ¬ (c = 22 + 2 * j ∧ (k = 1 ∨ k = 2 ∨ k = 3)) → c ≠ 22 + 2 * j + 1 → D5 c k = D0 c k := fun c k p q r t => by rw [k5 c k p q, k11 c k r t]
    have ri5 : ri D5 := hI.ri.keep (kc _ _ (by omega) (by omega) (by omega) (by omega)) (kc _ _ (by omega) (by omega) (by omega) (by omega)) (fun k => kc _ _ (by omega) (by omega) (by omega) (by omega)) (fun k => kc _ _ (by omega) (by omega) (by omega) (by omega))
    have hw5 : hasW D5 x2 x1 := by
      unfold hasW at hw ⊢
      rw [kc _ _ (by omega) (by omega) (by omega) (by omega), kc _ _ (by omega) (by omega) (by omega) (by omega)]
      exact hw
    have hG5 : Sh (evG G 4 (D0 214 4)) := hG.evG
    rw [k5 (22 + 2 * j) 2 (by omega) (by omega), r11]
    refine w_X12_loan hG5 (c_hasWord hG5 ri5 h2 h1 (fun _ => b_t (c_rTongue hG5 ri5 h3 (fun _ _ => n_t (br_ne (fun _ => ?_) (fun q => absurd q g))) (fun q => ?_))) (fun q => absurd hw5 q))
    · rw [kc 214 4 (by omega) (by omega) (by omega) (by omega)]
      have e216 : D5 216 i = D0 216 i := kc _ _ (by omega) (by omega) (by omega) (by omega)
      refine br_ne (fun _ => c_takes hG5 hi b c (by rw [e216]; exact ⟨w2, w3⟩) (fun D6 k6 m6 l6 => c_puts hG5 hj j0.1 j0.2 (m6.trans e216) w2 w3 (fun D7 k7 m7 l7 => ?_))) (fun q => by omega)
      rw [hi, hj]
      refine ⟨⟨b, c⟩, j0, fun D9 e9 => ⟨j0, fun D10' e10' => ?_⟩⟩
      have k10 : ∀ c k, c < G.1 → ¬ (c = 2 ∧ k = 8) → ¬ (c = 22 + 2 * j ∧ (k = 1 ∨ k = 2 ∨ k = 3)) → c ≠ 22 + 2 * j + 1 → ¬ (c = 214 ∧ k = 35) → c ≠ 235 → ¬ (216 ≤ c ∧ c ≤ 219 ∧ c ≠ 217 ∧ k = j) → ¬ (c = 217 ∧ 8 * j ≤ k ∧ k < 8 * j + 8) → D10' c k = D0 c k := fun c k p1 p2 p3 p4 p5 p6 p7 p8 => by
        rw [e10', up2_ne (by omega), e9, up2_ne (by omega), k7 c k (by omega) p8, k6 c k p5 p6, kc c k p1 p2 p3 p4]
      have z10 : D10' 216 j = D0 216 i := by rw [e10', up2_ne (by omega), e9, up2_ne (by omega), m7]
      have r10 : D10' 218 j = D0 218 i := by rw [e10', up2_ne (by omega), e9, up2_same, k7 _ _ (by omega) (by omega), k6 _ _ (by omega) (by omega)]; exact kc _ _ (by omega) (by omega) (by omega) (by omega)
      have n10 : D10' 219 j = 1 := by rw [e10', up2_same]
      have l10 : ∀ k, 0 ≤ k → k < D0 216 i → D10' 217 (8 * j + k) = D0 217 (8 * i + k) := fun k k0 k1 => by
        rw [e10', up2_ne (by omega), e9, up2_ne (by omega), l7 k k0 k1, l6 k k0 (by omega)]
        exact kc _ _ (by omega) (by omega) (by omega) (by omega)
      have kC : ∀ k, D10' (22 + 2 * j) k = D11 (22 + 2 * j) k := fun k => by rw [e10', up2_ne (by omega), e9, up2_ne (by omega), k7 _ _ (by omega) (by omega), k6 _ _ (by omega) (by omega), k5 _ _ (by omega) (by omega)]
      have kL : ∀ k, D10' (22 + 2 * j + 1) k = D11 (22 + 2 * j + 1) k := fun k => by rw [e10', up2_ne (by omega), e9, up2_ne (by omega), k7 _ _ (by omega) (by omega), k6 _ _ (by omega) (by omega), k5 _ _ (by omega) (by omega)]
      have kE : ∀ k, D10' G.1 k = D5 G.1 k := fun k => by rw [e10', up2_ne (by omega), e9, up2_ne (by omega), k7 _ _ (by omega) (by omega), k6 _ _ (by omega) (by omega)]
      refine c_happens hG5 (n := D0 214 4) (k10 _ _ (by omega) (by omega) (by omega) (by omega) (by omega) (by omega) (by omega) (by omega)) s4.2.1 g' (fun D12 k12 m12 u0 u1 u2 u3 u4 => ⟨j0, ?_⟩)
      rw [k12 218 j (by omega) (by omega), r10]
      have y229 : D12 229 (D0 214 4) = D0 214 2 := by rw [u1]; exact k10 _ _ (by omega) (by omega) (by omega) (by omega) (by omega) (by omega) (by omega) (by omega)
      refine rI ⟨rfl, Inv.w1 (j := j) hI rfl rfl g' (Or.inr (Or.inl ⟨rfl, rfl⟩)) ?_ m12 (fun c k p1 p2 p3 p4 p5 p6 p7 p8 p9 => ?_) j0.1 j0.2 ?_ u0 ?_ ?_ ?_ ?_ ?_ ?_⟩
      · rw [k12 _ _ (by omega) (by omega), e10', up2_ne (by omega), e9, up2_ne (by omega), k7 _ _ (by omega) (by omega), k6 _ _ (by omega) (by omega)]; exact m5
      · rw [k12 c k (by omega) p4]; exact k10 c k p1 p2 (by omega) p7 (by omega) (by omega) (by omega) p9
      · unfold i_w1
        rw [k12 (22 + 2 * j) 1 (by omega) (by omega), k12 (22 + 2 * j) 2 (by omega) (by omega), k12 (22 + 2 * j) 3 (by omega) (by omega), k12 (22 + 2 * j) 4 (by omega) (by omega), k12 216 j (by omega) (by omega), k12 218 j (by omega) (by omega), k12 219 j (by omega) (by omega), k12 220 j (by omega) (by omega), kC, kC, kC, kC, z11, r11, n11, z10, r10, n10, k11 (22 + 2 * j) 4 (by omega) (by omega), k10 220 j (by omega) (by omega) (by omega) (by omega) (by omega) (by omega) (by omega) (by omega)]
        refine ⟨⟨rfl, w2, w3⟩, fun k k0 k1 => ?_, rfl, ⟨rfl, Or.inr rfl⟩, y7⟩
        rw [k12 (22 + 2 * j + 1) k (by omega) (by omega), k12 217 _ (by omega) (by omega), kL, l11 k k0 (by omega), l10 k k0 k1]
        exact w4 k k0 k1
      · rw [k12 _ _ (by omega) (by omega), kE]; exact v0
      · rw [k12 _ _ (by omega) (by omega), kE, v1, y229, k11 _ _ (by omega) (by omega)]; exact s2.1
      · rw [k12 _ _ (by omega) (by omega), kE, v2, u2]
      · rw [k12 _ _ (by omega) (by omega), kE, v3, u3]
      · rw [k12 _ _ (by omega) (by omega), kE, v4, u4]
      · rw [y229]; exact s2.2
    · rw [kc 214 1 (by omega) (by omega) (by omega) (by omega)] at q; omega
  · refine w_X11_loan hG (c_spoken hI h2 h1 (fun q => absurd q hw) (fun _ => ⟨fun _ => rIG' ⟨hG, w_X12_loan hG (c_hasWord hG hI.ri h2 h1 (fun q => absurd q hw) (fun _ => b_f (rI ⟨rfl, hI⟩)))⟩, fun q => absurd rfl q⟩))
end Ev3
