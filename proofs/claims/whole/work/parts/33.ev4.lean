section Ev4
variable {E : mmE} {d : Nat} {G : mmG} {D0 D : mmD} {x1 x2 x3 j : Int}
def ltr (x : Int) : Prop := 97 ≤ x ∧ x ≤ 122
/-- how the tape is no WORD -/
def flt (b : Int → Int) (n k : Int) : Prop := 0 ≤ k ∧ ((k < n ∧ k ≤ 8 ∧ (k = 8 ∨ ¬ ltr (b k)) ∧ ∀ i, 0 ≤ i → i < k → ltr (b i)) ∨ (n = 0 ∧ k = 0))
theorem c_fault {P : Int → mmD → Prop} {n : Int} {b : Int → Int} (hG : Sh G) (n0 : 0 ≤ n) (n1 : n ≤ 80) (hb : ∀ i, 0 ≤ i → i < 80 → D 3 i = b i ∧ 0 ≤ b i ∧ b i < 256) (hO : 0 < n → n ≤ 8 → (∀ i, 0 ≤ i → i < n → ltr (b i)) → P (-1) D) (hF : ∀ k, flt b n k → P k D) : Call E (d + 1) 0 0 mX11_faultOfWord [vR 2, vI n] G D (retI G P) := by
  have lp : ∀ (m : Nat) (k : Int), n - k = m → 0 ≤ k → k ≤ n → k ≤ 8 → (∀ i, 0 ≤ i → i < k → ltr (b i)) → Go E (d + 1) 0 0 mX11_faultOfWord 2 [some (vR 2), some (vI n), some (vI k)] [] G D (retI G P) := by
    intro m
    induction m with
    | zero =>
      intro k km k0 k1 k8 hl
      exact w_X11_faultOfWord_2 hG (br_le (fun _ => br_ne (fun g => rI (hO (by omega) (by omega) (fun i i0 i1 => hl i i0 (by omega)))) (fun g => rI (hF 0 ⟨by omega, Or.inr ⟨g, rfl⟩⟩))) (fun g => by omega))
    | succ m ih =>
      intro k km k0 k1 k8 hl
      refine w_X11_faultOfWord_2 hG (br_le (fun g => by omega) (fun _ => br_le (fun g => rI (hF k ⟨k0, Or.inl ⟨by omega, k8, Or.inl (by omega), hl⟩⟩)) (fun g => ⟨⟨by omega, by omega⟩, ?_⟩)))
      obtain ⟨e, r1, r2⟩ := hb k k0 (by omega)
      rw [e]
      refine c_isLetterByte hG (by unfold rg; omega) (fun p q => n_t (ih (k + 1) (by omega) (by omega) (by omega) (by omega) (fun i i0 i1 => ?_))) (fun q => n_f (rI (hF k ⟨k0, Or.inl ⟨by omega, k8, Or.inr q, hl⟩⟩)))
      by_cases e' : i = k
      · subst e'; exact ⟨p, q⟩
      · exact hl i i0 (by omega)
  exact w_X11_faultOfWord hG (lp n.toNat 0 (by omega) (by omega) n0 (by omega) (fun i i0 i1 => by omega))
theorem c_readS {P : mmD → Prop} {n r : Int} {b : Int → Int} (hG : Sh G) (hw : isW r) (n0 : 0 ≤ n) (n1 : n ≤ 8) (hb : ∀ i, 0 ≤ i → i < n → D 3 i = b i) (h : ∀ D', (∀ c k, ¬ (c = r ∧ k = 1) → c ≠ r + 1 → D' c k = D c k) → D' r 1 = n → (∀ k, 0 ≤ k → k < n → D' (r + 1) k = b k - 97) → P D') : Call E (d + 1) 0 0 mX10_readSounds [vR r, vR 3, vI n] G D (retV G P) := by
  have hw' := hw
  unfold isW at hw'
  have lp : ∀ (m : Nat) (D' : mmD) (k : Int), n - k = m → 0 ≤ k → k ≤ n → (∀ c k, ¬ (c = r ∧ k = 1) → c ≠ r + 1 → D' c k = D c k) → D' r 1 = n → (∀ i, 0 ≤ i → i < k → D' (r + 1) i = b i - 97) → Go E (d + 1) 0 0 mX10_readSounds 12 [some (vR r), some (vR 3), none, some (vI k)] [] G D' (retV G P) := by
    intro m
    induction m with
    | zero =>
      intro D' k km k0 k1 fr e q
      refine w_X10_readSounds_12 hG ⟨hw, ?_⟩
      rw [e]
      exact br_le (fun _ => rV (h D' fr e (fun i i0 i1 => q i i0 (by omega)))) (fun g => by omega)
    | succ m ih =>
      intro D' k km k0 k1 fr e q
      refine w_X10_readSounds_12 hG ⟨hw, ?_⟩
      rw [e]
      refine br_le (fun g => by omega) (fun _ => ⟨⟨by omega, by omega⟩, ⟨by omega, by omega⟩, fun D2 e2 => ih D2 (k + 1) (by omega) (by omega) (by omega) (fun c i p p' => ?_) ?_ (fun i i0 i1 => ?_)⟩)
      · rw [e2, up2_ne (by omega)]; exact fr c i p p'
      · rw [e2, up2_ne (by omega)]; exact e
      · by_cases ei : i = k
        · subst ei
          rw [e2, up2_same, fr _ _ (by omega) (by omega), hb i i0 (by omega)]
        · rw [e2, up2_ne (by omega)]; exact q i i0 (by omega)
  refine w_X10_readSounds hG hw (fun D1 e1 => ?_)
  have mn : (if iv 8 < iv n then 8 else n) = n := by
    have := iv_lt (a := 8) (b := n) (by omega) (by omega) (by omega) (by omega)
    rw [if_neg (by rw [this]; omega)]
  rw [mn] at e1
  exact lp n.toNat D1 0 (by omega) (by omega) n0 (fun c k p _ => by rw [e1, up2_ne p]) (by rw [e1, up2_same]) (fun i i0 i1 => by omega)
/-- the reference reads the tape, as far as it goes well -/
theorem l_rcoin {Q : mmQ} {n : Int} {b : Int → Int} (hG : Sh G) (hb : ∀ i, 0 ≤ i → i < 80 → D 215 i = b i ∧ 0 ≤ b i ∧ b i < 256) (z : Int) (z8 : z ≤ 8) (zn : z ≤ n) (n80 : n ≤ 80) (hl : ∀ i, 0 ≤ i → i < z → ltr (b i))
    (K : ∀ D', (∀ c k, c ≠ 235 → D' c k = D c k) → (∀ k, 0 ≤ k → k < z → D' 235 k = b k - 96) → Go E (d + 3) 0 0 mX12_coin 42 [some (vR 214), some (vI x1), some (vI x2), some (vI n), some (vI z)] [] G D' Q) :
    ∀ (m : Nat) (D' : mmD) (k : Int), z - k = m → 0 ≤ k → k ≤ z → (∀ c k, c ≠ 235 → D' c k = D c k) → (∀ i, 0 ≤ i → i < k → D' 235 i = b i - 96) → Go E (d + 3) 0 0 mX12_coin 42 [some (vR 214), some (vI x1), some (vI x2), some (vI n), some (vI k)] [] G D' Q := by
  intro m
  induction m with
  | zero =>
    intro D' k km k0 k1 fr q
    have e : k = z := by omega
    subst e
    exact K D' fr q
  | succ m ih =>
    intro D' k km k0 k1 fr q
    obtain ⟨e, r1, r2⟩ := hb k k0 (by omega)
    have l := hl k k0 (by omega)
    unfold ltr at l
    refine w_X12_coin_42 hG (br_le (fun g => by omega) (fun _ => br_eq (fun g => by omega) (fun g => ⟨⟨by omega, by omega⟩, ?_⟩)))
    rw [fr _ _ (by omega), e]
    refine c_in hG (by unfold rg; omega) (by unfold rg; omega) (by unfold rg; omega) (fun _ _ => n_t ⟨⟨by omega, by omega⟩, ⟨by omega, by omega⟩, fun D1 e1 => ih D1 (k + 1) (by omega) (by omega) (by omega) (fun c i p => ?_) (fun i i0 i1 => ?_)⟩) (fun g => by omega)
    · rw [e1, up2_ne (fun t => p t.1)]; exact fr c i p
    · by_cases ei : i = k
      · subst ei
        rw [e1, up2_same, fr _ _ (by omega), e]
      · rw [e1, up2_ne (by omega)]; exact q i i0 (by omega)
theorem p_coin (hI : Inv G D0) (h1 : rg x1) (h2 : rg x2) : PairG E (d + 4) mX11_coin mX12_coin [vI x1, vI x2] G D0 := by
  obtain ⟨hG, hs, q3, q4, -⟩ := id hI
  have s1 := hs.1
  have s2 := hs.2.1
  have s4 := hs.2.2.2.1
  have s5 := hs.2.2.2.2.1
  have s7 := hs.2.2.2.2.2.2.1
  have g1 := hG.1
  have no : ∀ v : Int, ((x1 < 0 ∨ D0 214 1 ≤ x1 ∨ x2 < 0 ∨ 10 ≤ x2) → v = -1) → (0 ≤ x1 → x1 < D0 214 1 → 0 ≤ x2 → x2 < 10 → v = -4 ∧ D0 214 4 = 80) → Call E (d + 4) 0 0 mX12_coin [vR 214, vI x1, vI x2] G D0 (retI G (fun y D2 => iv v = iv y ∧ Inv G D2)) := fun v v1 v2 =>
    w_X12_coin hG (c_rTongue hG hI.ri h1 (fun a b => b_t (c_rMeaning hG h2 (fun a' b' => n_t (br_ne (fun g => absurd (v2 a b a' b').2 g) (fun g => rI ⟨by rw [(v2 a b a' b').1], hI⟩))) (fun g => n_f (rI ⟨by rw [v1 (by omega)], hI⟩)))) (fun g => b_f (rI ⟨by rw [v1 (by omega)], hI⟩)))
  refine w_X11_coin hG (c_isTongue hI h1 (fun a b => b_t (c_isMeaning hG h2 (fun a' b' => n_t ?_) (fun g => n_f (rIG' ⟨hG, no _ (fun _ => rfl) (by omega)⟩)))) (fun g => b_f (rIG' ⟨hG, no _ (fun _ => rfl) (by omega)⟩)))
  rw [s4.1, s7.1]
  refine br_lt (fun g' D5 e5 => ?_) (fun g => rIG' ⟨hG, no _ (by omega) (fun _ _ _ _ => ⟨rfl, by omega⟩)⟩)
  have k5 : ∀ c k, ¬ (c = 2 ∧ k = 1) → D5 c k = D0 c k := fun c k q => by rw [e5, up2_ne q]
  have hb : ∀ i, 0 ≤ i → i < 80 → D5 3 i = D0 215 i ∧ 0 ≤ D0 215 i ∧ D0 215 i < 256 := fun i i0 i1 => by rw [k5 _ _ (by omega)]; exact q3 i i0 i1
  refine c_fault (b := fun i => D0 215 i) hG s7.2.1 s7.2.2 hb (fun n0 n8 hl => br_lt (fun _ => ?_) (fun g => by omega)) (fun k hf => ?_)
  · rw [show x1 * 10 + x2 = 10 * x1 + x2 by omega]
    generalize hj : 10 * x1 + x2 = j at *
    have j0 : 0 ≤ j ∧ j < 60 := by omega
    obtain ⟨⟨y1, y2, y3⟩, y4, y5, y6, y7⟩ := id (q4 j j0.1 j0.2)
    refine ⟨j0, c_readS (b := fun i => D0 215 i) hG (isW.of j0.1 j0.2) (by omega) n8 (fun i i0 i1 => (hb i i0 (by omega)).1) (fun D10 k10 m10 l10 D12 e12 D13 e13 D14 e14 => ?_)⟩
    have r10 : D10 2 10 = D0 214 5 := by rw [k10 _ _ (by omega) (by omega), k5 _ _ (by omega)]; exact s5.1
    have k14 : ∀ c k, ¬ (c = 22 + 2 * j ∧ (k = 1 ∨ k = 2 ∨ k = 3)) → c ≠ 22 + 2 * j + 1 → ¬ (c = 2 ∧ (k = 1 ∨ k = 10)) → D14 c k = D0 c k := fun c k p q r => by rw [e14, up2_ne (by omega), e13, up2_ne (by omega), e12, up2_ne (by omega), k10 c k (by omega) q, k5 c k (by omega)]
    have a1 : D14 (22 + 2 * j) 1 = D0 214 7 := by rw [e14, up2_ne (by omega), e13, up2_ne (by omega), e12, up2_ne (by omega)]; exact m10
    have a2 : D14 (22 + 2 * j) 2 = D0 214 5 := by rw [e14, up2_ne (by omega), e13, up2_ne (by omega), e12, up2_same, r10]
    have a3 : D14 (22 + 2 * j) 3 = 0 := by rw [e14, up2_ne (by omega), e13, up2_same]
    have a4 : ∀ k, 0 ≤ k → k < D0 214 7 → D14 (22 + 2 * j + 1) k = D0 215 k - 97 := fun k k0 k1 => by rw [e14, up2_ne (by omega), e13, up2_ne (by omega), e12, up2_ne (by omega)]; exact l10 k k0 k1
    have a5 : D14 2 10 = D0 214 5 + 1 := by rw [e14, up2_same, e13, up2_ne (by omega), e12, up2_ne (by omega), r10]
    have a6 : D14 2 1 = 0 := by rw [e14, up2_ne (by omega), e13, up2_ne (by omega), e12, up2_ne (by omega), k10 _ _ (by omega) (by omega), e5, up2_same]
    refine mk_ev1 hG (n := D0 214 4) (by rw [k14 _ _ (by omega) (by omega) (by omega)]; exact s4.1) s4.2.1 g' (fun D6 k6 m6 v0 v1 v2 v3 v4 => rIG' ⟨hG.evG, ?_⟩)
    have kc : ∀ c k, c < G.1 → c ≠ 2 → ¬ (c = 22 + 2 * j ∧ (k = 1 ∨ k = 2 ∨ k = 3)) → c ≠ 22 + 2 * j + 1 → D6 c k = D0 c k := fun c k p q r t => by rw [k6 c k p (by omega), k14 c k r t (by omega)]
    have ri6 : ri D6 := hI.ri.keep (kc _ _ (by omega) (by omega) (by omega) (by omega)) (kc _ _ (by omega) (by omega) (by omega) (by omega)) (fun k => kc _ _ (by omega) (by omega) (by omega) (by omega)) (fun k => kc _ _ (by omega) (by omega) (by omega) (by omega))
    have hG6 : Sh (evG G 1 (D0 214 4)) := hG.evG
    rw [k6 (22 + 2 * j) 2 (by omega) (by omega), a2]
    refine w_X12_coin hG6 (c_rTongue hG6 ri6 h1 (fun _ _ => b_t (c_rMeaning hG6 h2 (fun _ _ => n_t ?_) (fun g => by omega))) (fun q => ?_))
    · rw [kc 214 4 (by omega) (by omega) (by omega) (by omega), kc 214 7 (by omega) (by omega) (by omega) (by omega)]
      refine br_ne (fun _ D7 e7 => ?_) (fun q => by omega)
      have k7 : ∀ c k, ¬ (c = 214 ∧ k = 7) → D7 c k = D6 c k := fun c k q => by rw [e7, up2_ne q]
      refine l_rcoin (b := fun i => D0 215 i) (D := D7) hG6 (fun i i0 i1 => by rw [k7 _ _ (by omega), kc _ _ (by omega) (by omega) (by omega) (by omega)]; exact ⟨rfl, (q3 i i0 i1).2⟩) (D0 214 7) n8 (by omega) s7.2.2 hl (fun D8 k8 l8 => ?_) (D0 214 7).toNat D7 0 (by omega) (by omega) (by omega) (fun _ _ _ => rfl) (fun i i0 i1 => by omega)
      refine w_X12_coin_42 hG6 (br_le (fun _ => br_ne (fun _ D9 e9 => ?_) (fun q => by omega)) (fun q => by omega))
      refine c_puts hG6 hj j0.1 j0.2 (w := D0 214 7) (by rw [e9, up2_same]) (by omega) n8 (fun F2 kf2 mf2 lf2 => ?_)
      rw [hj]
      refine ⟨j0, fun F4 ef4 => ⟨j0, fun F5 ef5 F6 ef6 => ?_⟩⟩
      have z5 : F2 214 5 = D0 214 5 := by rw [kf2 _ _ (by omega) (by omega), e9, up2_ne (by omega), k8 _ _ (by omega), k7 _ _ (by omega)]; exact kc _ _ (by omega) (by omega) (by omega) (by omega)
      have kF : ∀ c k, ¬ (c = 214 ∧ (k = 5 ∨ k = 7 ∨ k = 35)) → c ≠ 235 → ¬ (216 ≤ c ∧ c ≤ 219 ∧ c ≠ 217 ∧ k = j) → ¬ (c = 217 ∧ 8 * j ≤ k ∧ k < 8 * j + 8) → F6 c k = D6 c k := fun c k p1 p2 p3 p4 => by
        rw [ef6, up2_ne (by omega), ef5, up2_ne (by omega), ef4, up2_ne (by omega), kf2 c k (by omega) p4, e9, up2_ne (by omega), k8 c k p2, k7 c k (by omega)]
      have b1 : F6 216 j = D0 214 7 := by rw [ef6, up2_ne (by omega), ef5, up2_ne (by omega), ef4, up2_ne (by omega)]; exact mf2
      have b2 : F6 218 j = D0 214 5 := by rw [ef6, up2_ne (by omega), ef5, up2_ne (by omega), ef4, up2_same, z5]
      have b3 : F6 219 j = 0 := by rw [ef6, up2_ne (by omega), ef5, up2_same]
      have b4 : ∀ k, 0 ≤ k → k < D0 214 7 → F6 217 (8 * j + k) = D0 215 k - 96 := fun k k0 k1 => by rw [ef6, up2_ne (by omega), ef5, up2_ne (by omega), ef4, up2_ne (by omega), lf2 k k0 k1, e9, up2_ne (by omega)]; exact l8 k k0 k1
      have b5 : F6 214 5 = D0 214 5 + 1 := by rw [ef6, up2_same, ef5, up2_ne (by omega), ef4, up2_ne (by omega), z5]
      have b6 : F6 214 7 = 0 := by rw [ef6, up2_ne (by omega), ef5, up2_ne (by omega), ef4, up2_ne (by omega), kf2 _ _ (by omega) (by omega), e9, up2_ne (by omega), k8 _ _ (by omega), e7, up2_same]
      have kk : ∀ c k, c < G.1 → c ≠ 2 → ¬ (c = 22 + 2 * j ∧ (k = 1 ∨ k = 2 ∨ k = 3)) → c ≠ 22 + 2 * j + 1 → ¬ (c = 214 ∧ (k = 5 ∨ k = 7 ∨ k = 35)) → c ≠ 235 → ¬ (216 ≤ c ∧ c ≤ 219 ∧ c ≠ 217 ∧ k = j) → ¬ (c = 217 ∧ 8 * j ≤ k ∧ k < 8 * j + 8) → F6 c k = D0 c k := fun c k p1 p2 p3 p4 p5 p6 p7 p8 => by rw [kF c k p5 p6 p7 p8, kc c k p1 p2 p3 p4]
      refine c_happens hG6 (n := D0 214 4) (kk _ _ (by omega) (by omega) (by omega) (by omega) (by omega) (by omega) (by omega) (by omega)) s4.2.1 g' (fun D12' k12 m12 u0 u1 u2 u3 u4 => ?_)
      rw [k12 214 5 (by omega) (by omega), b5]
      have y229 : D12' 229 (D0 214 4) = D0 214 2 := by rw [u1]; exact kk _ _ (by omega) (by omega) (by omega) (by omega) (by omega) (by omega) (by omega) (by omega)
      have kC : ∀ c k, ¬ (c = 214 ∧ (k = 4 ∨ k = 5 ∨ k = 7 ∨ k = 35)) → ¬ (228 ≤ c ∧ c ≤ 232 ∧ k = D0 214 4) → c ≠ 235 → ¬ (216 ≤ c ∧ c ≤ 219 ∧ c ≠ 217 ∧ k = j) → ¬ (c = 217 ∧ 8 * j ≤ k ∧ k < 8 * j + 8) → D12' c k = D6 c k := fun c k p1 p2 p3 p4 p5 => by rw [k12 c k (by omega) p2, kF c k (by omega) p3 p4 p5]
      refine rI ⟨by rw [show D0 214 5 + 1 - 1 = D0 214 5 by omega], Inv.w2 (j := j) hI rfl rfl (Or.inr (Or.inr (Or.inr (Or.inr (Or.inr ⟨rfl, rfl⟩))))) ?_ m12 (fun c k p1 p2 p3 p4 p5 p6 p7 p8 p9 => ?_) j0.1 j0.2 ?_ u0 ?_ ?_ ?_ ?_ ?_ ?_⟩
      · have c2 : ∀ k, k ≠ 1 → k ≠ 8 → k ≠ 10 → D12' 2 k = D0 2 k := fun k p q r => by rw [kC _ _ (by omega) (by omega) (by omega) (by omega) (by omega), k6 _ _ (by omega) (by omega), k14 _ _ (by omega) (by omega) (by omega)]
        have c3 : ∀ k, 1 ≤ k → k ≤ 9 → k ≠ 4 → k ≠ 5 → k ≠ 7 → D12' 214 k = D0 214 k := fun k p q r t u => by rw [k12 _ _ (by omega) (by omega)]; exact kk _ _ (by omega) (by omega) (by omega) (by omega) (by omega) (by omega) (by omega) (by omega)
        have c4 : D12' 2 1 = 0 := by rw [kC _ _ (by omega) (by omega) (by omega) (by omega) (by omega), k6 _ _ (by omega) (by omega)]; exact a6
        have c5 : D12' 2 10 = D0 214 5 + 1 := by rw [kC _ _ (by omega) (by omega) (by omega) (by omega) (by omega), k6 _ _ (by omega) (by omega)]; exact a5
        have c6 : D12' 2 8 = D0 214 4 + 1 := by rw [kC _ _ (by omega) (by omega) (by omega) (by omega) (by omega)]; exact m6
        have c7 : D12' 214 5 = D0 214 5 + 1 := by rw [k12 _ _ (by omega) (by omega)]; exact b5
        have c8 : D12' 214 7 = 0 := by rw [k12 _ _ (by omega) (by omega)]; exact b6
        unfold i_sc at hs ⊢
        rw [m12, c4, c5, c6, c7, c8, c2 3 (by omega) (by omega) (by omega), c2 11 (by omega) (by omega) (by omega), c2 6 (by omega) (by omega) (by omega), c2 15 (by omega) (by omega) (by omega), c2 13 (by omega) (by omega) (by omega), c2 12 (by omega) (by omega) (by omega), c3 1 (by omega) (by omega) (by omega) (by omega) (by omega), c3 2 (by omega) (by omega) (by omega) (by omega) (by omega), c3 3 (by omega) (by omega) (by omega) (by omega) (by omega), c3 6 (by omega) (by omega) (by omega) (by omega) (by omega), c3 8 (by omega) (by omega) (by omega) (by omega) (by omega), c3 9 (by omega) (by omega) (by omega) (by omega) (by omega)]
        omega
      · rw [k12 c k (by omega) p4]; exact kk c k p1 p2 (by omega) p7 (by omega) (by omega) (by omega) p9
      · unfold i_w1
        have e1 : D12' (22 + 2 * j) 1 = D0 214 7 := by rw [kC _ _ (by omega) (by omega) (by omega) (by omega) (by omega), k6 _ _ (by omega) (by omega)]; exact a1
        have e2 : D12' (22 + 2 * j) 2 = D0 214 5 := by rw [kC _ _ (by omega) (by omega) (by omega) (by omega) (by omega), k6 _ _ (by omega) (by omega)]; exact a2
        have e3 : D12' (22 + 2 * j) 3 = 0 := by rw [kC _ _ (by omega) (by omega) (by omega) (by omega) (by omega), k6 _ _ (by omega) (by omega)]; exact a3
        have e4 : D12' (22 + 2 * j) 4 = D0 (22 + 2 * j) 4 := by rw [kC _ _ (by omega) (by omega) (by omega) (by omega) (by omega), k6 _ _ (by omega) (by omega), k14 _ _ (by omega) (by omega) (by omega)]
        have e6' : D12' 220 j = D0 220 j := by rw [k12 _ _ (by omega) (by omega)]; exact kk _ _ (by omega) (by omega) (by omega) (by omega) (by omega) (by omega) (by omega) (by omega)
        rw [e1, e2, e3, e4, e6', k12 216 j (by omega) (by omega), k12 218 j (by omega) (by omega), k12 219 j (by omega) (by omega), b1, b2, b3]
        refine ⟨⟨rfl, by omega, by omega⟩, fun k k0 k1 => ?_, rfl, ⟨rfl, Or.inl rfl⟩, y7⟩
        have l := hl k k0 k1
        unfold ltr at l
        rw [kC (22 + 2 * j + 1) k (by omega) (by omega) (by omega) (by omega) (by omega), k6 _ _ (by omega) (by omega), a4 k k0 k1, k12 217 _ (by omega) (by omega), b4 k k0 k1]
        omega
      · rw [kC _ _ (by omega) (by omega) (by omega) (by omega) (by omega)]; exact v0
      · rw [kC _ _ (by omega) (by omega) (by omega) (by omega) (by omega), v1, y229, k14 _ _ (by omega) (by omega) (by omega)]; exact s2.1
      · rw [kC _ _ (by omega) (by omega) (by omega) (by omega) (by omega), v2, u2]
      · rw [kC _ _ (by omega) (by omega) (by omega) (by omega) (by omega), v3, u3]
      · rw [kC _ _ (by omega) (by omega) (by omega) (by omega) (by omega), v4, u4]
      · rw [y229]; exact s2.2
    · rw [kc 214 1 (by omega) (by omega) (by omega) (by omega)] at q; omega
  · have hf' := hf
    unfold flt at hf'
    refine br_lt (fun g => by omega) (fun _ => rIG' ⟨hG, ?_⟩)
    have ri5 : ri D5 := hI.ri.keep (k5 _ _ (by omega)) (k5 _ _ (by omega)) (fun k => k5 _ _ (by omega)) (fun k => k5 _ _ (by omega))
    refine w_X12_coin hG (c_rTongue hG ri5 h1 (fun _ _ => b_t (c_rMeaning hG h2 (fun _ _ => n_t ?_) (fun g => by omega))) (fun q => ?_))
    · rw [k5 214 4 (by omega), k5 214 7 (by omega)]
      refine br_ne (fun _ D7 e7 => ?_) (fun q => by omega)
      have k7 : ∀ c k, ¬ (c = 214 ∧ k = 7) → D7 c k = D5 c k := fun c k q => by rw [e7, up2_ne q]
      have fin : ∀ D8 : mmD, (∀ c k, c ≠ 235 → D8 c k = D7 c k) → Inv G D8 := by
        intro D8 k8
        have kk : ∀ c k, ¬ (c = 2 ∧ k = 1) → ¬ (c = 214 ∧ k = 7) → c ≠ 235 → D8 c k = D0 c k := fun c k p q r => by rw [k8 c k r, k7 c k q, k5 c k p]
        refine hI.sc ?_ (fun c k p q r => kk c k (by omega) (by omega) (by unfold pers at r; omega))
        have c1 : D8 2 1 = 0 := by rw [k8 _ _ (by omega), k7 _ _ (by omega), e5, up2_same]
        have c2 : D8 214 7 = 0 := by rw [k8 _ _ (by omega), e7, up2_same]
        unfold i_sc at hs ⊢
        rw [c1, c2, kk 2 3 (by omega) (by omega) (by omega), kk 2 11 (by omega) (by omega) (by omega), kk 2 6 (by omega) (by omega) (by omega), kk 2 8 (by omega) (by omega) (by omega), kk 2 10 (by omega) (by omega) (by omega), kk 2 15 (by omega) (by omega) (by omega), kk 2 13 (by omega) (by omega) (by omega), kk 2 12 (by omega) (by omega) (by omega), kk 214 1 (by omega) (by omega) (by omega), kk 214 2 (by omega) (by omega) (by omega), kk 214 3 (by omega) (by omega) (by omega), kk 214 4 (by omega) (by omega) (by omega), kk 214 5 (by omega) (by omega) (by omega), kk 214 6 (by omega) (by omega) (by omega), kk 214 8 (by omega) (by omega) (by omega), kk 214 9 (by omega) (by omega) (by omega)]
        omega
      rcases hf.2 with ⟨p1, p2, p3, p4⟩ | ⟨p1, p2⟩
      · have hbR : ∀ i, 0 ≤ i → i < 80 → D7 215 i = D0 215 i ∧ 0 ≤ D0 215 i ∧ D0 215 i < 256 := fun i i0 i1 => by rw [k7 _ _ (by omega), k5 _ _ (by omega)]; exact ⟨rfl, (q3 i i0 i1).2⟩
        refine l_rcoin (b := fun i => D0 215 i) (D := D7) hG hbR k p2 (by omega) s7.2.2 p4 (fun D8 k8 _ => ?_) k.toNat D7 0 (by omega) (by omega) (by omega) (fun _ _ _ => rfl) (fun i i0 i1 => by omega)
        refine w_X12_coin_42 hG (br_le (fun q => by omega) (fun _ => br_eq (fun q => rI ⟨rfl, fin D8 k8⟩) (fun q => ⟨⟨by omega, by omega⟩, ?_⟩)))
        obtain ⟨e, r1, r2⟩ := hbR k hf'.1 (by omega)
        rw [k8 _ _ (by omega), e]
        refine c_in hG (by unfold rg; omega) (by unfold rg; omega) (by unfold rg; omega) (fun z1 z2 => ?_) (fun _ => n_f (rI ⟨rfl, fin D8 k8⟩))
        exact absurd (p3.resolve_left q) (fun t => t ⟨z1, z2⟩)
      · rw [p1, p2]
        exact w_X12_coin_42 hG (br_le (fun _ => br_ne (fun q => absurd rfl q) (fun _ => rI ⟨rfl, fin D7 (fun _ _ _ => rfl)⟩)) (fun q => by omega))
    · rw [k5 214 1 (by omega)] at q; omega
end Ev4
