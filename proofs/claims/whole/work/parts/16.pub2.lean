section Pub2
variable {E : mmE} {d : Nat} {G : mmG} {D : mmD} {x1 x2 x3 x4 x5 : Int}
theorem tI {x : Int} (h : rg x) : (iv x).toInt = x := iv_toInt h.1 h.2
theorem p_word (hI : Inv G D) (h1 : rg x1) (h2 : rg x2) (h3 : rg x3) : Pair E (d + 3) mX11_word mX12_word [vI x1, vI x2, vI x3] G D := by
  have hG := hI.1
  have h3' := h3
  unfold rg at h3'
  have no : ¬ hasW D x1 x2 → Call E (d + 3) 0 0 mX12_word [vR 214, vI x1, vI x2, vI x3] G D (retI G (fun y D2 => iv (-1) = iv y ∧ Inv G D2)) := fun hn =>
    w_X12_word hG (c_hasWord hG hI.ri h1 h2 (fun h => absurd h hn) (fun _ => b_f (rI ⟨rfl, hI⟩)))
  refine w_X11_word hG (c_spoken hI h1 h2 (fun hw => ⟨fun q => ?_, fun _ => ?_⟩) (fun hn => ⟨fun _ => rI (no hn), fun q => absurd rfl q⟩))
  · obtain ⟨a, b, c⟩ := hw.w hI; unfold isW at a; omega
  · obtain ⟨a, b, c⟩ := hw.w hI
    obtain ⟨⟨w1, w2, w3⟩, w4, -⟩ := hI.2.2.2.1 _ b c
    have no2 : (x3 < -1 ∨ D 216 (10 * x1 + x2) ≤ x3) → Call E (d + 3) 0 0 mX12_word [vR 214, vI x1, vI x2, vI x3] G D (retI G (fun y D2 => iv (-1) = iv y ∧ Inv G D2)) := fun hn =>
      w_X12_word hG (c_hasWord hG hI.ri h1 h2 (fun _ => b_t ⟨⟨b, c⟩, c_in hG h3 (by unfold rg; omega) (by unfold rg; omega) (fun p q => by omega) (fun p => n_f (rI ⟨rfl, hI⟩))⟩) (fun h => absurd hw h))
    refine br_lt (fun p => rI (no2 (by omega))) (fun p => ⟨a, ?_⟩)
    rw [w1]
    refine br_lt (fun q => ?_) (fun q => rI (no2 (by omega)))
    refine br_le (fun r => ⟨⟨by omega, by omega⟩, rI ?_⟩) (fun r => rI ?_)
    · refine w_X12_word hG (c_hasWord hG hI.ri h1 h2 (fun _ => b_t ⟨⟨b, c⟩, c_in hG h3 (by unfold rg; omega) (by unfold rg; omega) (fun _ _ => n_t (br_ne (fun _ => ⟨⟨by omega, by omega⟩, rI ⟨?_, hI⟩⟩) (fun s => by omega))) (fun s => by omega)⟩) (fun h => absurd hw h))
      have e : 80 * x1 + 8 * x2 + x3 = 8 * (10 * x1 + x2) + x3 := by omega
      rw [e, ← (w4 x3 r q).1]
      congr 1; omega
    · refine w_X12_word hG (c_hasWord hG hI.ri h1 h2 (fun _ => b_t ⟨⟨b, c⟩, c_in hG h3 (by unfold rg; omega) (by unfold rg; omega) (fun _ _ => n_t (br_ne (fun s => by omega) (fun s => ⟨⟨b, c⟩, rI ⟨rfl, hI⟩⟩))) (fun s => by omega)⟩) (fun h => absurd hw h))
theorem p_truth (hI : Inv G D) (h1 : rg x1) (h2 : rg x2) (h3 : rg x3) : Pair E (d + 3) mX11_truth mX12_truth [vI x1, vI x2, vI x3] G D := by
  have hG := hI.1
  have s9 := hI.2.1.2.2.2.2.2.2.2.2
  have h3' := h3
  unfold rg at h3'
  refine w_X11_truth hG (c_spoken hI h1 h2 (fun hw => ⟨fun q => ?_, fun _ => ?_⟩) (fun hn => ⟨fun _ => rI (w_X12_truth hG (c_hasWord hG hI.ri h1 h2 (fun h => absurd h hn) (fun _ => b_f (rI ⟨rfl, hI⟩)))), fun q => absurd rfl q⟩))
  · obtain ⟨a, b, c⟩ := hw.w hI; unfold isW at a; omega
  · obtain ⟨a, b, c⟩ := hw.w hI
    obtain ⟨-, -, w5, ⟨w6, w7⟩, -⟩ := hI.2.2.2.1 _ b c
    have no2 : (x3 < 0 ∨ 1 < x3) → Call E (d + 3) 0 0 mX12_truth [vR 214, vI x1, vI x2, vI x3] G D (retI G (fun y D2 => iv (-1) = iv y ∧ Inv G D2)) := fun hn =>
      w_X12_truth hG (c_hasWord hG hI.ri h1 h2 (fun _ => b_t (c_in hG h3 (by unfold rg; omega) (by unfold rg; omega) (fun p q => by omega) (fun p => n_f (rI ⟨rfl, hI⟩)))) (fun h => absurd hw h))
    refine br_lt (fun p => rI (no2 (by omega))) (fun p => br_le (fun q => ?_) (fun q => rI (no2 (by omega))))
    rw [s9.1, w5, w6]
    refine br_ne (fun r => br_ne (fun t => ⟨a, c_oneIf hG w7 (rI ?_)⟩) (fun t => ⟨a, rI ?_⟩)) (fun r => rI ?_)
    · refine w_X12_truth hG (c_hasWord hG hI.ri h1 h2 (fun _ => b_t (c_in hG h3 (by unfold rg; omega) (by unfold rg; omega) (fun _ _ => n_t (br_ne (fun _ => br_ne (fun _ => ⟨⟨b, c⟩, br_eq (fun g => rI ⟨by rw [g], hI⟩) (fun g => rI ⟨by rw [show D 219 (10 * x1 + x2) = 1 by omega], hI⟩)⟩) (fun g => absurd g t)) (fun g => absurd g r))) (fun g => by omega))) (fun h => absurd hw h))
    · exact w_X12_truth hG (c_hasWord hG hI.ri h1 h2 (fun _ => b_t (c_in hG h3 (by unfold rg; omega) (by unfold rg; omega) (fun _ _ => n_t (br_ne (fun _ => br_ne (fun g => absurd t g) (fun g => ⟨⟨b, c⟩, rI ⟨rfl, hI⟩⟩)) (fun g => absurd g r))) (fun g => by omega))) (fun h => absurd hw h))
    · exact w_X12_truth hG (c_hasWord hG hI.ri h1 h2 (fun _ => b_t (c_in hG h3 (by unfold rg; omega) (by unfold rg; omega) (fun _ _ => n_t (br_ne (fun g => absurd r g) (fun g => rI ⟨rfl, hI⟩))) (fun g => by omega))) (fun h => absurd hw h))
theorem p_from (hI : Inv G D) (h1 : rg x1) (h2 : rg x2) : Pair E (d + 2) mX11_from mX12_from [vI x1, vI x2] G D := by
  have hG := hI.1
  have s1 := hI.2.1.1
  have s9 := hI.2.1.2.2.2.2.2.2.2.2
  have h2' := h2
  unfold rg at h2'
  refine w_X11_from hG (c_isTongue hI h1 (fun a b => b_t ?_) (fun a => b_f (rI (w_X12_from hG (c_rTongue hG hI.ri h1 (fun p q => by omega) (fun _ => b_f (rI ⟨rfl, hI⟩)))))))
  have no2 : (x2 < 0 ∨ 1 < x2) → Call E (d + 2) 0 0 mX12_from [vR 214, vI x1, vI x2] G D (retI G (fun y D2 => iv (-1) = iv y ∧ Inv G D2)) := fun hn =>
    w_X12_from hG (c_rTongue hG hI.ri h1 (fun _ _ => b_t (c_in hG h2 (by unfold rg; omega) (by unfold rg; omega) (fun p q => by omega) (fun p => n_f (rI ⟨rfl, hI⟩)))) (fun h => by omega))
  refine br_lt (fun p => rI (no2 (by omega))) (fun p => br_le (fun q => ?_) (fun q => rI (no2 (by omega))))
  rw [s9.1]
  have sp := hI.2.2.2.2.1 x1 a b
  refine br_ne (fun r => ⟨⟨by omega, by omega⟩, rI ?_⟩) (fun r => rI ?_)
  · refine w_X12_from hG (c_rTongue hG hI.ri h1 (fun _ _ => b_t (c_in hG h2 (by unfold rg; omega) (by unfold rg; omega) (fun _ _ => n_t (br_ne (fun _ => ⟨⟨by omega, by omega⟩, ?_⟩) (fun g => absurd g r))) (fun g => by omega))) (fun h => by omega))
    rcases sp with ⟨t1, t2, t3⟩ | ⟨t1, t2, t3, t4⟩
    · rw [t1]
      refine br_ne (fun g => absurd rfl g) (fun _ => rI ⟨?_, hI⟩)
      rcases (show x2 = 0 ∨ x2 = 1 by omega) with rfl | rfl
      · rw [Int.add_zero, t2]
      · rw [t3]
    · refine br_ne (fun _ => br_ne (fun g => ⟨⟨by omega, by omega⟩, rI ⟨?_, hI⟩⟩) (fun g => ⟨⟨by omega, by omega⟩, rI ⟨?_, hI⟩⟩)) (fun g => by omega)
      · rw [show x2 = 1 by omega, t4]
      · rw [g, Int.add_zero, t3]
  · exact w_X12_from hG (c_rTongue hG hI.ri h1 (fun _ _ => b_t (c_in hG h2 (by unfold rg; omega) (by unfold rg; omega) (fun _ _ => n_t (br_ne (fun g => absurd r g) (fun g => rI ⟨rfl, hI⟩))) (fun g => by omega))) (fun h => by omega))
theorem p_right (hI : Inv G D) (h1 : rg x1) : Pair E (d + 1) mX11_right mX12_right [vI x1] G D := by
  have hG := hI.1
  have s6 := hI.2.1.2.2.2.2.2.1
  have s9 := hI.2.1.2.2.2.2.2.2.2.2
  have h1' := h1
  unfold rg at h1'
  have no : (x1 < 0 ∨ D 214 6 ≤ x1) → Call E (d + 1) 0 0 mX12_right [vR 214, vI x1] G D (retI G (fun y D2 => iv (-1) = iv y ∧ Inv G D2)) := fun hn =>
    w_X12_right hG (c_in hG h1 (by unfold rg; omega) (by unfold rg; omega) (fun p q => by omega) (fun p => n_f (rI ⟨rfl, hI⟩)))
  refine w_X11_right hG (br_lt (fun p => rI (no (by omega))) (fun p => ?_))
  rw [s6.1, s9.1]
  refine br_lt (fun q => br_ne (fun r => ⟨⟨by omega, by omega⟩, rI ?_⟩) (fun r => rI ?_)) (fun q => rI (no (by omega)))
  · obtain ⟨c1, c2, c3, c4, c5⟩ := hI.2.2.2.2.2.2.2.1 x1 p q
    refine w_X12_right hG (c_in hG h1 (by unfold rg; omega) (by unfold rg; omega) (fun _ _ => n_t (br_ne (fun _ => ⟨⟨by omega, by omega⟩, br_eq (fun g => rI ⟨by rw [c4, g], hI⟩) (fun g => rI ⟨by rw [c4, show D 234 x1 = 1 by omega], hI⟩)⟩) (fun g => absurd g r))) (fun g => by omega))
  · exact w_X12_right hG (c_in hG h1 (by unfold rg; omega) (by unfold rg; omega) (fun _ _ => n_t (br_ne (fun g => absurd r g) (fun g => rI ⟨rfl, hI⟩))) (fun g => by omega))
/-- the events, by number -/
theorem c_eventAt {P : Int → mmD → Prop} (hI : Inv G D) (h1 : rg x1) (h : 0 ≤ x1 → x1 < D 214 4 → P (G.2.2 7 x1) D) (h0 : (x1 < 0 ∨ D 214 4 ≤ x1) → P 0 D) : Call E d 0 0 mX11_eventAt [vR 2, vI x1] G D (retR G P) := by
  have s4 := hI.2.1.2.2.2.1
  unfold rg at h1
  refine w_X11_eventAt_k1 hI.1 (br_lt (fun p => rR (h0 (by omega))) (fun p => ?_))
  rw [s4.1]
  exact br_le (fun q => rR (h0 (by omega))) (fun q => ⟨⟨by omega, by omega⟩, rR (h p q)⟩)
theorem p_event (hI : Inv G D) (h1 : rg x1) (h2 : rg x2) : Pair E (d + 1) mX11_event mX12_event [vI x1, vI x2] G D := by
  have hG := hI.1
  have s4 := hI.2.1.2.2.2.1
  have s9 := hI.2.1.2.2.2.2.2.2.2.2
  have t2 := tI h2
  have h2' := h2
  unfold rg at h2'
  have no : (x1 < 0 ∨ D 214 4 ≤ x1) → Call E (d + 1) 0 0 mX12_event [vR 214, vI x1, vI x2] G D (retI G (fun y D2 => iv (-1) = iv y ∧ Inv G D2)) := fun hn =>
    w_X12_event hG (c_in hG h1 (by unfold rg; omega) (by unfold rg; omega) (fun p q => by omega) (fun p => b_f (rI ⟨rfl, hI⟩)))
  by_cases hx : 0 ≤ x1 ∧ x1 < D 214 4
  · obtain ⟨⟨ci, ek, ev⟩, e0, e1, e2, e3, e4, -⟩ := hI.2.2.2.2.2.2.1 x1 hx.1 hx.2
    have ne : ¬ G.2.2 7 x1 = 0 := by have := ev.1; omega
    have no2 : (x2 < 0 ∨ 4 < x2) → Call E (d + 1) 0 0 mX12_event [vR 214, vI x1, vI x2] G D (retI G (fun y D2 => iv (-1) = iv y ∧ Inv G D2)) := fun hn =>
      w_X12_event hG (c_in hG h1 (by unfold rg; omega) (by unfold rg; omega) (fun _ _ => b_t (c_in hG h2 (by unfold rg; omega) (by unfold rg; omega) (fun p q => by omega) (fun p => n_f (rI ⟨rfl, hI⟩)))) (fun p => by omega))
    have shut : D 214 9 = 0 → 0 ≤ x2 → x2 ≤ 4 → Call E (d + 1) 0 0 mX12_event [vR 214, vI x1, vI x2] G D (retI G (fun y D2 => iv (-3) = iv y ∧ Inv G D2)) := fun hs p q =>
      w_X12_event hG (c_in hG h1 (by unfold rg; omega) (by unfold rg; omega) (fun _ _ => b_t (c_in hG h2 (by unfold rg; omega) (by unfold rg; omega) (fun _ _ => n_t (br_ne (fun g => absurd hs g) (fun _ => rI ⟨rfl, hI⟩))) (fun g => by omega))) (fun g => by omega))
    have yes : D 214 9 ≠ 0 → 0 ≤ x2 → x2 ≤ 4 → ∀ v : Int, (x2 = 0 → v = D 228 x1) → (x2 = 1 → v = D 229 x1) → (x2 = 2 → v = D 230 x1) → (x2 = 3 → v = D 231 x1) → (x2 = 4 → v = D 232 x1) → Call E (d + 1) 0 0 mX12_event [vR 214, vI x1, vI x2] G D (retI G (fun y D2 => iv v = iv y ∧ Inv G D2)) := fun hs p q v v0 v1 v2 v3 v4 =>
      w_X12_event hG (c_in hG h1 (by unfold rg; omega) (by unfold rg; omega) (fun _ _ => b_t (c_in hG h2 (by unfold rg; omega) (by unfold rg; omega) (fun _ _ => n_t (br_ne (fun _ => by
        rw [t2]
        exact ⟨fun g => ⟨⟨by omega, by omega⟩, rI ⟨by rw [v0 g], hI⟩⟩, fun g => ⟨⟨by omega, by omega⟩, rI ⟨by rw [v1 g], hI⟩⟩, fun g => ⟨⟨by omega, by omega⟩, rI ⟨by rw [v2 g], hI⟩⟩, fun g => ⟨⟨by omega, by omega⟩, rI ⟨by rw [v3 g], hI⟩⟩, fun g => ⟨⟨by omega, by omega⟩, rI ⟨by rw [v4 (by omega)], hI⟩⟩⟩) (fun g => absurd g hs))) (fun g => by omega))) (fun g => by omega))
    rcases ek with ⟨ek, rfl⟩ | ⟨ek, rfl⟩ | ⟨ek, rfl⟩ | ⟨ek, rfl⟩ | ⟨ek, rfl⟩ | ⟨ek, rfl⟩
    · refine w_X11_event_k7 hG (c_eventAt hI h1 (fun _ _ => ⟨fun g => absurd g ne, fun _ => br_lt (fun p => rI (no2 (by omega))) (fun p => br_le (fun q => ?_) (fun q => rI (no2 (by omega))))⟩) (fun g => by omega))
      rw [s9.1, t2]
      refine br_ne (fun r => ⟨fun g => ⟨ev, w_X8_kindNumber_k7 hG ev (rI (rI (yes r p q _ (fun _ => ek.symm) (fun _ => by omega) (fun _ => by omega) (fun _ => by omega) (fun _ => by omega))))⟩, fun g => ⟨ev, rI (yes r p q _ (fun _ => by omega) (fun _ => e1) (fun _ => by omega) (fun _ => by omega) (fun _ => by omega))⟩, fun g => ⟨ev, rI (yes r p q _ (fun _ => by omega) (fun _ => by omega) (fun _ => e2) (fun _ => by omega) (fun _ => by omega))⟩, fun g => ⟨ev, rI (yes r p q _ (fun _ => by omega) (fun _ => by omega) (fun _ => by omega) (fun _ => e3) (fun _ => by omega))⟩, fun g => ⟨ev, rI (yes r p q _ (fun _ => by omega) (fun _ => by omega) (fun _ => by omega) (fun _ => by omega) (fun _ => e4))⟩⟩) (fun r => rI (shut r p q))
    · refine w_X11_event_k4 hG (c_eventAt hI h1 (fun _ _ => ⟨fun g => absurd g ne, fun _ => br_lt (fun p => rI (no2 (by omega))) (fun p => br_le (fun q => ?_) (fun q => rI (no2 (by omega))))⟩) (fun g => by omega))
      rw [s9.1, t2]
      refine br_ne (fun r => ⟨fun g => ⟨ev, w_X5_kindNumber_k4 hG ev (rI (rI (yes r p q _ (fun _ => ek.symm) (fun _ => by omega) (fun _ => by omega) (fun _ => by omega) (fun _ => by omega))))⟩, fun g => ⟨ev, rI (yes r p q _ (fun _ => by omega) (fun _ => e1) (fun _ => by omega) (fun _ => by omega) (fun _ => by omega))⟩, fun g => ⟨ev, rI (yes r p q _ (fun _ => by omega) (fun _ => by omega) (fun _ => e2) (fun _ => by omega) (fun _ => by omega))⟩, fun g => ⟨ev, rI (yes r p q _ (fun _ => by omega) (fun _ => by omega) (fun _ => by omega) (fun _ => e3) (fun _ => by omega))⟩, fun g => ⟨ev, rI (yes r p q _ (fun _ => by omega) (fun _ => by omega) (fun _ => by omega) (fun _ => by omega) (fun _ => e4))⟩⟩) (fun r => rI (shut r p q))
    · refine w_X11_event_k8 hG (c_eventAt hI h1 (fun _ _ => ⟨fun g => absurd g ne, fun _ => br_lt (fun p => rI (no2 (by omega))) (fun p => br_le (fun q => ?_) (fun q => rI (no2 (by omega))))⟩) (fun g => by omega))
      rw [s9.1, t2]
      refine br_ne (fun r => ⟨fun g => ⟨ev, w_X9_kindNumber_k8 hG ev (rI (rI (yes r p q _ (fun _ => ek.symm) (fun _ => by omega) (fun _ => by omega) (fun _ => by omega) (fun _ => by omega))))⟩, fun g => ⟨ev, rI (yes r p q _ (fun _ => by omega) (fun _ => e1) (fun _ => by omega) (fun _ => by omega) (fun _ => by omega))⟩, fun g => ⟨ev, rI (yes r p q _ (fun _ => by omega) (fun _ => by omega) (fun _ => e2) (fun _ => by omega) (fun _ => by omega))⟩, fun g => ⟨ev, rI (yes r p q _ (fun _ => by omega) (fun _ => by omega) (fun _ => by omega) (fun _ => e3) (fun _ => by omega))⟩, fun g => ⟨ev, rI (yes r p q _ (fun _ => by omega) (fun _ => by omega) (fun _ => by omega) (fun _ => by omega) (fun _ => e4))⟩⟩) (fun r => rI (shut r p q))
    · refine w_X11_event_k5 hG (c_eventAt hI h1 (fun _ _ => ⟨fun g => absurd g ne, fun _ => br_lt (fun p => rI (no2 (by omega))) (fun p => br_le (fun q => ?_) (fun q => rI (no2 (by omega))))⟩) (fun g => by omega))
      rw [s9.1, t2]
      refine br_ne (fun r => ⟨fun g => ⟨ev, w_X6_kindNumber_k5 hG ev (rI (rI (yes r p q _ (fun _ => ek.symm) (fun _ => by omega) (fun _ => by omega) (fun _ => by omega) (fun _ => by omega))))⟩, fun g => ⟨ev, rI (yes r p q _ (fun _ => by omega) (fun _ => e1) (fun _ => by omega) (fun _ => by omega) (fun _ => by omega))⟩, fun g => ⟨ev, rI (yes r p q _ (fun _ => by omega) (fun _ => by omega) (fun _ => e2) (fun _ => by omega) (fun _ => by omega))⟩, fun g => ⟨ev, rI (yes r p q _ (fun _ => by omega) (fun _ => by omega) (fun _ => by omega) (fun _ => e3) (fun _ => by omega))⟩, fun g => ⟨ev, rI (yes r p q _ (fun _ => by omega) (fun _ => by omega) (fun _ => by omega) (fun _ => by omega) (fun _ => e4))⟩⟩) (fun r => rI (shut r p q))
    · refine w_X11_event_k2 hG (c_eventAt hI h1 (fun _ _ => ⟨fun g => absurd g ne, fun _ => br_lt (fun p => rI (no2 (by omega))) (fun p => br_le (fun q => ?_) (fun q => rI (no2 (by omega))))⟩) (fun g => by omega))
      rw [s9.1, t2]
      refine br_ne (fun r => ⟨fun g => ⟨ev, w_X3_kindNumber_k2 hG ev (rI (rI (yes r p q _ (fun _ => ek.symm) (fun _ => by omega) (fun _ => by omega) (fun _ => by omega) (fun _ => by omega))))⟩, fun g => ⟨ev, rI (yes r p q _ (fun _ => by omega) (fun _ => e1) (fun _ => by omega) (fun _ => by omega) (fun _ => by omega))⟩, fun g => ⟨ev, rI (yes r p q _ (fun _ => by omega) (fun _ => by omega) (fun _ => e2) (fun _ => by omega) (fun _ => by omega))⟩, fun g => ⟨ev, rI (yes r p q _ (fun _ => by omega) (fun _ => by omega) (fun _ => by omega) (fun _ => e3) (fun _ => by omega))⟩, fun g => ⟨ev, rI (yes r p q _ (fun _ => by omega) (fun _ => by omega) (fun _ => by omega) (fun _ => by omega) (fun _ => e4))⟩⟩) (fun r => rI (shut r p q))
    · refine w_X11_event_k1 hG (c_eventAt hI h1 (fun _ _ => ⟨fun g => absurd g ne, fun _ => br_lt (fun p => rI (no2 (by omega))) (fun p => br_le (fun q => ?_) (fun q => rI (no2 (by omega))))⟩) (fun g => by omega))
      rw [s9.1, t2]
      refine br_ne (fun r => ⟨fun g => ⟨ev, w_X1_kindNumber_k1 hG ev (rI (rI (yes r p q _ (fun _ => ek.symm) (fun _ => by omega) (fun _ => by omega) (fun _ => by omega) (fun _ => by omega))))⟩, fun g => ⟨ev, rI (yes r p q _ (fun _ => by omega) (fun _ => e1) (fun _ => by omega) (fun _ => by omega) (fun _ => by omega))⟩, fun g => ⟨ev, rI (yes r p q _ (fun _ => by omega) (fun _ => by omega) (fun _ => e2) (fun _ => by omega) (fun _ => by omega))⟩, fun g => ⟨ev, rI (yes r p q _ (fun _ => by omega) (fun _ => by omega) (fun _ => by omega) (fun _ => e3) (fun _ => by omega))⟩, fun g => ⟨ev, rI (yes r p q _ (fun _ => by omega) (fun _ => by omega) (fun _ => by omega) (fun _ => by omega) (fun _ => e4))⟩⟩) (fun r => rI (shut r p q))
  · exact w_X11_event_k1 hG (c_eventAt hI h1 (fun a b => absurd ⟨a, b⟩ hx) (fun g => ⟨fun _ => rI (no (by omega)), fun q => absurd rfl q⟩))
/-- whether a kind is the other, or under it -/
def undk (k x : Int) : Prop := x = 0 ∨ x = k ∨ (x = 1 ∧ k = 4) ∨ (x = 2 ∧ 4 < k)
theorem c_under {P : Int → mmD → Prop} {k : Int} (hG : Sh G) (hk : 1 ≤ k ∧ k ≤ 6) (hx : 0 ≤ x2 ∧ x2 ≤ 6) (h1 : undk k x2 → P 1 D) (h0 : ¬ undk k x2 → P 0 D) : Call E d 0 0 mX12_isUnder [vI k, vI x2] G D (retI G P) := by
  have y : undk k x2 → retI G P (some (vI 1)) G D := fun h => rI (h1 h)
  have n : ¬ undk k x2 → retI G P (some (vI 0)) G D := fun h => rI (h0 h)
  unfold undk at y n
  exact w_X12_isUnder hG (br_eq (fun a => y (by omega)) (fun a => br_eq (fun b => y (by omega)) (fun b => br_ne (fun c => br_ne (fun e => n (by omega)) (fun e => br_le (fun f => n (by omega)) (fun f => y (by omega)))) (fun c => br_eq (fun e => y (by omega)) (fun e => br_ne (fun f => n (by omega)) (fun f => br_le (fun g => n (by omega)) (fun g => y (by omega))))))))
theorem p_as (hI : Inv G D) (h1 : rg x1) (h2 : rg x2) : Pair E (d + 1) mX11_as mX12_as [vI x1, vI x2] G D := by
  have hG := hI.1
  have s4 := hI.2.1.2.2.2.1
  have t2 := tI h2
  have h2' := h2
  unfold rg at h2'
  have no : (x1 < 0 ∨ D 214 4 ≤ x1) → Call E (d + 1) 0 0 mX12_as [vR 214, vI x1, vI x2] G D (retI G (fun y D2 => iv (-1) = iv y ∧ Inv G D2)) := fun hn =>
    w_X12_as hG (c_in hG h1 (by unfold rg; omega) (by unfold rg; omega) (fun p q => by omega) (fun p => b_f (rI ⟨rfl, hI⟩)))
  by_cases hx : 0 ≤ x1 ∧ x1 < D 214 4
  · obtain ⟨⟨ci, ek, ev⟩, e0, e1, e2, e3, e4, -⟩ := hI.2.2.2.2.2.2.1 x1 hx.1 hx.2
    have ne : ¬ G.2.2 7 x1 = 0 := by have := ev.1; omega
    have no2 : (x2 < 0 ∨ 6 < x2) → Call E (d + 1) 0 0 mX12_as [vR 214, vI x1, vI x2] G D (retI G (fun y D2 => iv (-1) = iv y ∧ Inv G D2)) := fun hn =>
      w_X12_as hG (c_in hG h1 (by unfold rg; omega) (by unfold rg; omega) (fun _ _ => b_t (c_in hG h2 (by unfold rg; omega) (by unfold rg; omega) (fun p q => by omega) (fun p => n_f (rI ⟨rfl, hI⟩)))) (fun p => by omega))
    have hk : 1 ≤ D 228 x1 ∧ D 228 x1 ≤ 6 := by unfold evk at ek; omega
    have yes : 0 ≤ x2 → x2 ≤ 6 → undk (D 228 x1) x2 → Call E (d + 1) 0 0 mX12_as [vR 214, vI x1, vI x2] G D (retI G (fun y D2 => iv (D (G.2.2 7 x1) 1) = iv y ∧ Inv G D2)) := fun p q hu =>
      w_X12_as hG (c_in hG h1 (by unfold rg; omega) (by unfold rg; omega) (fun _ _ => b_t (c_in hG h2 (by unfold rg; omega) (by unfold rg; omega) (fun _ _ => n_t ⟨⟨by omega, by omega⟩, c_under hG hk ⟨p, q⟩ (fun _ => b_t ⟨⟨by omega, by omega⟩, rI ⟨by rw [e1], hI⟩⟩) (fun g => absurd hu g)⟩) (fun g => by omega))) (fun g => by omega))
    have other : 0 ≤ x2 → x2 ≤ 6 → ¬ undk (D 228 x1) x2 → Call E (d + 1) 0 0 mX12_as [vR 214, vI x1, vI x2] G D (retI G (fun y D2 => iv (-6) = iv y ∧ Inv G D2)) := fun p q hu =>
      w_X12_as hG (c_in hG h1 (by unfold rg; omega) (by unfold rg; omega) (fun _ _ => b_t (c_in hG h2 (by unfold rg; omega) (by unfold rg; omega) (fun _ _ => n_t ⟨⟨by omega, by omega⟩, c_under hG hk ⟨p, q⟩ (fun g => absurd g hu) (fun _ => b_f (rI ⟨rfl, hI⟩))⟩) (fun g => by omega))) (fun g => by omega))
    unfold undk at yes other
    rcases ek with ⟨ek, rfl⟩ | ⟨ek, rfl⟩ | ⟨ek, rfl⟩ | ⟨ek, rfl⟩ | ⟨ek, rfl⟩ | ⟨ek, rfl⟩
    · refine w_X11_as_k7 hG (c_eventAt hI h1 (fun _ _ => ⟨fun g => absurd g ne, fun _ => br_lt (fun p => rI (no2 (by omega))) (fun p => br_le (fun q => w_X11_isOfKind_k7 hG ev ?_) (fun q => rI (no2 (by omega))))⟩) (fun g => by omega))
      rw [t2]
      exact ⟨fun g => rI (b_t ⟨ev, rI (yes p q (by omega))⟩), fun g => rI (b_t ⟨ev, rI (yes p q (by omega))⟩), fun g => rI (b_f (rI (other p q (by omega)))), fun g => rI (b_f (rI (other p q (by omega)))), fun g => rI (b_f (rI (other p q (by omega)))), fun g => rI (b_f (rI (other p q (by omega)))), fun g => rI (b_f (rI (other p q (by omega)))), fun g => by omega⟩
    · refine w_X11_as_k4 hG (c_eventAt hI h1 (fun _ _ => ⟨fun g => absurd g ne, fun _ => br_lt (fun p => rI (no2 (by omega))) (fun p => br_le (fun q => w_X11_isOfKind_k4 hG ev ?_) (fun q => rI (no2 (by omega))))⟩) (fun g => by omega))
      rw [t2]
      exact ⟨fun g => rI (b_t ⟨ev, rI (yes p q (by omega))⟩), fun g => rI (b_f (rI (other p q (by omega)))), fun g => rI (b_t ⟨ev, rI (yes p q (by omega))⟩), fun g => rI (b_f (rI (other p q (by omega)))), fun g => rI (b_f (rI (other p q (by omega)))), fun g => rI (b_f (rI (other p q (by omega)))), fun g => rI (b_f (rI (other p q (by omega)))), fun g => by omega⟩
    · refine w_X11_as_k8 hG (c_eventAt hI h1 (fun _ _ => ⟨fun g => absurd g ne, fun _ => br_lt (fun p => rI (no2 (by omega))) (fun p => br_le (fun q => w_X11_isOfKind_k8 hG ev ?_) (fun q => rI (no2 (by omega))))⟩) (fun g => by omega))
      rw [t2]
      exact ⟨fun g => rI (b_t ⟨ev, rI (yes p q (by omega))⟩), fun g => rI (b_f (rI (other p q (by omega)))), fun g => rI (b_f (rI (other p q (by omega)))), fun g => rI (b_t ⟨ev, rI (yes p q (by omega))⟩), fun g => rI (b_f (rI (other p q (by omega)))), fun g => rI (b_f (rI (other p q (by omega)))), fun g => rI (b_f (rI (other p q (by omega)))), fun g => by omega⟩
    · refine w_X11_as_k5 hG (c_eventAt hI h1 (fun _ _ => ⟨fun g => absurd g ne, fun _ => br_lt (fun p => rI (no2 (by omega))) (fun p => br_le (fun q => w_X11_isOfKind_k5 hG ev ?_) (fun q => rI (no2 (by omega))))⟩) (fun g => by omega))
      rw [t2]
      exact ⟨fun g => rI (b_t ⟨ev, rI (yes p q (by omega))⟩), fun g => rI (b_t ⟨ev, rI (yes p q (by omega))⟩), fun g => rI (b_f (rI (other p q (by omega)))), fun g => rI (b_f (rI (other p q (by omega)))), fun g => rI (b_t ⟨ev, rI (yes p q (by omega))⟩), fun g => rI (b_f (rI (other p q (by omega)))), fun g => rI (b_f (rI (other p q (by omega)))), fun g => by omega⟩
    · refine w_X11_as_k2 hG (c_eventAt hI h1 (fun _ _ => ⟨fun g => absurd g ne, fun _ => br_lt (fun p => rI (no2 (by omega))) (fun p => br_le (fun q => w_X11_isOfKind_k2 hG ev ?_) (fun q => rI (no2 (by omega))))⟩) (fun g => by omega))
      rw [t2]
      exact ⟨fun g => rI (b_t ⟨ev, rI (yes p q (by omega))⟩), fun g => rI (b_f (rI (other p q (by omega)))), fun g => rI (b_t ⟨ev, rI (yes p q (by omega))⟩), fun g => rI (b_f (rI (other p q (by omega)))), fun g => rI (b_f (rI (other p q (by omega)))), fun g => rI (b_t ⟨ev, rI (yes p q (by omega))⟩), fun g => rI (b_f (rI (other p q (by omega)))), fun g => by omega⟩
    · refine w_X11_as_k1 hG (c_eventAt hI h1 (fun _ _ => ⟨fun g => absurd g ne, fun _ => br_lt (fun p => rI (no2 (by omega))) (fun p => br_le (fun q => w_X11_isOfKind_k1 hG ev ?_) (fun q => rI (no2 (by omega))))⟩) (fun g => by omega))
      rw [t2]
      exact ⟨fun g => rI (b_t ⟨ev, rI (yes p q (by omega))⟩), fun g => rI (b_f (rI (other p q (by omega)))), fun g => rI (b_t ⟨ev, rI (yes p q (by omega))⟩), fun g => rI (b_f (rI (other p q (by omega)))), fun g => rI (b_f (rI (other p q (by omega)))), fun g => rI (b_f (rI (other p q (by omega)))), fun g => rI (b_t ⟨ev, rI (yes p q (by omega))⟩), fun g => by omega⟩
  · exact w_X11_as_k1 hG (c_eventAt hI h1 (fun a b => absurd ⟨a, b⟩ hx) (fun g => ⟨fun _ => rI (no (by omega)), fun q => absurd rfl q⟩))
theorem p_count (hI : Inv G D) (h1 : rg x1) : Pair E d mX11_count mX12_count [vI x1] G D := by
  have hG := hI.1
  have t1 := tI h1
  obtain ⟨⟨s1, -⟩, ⟨s2, -⟩, ⟨s3, -⟩, ⟨s4, -⟩, ⟨s5, -⟩, ⟨s6, -⟩, ⟨s7, -⟩, -⟩ := hI.2.1
  have fin : ∀ v : Int, (x1 = 0 → v = D 214 1) → (x1 = 1 → v = D 214 3) → (x1 = 2 → v = D 214 4) → (x1 = 3 → v = D 214 5) → (x1 = 4 → v = D 214 6) → (x1 = 5 → v = D 214 2) → (x1 = 6 → v = D 214 7) → (x1 = 7 → v = D 214 57) → ((x1 < 0 ∨ 7 < x1) → v = -1) → Call E d 0 0 mX12_count [vR 214, vI x1] G D (retI G (fun y D2 => iv v = iv y ∧ Inv G D2)) := fun v v0 v1 v2 v3 v4 v5 v6 v7 v8 => by
    refine w_X12_count hG ?_
    rw [t1]
    exact ⟨fun g => rI ⟨by rw [v0 g], hI⟩, fun g => rI ⟨by rw [v1 g], hI⟩, fun g => rI ⟨by rw [v2 g], hI⟩, fun g => rI ⟨by rw [v3 g], hI⟩, fun g => rI ⟨by rw [v4 g], hI⟩, fun g => rI ⟨by rw [v5 g], hI⟩, fun g => rI ⟨by rw [v6 g], hI⟩, fun g => rI ⟨by rw [v7 g], hI⟩, fun g => rI ⟨by rw [v8 g], hI⟩⟩
  have one : ∀ v : Int, ∀ k : Int, x1 = k → 0 ≤ k → k ≤ 7 → (k = 0 → v = D 214 1) → (k = 1 → v = D 214 3) → (k = 2 → v = D 214 4) → (k = 3 → v = D 214 5) → (k = 4 → v = D 214 6) → (k = 5 → v = D 214 2) → (k = 6 → v = D 214 7) → (k = 7 → v = D 214 57) → Call E d 0 0 mX12_count [vR 214, vI x1] G D (retI G (fun y D2 => iv v = iv y ∧ Inv G D2)) := fun v k e k0 k7 v0 v1 v2 v3 v4 v5 v6 v7 => by
    subst e
    exact fin v v0 v1 v2 v3 v4 v5 v6 v7 (fun g => by omega)
  obtain ⟨tr1, tr2⟩ := hI.2.2.2.2.2.2.2.2
  rcases tr2 with ⟨l0, r0⟩ | ⟨i, i0, i1, li, ri, -⟩
  · refine w_X11_count_k1 hG ?_
    rw [t1]
    exact ⟨fun g => rI (one _ 0 g (by omega) (by omega) (fun _ => s1) (fun g => by omega) (fun g => by omega) (fun g => by omega) (fun g => by omega) (fun g => by omega) (fun g => by omega) (fun g => by omega)), fun g => rI (one _ 1 g (by omega) (by omega) (fun g => by omega) (fun _ => s3) (fun g => by omega) (fun g => by omega) (fun g => by omega) (fun g => by omega) (fun g => by omega) (fun g => by omega)), fun g => rI (one _ 2 g (by omega) (by omega) (fun g => by omega) (fun g => by omega) (fun _ => s4) (fun g => by omega) (fun g => by omega) (fun g => by omega) (fun g => by omega) (fun g => by omega)), fun g => rI (one _ 3 g (by omega) (by omega) (fun g => by omega) (fun g => by omega) (fun g => by omega) (fun _ => s5) (fun g => by omega) (fun g => by omega) (fun g => by omega) (fun g => by omega)), fun g => rI (one _ 4 g (by omega) (by omega) (fun g => by omega) (fun g => by omega) (fun g => by omega) (fun g => by omega) (fun _ => s6) (fun g => by omega) (fun g => by omega) (fun g => by omega)), fun g => rI (one _ 5 g (by omega) (by omega) (fun g => by omega) (fun g => by omega) (fun g => by omega) (fun g => by omega) (fun g => by omega) (fun _ => s2) (fun g => by omega) (fun g => by omega)), fun g => rI (one _ 6 g (by omega) (by omega) (fun g => by omega) (fun g => by omega) (fun g => by omega) (fun g => by omega) (fun g => by omega) (fun g => by omega) (fun _ => s7) (fun g => by omega)), fun g => ⟨fun q => absurd l0 q, fun _ => rI (one _ 7 g (by omega) (by omega) (fun g => by omega) (fun g => by omega) (fun g => by omega) (fun g => by omega) (fun g => by omega) (fun g => by omega) (fun g => by omega) (fun _ => r0.symm))⟩, fun g => rI (fin _ (fun _ => by omega) (fun _ => by omega) (fun _ => by omega) (fun _ => by omega) (fun _ => by omega) (fun _ => by omega) (fun _ => by omega) (fun _ => by omega) (fun _ => rfl))⟩
  · obtain ⟨⟨ci, ek, ev⟩, -⟩ := hI.2.2.2.2.2.2.1 i i0 i1
    have ne : ¬ G.2.2 2 9 = 0 := by have := ev.1; omega
    rw [← li] at ev ri
    rcases ek with ⟨ek, rfl⟩ | ⟨ek, rfl⟩ | ⟨ek, rfl⟩ | ⟨ek, rfl⟩ | ⟨ek, rfl⟩ | ⟨ek, rfl⟩
    · refine w_X11_count_k7 hG ?_
      rw [t1]
      exact ⟨fun g => rI (one _ 0 g (by omega) (by omega) (fun _ => s1) (fun g => by omega) (fun g => by omega) (fun g => by omega) (fun g => by omega) (fun g => by omega) (fun g => by omega) (fun g => by omega)), fun g => rI (one _ 1 g (by omega) (by omega) (fun g => by omega) (fun _ => s3) (fun g => by omega) (fun g => by omega) (fun g => by omega) (fun g => by omega) (fun g => by omega) (fun g => by omega)), fun g => rI (one _ 2 g (by omega) (by omega) (fun g => by omega) (fun g => by omega) (fun _ => s4) (fun g => by omega) (fun g => by omega) (fun g => by omega) (fun g => by omega) (fun g => by omega)), fun g => rI (one _ 3 g (by omega) (by omega) (fun g => by omega) (fun g => by omega) (fun g => by omega) (fun _ => s5) (fun g => by omega) (fun g => by omega) (fun g => by omega) (fun g => by omega)), fun g => rI (one _ 4 g (by omega) (by omega) (fun g => by omega) (fun g => by omega) (fun g => by omega) (fun g => by omega) (fun _ => s6) (fun g => by omega) (fun g => by omega) (fun g => by omega)), fun g => rI (one _ 5 g (by omega) (by omega) (fun g => by omega) (fun g => by omega) (fun g => by omega) (fun g => by omega) (fun g => by omega) (fun _ => s2) (fun g => by omega) (fun g => by omega)), fun g => rI (one _ 6 g (by omega) (by omega) (fun g => by omega) (fun g => by omega) (fun g => by omega) (fun g => by omega) (fun g => by omega) (fun g => by omega) (fun _ => s7) (fun g => by omega)), fun g => ⟨fun _ => ⟨ev, rI (one _ 7 g (by omega) (by omega) (fun g => by omega) (fun g => by omega) (fun g => by omega) (fun g => by omega) (fun g => by omega) (fun g => by omega) (fun g => by omega) (fun _ => ri))⟩, fun q => absurd q ne⟩, fun g => rI (fin _ (fun _ => by omega) (fun _ => by omega) (fun _ => by omega) (fun _ => by omega) (fun _ => by omega) (fun _ => by omega) (fun _ => by omega) (fun _ => by omega) (fun _ => rfl))⟩
    · refine w_X11_count_k4 hG ?_
      rw [t1]
      exact ⟨fun g => rI (one _ 0 g (by omega) (by omega) (fun _ => s1) (fun g => by omega) (fun g => by omega) (fun g => by omega) (fun g => by omega) (fun g => by omega) (fun g => by omega) (fun g => by omega)), fun g => rI (one _ 1 g (by omega) (by omega) (fun g => by omega) (fun _ => s3) (fun g => by omega) (fun g => by omega) (fun g => by omega) (fun g => by omega) (fun g => by omega) (fun g => by omega)), fun g => rI (one _ 2 g (by omega) (by omega) (fun g => by omega) (fun g => by omega) (fun _ => s4) (fun g => by omega) (fun g => by omega) (fun g => by omega) (fun g => by omega) (fun g => by omega)), fun g => rI (one _ 3 g (by omega) (by omega) (fun g => by omega) (fun g => by omega) (fun g => by omega) (fun _ => s5) (fun g => by omega) (fun g => by omega) (fun g => by omega) (fun g => by omega)), fun g => rI (one _ 4 g (by omega) (by omega) (fun g => by omega) (fun g => by omega) (fun g => by omega) (fun g => by omega) (fun _ => s6) (fun g => by omega) (fun g => by omega) (fun g => by omega)), fun g => rI (one _ 5 g (by omega) (by omega) (fun g => by omega) (fun g => by omega) (fun g => by omega) (fun g => by omega) (fun g => by omega) (fun _ => s2) (fun g => by omega) (fun g => by omega)), fun g => rI (one _ 6 g (by omega) (by omega) (fun g => by omega) (fun g => by omega) (fun g => by omega) (fun g => by omega) (fun g => by omega) (fun g => by omega) (fun _ => s7) (fun g => by omega)), fun g => ⟨fun _ => ⟨ev, rI (one _ 7 g (by omega) (by omega) (fun g => by omega) (fun g => by omega) (fun g => by omega) (fun g => by omega) (fun g => by omega) (fun g => by omega) (fun g => by omega) (fun _ => ri))⟩, fun q => absurd q ne⟩, fun g => rI (fin _ (fun _ => by omega) (fun _ => by omega) (fun _ => by omega) (fun _ => by omega) (fun _ => by omega) (fun _ => by omega) (fun _ => by omega) (fun _ => by omega) (fun _ => rfl))⟩
    · refine w_X11_count_k8 hG ?_
      rw [t1]
      exact ⟨fun g => rI (one _ 0 g (by omega) (by omega) (fun _ => s1) (fun g => by omega) (fun g => by omega) (fun g => by omega) (fun g => by omega) (fun g => by omega) (fun g => by omega) (fun g => by omega)), fun g => rI (one _ 1 g (by omega) (by omega) (fun g => by omega) (fun _ => s3) (fun g => by omega) (fun g => by omega) (fun g => by omega) (fun g => by omega) (fun g => by omega) (fun g => by omega)), fun g => rI (one _ 2 g (by omega) (by omega) (fun g => by omega) (fun g => by omega) (fun _ => s4) (fun g => by omega) (fun g => by omega) (fun g => by omega) (fun g => by omega) (fun g => by omega)), fun g => rI (one _ 3 g (by omega) (by omega) (fun g => by omega) (fun g => by omega) (fun g => by omega) (fun _ => s5) (fun g => by omega) (fun g => by omega) (fun g => by omega) (fun g => by omega)), fun g => rI (one _ 4 g (by omega) (by omega) (fun g => by omega) (fun g => by omega) (fun g => by omega) (fun g => by omega) (fun _ => s6) (fun g => by omega) (fun g => by omega) (fun g => by omega)), fun g => rI (one _ 5 g (by omega) (by omega) (fun g => by omega) (fun g => by omega) (fun g => by omega) (fun g => by omega) (fun g => by omega) (fun _ => s2) (fun g => by omega) (fun g => by omega)), fun g => rI (one _ 6 g (by omega) (by omega) (fun g => by omega) (fun g => by omega) (fun g => by omega) (fun g => by omega) (fun g => by omega) (fun g => by omega) (fun _ => s7) (fun g => by omega)), fun g => ⟨fun _ => ⟨ev, rI (one _ 7 g (by omega) (by omega) (fun g => by omega) (fun g => by omega) (fun g => by omega) (fun g => by omega) (fun g => by omega) (fun g => by omega) (fun g => by omega) (fun _ => ri))⟩, fun q => absurd q ne⟩, fun g => rI (fin _ (fun _ => by omega) (fun _ => by omega) (fun _ => by omega) (fun _ => by omega) (fun _ => by omega) (fun _ => by omega) (fun _ => by omega) (fun _ => by omega) (fun _ => rfl))⟩
    · refine w_X11_count_k5 hG ?_
      rw [t1]
      exact ⟨fun g => rI (one _ 0 g (by omega) (by omega) (fun _ => s1) (fun g => by omega) (fun g => by omega) (fun g => by omega) (fun g => by omega) (fun g => by omega) (fun g => by omega) (fun g => by omega)), fun g => rI (one _ 1 g (by omega) (by omega) (fun g => by omega) (fun _ => s3) (fun g => by omega) (fun g => by omega) (fun g => by omega) (fun g => by omega) (fun g => by omega) (fun g => by omega)), fun g => rI (one _ 2 g (by omega) (by omega) (fun g => by omega) (fun g => by omega) (fun _ => s4) (fun g => by omega) (fun g => by omega) (fun g => by omega) (fun g => by omega) (fun g => by omega)), fun g => rI (one _ 3 g (by omega) (by omega) (fun g => by omega) (fun g => by omega) (fun g => by omega) (fun _ => s5) (fun g => by omega) (fun g => by omega) (fun g => by omega) (fun g => by omega)), fun g => rI (one _ 4 g (by omega) (by omega) (fun g => by omega) (fun g => by omega) (fun g => by omega) (fun g => by omega) (fun _ => s6) (fun g => by omega) (fun g => by omega) (fun g => by omega)), fun g => rI (one _ 5 g (by omega) (by omega) (fun g => by omega) (fun g => by omega) (fun g => by omega) (fun g => by omega) (fun g => by omega) (fun _ => s2) (fun g => by omega) (fun g => by omega)), fun g => rI (one _ 6 g (by omega) (by omega) (fun g => by omega) (fun g => by omega) (fun g => by omega) (fun g => by omega) (fun g => by omega) (fun g => by omega) (fun _ => s7) (fun g => by omega)), fun g => ⟨fun _ => ⟨ev, rI (one _ 7 g (by omega) (by omega) (fun g => by omega) (fun g => by omega) (fun g => by omega) (fun g => by omega) (fun g => by omega) (fun g => by omega) (fun g => by omega) (fun _ => ri))⟩, fun q => absurd q ne⟩, fun g => rI (fin _ (fun _ => by omega) (fun _ => by omega) (fun _ => by omega) (fun _ => by omega) (fun _ => by omega) (fun _ => by omega) (fun _ => by omega) (fun _ => by omega) (fun _ => rfl))⟩
    · refine w_X11_count_k2 hG ?_
      rw [t1]
      exact ⟨fun g => rI (one _ 0 g (by omega) (by omega) (fun _ => s1) (fun g => by omega) (fun g => by omega) (fun g => by omega) (fun g => by omega) (fun g => by omega) (fun g => by omega) (fun g => by omega)), fun g => rI (one _ 1 g (by omega) (by omega) (fun g => by omega) (fun _ => s3) (fun g => by omega) (fun g => by omega) (fun g => by omega) (fun g => by omega) (fun g => by omega) (fun g => by omega)), fun g => rI (one _ 2 g (by omega) (by omega) (fun g => by omega) (fun g => by omega) (fun _ => s4) (fun g => by omega) (fun g => by omega) (fun g => by omega) (fun g => by omega) (fun g => by omega)), fun g => rI (one _ 3 g (by omega) (by omega) (fun g => by omega) (fun g => by omega) (fun g => by omega) (fun _ => s5) (fun g => by omega) (fun g => by omega) (fun g => by omega) (fun g => by omega)), fun g => rI (one _ 4 g (by omega) (by omega) (fun g => by omega) (fun g => by omega) (fun g => by omega) (fun g => by omega) (fun _ => s6) (fun g => by omega) (fun g => by omega) (fun g => by omega)), fun g => rI (one _ 5 g (by omega) (by omega) (fun g => by omega) (fun g => by omega) (fun g => by omega) (fun g => by omega) (fun g => by omega) (fun _ => s2) (fun g => by omega) (fun g => by omega)), fun g => rI (one _ 6 g (by omega) (by omega) (fun g => by omega) (fun g => by omega) (fun g => by omega) (fun g => by omega) (fun g => by omega) (fun g => by omega) (fun _ => s7) (fun g => by omega)), fun g => ⟨fun _ => ⟨ev, rI (one _ 7 g (by omega) (by omega) (fun g => by omega) (fun g => by omega) (fun g => by omega) (fun g => by omega) (fun g => by omega) (fun g => by omega) (fun g => by omega) (fun _ => ri))⟩, fun q => absurd q ne⟩, fun g => rI (fin _ (fun _ => by omega) (fun _ => by omega) (fun _ => by omega) (fun _ => by omega) (fun _ => by omega) (fun _ => by omega) (fun _ => by omega) (fun _ => by omega) (fun _ => rfl))⟩
    · refine w_X11_count_k1 hG ?_
      rw [t1]
      exact ⟨fun g => rI (one _ 0 g (by omega) (by omega) (fun _ => s1) (fun g => by omega) (fun g => by omega) (fun g => by omega) (fun g => by omega) (fun g => by omega) (fun g => by omega) (fun g => by omega)), fun g => rI (one _ 1 g (by omega) (by omega) (fun g => by omega) (fun _ => s3) (fun g => by omega) (fun g => by omega) (fun g => by omega) (fun g => by omega) (fun g => by omega) (fun g => by omega)), fun g => rI (one _ 2 g (by omega) (by omega) (fun g => by omega) (fun g => by omega) (fun _ => s4) (fun g => by omega) (fun g => by omega) (fun g => by omega) (fun g => by omega) (fun g => by omega)), fun g => rI (one _ 3 g (by omega) (by omega) (fun g => by omega) (fun g => by omega) (fun g => by omega) (fun _ => s5) (fun g => by omega) (fun g => by omega) (fun g => by omega) (fun g => by omega)), fun g => rI (one _ 4 g (by omega) (by omega) (fun g => by omega) (fun g => by omega) (fun g => by omega) (fun g => by omega) (fun _ => s6) (fun g => by omega) (fun g => by omega) (fun g => by omega)), fun g => rI (one _ 5 g (by omega) (by omega) (fun g => by omega) (fun g => by omega) (fun g => by omega) (fun g => by omega) (fun g => by omega) (fun _ => s2) (fun g => by omega) (fun g => by omega)), fun g => rI (one _ 6 g (by omega) (by omega) (fun g => by omega) (fun g => by omega) (fun g => by omega) (fun g => by omega) (fun g => by omega) (fun g => by omega) (fun _ => s7) (fun g => by omega)), fun g => ⟨fun _ => ⟨ev, rI (one _ 7 g (by omega) (by omega) (fun g => by omega) (fun g => by omega) (fun g => by omega) (fun g => by omega) (fun g => by omega) (fun g => by omega) (fun g => by omega) (fun _ => ri))⟩, fun q => absurd q ne⟩, fun g => rI (fin _ (fun _ => by omega) (fun _ => by omega) (fun _ => by omega) (fun _ => by omega) (fun _ => by omega) (fun _ => by omega) (fun _ => by omega) (fun _ => by omega) (fun _ => rfl))⟩
theorem p_trace (hI : Inv G D) (h1 : rg x1) : Pair E (d + 1) mX11_trace mX12_trace [vI x1] G D := by
  have hG := hI.1
  have h1' := h1
  unfold rg at h1'
  obtain ⟨tr1, tr2⟩ := hI.2.2.2.2.2.2.2.2
  have no : (x1 < 0 ∨ D 214 57 ≤ x1) → Call E (d + 1) 0 0 mX12_trace [vR 214, vI x1] G D (retI G (fun y D2 => iv (-1) = iv y ∧ Inv G D2)) := fun hn =>
    w_X12_trace hG (br_le (fun a => c_in hG h1 (by unfold rg; omega) (by unfold rg; omega) (fun p q => by omega) (fun p => b_f (rI ⟨rfl, hI⟩))) (fun a => c_in hG h1 (by unfold rg; omega) (by unfold rg; omega) (fun p q => by omega) (fun p => b_f (rI ⟨rfl, hI⟩))))
  rcases tr2 with ⟨l0, r0⟩ | ⟨i, i0, i1, li, r, bo⟩
  · exact w_X11_trace_k1 hG ⟨fun _ => rI (no (by omega)), fun q => absurd l0 q⟩
  · obtain ⟨⟨ci, ek, ev⟩, -⟩ := hI.2.2.2.2.2.2.1 i i0 i1
    have ne : ¬ G.2.2 2 9 = 0 := by have := ev.1; omega
    rw [← li] at ev r bo
    have yes : 0 ≤ x1 → x1 < D 214 57 → Call E (d + 1) 0 0 mX12_trace [vR 214, vI x1] G D (retI G (fun y D2 => iv (D (G.2.2 2 9 + 1) x1) = iv y ∧ Inv G D2)) := fun p q =>
      w_X12_trace hG (br_le (fun a => c_in hG h1 (by unfold rg; omega) (by unfold rg; omega) (fun _ _ => b_t ⟨⟨by omega, by omega⟩, rI ⟨by rw [bo x1 p q], hI⟩⟩) (fun p => by omega)) (fun a => c_in hG h1 (by unfold rg; omega) (by unfold rg; omega) (fun _ _ => b_t ⟨⟨by omega, by omega⟩, rI ⟨by rw [bo x1 p q], hI⟩⟩) (fun p => by omega)))
    rcases ek with ⟨ek, rfl⟩ | ⟨ek, rfl⟩ | ⟨ek, rfl⟩ | ⟨ek, rfl⟩ | ⟨ek, rfl⟩ | ⟨ek, rfl⟩
    · refine w_X11_trace_k7 hG ⟨fun q => absurd q ne, fun _ => br_lt (fun p => rI (no (by omega))) (fun p => ⟨ev, ?_⟩)⟩
      rw [r]
      exact br_le (fun q => rI (no (by omega))) (fun q => br_lt (fun s => ⟨ev, ⟨by omega, by omega⟩, rI (yes p q)⟩) (fun s => by omega))
    · refine w_X11_trace_k4 hG ⟨fun q => absurd q ne, fun _ => br_lt (fun p => rI (no (by omega))) (fun p => ⟨ev, ?_⟩)⟩
      rw [r]
      exact br_le (fun q => rI (no (by omega))) (fun q => br_lt (fun s => ⟨ev, ⟨by omega, by omega⟩, rI (yes p q)⟩) (fun s => by omega))
    · refine w_X11_trace_k8 hG ⟨fun q => absurd q ne, fun _ => br_lt (fun p => rI (no (by omega))) (fun p => ⟨ev, ?_⟩)⟩
      rw [r]
      exact br_le (fun q => rI (no (by omega))) (fun q => br_lt (fun s => ⟨ev, ⟨by omega, by omega⟩, rI (yes p q)⟩) (fun s => by omega))
    · refine w_X11_trace_k5 hG ⟨fun q => absurd q ne, fun _ => br_lt (fun p => rI (no (by omega))) (fun p => ⟨ev, ?_⟩)⟩
      rw [r]
      exact br_le (fun q => rI (no (by omega))) (fun q => br_lt (fun s => ⟨ev, ⟨by omega, by omega⟩, rI (yes p q)⟩) (fun s => by omega))
    · refine w_X11_trace_k2 hG ⟨fun q => absurd q ne, fun _ => br_lt (fun p => rI (no (by omega))) (fun p => ⟨ev, ?_⟩)⟩
      rw [r]
      exact br_le (fun q => rI (no (by omega))) (fun q => br_lt (fun s => ⟨ev, ⟨by omega, by omega⟩, rI (yes p q)⟩) (fun s => by omega))
    · refine w_X11_trace_k1 hG ⟨fun q => absurd q ne, fun _ => br_lt (fun p => rI (no (by omega))) (fun p => ⟨ev, ?_⟩)⟩
      rw [r]
      exact br_le (fun q => rI (no (by omega))) (fun q => br_lt (fun s => ⟨ev, ⟨by omega, by omega⟩, rI (yes p q)⟩) (fun s => by omega))
end Pub2
