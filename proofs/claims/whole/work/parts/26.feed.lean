/-! ===== feed ===== -/
theorem fb_sh : ∀ k : Fin 8, ((Int32.ofInt (8 * ((k.1 : Nat) : Int))).toInt64.toUInt64 &&& Int64.toUInt64 63).toBitVec % 64 = BitVec.ofNat 64 (8 * k.1) ∧ ((Int32.ofInt (8 * ((k.1 : Nat) : Int))).toInt64 &&& 63).toBitVec.smod 64 = BitVec.ofNat 64 (8 * k.1) := by decide +kernel
theorem fb_eq (w : Int64) (k : Nat) (hk : k < 8) : iand (((w.toUInt64 >>> ((iv (8 * (k : Int))).toInt64.toUInt64 &&& Int64.toUInt64 63)).toInt64).toInt32.toInt) 255 = ((w >>> ((iv (8 * (k : Int))).toInt64 &&& 63)) &&& 255).toInt32.toInt := by
  obtain ⟨h1, h2⟩ := fb_sh ⟨k, hk⟩
  simp only at h1 h2
  unfold iand
  rw [show iv (((w.toUInt64 >>> ((iv (8 * (k : Int))).toInt64.toUInt64 &&& Int64.toUInt64 63)).toInt64).toInt32.toInt) = ((w.toUInt64 >>> ((iv (8 * (k : Int))).toInt64.toUInt64 &&& Int64.toUInt64 63)).toInt64).toInt32 from Int32.ofInt_toInt _]
  apply congrArg Int32.toInt
  apply Int32.toBitVec_inj.mp
  apply BitVec.eq_of_getLsbD_eq
  intro i hi
  have e1 : ((w.toUInt64 >>> ((iv (8 * (k : Int))).toInt64.toUInt64 &&& Int64.toUInt64 63)).toInt64).toBitVec = w.toBitVec >>> (8 * k) := by
    show (w.toUInt64 >>> ((iv (8 * (k : Int))).toInt64.toUInt64 &&& Int64.toUInt64 63)).toBitVec = _
    rw [UInt64.toBitVec_shiftRight]
    show w.toBitVec >>> (((iv (8 * (k : Int))).toInt64.toUInt64 &&& Int64.toUInt64 63).toBitVec % 64) = _
    rw [h1, BitVec.ushiftRight_eq', BitVec.toNat_ofNat]
    congr 1; omega
  have e2 : (w >>> ((iv (8 * (k : Int))).toInt64 &&& 63)).toBitVec = w.toBitVec.sshiftRight (8 * k) := by
    rw [Int64.toBitVec_shiftRight, h2, BitVec.sshiftRight', BitVec.toNat_ofNat]
    congr 1; omega
  rw [Int32.toBitVec_and, BitVec.getLsbD_and, Int64.toBitVec_toInt32, Int64.toBitVec_toInt32, Int64.toBitVec_and, e1, e2, BitVec.getLsbD_signExtend, BitVec.getLsbD_signExtend, BitVec.getLsbD_and]
  have c : ∀ i : Fin 32, (iv 255).toBitVec.getLsbD i.1 = decide (i.1 < 8) ∧ (255 : Int64).toBitVec.getLsbD i.1 = decide (i.1 < 8) := by decide +kernel
  obtain ⟨c1, c2⟩ := c ⟨i, hi⟩
  rw [c1, c2]
  by_cases h8 : i < 8
  · rw [BitVec.getLsbD_ushiftRight, BitVec.getLsbD_sshiftRight]
    have : i < 64 := by omega
    have : 8 * k + i < 64 := by omega
    simp [*]
    try omega
  · have : i < 64 := by omega
    simp [h8, this]
    try omega
theorem fb_rg (w : Int64) (k : Int32) : 0 ≤ ((w >>> (k.toInt64 &&& 63)) &&& 255).toInt32.toInt ∧ ((w >>> (k.toInt64 &&& 63)) &&& 255).toInt32.toInt < 256 := by
  generalize w >>> (k.toInt64 &&& 63) = x
  have h : (x &&& 255).toInt32.toBitVec.toNat < 256 := by
    rw [Int64.toBitVec_toInt32, BitVec.signExtend_eq_setWidth_of_le _ (by omega), BitVec.toNat_setWidth, Int64.toBitVec_and, BitVec.toNat_and]
    have : x.toBitVec.toNat &&& (255 : Int64).toBitVec.toNat ≤ (255 : Int64).toBitVec.toNat := Nat.and_le_right
    have e : (255 : Int64).toBitVec.toNat = 255 := by decide +kernel
    rw [e] at this
    rw [e]
    omega
  have : (x &&& 255).toInt32.toInt = ((x &&& 255).toInt32.toBitVec.toNat : Int) := by
    rw [← Int32.toInt_toBitVec]
    exact BitVec.toInt_eq_toNat_of_lt (by omega)
  omega
/-- byte k of the word -/
def fb (w : Int64) (k : Int) : Int := ((w >>> ((iv (8 * k)).toInt64 &&& 63)) &&& 255).toInt32.toInt
section Feed
variable {E : mmE} {d : Nat} {G : mmG} {D0 D : mmD} {w : Int64} {x3 : Int}
theorem l_feedC {Q : mmQ} (hG : Sh G) : ∀ (n : Nat) (D : mmD) (k t : Int), k + 1 = n → n ≤ 8 → D 2 1 = t → 0 ≤ t → t + n ≤ 80 → (∀ D' : mmD, (∀ c i, ¬ (c = 2 ∧ i = 1) → ¬ (c = 3 ∧ t ≤ i ∧ i < t + n) → D' c i = D c i) → D' 2 1 = t + n → (∀ j : Int, 0 ≤ j → j < n → D' 3 (t + j) = fb w (n - 1 - j)) → Q (some (vI (t + n))) G D') →
    Go E d 0 0 mX11_feed 33 [some (vR 2), some (vL w), none, none, some (vI k)] [] G D Q := by
  intro n
  induction n with
  | zero =>
    intro D k t hk h8 ht t0 t1 K
    refine w_X11_feed_33 hG (br_lt (fun _ => ?_) (fun g => by omega))
    have := K D (fun _ _ _ _ => rfl) (by omega) (fun j _ _ => by omega)
    rw [ht]
    rw [show t + ((0 : Nat) : Int) = t by omega] at this
    exact this
  | succ n ih =>
    intro D k t hk h8 ht t0 t1 K
    refine w_X11_feed_33 hG (br_lt (fun g => by omega) (fun _ => ⟨⟨by omega, by omega⟩, fun D1 e1 D2 e2 => ?_⟩))
    have ek : k = (n : Int) := by omega
    rw [ek, fb_eq w n (by omega)] at e1
    have f1 : D1 2 1 = t := by rw [e1, up2_ne (by omega)]; exact ht
    have f2 : D2 2 1 = t + 1 := by rw [e2, up2_same, f1]
    have k2 : ∀ c i, ¬ (c = 2 ∧ i = 1) → ¬ (c = 3 ∧ i = t) → D2 c i = D c i := fun c i a b => by rw [e2, up2_ne a, e1, up2_ne (by rw [ht]; exact b)]
    refine ih D2 (k + (-1)) (t + 1) (by omega) (by omega) f2 (by omega) (by omega) (fun D' g1 g2 g3 => ?_)
    rw [show t + 1 + (n : Int) = t + ((n + 1 : Nat) : Int) by omega]
    refine K D' (fun c i a b => ?_) (by omega) (fun j j0 j1 => ?_)
    · rw [g1 c i a (by omega), k2 c i a (by omega)]
    · by_cases hj : j = 0
      · subst hj
        rw [Int.add_zero, g1 3 t (by omega) (by omega), e2, up2_ne (by omega), e1, ht, up2_same]
        unfold fb
        rw [show ((n + 1 : Nat) : Int) - 1 - 0 = (n : Int) by omega]
      · have := g3 (j - 1) (by omega) (by omega)
        rw [show t + 1 + (j - 1) = t + j by omega, show (n : Int) - 1 - (j - 1) = ((n + 1 : Nat) : Int) - 1 - j by omega] at this
        exact this
theorem l_feedR {Q : mmQ} (hG : Sh G) : ∀ (n : Nat) (D : mmD) (k t : Int), k + 1 = n → n ≤ 8 → D 214 7 = t → 0 ≤ t → t + n ≤ 80 → (∀ D' : mmD, (∀ c i, ¬ (c = 214 ∧ i = 7) → ¬ (c = 215 ∧ t ≤ i ∧ i < t + n) → D' c i = D c i) → D' 214 7 = t + n → (∀ j : Int, 0 ≤ j → j < n → D' 215 (t + j) = fb w (n - 1 - j)) → Q (some (vI (t + n))) G D') →
    Go E (d + 1) 0 0 mX12_feed 32 [some (vR 214), some (vL w), none, none, some (vI k)] [] G D Q := by
  intro n
  induction n with
  | zero =>
    intro D k t hk h8 ht t0 t1 K
    refine w_X12_feed_32 hG (br_lt (fun _ => ?_) (fun g => by omega))
    have := K D (fun _ _ _ _ => rfl) (by omega) (fun j _ _ => by omega)
    rw [ht]
    rw [show t + ((0 : Nat) : Int) = t by omega] at this
    exact this
  | succ n ih =>
    intro D k t hk h8 ht t0 t1 K
    refine w_X12_feed_32 hG (br_lt (fun g => by omega) (fun _ => ⟨⟨by omega, by omega⟩, fun D1 e1 D2 e2 => ?_⟩))
    have ek : k = (n : Int) := by omega
    rw [ek] at e1
    have f1 : D1 214 7 = t := by rw [e1, up2_ne (by omega)]; exact ht
    have f2 : D2 214 7 = t + 1 := by rw [e2, up2_same, f1]
    have k2 : ∀ c i, ¬ (c = 214 ∧ i = 7) → ¬ (c = 215 ∧ i = t) → D2 c i = D c i := fun c i a b => by rw [e2, up2_ne a, e1, up2_ne (by rw [ht]; exact b)]
    refine ih D2 (k + (-1)) (t + 1) (by omega) (by omega) f2 (by omega) (by omega) (fun D' g1 g2 g3 => ?_)
    rw [show t + 1 + (n : Int) = t + ((n + 1 : Nat) : Int) by omega]
    refine K D' (fun c i a b => ?_) (by omega) (fun j j0 j1 => ?_)
    · rw [g1 c i a (by omega), k2 c i a (by omega)]
    · by_cases hj : j = 0
      · subst hj
        rw [Int.add_zero, g1 215 t (by omega) (by omega), e2, up2_ne (by omega), e1, ht, up2_same]
        unfold fb
        rw [show ((n + 1 : Nat) : Int) - 1 - 0 = (n : Int) by omega]
      · have := g3 (j - 1) (by omega) (by omega)
        rw [show t + 1 + (j - 1) = t + j by omega, show (n : Int) - 1 - (j - 1) = ((n + 1 : Nat) : Int) - 1 - j by omega] at this
        exact this
theorem p_feed (hI : Inv G D0) (h3 : rg x3) : Pair E (d + 1) mX11_feed mX12_feed [vL w, vI x3] G D0 := by
  obtain ⟨hG, hs, q3, q4, q5, q6, q7, q8, q9⟩ := id hI
  have s7 := hs.2.2.2.2.2.2.1
  have h3' := h3
  unfold rg at h3'
  have no : ∀ v : Int, ((x3 < 1 ∨ 8 < x3) → v = -2) → (1 ≤ x3 → x3 ≤ 8 → v = -4 ∧ 80 < D0 214 7 + x3) → Call E (d + 1) 0 0 mX12_feed [vR 214, vL w, vI x3] G D0 (retI G (fun y D2 => iv v = iv y ∧ Inv G D2)) := fun v v1 v2 =>
    w_X12_feed hG (c_in hG h3 (by unfold rg; omega) (by unfold rg; omega) (fun p q => n_t (br_le (fun g => by have := (v2 p q).2; omega) (fun g => rI ⟨by rw [(v2 p q).1], hI⟩))) (fun p => n_f (rI ⟨by rw [v1 (by omega)], hI⟩)))
  refine w_X11_feed hG (br_lt (fun a => rI (no _ (fun _ => rfl) (by omega))) (fun a => br_le (fun b => ?_) (fun b => rI (no _ (fun _ => rfl) (by omega)))))
  rw [s7.1]
  refine br_le (fun c => ?_) (fun c => rI (no _ (by omega) (fun _ _ => ⟨rfl, c⟩)))
  refine l_feedC hG x3.toNat D0 (x3 - 1) (D0 214 7) (by omega) (by omega) s7.1 (by omega) (by omega) (fun D1 k1 m1 b1 => rI ?_)
  have t7 : D1 214 7 = D0 214 7 := k1 _ _ (by omega) (by omega)
  refine w_X12_feed hG (c_in hG h3 (by unfold rg; omega) (by unfold rg; omega) (fun _ _ => n_t ?_) (fun p => by omega))
  rw [t7]
  refine br_le (fun _ => ?_) (fun g => by omega)
  refine l_feedR hG x3.toNat D1 (x3 - 1) (D0 214 7) (by omega) (by omega) t7 (by omega) (by omega) (fun D2 k2 m2 b2 => rI ⟨rfl, ?_⟩)
  have e3 : ((x3.toNat : Nat) : Int) = x3 := by omega
  rw [e3] at m1 m2 b1 b2 k1 k2
  have kk : ∀ c i, ¬ (c = 2 ∧ i = 1) → ¬ (c = 3 ∧ D0 214 7 ≤ i) → ¬ (c = 214 ∧ i = 7) → ¬ (c = 215 ∧ D0 214 7 ≤ i) → D2 c i = D0 c i := fun c i p1 p2 p3 p4 => by rw [k2 c i p3 (by omega), k1 c i p1 (by omega)]
  have m1' : D2 2 1 = D0 214 7 + x3 := by rw [k2 2 1 (by omega) (by omega)]; exact m1
  refine ⟨hG, ?_, ?_, q4.keep (fun c k _ _ => kk _ _ (by omega) (by omega) (by omega) (by omega)) (fun c k _ _ => kk _ _ (by omega) (by omega) (by omega) (by omega)), q5.keep (kk _ _ (by omega) (by omega) (by omega) (by omega)) (fun k => kk _ _ (by omega) (by omega) (by omega) (by omega)) (fun k => kk _ _ (by omega) (by omega) (by omega) (by omega)) (fun k => kk _ _ (by omega) (by omega) (by omega) (by omega)), q6.keep hs.2.2.1.2.2 (kk _ _ (by omega) (by omega) (by omega) (by omega)) (fun c k _ _ _ => kk _ _ (by omega) (by omega) (by omega) (by omega)) (fun c k _ _ => kk _ _ (by omega) (by omega) (by omega) (by omega)), q7.keep (kk _ _ (by omega) (by omega) (by omega) (by omega)) (fun c k _ _ => kk _ _ (by omega) (by omega) (by omega) (by omega)) (fun c k _ _ _ => kk _ _ (by omega) (by omega) (by omega) (by omega)), q8.keep (kk _ _ (by omega) (by omega) (by omega) (by omega)) (fun k => kk _ _ (by omega) (by omega) (by omega) (by omega)) (fun k => kk _ _ (by omega) (by omega) (by omega) (by omega)) (fun k => kk _ _ (by omega) (by omega) (by omega) (by omega)), q9.keep q7 (kk _ _ (by omega) (by omega) (by omega) (by omega)) (kk _ _ (by omega) (by omega) (by omega) (by omega)) (fun k => kk _ _ (by omega) (by omega) (by omega) (by omega)) (fun c k _ => kk _ _ (by omega) (by omega) (by omega) (by omega))⟩
  · unfold i_sc at hs ⊢
    rw [m2, m1', kk 2 3 (by omega) (by omega) (by omega) (by omega), kk 2 11 (by omega) (by omega) (by omega) (by omega), kk 2 6 (by omega) (by omega) (by omega) (by omega), kk 2 8 (by omega) (by omega) (by omega) (by omega), kk 2 10 (by omega) (by omega) (by omega) (by omega), kk 2 15 (by omega) (by omega) (by omega) (by omega), kk 2 13 (by omega) (by omega) (by omega) (by omega), kk 2 12 (by omega) (by omega) (by omega) (by omega), kk 214 1 (by omega) (by omega) (by omega) (by omega), kk 214 2 (by omega) (by omega) (by omega) (by omega), kk 214 3 (by omega) (by omega) (by omega) (by omega), kk 214 4 (by omega) (by omega) (by omega) (by omega), kk 214 5 (by omega) (by omega) (by omega) (by omega), kk 214 6 (by omega) (by omega) (by omega) (by omega), kk 214 8 (by omega) (by omega) (by omega) (by omega), kk 214 9 (by omega) (by omega) (by omega) (by omega)]
    omega
  · intro i i0 i1
    have r1 : D2 3 i = D1 3 i := k2 3 i (by omega) (by omega)
    rw [r1]
    by_cases g1 : i < D0 214 7
    · rw [k1 3 i (by omega) (by omega), k2 215 i (by omega) (by omega), k1 215 i (by omega) (by omega)]
      exact q3 i i0 i1
    · by_cases g2 : i < D0 214 7 + x3
      · have p := b1 (i - D0 214 7) (by omega) (by omega)
        have q := b2 (i - D0 214 7) (by omega) (by omega)
        rw [show D0 214 7 + (i - D0 214 7) = i by omega] at p q
        rw [p, q]
        exact ⟨rfl, fb_rg w _⟩
      · rw [k1 3 i (by omega) (by omega), k2 215 i (by omega) (by omega), k1 215 i (by omega) (by omega)]
        exact q3 i i0 i1
end Feed
