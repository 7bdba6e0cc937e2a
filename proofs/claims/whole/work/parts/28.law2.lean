/-! ===== LAWS, read by the reference ===== -/
section LawR
variable {E : mmE} {d : Nat} {G : mmG} {D : mmD} {P : Int → mmD → Prop} {P0 : mmD → Prop} {sz x i s at' : Int} {B : Int → Int}
theorem c_here (hG : Sh G) (hb : byt sz B) (ht : tpR D sz B) (hs : D 214 31 = sz) (hi : D 214 30 = i) (i0 : 0 ≤ i) (i1 : i < 1000) (h : P (B i) D) : Call E d 0 0 mX12_here [vR 214] G D (retI G P) := by
  obtain ⟨b1, b2, b3⟩ := hb
  refine w_X12_here hG ?_
  rw [hs, hi]
  refine br_le (fun g => rI (by rw [b3 i g] at h; exact h)) (fun g => ⟨⟨by omega, by omega⟩, ?_⟩)
  rw [ht i i0 g]
  exact rI h
theorem c_part (hG : Sh G) (hb : byt sz B) (ht : tpR D sz B) (hs : D 214 31 = sz) (hi : D 214 30 = i) (i0 : 0 ≤ i) (i1 : i < 1000) (h : ∀ D' : mmD, (∀ a k, ¬ (a = 214 ∧ k = 30) → D' a k = D a k) → D' 214 30 = (if sgv (B i) ≠ 0 then i + 1 else i) → P (sgv (B i)) D') : Call E (d + 1) 0 0 mX12_part [vR 214] G D (retI G P) := by
  have r := hb.rg i0
  have fin : ∀ y : Int, 0 ≤ y → y < 100 → y = sgv (B i) → Go E (d + 1) 0 0 mX12_part 46 [some (vR 214), none, none] [vI y] G D (retI G P) := by
    intro y y0 y1 hy
    rw [← hy] at h
    refine w_X12_part_46 hG (br_ne (fun g D1 e1 => rI (h D1 (fun a k q => by rw [e1, up2_ne q]) ?_)) (fun g D1 e1 => rI (h D1 (fun a k q => by rw [e1, up2_ne q]) ?_)))
    · rw [if_pos g, e1, up2_same, hi]
    · rw [if_neg (by omega), e1, up2_same, hi, Int.add_zero]
  refine w_X12_part hG (c_here hG hb ht hs hi i0 i1 (c_in hG (by unfold rg; omega) (by unfold rg; omega) (by unfold rg; omega) (fun a b => b_t (fin _ (by omega) (by omega) ?_)) (fun a => b_f (br_ne (fun b => br_ne (fun c => fin _ (by omega) (by omega) ?_) (fun c => fin _ (by omega) (by omega) ?_)) (fun b => fin _ (by omega) (by omega) ?_)))))
  · unfold sgv; rw [if_pos ⟨a, b⟩]
  · unfold sgv; rw [if_neg (by omega), if_neg b, if_neg c]
  · unfold sgv; rw [if_neg (by omega), if_neg b, if_pos c]
  · unfold sgv; rw [if_neg (by omega), if_pos b]
theorem c_side (hG : Sh G) (hb : byt sz B) (ht : tpR D sz B) (hs : D 214 31 = sz) (hi : D 214 30 = i) (i0 : 0 ≤ i) (i1 : i < 1000) (h : ∀ D' : mmD, (∀ a k, ¬ (a = 214 ∧ k = 30) → D' a k = D a k) → D' 214 30 = (if sdv (B i) ≠ 0 then i + 1 else i) → P (sdv (B i)) D') : Call E (d + 2) 0 0 mX12_side [vR 214] G D (retI G P) := by
  have r := hb.rg i0
  unfold sdv at h
  refine w_X12_side hG (c_here hG hb ht hs hi i0 i1 (br_ne (fun g => ?_) (fun g D5 e5 => ?_)))
  · rw [if_neg g] at h
    exact c_part hG hb ht hs hi i0 i1 (fun D' f e => rI (h D' f e))
  · rw [if_pos g] at h
    refine rI (h D5 (fun a k q => by rw [e5, up2_ne q]) ?_)
    rw [if_pos (by omega), e5, up2_same, hi]
theorem c_must (hG : Sh G) (hb : byt sz B) (ht : tpR D sz B) (hs : D 214 31 = sz) (hi : D 214 30 = i) (i0 : 0 ≤ i) (i1 : i < 1000) (hx : 0 ≤ x ∧ x < 256) (hw : D 214 32 = 0 ∨ D 214 32 = 1)
    (h0 : D 214 32 = 0 → B i = x → ∀ D' : mmD, (∀ a k, ¬ (a = 214 ∧ (k = 30 ∨ k = 32)) → D' a k = D a k) → D' 214 30 = i + 1 → D' 214 32 = 0 → P0 D')
    (h1 : (D 214 32 = 1 ∨ B i ≠ x) → ∀ D' : mmD, (∀ a k, ¬ (a = 214 ∧ (k = 30 ∨ k = 32)) → D' a k = D a k) → D' 214 30 = i → D' 214 32 = 1 → P0 D') : Call E (d + 1) 0 0 mX12_must [vR 214, vI x] G D (retV G P0) := by
  have r := hb.rg i0
  have fin1 : (D 214 32 = 1 ∨ B i ≠ x) → ∀ D1 : mmD, D1 = up2 D 214 32 1 → (iv (D1 214 32) = iv 0 → (∀ D2 : mmD, D2 = up2 D1 214 30 (D1 214 30 + 1) → retV G P0 none G D2)) ∧ (¬ iv (D1 214 32) = iv 0 → (∀ D3 : mmD, D3 = up2 D1 214 30 (D1 214 30 + 0) → retV G P0 none G D3)) := by
    intro hh D1 e1
    have v : D1 214 32 = 1 := by rw [e1, up2_same]
    have u : D1 214 30 = i := by rw [e1, up2_ne (by omega)]; exact hi
    rw [v]
    refine b_t (fun D3 e3 => rV (h1 hh D3 (fun a k q => by rw [e3, up2_ne (by omega), e1, up2_ne (by omega)]) ?_ ?_))
    · rw [e3, up2_same, u, Int.add_zero]
    · rw [e3, up2_ne (by omega)]; exact v
  refine w_X12_must hG (br_ne (fun g D1 e1 => fin1 (by omega) D1 e1) (fun g => c_here hG hb ht hs hi i0 i1 (br_eq (fun g2 D6 e6 => ?_) (fun g2 D9 e9 => fin1 (Or.inr g2) D9 e9))))
  have v : D6 214 32 = 0 := by rw [e6, up2_same]
  have u : D6 214 30 = i := by rw [e6, up2_ne (by omega)]; exact hi
  rw [v]
  refine b_f (fun D7 e7 => rV (h0 g g2 D7 (fun a k q => by rw [e7, up2_ne (by omega), e6, up2_ne (by omega)]) ?_ ?_))
  · rw [e7, up2_same, u]
  · rw [e7, up2_ne (by omega)]; exact v
def frR (c : Int) (D D' : mmD) : Prop := ∀ a k, ¬ (a = 214 ∧ (k = 30 ∨ k = 32)) → ¬ (224 ≤ a ∧ a ≤ 227 ∧ k = c) → D' a k = D a k
theorem frR.tp {c : Int} {D' : mmD} (h : frR c D D') (ht : tpR D sz B) : tpR D' sz B := fun i i0 i1 => by rw [h 215 i (by omega) (by omega)]; exact ht i i0 i1
theorem frR.trans {c : Int} {D D1 D2 : mmD} (h : frR c D D1) (h2 : frR c D1 D2) : frR c D D2 := fun a k p q => (h2 a k p q).trans (h a k p q)
theorem c_reads (hG : Sh G) (hb : byt sz B) (ht : tpR D sz B) (hs : D 214 31 = sz) (hi : D 214 30 = s) (s0 : 0 ≤ s) (s1 : s < 900) (ha : 0 ≤ at' ∧ at' < 78)
    (hW : rW B s = 1 → ∀ D' : mmD, frR at' D D' → D' 214 30 = rP B s → D' 214 32 = 1 → P0 D')
    (hO : rW B s = 0 → ∀ D' : mmD, frR at' D D' → D' 214 30 = rP B s → D' 214 32 = 0 → D' 224 at' = sgv (B s) → D' 225 at' = bcV (B (s + 2)) → D' 226 at' = lV B s → D' 227 at' = rV' B s → P0 D') :
    Call E (d + 3) 0 0 mX12_reads [vR 214, vI at'] G D (retV G P0) := by
  have rb : ∀ i, 0 ≤ i → rg (B i) := fun i i0 => by have := hb.rg i0; unfold rg; omega
  have rb' : ∀ i, 0 ≤ i → -1 ≤ B i ∧ B i < 256 := fun i i0 => hb.rg i0
  -- a wrong one, from its mark on
  have wrong : ∀ (D1 : mmD) (p y : Int), frR at' D D1 → D1 214 30 = p → rP B s = p → rW B s = 1 → rg y → Go E (d + 3) 0 0 mX12_reads 64 [some (vR 214), some (vI at'), some (vI y)] [vR 214] G D1 (retV G P0) := by
    intro D1 p y f1 e1 hp hw hy
    unfold rg at hy
    have fin : ∀ (D2 D3 : mmD) (v : Int), D2 = up2 D1 214 32 1 → D3 = up2 D2 225 at' v → (iv (D3 214 32) = iv 0 → Go E (d + 3) 0 0 mX12_reads 109 [some (vR 214), some (vI at'), none] [vI 1, vI (D3 214 30), vR 214] G D3 (retV G P0)) ∧ (¬ iv (D3 214 32) = iv 0 → Go E (d + 3) 0 0 mX12_reads 109 [some (vR 214), some (vI at'), none] [vI 0, vI (D3 214 30), vR 214] G D3 (retV G P0)) := by
      intro D2 D3 v e2 e3
      have u1 : D3 214 32 = 1 := by rw [e3, up2_ne (by omega), e2, up2_same]
      have u2 : D3 214 30 = p := by rw [e3, up2_ne (by omega), e2, up2_ne (by omega)]; exact e1
      rw [u1, u2]
      refine b_t (w_X12_reads_109 hG (fun E1 g1 => ⟨ha, fun E2 g2 => ⟨ha, fun E3 g3 => ?_⟩⟩))
      have u3 : E3 214 32 = 1 := by rw [g3, up2_ne (by omega), g2, up2_ne (by omega), g1, up2_ne (by omega)]; exact u1
      rw [u3]
      refine n_t (rV (hW hw E3 (f1.trans (fun a k q1 q2 => ?_)) ?_ u3))
      · rw [g3, up2_ne (by omega), g2, up2_ne (by omega), g1, up2_ne (by omega), e3, up2_ne (by omega), e2, up2_ne (by omega)]
      · rw [g3, up2_ne (by omega), g2, up2_ne (by omega), g1, up2_same, hp, Int.add_zero]
    exact w_X12_reads_64 hG (fun D2 e2 => br_ne (fun _ => ⟨ha, fun D3 e3 => fin D2 D3 _ e2 e3⟩) (fun _ => ⟨ha, fun D3 e3 => fin D2 D3 _ e2 e3⟩))
  -- a right one, behind its third byte
  have right : ∀ (D1 : mmD), frR at' D D1 → D1 214 30 = s + 2 → D1 214 31 = sz → D1 224 at' = sgv (B s) → sgv (B s) ≠ 0 → B (s + 1) = 62 → bcB (B (s + 2)) → Go E (d + 3) 0 0 mX12_reads 68 [some (vR 214), some (vI at'), some (vI (B (s + 2)))] [vR 214] G D1 (retV G P0) := by
    intro D1 f1 e1 es e224 g1 g2 g3
    have r2 := rb' (s + 2) (by omega)
    have ew : rW B s = if B (s + 3) ≠ 47 then 0 else if B (rA B s) ≠ 95 then 1 else 0 := by
      unfold rW
      rw [if_neg g1, if_neg (show ¬ B (s + 1) ≠ 62 from fun q => q g2), if_neg (show ¬ ¬ bcB (B (s + 2)) from fun q => q g3)]
    have ep : rP B s = if B (s + 3) ≠ 47 then s + 3 else if B (rA B s) ≠ 95 then rA B s else if sdv (B (rA B s + 1)) ≠ 0 then rA B s + 2 else rA B s + 1 := by
      unfold rP
      rw [if_neg g1, if_neg (show ¬ B (s + 1) ≠ 62 from fun q => q g2), if_neg (show ¬ ¬ bcB (B (s + 2)) from fun q => q g3)]
    have fin : ∀ (D2 D3 : mmD), D2 = up2 D1 214 32 0 → D3 = up2 D2 225 at' (bcV (B (s + 2))) → (iv (D3 214 32) = iv 0 → Go E (d + 3) 0 0 mX12_reads 109 [some (vR 214), some (vI at'), none] [vI 1, vI (D3 214 30), vR 214] G D3 (retV G P0)) ∧ (¬ iv (D3 214 32) = iv 0 → Go E (d + 3) 0 0 mX12_reads 109 [some (vR 214), some (vI at'), none] [vI 0, vI (D3 214 30), vR 214] G D3 (retV G P0)) := by
      intro D2 D3 e2 e3
      have u1 : D3 214 32 = 0 := by rw [e3, up2_ne (by omega), e2, up2_same]
      have u2 : D3 214 30 = s + 2 := by rw [e3, up2_ne (by omega), e2, up2_ne (by omega)]; exact e1
      rw [u1, u2]
      refine b_f (w_X12_reads_109 hG (fun E1 h1 => ⟨ha, fun E2 h2 => ⟨ha, fun E3 h3 => ?_⟩⟩))
      have u3 : E3 214 32 = 0 := by rw [h3, up2_ne (by omega), h2, up2_ne (by omega), h1, up2_ne (by omega)]; exact u1
      have u4 : E3 214 30 = s + 3 := by rw [h3, up2_ne (by omega), h2, up2_ne (by omega), h1, up2_same]; omega
      have u5 : E3 214 31 = sz := by rw [h3, up2_ne (by omega), h2, up2_ne (by omega), h1, up2_ne (by omega), e3, up2_ne (by omega), e2, up2_ne (by omega)]; exact es
      have f3 : frR at' D E3 := f1.trans (fun a k q1 q2 => by rw [h3, up2_ne (by omega), h2, up2_ne (by omega), h1, up2_ne (by omega), e3, up2_ne (by omega), e2, up2_ne (by omega)])
      have w224 : E3 224 at' = sgv (B s) := by rw [h3, up2_ne (by omega), h2, up2_ne (by omega), h1, up2_ne (by omega), e3, up2_ne (by omega), e2, up2_ne (by omega)]; exact e224
      have w225 : E3 225 at' = bcV (B (s + 2)) := by rw [h3, up2_ne (by omega), h2, up2_ne (by omega), h1, up2_ne (by omega), e3, up2_same]
      have w226 : E3 226 at' = 0 := by rw [h3, up2_ne (by omega), h2, up2_same]
      have w227 : E3 227 at' = 0 := by rw [h3, up2_same]
      have t3 := f3.tp ht
      have r3 := rb' (s + 3) (by omega)
      rw [u3]
      refine n_f (c_here hG hb t3 u5 u4 (by omega) (by omega) (br_ne (fun g4 => rV ?_) (fun g4 D6 e6 => ?_)))
      · rw [if_pos g4] at ew ep
        refine hO ew E3 f3 (u4.trans ep.symm) u3 w224 w225 ?_ ?_
        · rw [w226]; unfold lV; rw [if_neg g4]
        · rw [w227]; unfold rV'; rw [if_neg g4]
      · rw [if_neg (show ¬ B (s + 3) ≠ 47 from fun q => q g4)] at ew ep
        have k6 : ∀ a k, ¬ (a = 214 ∧ k = 30) → D6 a k = E3 a k := fun a k q => by rw [e6, up2_ne q]
        have f6 : frR at' D D6 := f3.trans (fun a k q1 q2 => k6 a k (by omega))
        refine c_side hG hb (f6.tp ht) (by rw [k6 _ _ (by omega)]; exact u5) (by rw [e6, up2_same, u4]) (by omega) (by omega) (fun D7 k7 e7 => ⟨ha, fun D9 e9 => ?_⟩)
        have s4 : s + 3 + 1 = s + 4 := by omega
        rw [s4] at e7 e9
        have ea : (if sdv (B (s + 4)) ≠ 0 then s + 4 + 1 else s + 4) = rA B s := by unfold rA; split <;> omega
        rw [ea] at e7
        have ar := rA_rg B s
        have k9 : ∀ a k, ¬ (a = 214 ∧ k = 30) → ¬ (a = 226 ∧ k = at') → D9 a k = E3 a k := fun a k q1 q2 => by rw [e9, up2_ne q2, k7 a k q1, k6 a k q1]
        have f9 : frR at' D D9 := f3.trans (fun a k q1 q2 => k9 a k (by omega) (by omega))
        have v9 : D9 214 30 = rA B s := by rw [e9, up2_ne (by omega)]; exact e7
        have w9 : D9 214 32 = 0 := by rw [k9 _ _ (by omega) (by omega)]; exact u3
        refine c_must hG hb (f9.tp ht) (by rw [k9 _ _ (by omega) (by omega)]; exact u5) v9 (by omega) (by omega) (by omega) (Or.inl w9) (fun _ g5 D10 k10 e10 m10 => ?_) (fun g5 D10 k10 e10 m10 => ?_)
        · rw [m10]
          have f10 : frR at' D D10 := f9.trans (fun a k q1 q2 => k10 a k (by omega))
          refine b_f (c_side hG hb (f10.tp ht) (by rw [k10 _ _ (by omega), k9 _ _ (by omega) (by omega)]; exact u5) e10 (by omega) (by omega) (fun D12 k12 e12 => ⟨ha, fun D14 e14 => rV ?_⟩))
          rw [if_neg (show ¬ B (rA B s) ≠ 95 from fun q => q g5)] at ew ep
          have k14 : ∀ a k, ¬ (a = 214 ∧ k = 30) → ¬ (a = 227 ∧ k = at') → D14 a k = D10 a k := fun a k q1 q2 => by rw [e14, up2_ne q2, k12 a k q1]
          refine hO ew D14 (f10.trans (fun a k q1 q2 => k14 a k (by omega) (by omega))) ?_ ?_ ?_ ?_ ?_ ?_
          · rw [e14, up2_ne (by omega), e12, ep]
            split <;> omega
          · rw [k14 _ _ (by omega) (by omega)]; exact m10
          · rw [k14 _ _ (by omega) (by omega), k10 _ _ (by omega), k9 _ _ (by omega) (by omega)]; exact w224
          · rw [k14 _ _ (by omega) (by omega), k10 _ _ (by omega), k9 _ _ (by omega) (by omega)]; exact w225
          · rw [k14 _ _ (by omega) (by omega), k10 _ _ (by omega), e9, up2_same]; unfold lV; rw [if_pos g4]
          · rw [e14, up2_same]; unfold rV'; rw [if_pos g4]
        · rw [m10]
          have g5' : B (rA B s) ≠ 95 := by omega
          rw [if_pos g5'] at ew ep
          refine b_t ⟨ha, fun D15 e15 => rV (hW ew D15 (f9.trans (fun a k q1 q2 => ?_)) ?_ ?_)⟩
          · rw [e15, up2_ne (by omega), k10 a k (by omega)]
          · rw [e15, up2_ne (by omega), e10, ep]
          · rw [e15, up2_ne (by omega)]; exact m10
    refine w_X12_reads_68 hG (fun D2 e2 => br_ne (fun g4 => ⟨ha, fun D3 e3 => fin D2 D3 e2 ?_⟩) (fun g4 => ⟨ha, fun D3 e3 => fin D2 D3 e2 ?_⟩))
    · rw [e3]; unfold bcV; rw [if_neg g4]
    · rw [e3]; unfold bcV; rw [if_pos g4]
  refine w_X12_reads hG (c_part hG hb ht hs hi s0 (by omega) (fun D1 k1 e1 => ⟨ha, fun D3 e3 => ⟨ha, ?_⟩⟩))
  have v3 : D3 224 at' = sgv (B s) := by rw [e3, up2_same]
  have k3 : ∀ a k, ¬ (a = 214 ∧ k = 30) → ¬ (a = 224 ∧ k = at') → D3 a k = D a k := fun a k q1 q2 => by rw [e3, up2_ne q2, k1 a k q1]
  have sg := sgv_rg (B s)
  rw [v3]
  refine br_ne (fun g1 D4 e4 => ?_) (fun g1 D11 e11 => ?_)
  · rw [if_pos g1] at e1
    have k4 : ∀ a k, ¬ (a = 214 ∧ (k = 30 ∨ k = 32)) → ¬ (a = 224 ∧ k = at') → D4 a k = D a k := fun a k q1 q2 => by rw [e4, up2_ne (by omega), k3 a k (by omega) q2]
    have f4 : frR at' D D4 := fun a k q1 q2 => k4 a k q1 (by omega)
    have v4 : D4 214 30 = s + 1 := by rw [e4, up2_ne (by omega), e3, up2_ne (by omega)]; exact e1
    have z4 : D4 214 31 = sz := by rw [k4 _ _ (by omega) (by omega)]; exact hs
    have o4 : D4 214 32 = 0 := by rw [e4, up2_same]
    have w4 : D4 224 at' = sgv (B s) := by rw [e4, up2_ne (by omega)]; exact v3
    refine c_must hG hb (f4.tp ht) z4 v4 (by omega) (by omega) (by omega) (Or.inl o4) (fun _ g2 D5 k5 e5 m5 => ?_) (fun g2 D5 k5 e5 m5 => ?_)
    · have f5 : frR at' D D5 := f4.trans (fun a k q1 q2 => k5 a k (by omega))
      have z5 : D5 214 31 = sz := by rw [k5 _ _ (by omega)]; exact z4
      have w5 : D5 224 at' = sgv (B s) := by rw [k5 _ _ (by omega)]; exact w4
      have e5' : D5 214 30 = s + 2 := by omega
      have r2 := rb' (s + 2) (by omega)
      refine c_here hG hb (f5.tp ht) z5 e5' (by omega) (by omega) ?_
      rw [m5]
      refine n_f (c_in hG (rb _ (by omega)) (by unfold rg; omega) (by unfold rg; omega) (fun a b => n_t (right D5 f5 e5' z5 w5 g1 g2 (Or.inl ⟨a, b⟩))) (fun a => n_f (br_eq (fun g => right D5 f5 e5' z5 w5 g1 g2 (Or.inr g)) (fun g => wrong D5 (s + 2) _ f5 e5' ?_ ?_ (rb _ (by omega))))))
      · unfold rP
        rw [if_neg g1, if_neg (show ¬ B (s + 1) ≠ 62 from fun q => q g2), if_pos (show ¬ bcB (B (s + 2)) from fun q => Or.elim q (fun p => by omega) g)]
      · unfold rW
        rw [if_neg g1, if_neg (show ¬ B (s + 1) ≠ 62 from fun q => q g2), if_pos (show ¬ bcB (B (s + 2)) from fun q => Or.elim q (fun p => by omega) g)]
    · have f5 : frR at' D D5 := f4.trans (fun a k q1 q2 => k5 a k (by omega))
      have z5 : D5 214 31 = sz := by rw [k5 _ _ (by omega)]; exact z4
      have g2' : B (s + 1) ≠ 62 := by omega
      refine c_here hG hb (f5.tp ht) z5 e5 (by omega) (by omega) ?_
      rw [m5]
      refine n_t (wrong D5 (s + 1) _ f5 e5 ?_ ?_ (rb _ (by omega)))
      · unfold rP; rw [if_neg g1, if_pos g2']
      · unfold rW; rw [if_neg g1, if_pos g2']
  · rw [if_neg (by omega)] at e1
    have k4 : ∀ a k, ¬ (a = 214 ∧ (k = 30 ∨ k = 32)) → ¬ (a = 224 ∧ k = at') → D11 a k = D a k := fun a k q1 q2 => by rw [e11, up2_ne (by omega), k3 a k (by omega) q2]
    have f4 : frR at' D D11 := fun a k q1 q2 => k4 a k q1 (by omega)
    have v4 : D11 214 30 = s := by rw [e11, up2_ne (by omega), e3, up2_ne (by omega)]; exact e1
    have z4 : D11 214 31 = sz := by rw [k4 _ _ (by omega) (by omega)]; exact hs
    have o4 : D11 214 32 = 1 := by rw [e11, up2_same]
    refine c_must hG hb (f4.tp ht) z4 v4 (by omega) (by omega) (by omega) (Or.inr o4) (fun q => by omega) (fun g2 D5 k5 e5 m5 => ?_)
    have f5 : frR at' D D5 := f4.trans (fun a k q1 q2 => k5 a k (by omega))
    have z5 : D5 214 31 = sz := by rw [k5 _ _ (by omega)]; exact z4
    refine c_here hG hb (f5.tp ht) z5 e5 (by omega) (by omega) ?_
    rw [m5]
    refine n_t (wrong D5 s _ f5 e5 ?_ ?_ (rb _ (by omega)))
    · unfold rP; rw [if_pos g1]
    · unfold rW; rw [if_pos g1]
end LawR
