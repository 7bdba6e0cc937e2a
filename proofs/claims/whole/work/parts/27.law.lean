/-! ===== LAWS, read ===== -/
/-- what a byte is as a sign, as a side -/
def sgv (x : Int) : Int := if 97 ≤ x ∧ x ≤ 122 then x - 96 else if x = 86 then 27 else if x = 67 then 28 else 0
def sdv (x : Int) : Int := if x = 35 then 29 else sgv x
abbrev bcB (x : Int) : Prop := (97 ≤ x ∧ x ≤ 122) ∨ x = 48
theorem sgv_rg (x : Int) : 0 ≤ sgv x ∧ sgv x ≤ 28 := by unfold sgv; split <;> (try split) <;> (try split) <;> omega
theorem sdv_rg (x : Int) : 0 ≤ sdv x ∧ sdv x ≤ 29 := by unfold sdv; have := sgv_rg x; split <;> omega
theorem sgv_sig {x : Int} (h : sgv x ≠ 0) : l_sig x (sgv x) := by
  unfold sgv at h ⊢
  unfold l_sig
  split
  · omega
  · rename_i h1
    rw [if_neg h1] at h
    split
    · omega
    · rename_i h2
      rw [if_neg h2] at h
      split
      · omega
      · rename_i h3
        rw [if_neg h3] at h
        omega
theorem sdv_sid {x : Int} (h : sdv x ≠ 0) : l_sid x (sdv x) := by
  unfold sdv at h ⊢
  unfold l_sid
  by_cases hx : x = 35
  · rw [if_pos hx]; omega
  · rw [if_neg hx] at h ⊢
    exact Or.inr (Or.inl (sgv_sig h))
section LawP
variable (B : Int → Int)
/-- where the mark of the place stands -/
def rA (s : Int) : Int := if sdv (B (s + 4)) ≠ 0 then s + 5 else s + 4
def rW (s : Int) : Int := if sgv (B s) = 0 then 1 else if B (s + 1) ≠ 62 then 1 else if ¬ bcB (B (s + 2)) then 1 else if B (s + 3) ≠ 47 then 0 else if B (rA B s) ≠ 95 then 1 else 0
def rP (s : Int) : Int := if sgv (B s) = 0 then s else if B (s + 1) ≠ 62 then s + 1 else if ¬ bcB (B (s + 2)) then s + 2 else if B (s + 3) ≠ 47 then s + 3 else if B (rA B s) ≠ 95 then rA B s else if sdv (B (rA B s + 1)) ≠ 0 then rA B s + 2 else rA B s + 1
def lB (s : Int) : Int := if B (s + 3) = 47 ∧ sdv (B (s + 4)) ≠ 0 then B (s + 4) else 0
def rB (s : Int) : Int := if B (s + 3) = 47 ∧ sdv (B (rA B s + 1)) ≠ 0 then B (rA B s + 1) else 0
def lV (s : Int) : Int := if B (s + 3) = 47 then sdv (B (s + 4)) else 0
def rV' (s : Int) : Int := if B (s + 3) = 47 then sdv (B (rA B s + 1)) else 0
def bcV (x : Int) : Int := if x = 48 then 0 else x - 96
def stp : Nat → Int
  | 0 => 0
  | c + 1 => rP B (stp c) + 1
end LawP
theorem rA_rg (B : Int → Int) (s : Int) : s + 4 ≤ rA B s ∧ rA B s ≤ s + 5 := by unfold rA; split <;> omega
theorem rP_rg (B : Int → Int) (s : Int) : s ≤ rP B s ∧ rP B s ≤ s + 7 := by
  have := rA_rg B s
  unfold rP
  split
  · omega
  · split
    · omega
    · split
      · omega
      · split
        · omega
        · split
          · omega
          · split <;> omega
theorem stp_rg (B : Int → Int) : ∀ c : Nat, 0 ≤ stp B c ∧ stp B c ≤ 8 * c
  | 0 => by simp [stp]
  | c + 1 => by
    have := stp_rg B c
    have := rP_rg B (stp B c)
    simp only [stp]
    omega
theorem bcV_bec {x : Int} (h : bcB x) : l_bec x (bcV x) := by
  unfold bcB at h
  unfold l_bec bcV
  split <;> omega
theorem lB_sid (B : Int → Int) (s : Int) : l_sid (lB B s) (lV B s) := by
  unfold lB lV
  by_cases h : B (s + 3) = 47
  · rw [if_pos h]
    by_cases h2 : sdv (B (s + 4)) ≠ 0
    · rw [if_pos ⟨h, h2⟩]; exact sdv_sid h2
    · rw [if_neg (fun q => h2 q.2)]; unfold l_sid; omega
  · rw [if_neg h, if_neg (fun q => h q.1)]; unfold l_sid; omega
theorem rB_sid (B : Int → Int) (s : Int) : l_sid (rB B s) (rV' B s) := by
  unfold rB rV'
  by_cases h : B (s + 3) = 47
  · rw [if_pos h]
    by_cases h2 : sdv (B (rA B s + 1)) ≠ 0
    · rw [if_pos ⟨h, h2⟩]; exact sdv_sid h2
    · rw [if_neg (fun q => h2 q.2)]; unfold l_sid; omega
  · rw [if_neg h, if_neg (fun q => h q.1)]; unfold l_sid; omega
/-- the bytes of a text of that size -/
def byt (sz : Int) (B : Int → Int) : Prop := (0 ≤ sz ∧ sz ≤ 80) ∧ (∀ i, 0 ≤ i → i < sz → 0 ≤ B i ∧ B i < 256) ∧ (∀ i, sz ≤ i → B i = -1)
theorem byt.rg {sz : Int} {B : Int → Int} (h : byt sz B) {i : Int} (i0 : 0 ≤ i) : -1 ≤ B i ∧ B i < 256 := by
  by_cases g : i < sz
  · have := h.2.1 i i0 g; omega
  · rw [h.2.2 i (by omega)]; omega
def tpC (D : mmD) (sz : Int) (B : Int → Int) : Prop := ∀ i, 0 ≤ i → i < sz → D 3 i = B i
def tpR (D : mmD) (sz : Int) (B : Int → Int) : Prop := ∀ i, 0 ≤ i → i < sz → D 215 i = B i
section LawC
variable {E : mmE} {d : Nat} {G : mmG} {D : mmD} {P : Int → mmD → Prop} {sz x i s r0 c : Int} {B : Int → Int}
theorem c_byteAt (hG : Sh G) (hb : byt sz B) (ht : tpC D sz B) (i0 : 0 ≤ i) (i1 : i < 1000) (h : P (B i) D) : Call E d 0 0 mX4_byteAt [vR 3, vI sz, vI i] G D (retI G P) := by
  obtain ⟨b1, b2, b3⟩ := hb
  refine w_X4_byteAt hG (br_lt (fun g => by omega) (fun _ => br_le (fun g => rI (by rw [b3 i g] at h; exact h)) (fun g => br_le (fun g' => by omega) (fun g' => ⟨⟨by omega, by omega⟩, ?_⟩))))
  rw [ht i i0 g]
  exact rI h
theorem c_isLetterByte (hG : Sh G) (hx : rg x) (h1 : 97 ≤ x → x ≤ 122 → P 1 D) (h0 : ¬ (97 ≤ x ∧ x ≤ 122) → P 0 D) : Call E d 0 0 mX11_isLetterByte [vI x] G D (retI G P) := by
  unfold rg at hx
  exact w_X11_isLetterByte hG (br_lt (fun g => rI (h0 (by omega))) (fun g => br_lt (fun g' => rI (h0 (by omega))) (fun g' => rI (h1 g g'))))
theorem c_isSign (hG : Sh G) (hx : rg x) (h1 : sgv x ≠ 0 → P 1 D) (h0 : sgv x = 0 → P 0 D) : Call E (d + 1) 0 0 mX4_isSign [vI x] G D (retI G P) := by
  have hx' := hx
  unfold rg at hx'
  unfold sgv at h1 h0
  refine w_X4_isSign hG (c_isLetterByte hG hx (fun a b => n_t (rI ?_)) (fun a => n_f (br_eq (fun b => rI ?_) (fun b => br_ne (fun c => rI ?_) (fun c => rI ?_)))))
  · rw [if_pos ⟨a, b⟩] at h1; exact h1 (by omega)
  · rw [if_neg a, if_pos b] at h1; exact h1 (by omega)
  · rw [if_neg a, if_neg b, if_neg c] at h0; exact h0 rfl
  · rw [if_neg a, if_neg b, if_pos c] at h1; exact h1 (by omega)
theorem c_isSide (hG : Sh G) (hx : rg x) (h1 : sdv x ≠ 0 → P 1 D) (h0 : sdv x = 0 → P 0 D) : Call E (d + 2) 0 0 mX4_isSide [vI x] G D (retI G P) := by
  have hx' := hx
  unfold rg at hx'
  unfold sdv at h1 h0
  refine w_X4_isSide hG (c_isSign hG hx (fun a => n_t (rI ?_)) (fun a => n_f (br_ne (fun b => rI ?_) (fun b => rI ?_))))
  · by_cases e : x = 35
    · rw [if_pos e] at h1; exact h1 (by omega)
    · rw [if_neg e] at h1; exact h1 a
  · rw [if_neg b] at h0; exact h0 a
  · rw [if_pos b] at h1; exact h1 (by omega)
/-- only the four rows at that place differ -/
def frL (r0 c : Int) (D D' : mmD) : Prop := ∀ a k, ¬ (r0 + 1 ≤ a ∧ a ≤ r0 + 4 ∧ k = c) → D' a k = D a k
theorem frL.rfl {r0 c : Int} {D : mmD} : frL r0 c D D := fun _ _ _ => Eq.refl _
theorem frL.trans {r0 c : Int} {D D1 D2 : mmD} (h : frL r0 c D D1) (h2 : frL r0 c D1 D2) : frL r0 c D D2 := fun a k q => (h2 a k q).trans (h a k q)
theorem frL.up {r0 c v : Int} {D D1 : mmD} {j : Int} (j1 : 1 ≤ j) (j4 : j ≤ 4) (e : D1 = up2 D (r0 + j) c v) : frL r0 c D D1 := fun a k q => by rw [e, up2_ne (by omega)]
theorem isLw.b (h : isLw r0) : 142 ≤ r0 ∧ r0 ≤ 208 ∧ (r0 - 142) % 6 = 0 := by unfold isLw at h; omega
theorem frL.tp {D' : mmD} (hl : isLw r0) (h : frL r0 c D D') (ht : tpC D sz B) : tpC D' sz B := fun i i0 i1 => by
  have := hl.b
  rw [h 3 i (by omega)]; exact ht i i0 i1
theorem c_readSides (hG : Sh G) (hl : isLw r0) (hc : 0 ≤ c ∧ c < 6) (hb : byt sz B) (ht : tpC D sz B) (s0 : 0 ≤ s) (s1 : s < 900) (hl0 : D (r0 + 3) c = 0) (hr0 : D (r0 + 4) c = 0)
    (hW : B (rA B s) ≠ 95 → ∀ D', frL r0 c D D' → P (-1 - rA B s) D')
    (hO : B (rA B s) = 95 → ∀ D', frL r0 c D D' → D' (r0 + 1) c = D (r0 + 1) c → D' (r0 + 2) c = D (r0 + 2) c → D' (r0 + 3) c = (if sdv (B (s + 4)) ≠ 0 then B (s + 4) else 0) → D' (r0 + 4) c = (if sdv (B (rA B s + 1)) ≠ 0 then B (rA B s + 1) else 0) → P (if sdv (B (rA B s + 1)) ≠ 0 then rA B s + 2 else rA B s + 1) D') :
    Call E (d + 3) 0 0 mX4_readSides [vR r0, vR 3, vI sz, vI (s + 4), vI c] G D (retI G P) := by
  have lb := hl.b
  have rb : ∀ i, 0 ≤ i → rg (B i) := fun i i0 => by have := hb.rg i0; unfold rg; omega
  have rb' : ∀ i, 0 ≤ i → -1 ≤ B i ∧ B i < 256 := fun i i0 => hb.rg i0
  have q4 := rb' (s + 4) (by omega)
  have q5 := rb' (s + 4 + 1) (by omega)
  refine w_X4_readSides hG hl (c_byteAt hG hb ht (by omega) (by omega) (c_isSide hG (rb _ (by omega)) (fun hs => b_t ?_) (fun hs => b_f ?_)))
  · have ea : rA B s = s + 4 + 1 := by unfold rA; rw [if_pos hs]; omega
    rw [ea] at hW hO
    rw [if_pos hs] at hO
    refine c_byteAt hG hb ht (by omega) (by omega) ⟨⟨by omega, by omega⟩, fun D16 e16 => ?_⟩
    have f16 : frL r0 c D D16 := frL.up (by omega) (by omega) e16
    have t16 := f16.tp hl ht
    refine c_byteAt hG hb t16 (by omega) (by omega) (br_eq (fun u => c_byteAt hG hb t16 (by omega) (by omega) (c_isSide hG (rb _ (by omega)) (fun hs2 => b_t (c_byteAt hG hb t16 (by omega) (by omega) ⟨⟨by omega, by omega⟩, fun D25 e25 => ?_⟩)) (fun hs2 => b_f (rI ?_)))) (fun u => rI (hW u D16 f16)))
    · have f25 : frL r0 c D D25 := f16.trans (frL.up (by omega) (by omega) e25)
      rw [if_pos hs2, if_pos hs2] at hO
      refine rI ?_
      rw [show s + 4 + 1 + 1 + 1 = s + 4 + 1 + 2 by omega]
      refine hO u D25 f25 ?_ ?_ ?_ ?_
      · rw [e25, up2_ne (by omega), e16, up2_ne (by omega)]
      · rw [e25, up2_ne (by omega), e16, up2_ne (by omega)]
      · rw [e25, up2_ne (by omega), e16, up2_same]
      · rw [e25, up2_same]
    · rw [if_neg (by omega), if_neg (by omega)] at hO
      refine hO u D16 f16 ?_ ?_ ?_ ?_
      · rw [e16, up2_ne (by omega)]
      · rw [e16, up2_ne (by omega)]
      · rw [e16, up2_same]
      · rw [e16, up2_ne (by omega)]; exact hr0
  · have ea : rA B s = s + 4 := by unfold rA; rw [if_neg (by omega)]
    rw [ea] at hW hO
    rw [if_neg (show ¬ sdv (B (s + 4)) ≠ 0 by omega)] at hO
    refine c_byteAt hG hb ht (by omega) (by omega) (br_eq (fun u => c_byteAt hG hb ht (by omega) (by omega) (c_isSide hG (rb _ (by omega)) (fun hs2 => b_t (c_byteAt hG hb ht (by omega) (by omega) ⟨⟨by omega, by omega⟩, fun D25 e25 => ?_⟩)) (fun hs2 => b_f (rI ?_)))) (fun u => rI (hW u D frL.rfl)))
    · have f25 : frL r0 c D D25 := frL.up (by omega) (by omega) e25
      rw [if_pos hs2, if_pos hs2] at hO
      refine rI ?_
      rw [show s + 4 + 1 + 1 = s + 4 + 2 by omega]
      refine hO u D25 f25 ?_ ?_ ?_ ?_
      · rw [e25, up2_ne (by omega)]
      · rw [e25, up2_ne (by omega)]
      · rw [e25, up2_ne (by omega)]; exact hl0
      · rw [e25, up2_same]
    · rw [if_neg (by omega), if_neg (by omega)] at hO
      exact hO u D frL.rfl rfl rfl hl0 hr0
theorem c_readChange (hG : Sh G) (hl : isLw r0) (hc : 0 ≤ c ∧ c < 6) (hb : byt sz B) (ht : tpC D sz B) (s0 : 0 ≤ s) (s1 : s < 900)
    (hW : rW B s = 1 → ∀ D', frL r0 c D D' → P (-1 - rP B s) D')
    (hO : rW B s = 0 → sgv (B s) ≠ 0 → bcB (B (s + 2)) → ∀ D', frL r0 c D D' → D' (r0 + 1) c = B s → D' (r0 + 2) c = B (s + 2) → D' (r0 + 3) c = lB B s → D' (r0 + 4) c = rB B s → P (rP B s) D') :
    Call E (d + 4) 0 0 mX4_readChange [vR r0, vR 3, vI sz, vI s, vI c] G D (retI G P) := by
  have lb := hl.b
  have rb : ∀ i, 0 ≤ i → rg (B i) := fun i i0 => by have := hb.rg i0; unfold rg; omega
  have rb' : ∀ i, 0 ≤ i → -1 ≤ B i ∧ B i < 256 := fun i i0 => hb.rg i0
  have q1 := rb' (s + 1) (by omega)
  have q2 := rb' (s + 2) (by omega)
  have q3 := rb' (s + 3) (by omega)
  unfold rW rP at hW hO
  refine w_X4_readChange hG hl (c_byteAt hG hb ht (by omega) (by omega) ⟨hc, fun D3 e3 => ⟨hc, ?_⟩⟩)
  have f3 : frL r0 c D D3 := frL.up (j := 1) (by omega) (by omega) e3
  have v3 : D3 (r0 + 1) c = B s := by rw [e3, up2_same]
  have t3 := f3.tp hl ht
  rw [v3]
  refine c_isSign hG (rb _ s0) (fun g1 => n_t ?_) (fun g1 => n_f (rI ?_))
  · rw [if_neg g1, if_neg g1] at hW hO
    refine c_byteAt hG hb t3 (by omega) (by omega) (br_eq (fun g2 => ?_) (fun g2 => rI ?_))
    · rw [if_neg (show ¬ B (s + 1) ≠ 62 by omega), if_neg (show ¬ B (s + 1) ≠ 62 by omega)] at hW hO
      refine c_byteAt hG hb t3 (by omega) (by omega) ⟨hc, fun D10 e10 => ⟨hc, ?_⟩⟩
      have f10 : frL r0 c D D10 := f3.trans (frL.up (j := 2) (by omega) (by omega) e10)
      have t10 := f10.tp hl ht
      have v10 : D10 (r0 + 2) c = B (s + 2) := by rw [e10, up2_same]
      have w10 : D10 (r0 + 1) c = B s := by rw [e10, up2_ne (by omega)]; exact v3
      rw [v10]
      -- the rest, once the third byte is as it must be
      have rest : bcB (B (s + 2)) → (0 ≤ c ∧ c < 6) ∧ (∀ D13 : mmD, D13 = up2 D10 (r0 + 3) c 0 → (0 ≤ c ∧ c < 6) ∧ (∀ D14 : mmD, D14 = up2 D13 (r0 + 4) c 0 → Call E (d + 3) 0 0 mX4_byteAt [vR 3, vI sz, vI (s + 3)] G D14 (retI G (fun z16 D15 => (iv z16 = iv 47 → Call E (d + 3) 0 0 mX4_readSides [vR r0, vR 3, vI sz, vI (s + 4), vI c] G D15 (retI G (fun z18 D17 => retI G P (some (vI z18)) G D17))) ∧ (¬ iv z16 = iv 47 → retI G P (some (vI (s + 3))) G D15))))) := by
        intro g3
        rw [if_neg (show ¬ ¬ bcB (B (s + 2)) from fun q => q g3), if_neg (show ¬ ¬ bcB (B (s + 2)) from fun q => q g3)] at hW hO
        refine ⟨hc, fun D13 e13 => ⟨hc, fun D14 e14 => ?_⟩⟩
        have f14 : frL r0 c D D14 := (f10.trans (frL.up (j := 3) (by omega) (by omega) e13)).trans (frL.up (j := 4) (by omega) (by omega) e14)
        have t14 := f14.tp hl ht
        have x1 : D14 (r0 + 1) c = B s := by rw [e14, up2_ne (by omega), e13, up2_ne (by omega)]; exact w10
        have x2 : D14 (r0 + 2) c = B (s + 2) := by rw [e14, up2_ne (by omega), e13, up2_ne (by omega)]; exact v10
        have x3 : D14 (r0 + 3) c = 0 := by rw [e14, up2_ne (by omega), e13, up2_same]
        have x4 : D14 (r0 + 4) c = 0 := by rw [e14, up2_same]
        refine c_byteAt hG hb t14 (by omega) (by omega) (br_eq (fun g4 => ?_) (fun g4 => rI ?_))
        · rw [if_neg (show ¬ B (s + 3) ≠ 47 by omega), if_neg (show ¬ B (s + 3) ≠ 47 by omega)] at hW hO
          refine c_readSides hG hl hc hb t14 s0 s1 x3 x4 (fun u D' f' => rI ?_) (fun u D' f' y1 y2 y3 y4 => rI ?_)
          · rw [if_pos u, if_pos u] at hW
            exact hW rfl D' (f14.trans f')
          · rw [if_neg (show ¬ B (rA B s) ≠ 95 from fun q => q u), if_neg (show ¬ B (rA B s) ≠ 95 from fun q => q u)] at hO
            refine hO rfl g1 g3 D' (f14.trans f') (y1.trans x1) (y2.trans x2) ?_ ?_
            · rw [y3]; unfold lB
              by_cases h : sdv (B (s + 4)) ≠ 0
              · rw [if_pos h, if_pos ⟨g4, h⟩]
              · rw [if_neg h, if_neg (fun q => h q.2)]
            · rw [y4]; unfold rB
              by_cases h : sdv (B (rA B s + 1)) ≠ 0
              · rw [if_pos h, if_pos ⟨g4, h⟩]
              · rw [if_neg h, if_neg (fun q => h q.2)]
        · rw [if_pos g4, if_pos g4] at hO
          refine hO rfl g1 g3 D14 f14 x1 x2 ?_ ?_
          · rw [x3]; unfold lB; rw [if_neg (fun q => g4 q.1)]
          · rw [x4]; unfold rB; rw [if_neg (fun q => g4 q.1)]
      refine c_isLetterByte hG (rb _ (by omega)) (fun a b => n_t (rest (Or.inl ⟨a, b⟩))) (fun a => n_f ⟨hc, ?_⟩)
      rw [v10]
      refine br_eq (fun e => rest (Or.inr e)) (fun e => rI ?_)
      rw [if_pos (show ¬ bcB (B (s + 2)) from fun q => Or.elim q a e), if_pos (show ¬ bcB (B (s + 2)) from fun q => Or.elim q a e)] at hW
      exact hW rfl D10 f10
    · rw [if_pos g2, if_pos g2] at hW
      exact hW rfl D3 f3
  · rw [if_pos g1, if_pos g1] at hW
    exact hW rfl D3 f3
/-- as far as CHANGE c the text goes on -/
def okc (B : Int → Int) (sz : Int) (c : Nat) : Prop := ∀ c' : Nat, c' < c → rW B (stp B c') = 0 ∧ rP B (stp B c') ≠ sz ∧ B (rP B (stp B c')) = 44
/-- CHANGE c stands in the class's rows -/
def chC (D : mmD) (r0 : Int) (B : Int → Int) (c : Nat) : Prop := D (r0 + 1) c = B (stp B c) ∧ D (r0 + 2) c = B (stp B c + 2) ∧ D (r0 + 3) c = lB B (stp B c) ∧ D (r0 + 4) c = rB B (stp B c) ∧ sgv (B (stp B c)) ≠ 0 ∧ bcB (B (stp B c + 2))
theorem c_read (hG : Sh G) (hl : isLw r0) (hb : byt sz B) (ht : tpC D sz B)
    (hF : ∀ (D' : mmD) (c : Nat), c < 6 → okc B sz c → (rW B (stp B c) = 1 ∨ (rW B (stp B c) = 0 ∧ rP B (stp B c) ≠ sz ∧ (B (rP B (stp B c)) ≠ 44 ∨ c = 5))) → (∀ a k, ¬ (r0 ≤ a ∧ a ≤ r0 + 4) → D' a k = D a k) → P (rP B (stp B c)) D')
    (hO : ∀ (D' : mmD) (c : Nat), c < 6 → okc B sz c → rW B (stp B c) = 0 → rP B (stp B c) = sz → (∀ a k, ¬ (r0 ≤ a ∧ a ≤ r0 + 4) → D' a k = D a k) → D' r0 5 = c + 1 → (∀ c' : Nat, c' ≤ c → chC D' r0 B c') → P (-1) D') :
    Call E (d + 5) 0 0 mX4_read [vR r0, vR 3, vI sz] G D (retI G P) := by
  have lb := hl.b
  have lp : ∀ (n : Nat) (D' : mmD) (c : Nat), 6 - c = n → c < 6 → okc B sz c → (∀ a k, ¬ (r0 ≤ a ∧ a ≤ r0 + 4) → D' a k = D a k) → (∀ c' : Nat, c' < c → chC D' r0 B c') → Go E (d + 5) 0 0 mX4_read 5 [some (vR r0), some (vR 3), some (vI sz), some (vI (stp B c)), some (vI (c : Int)), none] [] G D' (retI G P) := by
    intro n
    induction n with
    | zero => intro D' c hn hc; omega
    | succ n ih =>
      intro D' c hn hc ok fr ch
      have sr := stp_rg B c
      have pr := rP_rg B (stp B c)
      have bs := hb.1
      refine w_X4_read_5 hG (br_le (fun g => by omega) (fun _ => ⟨hl, fun D2 e2 => ?_⟩))
      have k2 : ∀ a k, ¬ (a = r0 ∧ k = 5) → D2 a k = D' a k := fun a k q => by rw [e2, up2_ne q]
      have t2 : tpC D2 sz B := fun i i0 i1 => by rw [k2 3 i (by omega), fr 3 i (by omega)]; exact ht i i0 i1
      refine c_readChange hG hl ⟨by omega, by omega⟩ hb t2 sr.1 (by omega) (fun w D3 f3 => br_le (fun g => by omega) (fun g => ?_)) (fun w g1 g3 D3 f3 y1 y2 y3 y4 => br_le (fun _ => ?_) (fun g => by omega))
      · rw [show -1 - (-1 - rP B (stp B c)) = rP B (stp B c) by omega]
        refine rI (hF D3 c hc ok (Or.inl w) (fun a k q => ?_))
        rw [f3 a k (by omega), k2 a k (by omega), fr a k q]
      · have fr3 : ∀ a k, ¬ (r0 ≤ a ∧ a ≤ r0 + 4) → D3 a k = D a k := fun a k q => by rw [f3 a k (by omega), k2 a k (by omega), fr a k q]
        have t3 : tpC D3 sz B := fun i i0 i1 => by rw [fr3 3 i (by omega)]; exact ht i i0 i1
        have ch3 : ∀ c' : Nat, c' ≤ c → chC D3 r0 B c' := fun c' hc' => by
          by_cases e : c' = c
          · subst e; exact ⟨y1, y2, y3, y4, g1, g3⟩
          · have := ch c' (by omega)
            unfold chC at this ⊢
            rw [f3 (r0 + 1) c' (by omega), f3 (r0 + 2) c' (by omega), f3 (r0 + 3) c' (by omega), f3 (r0 + 4) c' (by omega), k2 (r0 + 1) c' (by omega), k2 (r0 + 2) c' (by omega), k2 (r0 + 3) c' (by omega), k2 (r0 + 4) c' (by omega)]
            exact this
        have rb := hb.rg (i := rP B (stp B c)) (by omega)
        refine br_ne (fun ne => c_byteAt hG hb t3 (by omega) (by omega) (br_eq (fun cm => ?_) (fun cm => rI (hF D3 c hc ok (Or.inr ⟨w, ne, Or.inl cm⟩) fr3)))) (fun e => rI (hO D3 c hc ok w e fr3 ?_ ch3))
        · by_cases c5 : c = 5
          · subst c5
            refine w_X4_read_5 hG (br_le (fun _ => ?_) (fun g => by omega))
            rw [show rP B (stp B 5) + 1 - 1 = rP B (stp B 5) by omega]
            exact rI (hF D3 5 hc ok (Or.inr ⟨w, ne, Or.inr rfl⟩) fr3)
          · exact ih D3 (c + 1) (by omega) (by omega) (fun c' hc' => by
              by_cases e : c' = c
              · subst e; exact ⟨w, ne, cm⟩
              · exact ok c' (by omega)) fr3 (fun c' hc' => ch3 c' (by omega))
        · rw [f3 r0 5 (by omega), e2, up2_same]
  exact w_X4_read hG hl (lp 6 D 0 rfl (by omega) (fun _ h => by omega) (fun _ _ _ => rfl) (fun _ h => by omega))
end LawC
