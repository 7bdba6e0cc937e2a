section LawE
variable {E : mmE} {d : Nat} {G : mmG} {D0 D : mmD} {sz l : Int} {B : Int → Int}
def chR (D : mmD) (l : Int) (B : Int → Int) (c : Nat) : Prop := D 224 (6 * l + c) = sgv (B (stp B c)) ∧ D 225 (6 * l + c) = bcV (B (stp B c + 2)) ∧ D 226 (6 * l + c) = lV B (stp B c) ∧ D 227 (6 * l + c) = rV' B (stp B c)
def frA (l : Int) (D D' : mmD) : Prop := ∀ a k, ¬ (a = 214 ∧ (k = 7 ∨ k = 30 ∨ k = 31 ∨ k = 32)) → ¬ (224 ≤ a ∧ a ≤ 227 ∧ 6 * l ≤ k ∧ k < 6 * l + 6) → D' a k = D a k
theorem l_rlaw {Q : mmQ} {c : Nat} (hG : Sh G) (hb : byt sz B) (hl : 0 ≤ l ∧ l < 12) (hc : c < 6) (ok : okc B sz c) (hl0 : D0 214 3 = l)
    (K : ∀ D', frA l D0 D' → D' 214 7 = D 214 7 → D' 214 31 = sz → D' 214 30 = rP B (stp B c) → D' 214 32 = rW B (stp B c) → (rW B (stp B c) = 0 → ∀ c' : Nat, c' ≤ c → chR D' l B c') → Go E (d + 4) 0 0 mX12_law 51 [some (vR 214), some (vI ((c : Int) + 1))] [] G D' Q) :
    ∀ (n : Nat) (D' : mmD) (c' : Nat), c - c' = n → c' ≤ c → frA l D0 D' → D' 214 7 = D 214 7 → tpR D' sz B → D' 214 31 = sz → D' 214 30 = rP B (stp B c') → D' 214 32 = rW B (stp B c') → (rW B (stp B c') = 0 → ∀ c2 : Nat, c2 ≤ c' → chR D' l B c2) → Go E (d + 4) 0 0 mX12_law 51 [some (vR 214), some (vI ((c' : Int) + 1))] [] G D' Q := by
  intro n
  induction n with
  | zero =>
    intro D' c' hn hc' fr s7 tp s31 s30 s32 ch
    have e : c' = c := by omega
    subst e
    exact K D' fr s7 s31 s30 s32 ch
  | succ n ih =>
    intro D' c' hn hc' fr s7 tp s31 s30 s32 ch
    obtain ⟨o1, o2, o3⟩ := ok c' (by omega)
    have pr := rP_rg B (stp B c')
    have sr := stp_rg B c'
    have rb := hb.rg (i := rP B (stp B c')) (by omega)
    refine w_X12_law_51 hG ?_
    rw [s32, o1]
    refine n_f (br_le (fun g => by omega) (fun _ => c_here hG hb tp s31 s30 (by omega) (by omega) (br_ne (fun g => absurd o3 g) (fun _ D3 e3 => ?_))))
    have k3 : ∀ a k, ¬ (a = 214 ∧ k = 30) → D3 a k = D' a k := fun a k q => by rw [e3, up2_ne q]
    have l3 : D3 214 3 = l := by rw [k3 _ _ (by omega), fr _ _ (by omega) (by omega)]; exact hl0
    have p3 : D3 214 30 = stp B (c' + 1) := by rw [e3, up2_same, s30]; rfl
    have z3 : D3 214 31 = sz := by rw [k3 _ _ (by omega)]; exact s31
    have t3 : tpR D3 sz B := fun i i0 i1 => by rw [k3 _ _ (by omega)]; exact tp i i0 i1
    have sr2 := stp_rg B (c' + 1)
    rw [l3]
    have fin : ∀ D4 : mmD, frR (6 * l + ((c' : Int) + 1)) D3 D4 → D4 214 30 = rP B (stp B (c' + 1)) → D4 214 32 = rW B (stp B (c' + 1)) → (rW B (stp B (c' + 1)) = 0 → chR D4 l B (c' + 1)) → Go E (d + 4) 0 0 mX12_law 51 [some (vR 214), some (vI ((c' : Int) + 1 + 1))] [] G D4 Q := by
      intro D4 f4 e4 w4 c4
      refine ih D4 (c' + 1) (by omega) (by omega) (fun a k q1 q2 => ?_) ?_ (fun i i0 i1 => ?_) ?_ e4 w4 (fun hw c2 hc2 => ?_)
      · rw [f4 a k (by omega) (by omega), k3 a k (by omega), fr a k q1 q2]
      · rw [f4 _ _ (by omega) (by omega), k3 _ _ (by omega)]; exact s7
      · rw [f4 _ _ (by omega) (by omega)]; exact t3 i i0 i1
      · rw [f4 _ _ (by omega) (by omega)]; exact z3
      · by_cases e : c2 = c' + 1
        · subst e; exact c4 hw
        · have := ch o1 c2 (by omega)
          unfold chR at this ⊢
          rw [f4 224 _ (by omega) (by omega), f4 225 _ (by omega) (by omega), f4 226 _ (by omega) (by omega), f4 227 _ (by omega) (by omega), k3 224 _ (by omega), k3 225 _ (by omega), k3 226 _ (by omega), k3 227 _ (by omega)]
          exact this
    exact c_reads hG hb t3 z3 p3 sr2.1 (by omega) (by omega) (fun hw D4 f4 e4 w4 => fin D4 f4 e4 (by rw [w4, hw]) (fun q => by omega)) (fun hw D4 f4 e4 w4 y1 y2 y3 y4 => fin D4 f4 e4 (by rw [w4, hw]) (fun _ => ⟨y1, y2, y3, y4⟩))
theorem l_rlaw0 {Q : mmQ} {c : Nat} (hG : Sh G) (hb : byt sz B) (hl : 0 ≤ l ∧ l < 12) (hc : c < 6) (ok : okc B sz c) (hl0 : D 214 3 = l) (hs : D 214 7 = sz) (tp : tpR D sz B)
    (K : ∀ D', frA l D D' → D' 214 7 = 0 → D' 214 31 = sz → D' 214 30 = rP B (stp B c) → D' 214 32 = rW B (stp B c) → (rW B (stp B c) = 0 → ∀ c' : Nat, c' ≤ c → chR D' l B c') → Go E (d + 4) 0 0 mX12_law 51 [some (vR 214), some (vI ((c : Int) + 1))] [] G D' Q) :
    Call E (d + 4) 0 0 mX12_law [vR 214] G D Q := by
  refine w_X12_law hG ?_
  rw [hl0]
  refine br_ne (fun _ D1 e1 D2 e2 D3 e3 D4 e4 => ?_) (fun g => by omega)
  have k4 : ∀ a k, ¬ (a = 214 ∧ (k = 7 ∨ k = 30 ∨ k = 31 ∨ k = 32)) → D4 a k = D a k := fun a k q => by rw [e4, up2_ne (by omega), e3, up2_ne (by omega), e2, up2_ne (by omega), e1, up2_ne (by omega)]
  have l4 : D4 214 3 = l := by rw [k4 _ _ (by omega)]; exact hl0
  have z4 : D4 214 31 = sz := by rw [e4, up2_ne (by omega), e3, up2_ne (by omega), e2, up2_ne (by omega), e1, up2_same]; exact hs
  have s4 : D4 214 7 = 0 := by rw [e4, up2_ne (by omega), e3, up2_ne (by omega), e2, up2_same]
  have p4 : D4 214 30 = stp B 0 := by rw [e4, up2_ne (by omega), e3, up2_same]; rfl
  have t4 : tpR D4 sz B := fun i i0 i1 => by rw [k4 _ _ (by omega)]; exact tp i i0 i1
  rw [l4]
  have fin : ∀ D5 : mmD, frR (6 * l) D4 D5 → D5 214 30 = rP B (stp B 0) → D5 214 32 = rW B (stp B 0) → (rW B (stp B 0) = 0 → chR D5 l B 0) → Go E (d + 4) 0 0 mX12_law 51 [some (vR 214), some (vI (0 + 1))] [] G D5 Q := by
    intro D5 f5 e5 w5 c5
    refine l_rlaw (D := D5) (D0 := D) hG hb hl hc ok hl0 (fun D' fr s7 => K D' fr ?_) c D5 0 (by omega) (by omega) (fun a k q1 q2 => ?_) rfl (fun i i0 i1 => ?_) ?_ e5 w5 (fun hw c2 hc2 => ?_)
    · rw [s7, f5 _ _ (by omega) (by omega)]; exact s4
    · rw [f5 a k (by omega) (by omega), k4 a k (by omega)]
    · rw [f5 _ _ (by omega) (by omega)]; exact t4 i i0 i1
    · rw [f5 _ _ (by omega) (by omega)]; exact z4
    · have e : c2 = 0 := by omega
      subst e; exact c5 hw
  exact c_reads hG hb t4 z4 p4 (by simp [stp]) (by simp [stp]) (by omega) (fun hw D5 f5 e5 w5 => fin D5 f5 e5 (by rw [w5, hw]) (fun q => by omega)) (fun hw D5 f5 e5 w5 y1 y2 y3 y4 => fin D5 f5 e5 (by rw [w5, hw]) (fun _ => by
    refine ⟨?_, ?_, ?_, ?_⟩
    · rw [show 6 * l + ((0 : Nat) : Int) = 6 * l by omega]; exact y1
    · rw [show 6 * l + ((0 : Nat) : Int) = 6 * l by omega]; exact y2
    · rw [show 6 * l + ((0 : Nat) : Int) = 6 * l by omega]; exact y3
    · rw [show 6 * l + ((0 : Nat) : Int) = 6 * l by omega]; exact y4))
theorem p_law (hI : Inv G D0) : Pair E (d + 6) mX11_law mX12_law [] G D0 := by
  obtain ⟨hG, hs, q3, q4, q5, q6, q7, q8, q9⟩ := id hI
  have s3 := hs.2.2.1
  have s7 := hs.2.2.2.2.2.2.1
  refine w_X11_law hG ?_
  rw [s3.1]
  refine br_lt (fun hlt D1 e1 => ?_) (fun g => rI (w_X12_law hG (br_ne (fun q => by omega) (fun _ => rI ⟨rfl, hI⟩))))
  have k1 : ∀ a k, ¬ (a = 2 ∧ k = 1) → D1 a k = D0 a k := fun a k q => by rw [e1, up2_ne q]
  have l1 : D1 2 6 = D0 214 3 := by rw [k1 _ _ (by omega)]; exact s3.1
  rw [l1, s7.1]
  generalize hl : D0 214 3 = l at *
  let B : Int → Int := fun i => if 0 ≤ i ∧ i < D0 214 7 then D0 215 i else -1
  have hb : byt (D0 214 7) B := by
    refine ⟨⟨by omega, by omega⟩, fun i i0 i1 => ?_, fun i hi => ?_⟩
    · show 0 ≤ (if 0 ≤ i ∧ i < D0 214 7 then D0 215 i else -1) ∧ (if 0 ≤ i ∧ i < D0 214 7 then D0 215 i else -1) < 256
      rw [if_pos ⟨i0, i1⟩]
      exact (q3 i i0 (by omega)).2
    · show (if 0 ≤ i ∧ i < D0 214 7 then D0 215 i else -1) = -1
      rw [if_neg (by omega)]
  have bR : ∀ i, 0 ≤ i → i < D0 214 7 → D0 215 i = B i := fun i i0 i1 => by
    show _ = (if 0 ≤ i ∧ i < D0 214 7 then D0 215 i else -1)
    rw [if_pos ⟨i0, i1⟩]
  have t1 : tpC D1 (D0 214 7) B := fun i i0 i1 => by rw [k1 _ _ (by omega), (q3 i i0 (by omega)).1]; exact bR i i0 i1
  have isl : isLw (142 + 6 * l) := by unfold isLw; omega
  -- what stays, whatever came of the text
  have stay : ∀ D9 : mmD, (∀ a k, ¬ (a = 2 ∧ (k = 1 ∨ k = 6)) → ¬ (142 + 6 * l ≤ a ∧ a ≤ 142 + 6 * l + 4) → ¬ (a = 214 ∧ (k = 3 ∨ k = 7 ∨ k = 30 ∨ k = 31 ∨ k = 32)) → ¬ (224 ≤ a ∧ a ≤ 227 ∧ 6 * l ≤ k ∧ k < 6 * l + 6) → ¬ (a = 223 ∧ k = l) → D9 a k = D0 a k) → D9 2 1 = 0 → D9 214 7 = 0 → D9 2 6 = D9 214 3 → 0 ≤ D9 214 3 → D9 214 3 ≤ 12 → (∀ j, 0 ≤ j → j < D9 214 3 → j < l ∨ i_l1 D9 j) → Inv G D9 := by
    intro D9 kk a1 a2 a3 a4 a5 a6
    refine ⟨hG, ?_, q3.keep (fun k => kk _ _ (by omega) (by omega) (by omega) (by omega) (by omega)) (fun k => kk _ _ (by omega) (by omega) (by omega) (by omega) (by omega)), q4.keep (fun c k _ _ => kk _ _ (by omega) (by omega) (by omega) (by omega) (by omega)) (fun c k _ _ => kk _ _ (by omega) (by omega) (by omega) (by omega) (by omega)), q5.keep (kk _ _ (by omega) (by omega) (by omega) (by omega) (by omega)) (fun k => kk _ _ (by omega) (by omega) (by omega) (by omega) (by omega)) (fun k => kk _ _ (by omega) (by omega) (by omega) (by omega) (by omega)) (fun k => kk _ _ (by omega) (by omega) (by omega) (by omega) (by omega)), ?_, q7.keep (kk _ _ (by omega) (by omega) (by omega) (by omega) (by omega)) (fun c k _ _ => kk _ _ (by omega) (by omega) (by omega) (by omega) (by omega)) (fun c k _ _ _ => kk _ _ (by omega) (by omega) (by omega) (by omega) (by omega)), q8.keep (kk _ _ (by omega) (by omega) (by omega) (by omega) (by omega)) (fun k => kk _ _ (by omega) (by omega) (by omega) (by omega) (by omega)) (fun k => kk _ _ (by omega) (by omega) (by omega) (by omega) (by omega)) (fun k => kk _ _ (by omega) (by omega) (by omega) (by omega) (by omega)), q9.keep q7 (kk _ _ (by omega) (by omega) (by omega) (by omega) (by omega)) (kk _ _ (by omega) (by omega) (by omega) (by omega) (by omega)) (fun k => kk _ _ (by omega) (by omega) (by omega) (by omega) (by omega)) (fun c k _ => kk _ _ (by omega) (by omega) (by omega) (by omega) (by omega))⟩
    · unfold i_sc at hs ⊢
      rw [a1, a2, a3, kk 2 3 (by omega) (by omega) (by omega) (by omega) (by omega), kk 2 11 (by omega) (by omega) (by omega) (by omega) (by omega), kk 2 8 (by omega) (by omega) (by omega) (by omega) (by omega), kk 2 10 (by omega) (by omega) (by omega) (by omega) (by omega), kk 2 15 (by omega) (by omega) (by omega) (by omega) (by omega), kk 2 13 (by omega) (by omega) (by omega) (by omega) (by omega), kk 2 12 (by omega) (by omega) (by omega) (by omega) (by omega), kk 214 1 (by omega) (by omega) (by omega) (by omega) (by omega), kk 214 2 (by omega) (by omega) (by omega) (by omega) (by omega), kk 214 4 (by omega) (by omega) (by omega) (by omega) (by omega), kk 214 5 (by omega) (by omega) (by omega) (by omega) (by omega), kk 214 6 (by omega) (by omega) (by omega) (by omega) (by omega), kk 214 8 (by omega) (by omega) (by omega) (by omega) (by omega), kk 214 9 (by omega) (by omega) (by omega) (by omega) (by omega)]
      omega
    · intro j j0 j1
      rcases a6 j j0 j1 with g | g
      · exact (q6 j j0 (by omega)).keep (kk _ _ (by omega) (by omega) (by omega) (by omega) (by omega)) (fun k => kk _ _ (by omega) (by omega) (by omega) (by omega) (by omega)) (fun k => kk _ _ (by omega) (by omega) (by omega) (by omega) (by omega)) (fun k => kk _ _ (by omega) (by omega) (by omega) (by omega) (by omega)) (fun k => kk _ _ (by omega) (by omega) (by omega) (by omega) (by omega)) (kk _ _ (by omega) (by omega) (by omega) (by omega) (by omega)) (fun c c0 c1 => ⟨kk _ _ (by omega) (by omega) (by omega) (by omega) (by omega), kk _ _ (by omega) (by omega) (by omega) (by omega) (by omega), kk _ _ (by omega) (by omega) (by omega) (by omega) (by omega), kk _ _ (by omega) (by omega) (by omega) (by omega) (by omega)⟩)
      · exact g
  refine ⟨⟨by omega, by omega⟩, c_read hG isl hb t1 (fun D4 c hc ok out fr => ?_) (fun D4 c hc ok w e fr n5 ch => ?_)⟩
  · have pr := rP_rg B (stp B c)
    have sr := stp_rg B c
    refine br_lt (fun g => by omega) (fun _ => rI ?_)
    have k4 : ∀ a k, ¬ (a = 2 ∧ k = 1) → ¬ (142 + 6 * l ≤ a ∧ a ≤ 142 + 6 * l + 4) → D4 a k = D0 a k := fun a k p q => by rw [fr a k q, k1 a k p]
    refine l_rlaw0 (l := l) hG hb ⟨by omega, by omega⟩ hc ok (by rw [k4 _ _ (by omega) (by omega)]; exact hl) (k4 _ _ (by omega) (by omega)) (fun i i0 i1 => by rw [k4 _ _ (by omega) (by omega)]; exact bR i i0 i1) (fun D9 f9 z7 z31 z30 z32 _ => ?_)
    have fin : retI G (fun y D2 => iv (-10 - rP B (stp B c)) = iv y ∧ Inv G D2) (some (vI (-10 - D9 214 30))) G D9 := by
      rw [z30]
      refine rI ⟨rfl, stay D9 (fun a k p1 p2 p3 p4 p5 => ?_) ?_ z7 ?_ ?_ ?_ (fun j j0 j1 => ?_)⟩
      · rw [f9 a k (by omega) (by omega), k4 a k (by omega) (by omega)]
      · rw [f9 _ _ (by omega) (by omega), fr _ _ (by omega), e1, up2_same]
      · rw [f9 2 6 (by omega) (by omega), f9 214 3 (by omega) (by omega), k4 2 6 (by omega) (by omega), k4 214 3 (by omega) (by omega), hl]; exact s3.1
      · rw [f9 214 3 (by omega) (by omega), k4 214 3 (by omega) (by omega)]; omega
      · rw [f9 214 3 (by omega) (by omega), k4 214 3 (by omega) (by omega)]; omega
      · rw [f9 214 3 (by omega) (by omega), k4 214 3 (by omega) (by omega), hl] at j1
        exact Or.inl j1
    have rb := hb.rg (i := rP B (stp B c)) (by omega)
    have t9 : tpR D9 (D0 214 7) B := fun i i0 i1 => by rw [f9 _ _ (by omega) (by omega), k4 _ _ (by omega) (by omega)]; exact bR i i0 i1
    have g102 : Go E (d + 6) 0 0 mX12_law 102 [some (vR 214), some (vI ((c : Int) + 1))] [] G D9 (retI G (fun y D2 => iv (-10 - rP B (stp B c)) = iv y ∧ Inv G D2)) := by
      refine w_X12_law_102 hG ?_
      rcases out with w | ⟨w, ne, _⟩
      · rw [z32, w]
        exact n_t fin
      · rw [z32, w, z31]
        refine n_f (br_eq (fun q => ?_) (fun _ => fin))
        exact absurd (z30.symm.trans q) ne
    refine w_X12_law_51 hG ?_
    rcases out with w | ⟨w, ne, cm⟩
    · rw [z32, w]
      exact n_t g102
    · rw [z32, w]
      exact n_f (br_le (fun _ => g102) (fun g => c_here hG hb t9 z31 z30 (by omega) (by omega) (br_ne (fun _ => g102) (fun q => by omega))))
  · refine br_lt (fun _ D6 e6 => rI ?_) (fun g => by omega)
    have k6 : ∀ a k, ¬ (a = 2 ∧ (k = 1 ∨ k = 6)) → ¬ (142 + 6 * l ≤ a ∧ a ≤ 142 + 6 * l + 4) → D6 a k = D0 a k := fun a k p q => by rw [e6, up2_ne (by omega), fr a k q, k1 a k (by omega)]
    have l6 : D6 2 6 = l + 1 := by rw [e6, up2_same, fr _ _ (by omega), l1]
    rw [l6]
    have pr := rP_rg B (stp B c)
    have sr := stp_rg B c
    refine l_rlaw0 (l := l) hG hb ⟨by omega, by omega⟩ hc ok (by rw [k6 _ _ (by omega) (by omega)]; exact hl) (k6 _ _ (by omega) (by omega)) (fun i i0 i1 => by rw [k6 _ _ (by omega) (by omega)]; exact bR i i0 i1) (fun D9 f9 z7 z31 z30 z32 cr => ?_)
    have t9 : tpR D9 (D0 214 7) B := fun i i0 i1 => by rw [f9 _ _ (by omega) (by omega), k6 _ _ (by omega) (by omega)]; exact bR i i0 i1
    have g102 : Go E (d + 6) 0 0 mX12_law 102 [some (vR 214), some (vI ((c : Int) + 1))] [] G D9 (retI G (fun y D2 => iv (l + 1 - 1) = iv y ∧ Inv G D2)) := by
      have l9 : D9 214 3 = l := by rw [f9 _ _ (by omega) (by omega), k6 _ _ (by omega) (by omega)]; exact hl
      refine w_X12_law_102 hG ?_
      rw [z32, w, z30, z31, e, l9]
      refine n_f (br_eq (fun _ => ⟨⟨by omega, by omega⟩, fun E1 g1 E2 g2 => ?_⟩) (fun q => absurd rfl q))
      have m1 : E1 214 3 = l := by rw [g1, up2_ne (by omega)]; exact l9
      have m2 : E2 214 3 = l + 1 := by rw [g2, up2_same, m1]
      rw [m2]
      have kE : ∀ a k, ¬ (a = 214 ∧ k = 3) → ¬ (a = 223 ∧ k = l) → E2 a k = D9 a k := fun a k p q => by rw [g2, up2_ne p, g1, up2_ne q]
      refine rI ⟨rfl, stay E2 (fun a k p1 p2 p3 p4 p5 => ?_) ?_ ?_ ?_ (by omega) (by omega) (fun j j0 j1 => ?_)⟩
      · rw [kE a k (by omega) p5, f9 a k (by omega) (by omega), k6 a k (by omega) (by omega)]
      · rw [kE _ _ (by omega) (by omega), f9 _ _ (by omega) (by omega), e6, up2_ne (by omega), fr _ _ (by omega), e1, up2_same]
      · rw [kE _ _ (by omega) (by omega)]; exact z7
      · rw [m2, kE _ _ (by omega) (by omega), f9 _ _ (by omega) (by omega)]; exact l6
      · by_cases hj : j < l
        · exact Or.inl hj
        · right
          have ej : j = l := by omega
          subst ej
          have x1 : E2 (142 + 6 * j) 5 = c + 1 := by rw [kE _ _ (by omega) (by omega), f9 _ _ (by omega) (by omega), e6, up2_ne (by omega)]; exact n5
          have x2 : E2 223 j = c + 1 := by rw [g2, up2_ne (by omega), g1, up2_same]
          unfold i_l1
          rw [x1, x2]
          refine ⟨⟨rfl, by omega, by omega⟩, fun c2 c20 c21 => ?_⟩
          obtain ⟨y1, y2, y3, y4, y5, y6⟩ := ch c2.toNat (by omega)
          obtain ⟨v1, v2, v3, v4⟩ := cr w c2.toNat (by omega)
          rw [show ((c2.toNat : Nat) : Int) = c2 by omega] at y1 y2 y3 y4 v1 v2 v3 v4
          have kC : ∀ i, 1 ≤ i → i ≤ 4 → E2 (142 + 6 * j + i) c2 = D4 (142 + 6 * j + i) c2 := fun i i1 i2 => by rw [kE _ _ (by omega) (by omega), f9 _ _ (by omega) (by omega), e6, up2_ne (by omega)]
          rw [kC 1 (by omega) (by omega), kC 2 (by omega) (by omega), kC 3 (by omega) (by omega), kC 4 (by omega) (by omega), kE 224 _ (by omega) (by omega), kE 225 _ (by omega) (by omega), kE 226 _ (by omega) (by omega), kE 227 _ (by omega) (by omega), y1, y2, y3, y4, v1, v2, v3, v4]
          exact ⟨sgv_sig y5, bcV_bec y6, lB_sid _ _, rB_sid _ _⟩
    have rb : B (rP B (stp B c)) = -1 := hb.2.2 _ (by omega)
    refine w_X12_law_51 hG ?_
    rw [z32, w]
    exact n_f (br_le (fun _ => g102) (fun g => c_here hG hb t9 z31 z30 (by omega) (by omega) (br_ne (fun _ => g102) (fun q => by omega))))
end LawE
