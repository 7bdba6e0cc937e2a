section StepsR
variable {E : mmE} {d : Nat} {G : mmG} {D0 D : mmD} {P : Int → mmD → Prop} {P0 : mmD → Prop} {T : Nat → Int} {N : Nat} {x m t : Int} {B : List (Nat × Nat)} {Lb : Nat → Int}
/-- the branches as the reference has them -/
def brR (D : mmD) (B : List (Nat × Nat)) : Prop := ∀ b : Nat, b < B.length → D 244 (b : Int) = ((B.getD b (0, 0)).1 : Int) ∧ D 245 (b : Int) = ((B.getD b (0, 0)).2 : Int)
theorem r_trees (hG : Sh G) (hn : D 214 51 = (N : Int)) (n3 : 3 ≤ N) (n6 : N ≤ 6) (h : ∀ v : Int, (N = 3 ∧ v = 1 ∨ N = 4 ∧ v = 3 ∨ N = 5 ∧ v = 15 ∨ N = 6 ∧ v = 105) → P v D) : Call E d 0 0 mX12_trees [vR 214] G D (retI G P) := by
  refine w_X12_trees hG ?_
  rw [hn]
  exact br_ne (fun a => br_ne (fun b => br_ne (fun c => rI (h 105 (by omega))) (fun c => rI (h 15 (by omega)))) (fun b => rI (h 3 (by omega)))) (fun a => rI (h 1 (by omega)))
theorem r_grow1 {Q : mmQ} {dg : Nat → Nat} {r : Nat} {x2 x3 pl : Int} (hG : Sh G) (h51 : D 214 51 = (N : Int)) (r3 : 3 ≤ r) (rN : r < N) (n6 : N ≤ 6) (hb : brR D (pbr dg r)) (h52 : D 214 52 = ((pbr dg r).length : Int)) (h53 : D 214 53 = ((r + 4 : Nat) : Int)) (dl : dg r < 2 * r - 3) (hp : idiv x3 (2 * (r : Int) - 3) = pl) (p1 : 1 ≤ pl) (p2 : pl ≤ 35) (hd : idiv x2 pl = (dg r : Int))
    (K : ∀ D', (∀ c k, ¬ (c = 214 ∧ (k = 52 ∨ k = 53)) → c ≠ 244 → c ≠ 245 → D' c k = D c k) → brR D' (pbr dg (r + 1)) → D' 214 52 = ((pbr dg (r + 1)).length : Int) → D' 214 53 = ((r + 1 + 4 : Nat) : Int) → Go E (d + 1) 0 0 mX12_grows 49 [some (vR 214), none, some (vI (irem x2 pl)), some (vI pl), some (vI ((r + 1 : Nat) : Int)), none, none] [] G D' Q) :
    Go E (d + 1) 0 0 mX12_grows 49 [some (vR 214), none, some (vI x2), some (vI x3), some (vI (r : Int)), none, none] [] G D Q := by
  have lg : (pbr dg r).length = 2 * r - 3 := by
    have := pbr_len (dg := dg) r
    split at this <;> omega
  have lg2 : (pbr dg (r + 1)).length = 2 * r - 1 := by
    have := pbr_len (dg := dg) (r + 1)
    split at this <;> omega
  have eB : pbr dg (r + 1) = (pbr dg r).set (dg r) (((pbr dg r).getD (dg r) (0, 0)).1, r + 4) ++ [(r + 4, ((pbr dg r).getD (dg r) (0, 0)).2), (r + 4, r)] := by
    show (if r < 3 then _ else _) = _
    rw [if_neg (by omega)]
  refine w_X12_grows_49 hG ?_
  rw [h51, h52, h53, hp, hd]
  refine br_le (fun g => by omega) (fun _ => ⟨iv_nz (by omega) (by omega), iv_nz p1 (by omega), iv_nz p1 (by omega), ⟨by omega, by omega⟩, fun D1 e1 => ?_⟩)
  have a52 : D1 214 52 = ((pbr dg r).length : Int) := by rw [e1, up2_ne (by omega)]; exact h52
  rw [a52]
  refine ⟨⟨by omega, by omega⟩, ⟨by omega, by omega⟩, fun D2 e2 => ?_⟩
  have b53 : D2 214 53 = ((r + 4 : Nat) : Int) := by rw [e2, up2_ne (by omega), e1, up2_ne (by omega)]; exact h53
  rw [b53]
  refine ⟨⟨by omega, by omega⟩, fun D3 e3 => ?_⟩
  have c52 : D3 214 52 = ((pbr dg r).length : Int) := by rw [e3, up2_ne (by omega), e2, up2_ne (by omega)]; exact a52
  have c53 : D3 214 53 = ((r + 4 : Nat) : Int) := by rw [e3, up2_ne (by omega)]; exact b53
  rw [c52, c53]
  refine ⟨⟨by omega, by omega⟩, fun D4 e4 => ?_⟩
  have d52 : D4 214 52 = ((pbr dg r).length : Int) := by rw [e4, up2_ne (by omega)]; exact c52
  rw [d52]
  refine ⟨⟨by omega, by omega⟩, fun D5 e5 D6 e6 D7 e7 => ?_⟩
  have f52 : D5 214 52 = ((pbr dg r).length : Int) := by rw [e5, up2_ne (by omega)]; exact d52
  have g53 : D6 214 53 = ((r + 4 : Nat) : Int) := by rw [e6, up2_ne (by omega), e5, up2_ne (by omega), e4, up2_ne (by omega)]; exact c53
  have h0 := hb (dg r) (by omega)
  have k7 : ∀ c k, ¬ (c = 214 ∧ (k = 52 ∨ k = 53)) → D7 c k = D5 c k := fun c k p => by rw [e7, up2_ne (by omega), e6, up2_ne (by omega)]
  have nx := K D7 (fun c k p q u => ?_) (fun b hbl => ?_) ?_ ?_
  · rw [show ((r + 1 : Nat) : Int) = (r : Int) + 1 by omega] at nx
    exact nx
  · rw [k7 c k p, e5, up2_ne (fun v => u v.1), e4, up2_ne (fun v => q v.1), e3, up2_ne (fun v => u v.1), e2, up2_ne (fun v => u v.1), e1, up2_ne (fun v => q v.1)]
  · rw [k7 _ _ (by omega), k7 _ _ (by omega), eB]
    by_cases q1 : b = (pbr dg r).length + 1
    · have eg : ((pbr dg r).set (dg r) (((pbr dg r).getD (dg r) (0, 0)).1, r + 4) ++ [(r + 4, ((pbr dg r).getD (dg r) (0, 0)).2), (r + 4, r)]).getD b (0, 0) = (r + 4, r) := by
        rw [List.getD_eq_getElem?_getD, List.getElem?_append_right (by rw [List.length_set]; omega), List.length_set, q1, show (pbr dg r).length + 1 - (pbr dg r).length = 1 by omega]
        rfl
      rw [eg, e5, up2_ne (by omega), e4, show (b : Int) = ((pbr dg r).length : Int) + 1 by omega, up2_same, up2_same]
      exact ⟨rfl, rfl⟩
    · by_cases q2 : b = (pbr dg r).length
      · have eg : ((pbr dg r).set (dg r) (((pbr dg r).getD (dg r) (0, 0)).1, r + 4) ++ [(r + 4, ((pbr dg r).getD (dg r) (0, 0)).2), (r + 4, r)]).getD b (0, 0) = (r + 4, ((pbr dg r).getD (dg r) (0, 0)).2) := by
          rw [List.getD_eq_getElem?_getD, List.getElem?_append_right (by rw [List.length_set]; omega), List.length_set, q2, Nat.sub_self]
          rfl
        rw [eg, e5, up2_ne (by omega), e4, up2_ne (by omega), e3, up2_ne (by omega), e2, up2_ne (by omega), e1, q2, up2_same, up2_ne (by omega), up2_ne (by omega), up2_ne (by omega), up2_same, up2_ne (by omega)]
        exact ⟨rfl, h0.2⟩
      · have bl' : b < (pbr dg r).length := by omega
        have eg : ((pbr dg r).set (dg r) (((pbr dg r).getD (dg r) (0, 0)).1, r + 4) ++ [(r + 4, ((pbr dg r).getD (dg r) (0, 0)).2), (r + 4, r)]).getD b (0, 0) = ((pbr dg r).set (dg r) (((pbr dg r).getD (dg r) (0, 0)).1, r + 4)).getD b (0, 0) := by
          simp only [List.getD_eq_getElem?_getD]
          rw [List.getElem?_append_left (by rw [List.length_set]; omega)]
        rw [eg, gP_set (by omega), e5, up2_ne (by omega), e4, up2_ne (by omega), e3, up2_ne (by omega), e2, up2_ne (by omega), e1, up2_ne (by omega), up2_ne (by omega), up2_ne (by omega)]
        by_cases q3 : b = dg r
        · rw [if_pos q3, q3, up2_same]
          exact ⟨h0.1, rfl⟩
        · rw [if_neg q3, up2_ne (by omega), up2_ne (by omega), up2_ne (by omega)]
          exact hb b bl'
  · rw [e7, up2_ne (by omega), e6, up2_same, f52, lg, lg2]; omega
  · rw [e7, up2_same, g53]; omega
/-- the reference's TREE -/
theorem r_grows {num : Int} {dg : Nat → Nat} (hG : Sh G) (h51 : D 214 51 = (N : Int)) (n3 : 3 ≤ N) (n6 : N ≤ 6) (z0 : 0 ≤ num) (z1 : N = 3 ∧ num < 1 ∨ N = 4 ∧ num < 3 ∨ N = 5 ∧ num < 15 ∨ N = 6 ∧ num < 105) (hdg : ∀ r : Nat, 3 ≤ r → r < N → (dg r : Int) = dgx (r : Int) ((N : Int) - 1 - (r : Int)).toNat num)
    (h : ∀ D', (∀ c k, ¬ (c = 214 ∧ (k = 52 ∨ k = 53)) → c ≠ 244 → c ≠ 245 → D' c k = D c k) → brR D' (pbr dg N) → D' 214 52 = ((pbr dg N).length : Int) → D' 214 53 = ((N + 4 : Nat) : Int) → P0 D') : Call E (d + 1) 0 0 mX12_grows [vR 214, vI num] G D (retV G P0) := by
  have dlt : ∀ r : Nat, 3 ≤ r → r < N → dg r < 2 * r - 3 := fun r r3 rN => by
    have := dgx_rg (r := (r : Int)) (by omega) ((N : Int) - 1 - (r : Int)).toNat num
    rw [← hdg r r3 rN] at this
    omega
  -- where it ends
  have fin : ∀ (D' : mmD) (x2 x3 : Int), D' 214 51 = (N : Int) → (∀ c k, ¬ (c = 214 ∧ (k = 52 ∨ k = 53)) → c ≠ 244 → c ≠ 245 → D' c k = D c k) → brR D' (pbr dg N) → D' 214 52 = ((pbr dg N).length : Int) → D' 214 53 = ((N + 4 : Nat) : Int) → Go E (d + 1) 0 0 mX12_grows 49 [some (vR 214), none, some (vI x2), some (vI x3), some (vI (N : Int)), none, none] [] G D' (retV G P0) := fun D' x2 x3 q fr b1 b2 b3 => by
    refine w_X12_grows_49 hG ?_
    rw [q]
    exact br_le (fun _ => rV (h D' fr b1 b2 b3)) (fun g => by omega)
  refine w_X12_grows hG (fun D1 e1 D2 e2 => ?_)
  have three' : ∀ (n : Nat) (D' : mmD) (k : Int), 3 - k = n → 0 ≤ k → k ≤ 3 → (∀ c j, c ≠ 244 → c ≠ 245 → D' c j = D2 c j) → (∀ b : Int, 0 ≤ b → b < k → D' 244 b = 6 ∧ D' 245 b = b) → Go E (d + 1) 0 0 mX12_grows 13 [some (vR 214), some (vI num), some (vI k), none, none, none, none] [] G D' (retV G P0) := by
    intro n
    induction n with
    | zero =>
      intro D' k kn k0 k1 fr z
      have q51 : D' 214 51 = (N : Int) := by rw [fr _ _ (by omega) (by omega), e2, up2_ne (by omega), e1, up2_ne (by omega)]; exact h51
      have q52 : D' 214 52 = ((pbr dg 3).length : Int) := by rw [fr _ _ (by omega) (by omega), e2, up2_ne (by omega), e1, up2_same]; rfl
      have q53 : D' 214 53 = ((3 + 4 : Nat) : Int) := by rw [fr _ _ (by omega) (by omega), e2, up2_same]; rfl
      have qb : brR D' (pbr dg 3) := fun b hb => by
        have hb' : b < 3 := hb
        have := z (b : Int) (by omega) (by omega)
        rw [this.1, this.2]
        have : b = 0 ∨ b = 1 ∨ b = 2 := by omega
        rcases this with rfl | rfl | rfl <;> exact ⟨rfl, rfl⟩
      have qf : ∀ c k, ¬ (c = 214 ∧ (k = 52 ∨ k = 53)) → c ≠ 244 → c ≠ 245 → D' c k = D c k := fun c k p q u => by rw [fr c k q u, e2, up2_ne (by omega), e1, up2_ne (by omega)]
      refine w_X12_grows_13 hG (br_le (fun _ => r_trees hG q51 n3 n6 (fun v hv => ?_)) (fun g => by omega))
      have h51' : ∀ D3 : mmD, (∀ c k, ¬ (c = 214 ∧ (k = 52 ∨ k = 53)) → c ≠ 244 → c ≠ 245 → D3 c k = D' c k) → D3 214 51 = (N : Int) := fun D3 f3 => by rw [f3 _ _ (by omega) (by omega) (by omega)]; exact q51
      rcases hv with ⟨rfl, rfl⟩ | ⟨rfl, rfl⟩ | ⟨rfl, rfl⟩ | ⟨rfl, rfl⟩
      · exact fin D' num 1 q51 qf qb q52 q53
      · have d3 := hdg 3 (by omega) (by omega)
        have v3 : dgx ((3 : Nat) : Int) (((4 : Nat) : Int) - 1 - ((3 : Nat) : Int)).toNat num = num % 3 := rfl
        rw [v3] at d3
        refine r_grow1 (r := 3) (pl := 1) hG q51 (by omega) (by omega) (by omega) qb q52 q53 (dlt 3 (by omega) (by omega)) (by decide +kernel) (by omega) (by omega) ?_ (fun D3 f3 b3 g3 h3 => fin D3 _ _ (h51' D3 f3) (fun c k p q u => by rw [f3 c k p q u]; exact qf c k p q u) b3 g3 h3)
        rw [(idiv_n z0 (by omega) (show (1 : Int) ≤ 1 by omega) (by omega)).1]; omega
      · have d3 := hdg 3 (by omega) (by omega)
        have v3 : dgx ((3 : Nat) : Int) (((5 : Nat) : Int) - 1 - ((3 : Nat) : Int)).toNat num = num / 5 % 3 := rfl
        have d4 := hdg 4 (by omega) (by omega)
        have v4 : dgx ((4 : Nat) : Int) (((5 : Nat) : Int) - 1 - ((4 : Nat) : Int)).toNat num = num % 5 := rfl
        rw [v3] at d3
        rw [v4] at d4
        refine r_grow1 (r := 3) (pl := 5) hG q51 (by omega) (by omega) (by omega) qb q52 q53 (dlt 3 (by omega) (by omega)) (by decide +kernel) (by omega) (by omega) ?_ (fun D3 f3 b3 g3 h3 => ?_)
        · rw [(idiv_n z0 (by omega) (show (1 : Int) ≤ 5 by omega) (by omega)).1]; omega
        · rw [(idiv_n z0 (by omega) (show (1 : Int) ≤ 5 by omega) (by omega)).2]
          refine r_grow1 (r := 4) (pl := 1) hG (h51' D3 f3) (by omega) (by omega) (by omega) b3 g3 h3 (dlt 4 (by omega) (by omega)) (by decide +kernel) (by omega) (by omega) ?_ (fun D4 f4 b4 g4 h4 => fin D4 _ _ (by rw [f4 _ _ (by omega) (by omega) (by omega)]; exact h51' D3 f3) (fun c k p q u => by rw [f4 c k p q u, f3 c k p q u]; exact qf c k p q u) b4 g4 h4)
          rw [(idiv_n (by omega) (by omega) (show (1 : Int) ≤ 1 by omega) (by omega)).1]; omega
      · have d3 := hdg 3 (by omega) (by omega)
        have v3 : dgx ((3 : Nat) : Int) (((6 : Nat) : Int) - 1 - ((3 : Nat) : Int)).toNat num = num / 7 / 5 % 3 := rfl
        have d4 := hdg 4 (by omega) (by omega)
        have v4 : dgx ((4 : Nat) : Int) (((6 : Nat) : Int) - 1 - ((4 : Nat) : Int)).toNat num = num / 7 % 5 := rfl
        have d5 := hdg 5 (by omega) (by omega)
        have v5 : dgx ((5 : Nat) : Int) (((6 : Nat) : Int) - 1 - ((5 : Nat) : Int)).toNat num = num % 7 := rfl
        rw [v3] at d3
        rw [v4] at d4
        rw [v5] at d5
        refine r_grow1 (r := 3) (pl := 35) hG q51 (by omega) (by omega) (by omega) qb q52 q53 (dlt 3 (by omega) (by omega)) (by decide +kernel) (by omega) (by omega) ?_ (fun D3 f3 b3 g3 h3 => ?_)
        · rw [(idiv_n z0 (by omega) (show (1 : Int) ≤ 35 by omega) (by omega)).1]; omega
        · rw [(idiv_n z0 (by omega) (show (1 : Int) ≤ 35 by omega) (by omega)).2]
          refine r_grow1 (r := 4) (pl := 7) hG (h51' D3 f3) (by omega) (by omega) (by omega) b3 g3 h3 (dlt 4 (by omega) (by omega)) (by decide +kernel) (by omega) (by omega) ?_ (fun D4 f4 b4 g4 h4 => ?_)
          · rw [(idiv_n (by omega) (by omega) (show (1 : Int) ≤ 7 by omega) (by omega)).1]; omega
          · rw [(idiv_n (by omega) (by omega) (show (1 : Int) ≤ 7 by omega) (by omega)).2]
            have h51'' : D4 214 51 = ((6 : Nat) : Int) := by rw [f4 _ _ (by omega) (by omega) (by omega)]; exact h51' D3 f3
            refine r_grow1 (r := 5) (pl := 1) hG h51'' (by omega) (by omega) (by omega) b4 g4 h4 (dlt 5 (by omega) (by omega)) (by decide +kernel) (by omega) (by omega) ?_ (fun D5 f5 b5 g5 h5 => fin D5 _ _ (by rw [f5 _ _ (by omega) (by omega) (by omega)]; exact h51'') (fun c k p q u => by rw [f5 c k p q u, f4 c k p q u, f3 c k p q u]; exact qf c k p q u) b5 g5 h5)
            rw [(idiv_n (by omega) (by omega) (show (1 : Int) ≤ 1 by omega) (by omega)).1]; omega
    | succ n ih =>
      intro D' k kn k0 k1 fr z
      refine w_X12_grows_13 hG (br_le (fun g => by omega) (fun _ => ⟨⟨by omega, by omega⟩, fun D3 e3 => ⟨⟨by omega, by omega⟩, fun D4 e4 => ih D4 (k + 1) (by omega) (by omega) (by omega) (fun c j p q => by rw [e4, up2_ne (fun u => q u.1), e3, up2_ne (fun u => p u.1)]; exact fr c j p q) (fun b b0 b1 => ?_)⟩⟩))
      by_cases e : b = k
      · subst e
        rw [e4, up2_ne (by omega), up2_same, e3, up2_same]
        exact ⟨rfl, rfl⟩
      · rw [e4, up2_ne (by omega), up2_ne (by omega), e3, up2_ne (by omega), up2_ne (by omega)]
        exact z b b0 (by omega)
  exact three' 3 D2 0 (by omega) (by omega) (by omega) (fun _ _ _ _ => rfl) (fun b b0 b1 => by omega)
end StepsR
