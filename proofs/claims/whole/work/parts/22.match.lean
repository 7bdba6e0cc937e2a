section Match
variable {E : mmE} {d : Nat} {G : mmG} {D0 D : mmD} {x1 x2 x3 x4 x5 ja jb : Int}
theorem c_hasPair {P : Int → mmD → Prop} {W : List Int} {x : Int} (hG : Sh G) (hw : ∀ y ∈ W, 0 ≤ y ∧ y ≤ 2626) (hx : 0 ≤ x ∧ x ≤ 2626) (hlen : W.length ≤ 16) (hh : hl 11 9 2 D W) (h1 : x ∈ W → P 1 D) (h0 : x ∉ W → P 0 D) : Call E d 0 0 mX7_hasPair [vR 9, vI x] G D (retI G P) := by
  have f := hh.1
  have lp : ∀ (n : Nat) (k : Nat), W.length - k = n → k ≤ W.length → (∀ q : Nat, q < k → W.getD q 0 ≠ x) → Go E d 0 0 mX7_hasPair 2 [some (vR 9), some (vI x), some (vI (k : Int))] [] G D (retI G P) := by
    intro n
    induction n with
    | zero =>
      intro k hn hk hq
      refine w_X7_hasPair_2 hG (br_le (fun _ => rI (h0 (fun m => ?_))) (fun g => by omega))
      obtain ⟨i, hi, e⟩ := List.mem_iff_getElem.mp m
      exact hq i (by omega) (by rw [List.getD_eq_getElem?_getD, List.getElem?_eq_getElem hi]; exact e)
    | succ n ih =>
      intro k hn hk hq
      have e := hh.2 k (by omega)
      have mem : W.getD k 0 ∈ W := by
        rw [List.getD_eq_getElem?_getD, List.getElem?_eq_getElem (by omega)]
        exact List.getElem_mem _
      have r := hw _ mem
      refine w_X7_hasPair_2 hG (br_le (fun g => by omega) (fun _ => ⟨⟨by omega, by omega⟩, ?_⟩))
      rw [e]
      refine br_ne (fun g => ?_) (fun g => rI (h1 (g ▸ mem)))
      refine ih (k + 1) (by omega) (by omega) (fun q hq' => ?_)
      by_cases hqk : q = k
      · rw [hqk]; exact g
      · exact hq q (by omega)
  exact w_X7_hasPair hG (lp W.length 0 (by omega) (by omega) (fun q hq => by omega))
noncomputable def mtf (D : mmD) (a b x : Int) : Int → Int := fun m => cif (lst D a m ∧ lst D b m ∧ kinP D (10 * a + m) (10 * b + m)) (cif (x ∈ wy D (10 * a + m) (10 * b + m)) 1 0) 0
theorem p_matches (hI : Inv G D0) (h1 : rg x1) (h2 : rg x2) (h3 : rg x3) (h4 : rg x4) : Pair E (d + 4) mX11_matches mX12_matches [vI x1, vI x2, vI x3, vI x4] G D0 := by
  have hG := hI.1
  have h1' := h1
  have h2' := h2
  have h3' := h3
  have h4' := h4
  unfold rg at h1' h2' h3' h4'
  have wlen : ∀ a b, (wy D0 a b).length ≤ 16 := fun a b => wk_len 16 0 0
  have lc : 0 ≤ x3 → x3 ≤ 26 → 0 ≤ x4 → x4 ≤ 26 → ∀ (Q : mmQ), (∀ D', ag D0 D' → Q (some (vI (fsum (mtf D0 x1 x2 (100 * x3 + x4)) 10))) G D') → ∀ (n : Nat) (D : mmD) (k : Int), ag D0 D → 0 ≤ k → k ≤ 10 → 10 - k = n → Go E (d + 4) 0 0 mX11_matches 54 [some (vR 2), some (vI x1), some (vI x2), some (vI x3), some (vI x4), some (vI (fsum (mtf D0 x1 x2 (100 * x3 + x4)) k.toNat)), some (vI k), none, none] [] G D Q := by
    intro q1 q2 q3 q4 Q hQ n
    induction n with
    | zero =>
      intro D k hd k0 k1 kn
      have e : k = 10 := by omega
      subst e
      exact w_X11_matches_54 hG (br_le (fun _ => hQ D hd) (fun g => by omega))
    | succ n ih =>
      intro D k hd k0 k1 kn
      have nx : ∀ D', ag D0 D' → _ := fun D' hd' => ih D' (k + 1) hd' (by omega) (by omega) (by omega)
      rw [fsum_s k0] at nx
      unfold mtf at nx
      have nl : ¬ (lst D0 x1 k ∧ lst D0 x2 k) → ∀ D', ag D0 D' → Go E (d + 4) 0 0 mX11_matches 54 [some (vR 2), some (vI x1), some (vI x2), some (vI x3), some (vI x4), some (vI (fsum (mtf D0 x1 x2 (100 * x3 + x4)) k.toNat)), some (vI (k + 1)), none, none] [] G D' Q := fun hn D' hd' => by
        have := nx D' hd'
        rw [cif_f (fun q => hn ⟨q.1, q.2.1⟩), Int.add_zero] at this
        exact this
      refine w_X11_matches_54 hG (br_le (fun g => by omega) (fun _ => c_listedA hI hd h1 (by unfold rg; omega) (fun a => c_listedA hI hd h2 (by unfold rg; omega) (fun b => ⟨fun q => ?_, fun _ => ⟨fun q => ?_, fun _ => ?_⟩⟩) (fun b => ⟨fun q => ?_, fun _ => ⟨fun _ => nl (fun q => b q.2) D hd, fun q => absurd rfl q⟩⟩)) (fun a => c_listedA hI hd h2 (by unfold rg; omega) (fun b => ⟨fun _ => nl (fun q => a q.1) D hd, fun q => absurd rfl q⟩) (fun b => ⟨fun _ => nl (fun q => a q.1) D hd, fun q => absurd rfl q⟩))))
      · have := a.j hI; omega
      · have := b.j hI; omega
      · obtain ⟨a0, a1⟩ := a.j hI
        obtain ⟨b0, b1⟩ := b.j hI
        refine c_kin hI hd a0 a1 b0 b1 (fun kk D1 hd1 => b_t (c_lay hI hd1 a0 a1 b0 b1 (fun D2 hd2 hl2 => ?_))) (fun kk D1 hd1 => b_f ?_)
        · have n2 := nx D2 hd2
          rw [cif_t ⟨a, b, kk⟩] at n2
          refine c_hasPair hG (wy_rg hI a0 a1 b0 b1) ⟨by omega, by omega⟩ (wlen _ _) hl2 (fun hm => c_oneIf hG (Or.inr rfl) ?_) (fun hm => c_oneIf hG (Or.inl rfl) ?_)
          · rw [cif_t hm] at n2; exact n2
          · rw [cif_f hm] at n2; exact n2
        · have n2 := nx D1 hd1
          rw [cif_f (fun q => kk q.2.2), Int.add_zero] at n2
          exact n2
      · have := a.j hI; omega
  have lr : 0 ≤ x3 → x3 ≤ 26 → 0 ≤ x4 → x4 ≤ 26 → ∀ (Q : mmQ), (∀ D', ag D0 D' → Q (some (vI (fsum (mtf D0 x1 x2 (100 * x3 + x4)) 10))) G D') → ∀ (n : Nat) (D : mmD) (k : Int), ag D0 D → 0 ≤ k → k ≤ 10 → 10 - k = n → Go E (d + 4) 0 0 mX12_matches 62 [some (vR 214), some (vI x1), some (vI x2), some (vI x3), some (vI x4), some (vI (fsum (mtf D0 x1 x2 (100 * x3 + x4)) k.toNat)), some (vI k), none, none] [] G D Q := by
    intro q1 q2 q3 q4 Q hQ n
    induction n with
    | zero =>
      intro D k hd k0 k1 kn
      have e : k = 10 := by omega
      subst e
      exact w_X12_matches_62 hG (br_le (fun _ => hQ D hd) (fun g => by omega))
    | succ n ih =>
      intro D k hd k0 k1 kn
      have nx : ∀ D', ag D0 D' → _ := fun D' hd' => ih D' (k + 1) hd' (by omega) (by omega) (by omega)
      rw [fsum_s k0] at nx
      unfold mtf at nx
      have nl : ¬ (lst D0 x1 k ∧ lst D0 x2 k) → ∀ D', ag D0 D' → Go E (d + 4) 0 0 mX12_matches 62 [some (vR 214), some (vI x1), some (vI x2), some (vI x3), some (vI x4), some (vI (fsum (mtf D0 x1 x2 (100 * x3 + x4)) k.toNat)), some (vI (k + 1)), none, none] [] G D' Q := fun hn D' hd' => by
        have := nx D' hd'
        rw [cif_f (fun q => hn ⟨q.1, q.2.1⟩), Int.add_zero] at this
        exact this
      refine w_X12_matches_62 hG (br_le (fun g => by omega) (fun _ => c_hasA hI hd h1 (by unfold rg; omega) (fun a => b_t (c_hasA hI hd h2 (by unfold rg; omega) (fun b => b_t ?_) (fun b => b_f (nl (fun q => b q.2) D hd)))) (fun a => b_f (nl (fun q => a q.1) D hd))))
      obtain ⟨a0, a1⟩ := a.j hI
      obtain ⟨b0, b1⟩ := b.j hI
      refine c_rkin hI hd rfl rfl a0 a1 b0 b1 (fun kk D1 hd1 => b_t (c_walks hI hd1 rfl rfl a0 a1 b0 b1 (fun D2 hd2 hl2 => ?_))) (fun kk D1 hd1 => b_f ?_)
      · have n2 := nx D2 hd2
        rw [cif_t ⟨a, b, kk⟩] at n2
        have f := hl2.1
        have wl := wlen (10 * x1 + k) (10 * x2 + k)
        have lp : ∀ (r : Nat) (p : Nat) (z : Int), (wy D0 (10 * x1 + k) (10 * x2 + k)).length - p = r → p ≤ (wy D0 (10 * x1 + k) (10 * x2 + k)).length → (z = 0 ∧ (∀ q : Nat, q < p → (wy D0 (10 * x1 + k) (10 * x2 + k)).getD q 0 ≠ 100 * x3 + x4)) ∨ (z = 1 ∧ 100 * x3 + x4 ∈ wy D0 (10 * x1 + k) (10 * x2 + k)) → Go E (d + 4) 0 0 mX12_matches 116 [some (vR 214), some (vI x1), some (vI x2), some (vI x3), some (vI x4), some (vI (fsum (mtf D0 x1 x2 (100 * x3 + x4)) k.toNat)), some (vI k), some (vI z), some (vI (p : Int))] [] G D2 Q := by
          intro r
          induction r with
          | zero =>
            intro p z hn hk hq
            refine w_X12_matches_116 hG (br_le (fun _ => ?_) (fun g => by omega))
            rcases hq with ⟨rfl, hq⟩ | ⟨rfl, hq⟩
            · refine b_f ?_
              rw [cif_f ?_] at n2
              · exact n2
              · intro m
                obtain ⟨i, hi, e⟩ := List.mem_iff_getElem.mp m
                exact hq i (by omega) (by rw [List.getD_eq_getElem?_getD, List.getElem?_eq_getElem hi]; exact e)
            · refine b_t ?_
              rw [cif_t hq] at n2
              exact n2
          | succ r ihr =>
            intro p z hn hk hq
            have e := hl2.2 p (by omega)
            have mem : (wy D0 (10 * x1 + k) (10 * x2 + k)).getD p 0 ∈ wy D0 (10 * x1 + k) (10 * x2 + k) := by
              rw [List.getD_eq_getElem?_getD, List.getElem?_eq_getElem (by omega)]
              exact List.getElem_mem _
            have rr := wy_rg hI a0 a1 b0 b1 _ mem
            refine w_X12_matches_116 hG (br_le (fun g => by omega) (fun _ => ?_))
            rcases hq with ⟨rfl, hq⟩ | ⟨rfl, hq⟩
            · refine n_f ⟨⟨by omega, by omega⟩, ?_⟩
              rw [e]
              refine br_ne (fun g => ihr (p + 1) 0 (by omega) (by omega) (Or.inl ⟨rfl, fun q hq' => ?_⟩)) (fun g => ihr (p + 1) 1 (by omega) (by omega) (Or.inr ⟨rfl, g ▸ mem⟩))
              by_cases hqk : q = p
              · rw [hqk]; exact g
              · exact hq q (by omega)
            · exact n_t (ihr (p + 1) 1 (by omega) (by omega) (Or.inr ⟨rfl, hq⟩))
        exact lp _ 0 0 rfl (by omega) (Or.inl ⟨rfl, fun q hq => by omega⟩)
      · have n2 := nx D1 hd1
        rw [cif_f (fun q => kk q.2.2), Int.add_zero] at n2
        exact n2
  have s1 := hI.2.1.1
  have no : ∀ v : Int, ((x1 < 0 ∨ D0 214 1 ≤ x1 ∨ x2 < 0 ∨ D0 214 1 ≤ x2) → v = -1) → ((0 ≤ x1 ∧ x1 < D0 214 1 ∧ 0 ≤ x2 ∧ x2 < D0 214 1) → v = -2 ∧ (x1 = x2 ∨ x3 < 0 ∨ 26 < x3 ∨ x4 < 0 ∨ 26 < x4 ∨ (x3 = 0 ∧ x4 = 0))) → Call E (d + 4) 0 0 mX12_matches [vR 214, vI x1, vI x2, vI x3, vI x4] G D0 (retI G (fun y D2 => iv v = iv y ∧ Inv G D2)) := fun v v1 v2 =>
    w_X12_matches hG (c_rTongue hG hI.ri h1 (fun a b => b_t (c_rTongue hG hI.ri h2 (fun a' b' => n_t (by
      have v3 := v2 ⟨a, b, a', b'⟩
      rw [v3.1]
      exact br_eq (fun _ => rI ⟨rfl, hI⟩) (fun g1 => c_in hG h3 (by unfold rg; omega) (by unfold rg; omega) (fun _ _ => b_t (c_in hG h4 (by unfold rg; omega) (by unfold rg; omega) (fun _ _ => b_t (br_ne (fun g2 => by omega) (fun g2 => br_ne (fun g3 => by omega) (fun g3 => rI ⟨rfl, hI⟩)))) (fun _ => b_f (rI ⟨rfl, hI⟩)))) (fun _ => b_f (rI ⟨rfl, hI⟩))))) (fun g => n_f (rI ⟨by rw [v1 (by omega)], hI⟩)))) (fun g => b_f (rI ⟨by rw [v1 (by omega)], hI⟩)))
  have yes : 0 ≤ x1 → x1 < D0 214 1 → 0 ≤ x2 → x2 < D0 214 1 → x1 ≠ x2 → 0 ≤ x3 → x3 ≤ 26 → 0 ≤ x4 → x4 ≤ 26 → x3 + x4 ≠ 0 → ∀ D, ag D0 D → Call E (d + 4) 0 0 mX12_matches [vR 214, vI x1, vI x2, vI x3, vI x4] G D (retI G (fun y D2 => iv (fsum (mtf D0 x1 x2 (100 * x3 + x4)) 10) = iv y ∧ Inv G D2)) := fun a b a' b' g1 p1 p2 p3 p4 p5 D hd => by
    have fin := lr p1 p2 p3 p4 _ (fun D' hd' => rI (P := fun y D2 => iv (fsum (mtf D0 x1 x2 (100 * x3 + x4)) 10) = iv y ∧ Inv G D2) ⟨rfl, hI.ag hd'⟩) 10 D 0 hd (by omega) (by omega) (by omega)
    have st := hd.s (k := 1) (by omega) (by omega)
    refine w_X12_matches hG (c_rTongue hG (hI.ag hd).ri h1 (fun _ _ => b_t (c_rTongue hG (hI.ag hd).ri h2 (fun _ _ => n_t (br_eq (fun g => absurd g g1) (fun _ => c_in hG h3 (by unfold rg; omega) (by unfold rg; omega) (fun _ _ => b_t (c_in hG h4 (by unfold rg; omega) (by unfold rg; omega) (fun _ _ => b_t (br_ne (fun g2 => fin) (fun g2 => br_ne (fun g3 => fin) (fun g3 => by omega)))) (fun _ => by omega))) (fun _ => by omega)))) (fun g => by omega))) (fun g => by omega))
  have sn : ∀ {x : Int} {P : Int → mmD → Prop}, rg x → (0 ≤ x → x ≤ 26 → P 1 D0) → ((x < 0 ∨ 26 < x) → P 0 D0) → Call E (d + 3) 0 0 mX11_isSoundOrNothing [vI x] G D0 (retI G P) := fun {x P} hx p1 p0 => by
    unfold rg at hx
    exact w_X11_isSoundOrNothing hG (br_lt (fun g => rI (p0 (by omega))) (fun g => br_lt (fun g' => rI (p0 (by omega))) (fun g' => rI (p1 g g'))))
  refine w_X11_matches hG (c_isTongue hI h1 (fun a b => b_t (c_isTongue hI h2 (fun a' b' => n_t (br_eq (fun g1 => rI (no _ (by omega) (fun _ => ⟨rfl, by omega⟩))) (fun g1 => sn h3 (fun p1 p2 => b_t (sn h4 (fun p3 p4 => b_t (br_ne (fun g2 => ?_) (fun g2 => rI (no _ (by omega) (fun _ => ⟨rfl, by omega⟩))))) (fun _ => b_f (rI (no _ (by omega) (fun _ => ⟨rfl, by omega⟩)))))) (fun _ => b_f (rI (no _ (by omega) (fun _ => ⟨rfl, by omega⟩))))))) (fun g => n_f (rI (no _ (fun _ => rfl) (by omega)))))) (fun g => b_f (rI (no _ (fun _ => rfl) (by omega)))))
  exact lc p1 p2 p3 p4 _ (fun D' hd' => rI (yes a b a' b' g1 p1 p2 p3 p4 g2 D' hd')) 10 D0 0 ag.rfl (by omega) (by omega) (by omega)
noncomputable def clv (D : mmD) (ja jb k : Int) : Int := cif (iv (D 218 ja) = iv (D 218 jb)) k (1 - k)
theorem p_claim (hI : Inv G D0) (h1 : rg x1) (h2 : rg x2) (h3 : rg x3) (h4 : x4 = 0 ∨ x4 = 1) (h5 : rg x5) : Pair E (d + 4) mX11_claim mX12_claim [vI x1, vI x2, vI x3, vI x4, vI x5] G D0 := by
  obtain ⟨hG, hs, q3, q4, q5, q6, q7, q8, q9⟩ := id hI
  have s6 := hs.2.2.2.2.2.1
  have s9 := hs.2.2.2.2.2.2.2.2
  have h2' := h2
  have h3' := h3
  have h5' := h5
  unfold rg at h2' h3' h5'
  by_cases hl : lst D0 x2 x1 ∧ lst D0 x3 x1
  · obtain ⟨a, b⟩ := hl
    obtain ⟨a0, a1⟩ := a.j hI
    obtain ⟨b0, b1⟩ := b.j hI
    have rt : ∀ j, 0 ≤ j → j < 60 → D0 (22 + 2 * j) 2 = D0 218 j := fun j j0 j1 => (q4 j j0 j1).2.2.1
    have no : ∀ v : Int, ((x2 = x3 ∨ x5 < 0 ∨ 10 < x5) → v = -2) → ((x2 ≠ x3 ∧ 0 ≤ x5 ∧ x5 ≤ 10) → (D0 214 9 ≠ 0 → v = -3) ∧ (D0 214 9 = 0 → v = -4 ∧ D0 214 6 = 60)) → Call E (d + 4) 0 0 mX12_claim [vR 214, vI x1, vI x2, vI x3, vI x4, vI x5] G D0 (retI G (fun y D2 => iv v = iv y ∧ Inv G D2)) := fun v v1 v2 =>
      w_X12_claim hG (c_hasA hI ag.rfl h2 h1 (fun _ => b_t (c_hasA hI ag.rfl h3 h1 (fun _ => n_t (br_eq (fun g => rI ⟨by rw [v1 (by omega)], hI⟩) (fun g => c_in hG h5 (by unfold rg; omega) (by unfold rg; omega) (fun p q => n_t (br_eq (fun r => br_ne (fun r' => absurd ((v2 ⟨g, p, q⟩).2 r).2 r') (fun r' => rI ⟨by rw [((v2 ⟨g, p, q⟩).2 r).1], hI⟩)) (fun r => rI ⟨by rw [(v2 ⟨g, p, q⟩).1 r], hI⟩))) (fun p => n_f (rI ⟨by rw [v1 (by omega)], hI⟩))))) (fun q => absurd b q))) (fun q => absurd a q))
    refine w_X11_claim hG (c_listedA hI ag.rfl h2 h1 (fun _ => c_listedA hI ag.rfl h3 h1 (fun _ => ⟨fun q => by omega, fun _ => ⟨fun _ => br_eq (fun g => rI (no _ (fun _ => rfl) (fun q => absurd g q.1))) (fun g => w_X11_isSureness hG (br_lt (fun p => rI (n_f (rI (no _ (fun _ => rfl) (by omega))))) (fun p => br_lt (fun q => rI (n_f (rI (no _ (fun _ => rfl) (by omega))))) (fun q => rI (n_t ?_))))), fun q => by omega⟩⟩) (fun q => absurd b q)) (fun q => absurd a q))
    rw [s9.1, s6.1]
    refine br_eq (fun r => br_lt (fun r' => ⟨⟨by omega, by omega⟩, fun D7 e7 => ⟨isW.of a0 a1, isW.of b0 b1, ?_⟩⟩) (fun r' => rI (no _ (by omega) (fun _ => ⟨fun q => absurd r q, fun _ => ⟨rfl, by omega⟩⟩)))) (fun r => rI (no _ (by omega) (fun _ => ⟨fun _ => rfl, fun q => absurd q r⟩)))
    have k7 : ∀ c k, c ≠ 8 → D7 c k = D0 c k := fun c k q => by rw [e7, up2_ne (fun q' => q q'.1)]
    rw [k7 (22 + 2 * (10 * x2 + x1)) 2 (by omega), k7 (22 + 2 * (10 * x3 + x1)) 2 (by omega), rt _ a0 a1, rt _ b0 b1, k7 2 15 (by omega), s6.1]
    -- the end, on both sides, once the mark is known
    have fin : ∀ v : Int, (v = 0 ∨ v = 1) → v = clv D0 (10 * x2 + x1) (10 * x3 + x1) x4 → (0 ≤ 2 * D0 214 6 + 1 ∧ 2 * D0 214 6 + 1 < 120) ∧ ∀ D12 : mmD, D12 = up2 D7 8 (2 * D0 214 6 + 1) v → ∀ D13 : mmD, D13 = up2 D12 2 15 (D12 2 15 + 1) → retI G (fun x D1 => Call E (d + 4) 0 0 mX12_claim [vR 214, vI x1, vI x2, vI x3, vI x4, vI x5] G D1 (retI G (fun y D2 => iv x = iv y ∧ Inv G D2))) (some (vI (D13 2 15 - 1))) G D13 := by
      intro v hv01 hv
      refine ⟨⟨by omega, by omega⟩, fun D12 e12 D13 e13 => rI ?_⟩
      have k12 : D12 2 15 = D0 214 6 := by rw [e12, up2_ne (by omega), k7 2 15 (by omega)]; exact s6.1
      have k13 : ∀ c k, c ≠ 8 → ¬ (c = 2 ∧ k = 15) → D13 c k = D0 c k := fun c k q q' => by rw [e13, up2_ne q', e12, up2_ne (fun q2 => q q2.1), k7 c k q]
      have m13 : D13 2 15 = D0 214 6 + 1 := by rw [e13, up2_same, k12]
      have ri13 : ri D13 := hI.ri.keep (k13 _ _ (by omega) (by omega)) (k13 _ _ (by omega) (by omega)) (fun k => k13 _ _ (by omega) (by omega)) (fun k => k13 _ _ (by omega) (by omega))
      have l13 : ∀ t m, lst D13 t m ↔ lst D0 t m := fun t m => by
        unfold lst hasW
        rw [k13 214 1 (by omega) (by omega), k13 216 _ (by omega) (by omega), k13 220 _ (by omega) (by omega)]
      rw [m13]
      refine w_X12_claim hG (c_has hG ri13 h2 h1 (fun _ => b_t (c_has hG ri13 h3 h1 (fun _ => n_t (br_eq (fun q => absurd q g) (fun _ => c_in hG h5 (by unfold rg; omega) (by unfold rg; omega) (fun _ _ => n_t ?_) (fun q => by omega)))) (fun q => absurd ((l13 _ _).mpr b) q))) (fun q => absurd ((l13 _ _).mpr a) q))
      rw [k13 214 9 (by omega) (by omega), k13 214 6 (by omega) (by omega)]
      refine br_eq (fun _ => br_ne (fun _ => ⟨⟨by omega, by omega⟩, fun E7 f7 => ⟨⟨by omega, by omega⟩, ⟨by omega, by omega⟩, ?_⟩⟩) (fun q => by omega)) (fun q => absurd r q)
      have j7 : ∀ c k, c ≠ 233 → c ≠ 8 → ¬ (c = 2 ∧ k = 15) → E7 c k = D0 c k := fun c k p0 p1 p2 => by rw [f7, up2_ne (fun q => p0 q.1), k13 c k p1 p2]
      rw [j7 218 _ (by omega) (by omega) (by omega), j7 218 _ (by omega) (by omega) (by omega), j7 214 6 (by omega) (by omega) (by omega)]
      have fin2 : ∀ v' : Int, v' = v → (0 ≤ D0 214 6 ∧ D0 214 6 < 60) ∧ ∀ D8 : mmD, D8 = up2 E7 234 (D0 214 6) v' → ∀ D9 : mmD, D9 = up2 D8 214 6 (D8 214 6 + 1) → retI G (fun y D2 => iv (D0 214 6 + 1 - 1) = iv y ∧ Inv G D2) (some (vI (D9 214 6 - 1))) G D9 := by
        intro v' hv'
        subst hv'
        refine ⟨⟨by omega, by omega⟩, fun D8 e8 D9 e9 => rI ?_⟩
        have k8 : D8 214 6 = D0 214 6 := by rw [e8, up2_ne (by omega), j7 _ _ (by omega) (by omega) (by omega)]
        have k9 : ∀ c k, c ≠ 8 → c ≠ 233 → c ≠ 234 → ¬ (c = 2 ∧ k = 15) → ¬ (c = 214 ∧ k = 6) → D9 c k = D0 c k := fun c k p1 p2 p3 p4 p5 => by rw [e9, up2_ne p5, e8, up2_ne (fun q => p3 q.1), j7 c k p2 p1 p4]
        have m9 : D9 214 6 = D0 214 6 + 1 := by rw [e9, up2_same, k8]
        have n9 : D9 2 15 = D0 214 6 + 1 := by rw [e9, up2_ne (by omega), e8, up2_ne (by omega), f7, up2_ne (by omega), m13]
        rw [m9]
        refine ⟨rfl, hG, ?_, q3.keep (fun k => k9 _ _ (by omega) (by omega) (by omega) (by omega) (by omega)) (fun k => k9 _ _ (by omega) (by omega) (by omega) (by omega) (by omega)), q4.keep (fun c k _ _ => k9 _ _ (by omega) (by omega) (by omega) (by omega) (by omega)) (fun c k _ _ => k9 _ _ (by omega) (by omega) (by omega) (by omega) (by omega)), q5.keep (k9 _ _ (by omega) (by omega) (by omega) (by omega) (by omega)) (fun k => k9 _ _ (by omega) (by omega) (by omega) (by omega) (by omega)) (fun k => k9 _ _ (by omega) (by omega) (by omega) (by omega) (by omega)) (fun k => k9 _ _ (by omega) (by omega) (by omega) (by omega) (by omega)), q6.keep hs.2.2.1.2.2 (k9 _ _ (by omega) (by omega) (by omega) (by omega) (by omega)) (fun c k _ _ _ => k9 _ _ (by omega) (by omega) (by omega) (by omega) (by omega)) (fun c k _ _ => k9 _ _ (by omega) (by omega) (by omega) (by omega) (by omega)), q7.keep (k9 _ _ (by omega) (by omega) (by omega) (by omega) (by omega)) (fun c k _ _ => k9 _ _ (by omega) (by omega) (by omega) (by omega) (by omega)) (fun c k _ _ _ => k9 _ _ (by omega) (by omega) (by omega) (by omega) (by omega)), ?_, q9.keep q7 (k9 _ _ (by omega) (by omega) (by omega) (by omega) (by omega)) (k9 _ _ (by omega) (by omega) (by omega) (by omega) (by omega)) (fun k => k9 _ _ (by omega) (by omega) (by omega) (by omega) (by omega)) (fun c k _ => k9 _ _ (by omega) (by omega) (by omega) (by omega) (by omega))⟩
        · unfold i_sc at hs ⊢
          rw [m9, n9, k9 2 3 (by omega) (by omega) (by omega) (by omega) (by omega), k9 2 11 (by omega) (by omega) (by omega) (by omega) (by omega), k9 2 6 (by omega) (by omega) (by omega) (by omega) (by omega), k9 2 8 (by omega) (by omega) (by omega) (by omega) (by omega), k9 2 10 (by omega) (by omega) (by omega) (by omega) (by omega), k9 2 1 (by omega) (by omega) (by omega) (by omega) (by omega), k9 2 13 (by omega) (by omega) (by omega) (by omega) (by omega), k9 2 12 (by omega) (by omega) (by omega) (by omega) (by omega), k9 214 1 (by omega) (by omega) (by omega) (by omega) (by omega), k9 214 2 (by omega) (by omega) (by omega) (by omega) (by omega), k9 214 3 (by omega) (by omega) (by omega) (by omega) (by omega), k9 214 4 (by omega) (by omega) (by omega) (by omega) (by omega), k9 214 5 (by omega) (by omega) (by omega) (by omega) (by omega), k9 214 7 (by omega) (by omega) (by omega) (by omega) (by omega), k9 214 8 (by omega) (by omega) (by omega) (by omega) (by omega), k9 214 9 (by omega) (by omega) (by omega) (by omega) (by omega)]
          omega
        · intro c c0 c1
          rw [m9] at c1
          have f8 : ∀ k, D9 8 k = up2 D7 8 (2 * D0 214 6 + 1) v' 8 k := fun k => by rw [e9, up2_ne (by omega), e8, up2_ne (by omega), f7, up2_ne (by omega), e13, up2_ne (by omega), e12]
          have f233 : ∀ k, D9 233 k = up2 D13 233 (D0 214 6) x5 233 k := fun k => by rw [e9, up2_ne (by omega), e8, up2_ne (by omega), f7]
          have f234 : ∀ k, D9 234 k = up2 E7 234 (D0 214 6) v' 234 k := fun k => by rw [e9, up2_ne (by omega), e8]
          by_cases hc : c = D0 214 6
          · have r1 : D9 8 (2 * c) = x5 := by rw [f8, up2_ne (by omega), e7, hc, up2_same]
            have r2 : D9 8 (2 * c + 1) = v' := by rw [f8, hc, up2_same]
            have r3 : D9 233 c = x5 := by rw [f233, hc, up2_same]
            have r4 : D9 234 c = v' := by rw [f234, hc, up2_same]
            rw [r1, r2, r3, r4]
            omega
          · have r1 : D9 8 (2 * c) = D0 8 (2 * c) := by rw [f8, up2_ne (by omega), e7, up2_ne (by omega)]
            have r2 : D9 8 (2 * c + 1) = D0 8 (2 * c + 1) := by rw [f8, up2_ne (by omega), e7, up2_ne (by omega)]
            have r3 : D9 233 c = D0 233 c := by rw [f233, up2_ne (by omega), k13 _ _ (by omega) (by omega)]
            have r4 : D9 234 c = D0 234 c := by rw [f234, up2_ne (by omega), j7 _ _ (by omega) (by omega) (by omega)]
            rw [r1, r2, r3, r4]
            exact q8 c c0 (by omega)
      unfold clv at hv
      refine ⟨fun ne => ?_, fun ee => ?_⟩
      · rw [cif_f ne] at hv
        exact br_ne (fun z => fin2 0 (by omega)) (fun z => fin2 1 (by omega))
      · rw [cif_t ee] at hv
        exact br_ne (fun z => fin2 0 (by omega)) (fun z => fin2 1 (by omega))
    unfold clv at fin
    refine ⟨fun ne => ?_, fun ee => ?_⟩
    · rw [cif_f ne] at fin
      exact br_ne (fun z => c_oneIf hG (Or.inl rfl) (fin 0 (Or.inl rfl) (by omega))) (fun z => c_oneIf hG (Or.inr rfl) (fin 1 (Or.inr rfl) (by omega)))
    · rw [cif_t ee] at fin
      exact br_ne (fun z => c_oneIf hG (Or.inl rfl) (fin 0 (Or.inl rfl) (by omega))) (fun z => c_oneIf hG (Or.inr rfl) (fin 1 (Or.inr rfl) (by omega)))
  · have no : Call E (d + 4) 0 0 mX12_claim [vR 214, vI x1, vI x2, vI x3, vI x4, vI x5] G D0 (retI G (fun y D2 => iv (-1) = iv y ∧ Inv G D2)) :=
      w_X12_claim hG (c_hasA hI ag.rfl h2 h1 (fun a => b_t (c_hasA hI ag.rfl h3 h1 (fun b => absurd ⟨a, b⟩ hl) (fun _ => n_f (rI ⟨rfl, hI⟩)))) (fun _ => b_f (rI ⟨rfl, hI⟩)))
    refine w_X11_claim hG (c_listedA hI ag.rfl h2 h1 (fun a => c_listedA hI ag.rfl h3 h1 (fun b => absurd ⟨a, b⟩ hl) (fun b => ⟨fun _ => rI no, fun _ => ⟨fun q => absurd rfl q, fun _ => rI no⟩⟩)) (fun a => c_listedA hI ag.rfl h3 h1 (fun b => ⟨fun _ => rI no, fun q => absurd rfl q⟩) (fun b => ⟨fun _ => rI no, fun q => absurd rfl q⟩)))
end Match
