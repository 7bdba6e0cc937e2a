section Feeds
variable {E : mmE} {d : Nat} {G : mmG} {D0 D : mmD} {P : Int → mmD → Prop} {P0 : mmD → Prop} {W V : List Int} {l r s j a b x1 x2 x3 : Int}
theorem wl_ag (ha : ag D0 D) (j : Int) : wl D j = wl D0 j := by
  unfold wl
  rw [ha.a (c := 216) (by omega) (by omega)]
  exact List.map_congr_left (fun q _ => ha.a (by omega) (by omega))
theorem apl_ag (ha : ag D0 D) (l : Int) (W : List Int) : apl D l W = apl D0 l W := apl_keep (fun c k p q => ha.a (by omega) (by omega))
theorem inv_l1 (hI : Inv G D0) (ha : ag D0 D) (l0 : 0 ≤ l) (l1 : l < D0 214 3) : i_l1 D l := (hI.ag ha).2.2.2.2.2.1 l l0 (by rw [ha.s (k := 3) (by omega) (by omega)]; exact l1)
theorem Inv.l12 (hI : Inv G D0) (l1 : l < D0 214 3) : l < 12 := by have := hI.2.1.2.2.1; omega
theorem c_coA (hI : Inv G D0) (ha : ag D0 D) (l0 : 0 ≤ l) (l1 : l < D0 214 3) (hr : r = 18 ∨ r = 20) (hW : wdL W) (hw : cW D r W) (h : ∀ z D', ag D0 D' → (∀ c k, c ≠ r → c ≠ r + 1 → (c < 142 ∨ 214 ≤ c) → D' c k = D c k) → cW D' r (apl D0 l W) → P z D') : Call E (d + 4) 0 0 mX4_comeOver [vR (142 + 6 * l), vR r] G D (retI G P) := by
  have l12 := hI.l12 l1
  have ir : isW r := by
    rcases hr with rfl | rfl
    · exact isW.trial
    · exact isW.other
  refine c_comeOver hI.1 l0 l12 (inv_l1 hI ha l0 l1) ir hW hw (fun D' fr c' => ?_)
  rw [apl_ag ha] at c' ⊢
  refine h _ D' (ha.trans (fun c k p => fr c k ?_ ?_ ?_)) (fun c k p q u => fr c k (by omega) q (by omega)) c'
  · unfold pers at p; omega
  · unfold pers at p; omega
  · unfold pers at p; omega
theorem c_copyA (hI : Inv G D0) (ha : ag D0 D) (j0 : 0 ≤ j) (j1 : j < 60) (hr : r = 18 ∨ r = 20) (h : ∀ D', ag D0 D' → (∀ c k, c ≠ r → c ≠ r + 1 → D' c k = D c k) → cW D' r (wl D0 j) → P0 D') : Call E (d + 1) 0 0 mX10_copySounds [vR r, vR (22 + 2 * j)] G D (retV G P0) := by
  have ir : isW r := by
    rcases hr with rfl | rfl
    · exact isW.trial
    · exact isW.other
  obtain ⟨c1, c2⟩ := (hI.ag ha).cw j0 j1
  rw [wl_ag ha] at c1 c2
  have w8 := (hI.wd j0 j1).1
  refine c_copy hI.1 ir (isW.of j0 j1) (fun D' k' m' l' => h D' (ha.trans (fun c k p => k' c k ?_ ?_)) (fun c k p q => k' c k (by omega) q) ⟨by rw [m']; exact c1, fun q q0 q1 => by rw [l' q q0 (by omega)]; exact c2 q q0 q1⟩)
  · unfold pers at p; omega
  · unfold pers at p; omega
theorem c_hso (hG : Sh G) (hr : isW r) (hs : isW s) (hw : cW D r W) (hv : cW D s V) (hW : wdL W) (hV : wdL V) (h1 : W = V → P 1 D) (h0 : W ≠ V → P 0 D) : Call E d 0 0 mX10_hasSoundsOf [vR r, vR s] G D (retI G P) := by
  have w8 := hW.1
  have v8 := hV.1
  have lp : W.length = V.length → ∀ (n : Nat) (k : Int), W.length - k = n → 0 ≤ k → k ≤ W.length → (∀ q : Int, 0 ≤ q → q < k → W.getD q.toNat 0 = V.getD q.toNat 0) → Go E d 0 0 mX10_hasSoundsOf 15 [some (vR r), some (vR s), some (vI k)] [] G D (retI G P) := by
    intro el n
    induction n with
    | zero =>
      intro k kn k0 k1 z
      refine w_X10_hasSoundsOf_15 hG ⟨hr, ?_⟩
      rw [hw.1]
      exact br_le (fun _ => rI (h1 (l_ext el (fun q q0 q1 => z q q0 (by omega))))) (fun g => by omega)
    | succ n ih =>
      intro k kn k0 k1 z
      have p1 := hW.2 k.toNat (by omega)
      have p2 := hV.2 k.toNat (by omega)
      refine w_X10_hasSoundsOf_15 hG ⟨hr, ?_⟩
      rw [hw.1]
      refine br_le (fun g => by omega) (fun _ => ⟨⟨by omega, by omega⟩, hs, ⟨by omega, by omega⟩, ?_⟩)
      rw [hw.2 k k0 (by omega), hv.2 k k0 (by omega)]
      refine br_eq (fun g => ih (k + 1) (by omega) (by omega) (by omega) (fun q q0 q1 => ?_)) (fun g => rI (h0 (fun e => g (by rw [e]))))
      by_cases e : q = k
      · rw [e]; omega
      · exact z q q0 (by omega)
  refine w_X10_hasSoundsOf hG hr hs ?_
  rw [hw.1, hv.1]
  exact br_eq (fun g => lp (by omega) W.length 0 (by omega) (by omega) (by omega) (fun q q0 q1 => by omega)) (fun g => rI (h0 (fun e => g (by rw [e]))))
/-- the order of two LAWS is felt -/
def fdP (D : mmD) (a b j : Int) : Prop := apl D b (apl D a (wl D j)) ≠ apl D a (apl D b (wl D j))
theorem c_iof (hI : Inv G D0) (ha : ag D0 D) (j0 : 0 ≤ j) (j1 : j < 60) (a0 : 0 ≤ a) (a1 : a < D0 214 3) (b0 : 0 ≤ b) (b1 : b < D0 214 3) (h1 : fdP D0 a b j → ∀ D', ag D0 D' → P 1 D') (h0 : ¬ fdP D0 a b j → ∀ D', ag D0 D' → P 0 D') : Call E (d + 5) 0 0 mX11_isOrderFelt [vR 2, vR (22 + 2 * j), vR (142 + 6 * a), vR (142 + 6 * b)] G D (retI G P) := by
  have hG := hI.1
  have a12 := hI.l12 a1
  have b12 := hI.l12 b1
  have hW := hI.wd j0 j1
  have la := inv_l1 hI ag.rfl a0 a1
  have lb := inv_l1 hI ag.rfl b0 b1
  have wa := apl_wd la hW
  have wb := apl_wd lb hW
  have wab := apl_wd lb wa
  have wba := apl_wd la wb
  refine w_X11_isOrderFelt hG (isW.of j0 j1) (by unfold isLw; omega) (by unfold isLw; omega) ?_
  refine c_copyA hI ha j0 j1 (Or.inl rfl) (fun D1 g1 k1 c1 => c_coA hI g1 a0 a1 (Or.inl rfl) hW c1 (fun z2 D2 g2 k2 c2 => c_coA hI g2 b0 b1 (Or.inl rfl) wa c2 (fun z3 D3 g3 k3 c3 => ?_)))
  refine c_copyA hI g3 j0 j1 (Or.inr rfl) (fun D4 g4 k4 c4 => c_coA hI g4 b0 b1 (Or.inr rfl) hW c4 (fun z5 D5 g5 k5 c5 => c_coA hI g5 a0 a1 (Or.inr rfl) wb c5 (fun z6 D6 g6 k6 c6 => ?_)))
  have c3' : cW D6 18 (apl D0 b (apl D0 a (wl D0 j))) := ⟨by rw [k6 _ _ (by omega) (by omega) (by omega), k5 _ _ (by omega) (by omega) (by omega), k4 _ _ (by omega) (by omega)]; exact c3.1, fun q q0 q1 => by rw [k6 _ _ (by omega) (by omega) (by omega), k5 _ _ (by omega) (by omega) (by omega), k4 _ _ (by omega) (by omega)]; exact c3.2 q q0 q1⟩
  exact c_hso hG isW.trial isW.other c3' c6 wab wba (fun e => n_t (rI (h0 (fun q => q e) D6 g6))) (fun e => n_f (rI (h1 e D6 g6)))
theorem c_takesA (hI : Inv G D0) (ha : ag D0 D) (hj : 10 * x1 + x2 = j) (j0 : 0 ≤ j) (j1 : j < 60) (h : ∀ D', ag D0 D' → (∀ c k, ¬ (c = 214 ∧ k = 35) → c ≠ 235 → D' c k = D c k) → rWd D' (wl D0 j) → P0 D') : Call E d 0 0 mX12_takes [vR 214, vI x1, vI x2] G D (retV G P0) := by
  have w := (hI.ag ha).ri.2.2.1 j j0 j1
  have ln := wl_len (D := D) (j := j) w.1
  refine c_takes hI.1 hj j0 j1 w (fun D' k' m' l' => h D' (ha.trans (fun c k p => k' c k ?_ ?_)) k' ?_)
  · unfold pers at p; omega
  · unfold pers at p; omega
  · rw [← wl_ag ha]
    exact ⟨by rw [m', ln], fun q q0 q1 => by rw [l' q q0 (by omega), wl_get q0 q1]⟩
theorem c_appA (hI : Inv G D0) (ha : ag D0 D) (l0 : 0 ≤ l) (l1 : l < D0 214 3) (hW : wdL W) (hw : rWd D W) (h : ∀ D', ag D0 D' → (∀ c k, ¬ (c = 214 ∧ k = 35) → c ≠ 235 → c ≠ 236 → D' c k = D c k) → rWd D' (apl D0 l W) → P0 D') : Call E (d + 4) 0 0 mX12_applies [vR 214, vI l] G D (retV G P0) := by
  have l12 := hI.l12 l1
  refine c_applies hI.1 l0 l12 (inv_l1 hI ha l0 l1) hW hw (fun D' k' r' => h D' (ha.trans (fun c k p => k' c k ?_ ?_ ?_)) k' (by rw [apl_ag ha] at r'; exact r'))
  · unfold pers at p; omega
  · unfold pers at p; omega
  · unfold pers at p; omega
theorem c_isWordA (hI : Inv G D0) (ha : ag D0 D) (hj : 10 * x1 + x2 = j) (j0 : 0 ≤ j) (j1 : j < 60) (hw : rWd D W) (hW : wdL W) (h1 : W = wl D0 j → P 1 D) (h0 : W ≠ wl D0 j → P 0 D) : Call E d 0 0 mX12_isWord [vR 214, vI x1, vI x2] G D (retI G P) :=
  c_isWord hI.1 hj j0 j1 hw hW ((hI.ag ha).wd j0 j1) ((hI.ag ha).ri.2.2.1 j j0 j1).1 (fun e => h1 (by rw [← wl_ag ha]; exact e)) (fun e => h0 (by rw [← wl_ag ha]; exact e))
theorem l_feedsC (hI : Inv G D0) (h1 : 0 ≤ x1 ∧ x1 < 6) (a0 : 0 ≤ a) (a1 : a < D0 214 3) (b0 : 0 ≤ b) (b1 : b < D0 214 3) (K : ∀ v D', ag D0 D' → ((v = 1 ∧ ∃ m, 0 ≤ m ∧ m < 10 ∧ lst D0 x1 m ∧ fdP D0 a b (10 * x1 + m)) ∨ (v = 0 ∧ ∀ m, 0 ≤ m → m < 10 → lst D0 x1 m → ¬ fdP D0 a b (10 * x1 + m))) → P v D') :
    ∀ (n : Nat) (D : mmD) (m : Int), ag D0 D → 10 - m = n → 0 ≤ m → m ≤ 10 → (∀ m', 0 ≤ m' → m' < m → lst D0 x1 m' → ¬ fdP D0 a b (10 * x1 + m')) → Go E (d + 6) 0 0 mX11_feeds 37 [some (vR 2), some (vI x1), some (vI a), some (vI b), some (vI m), none] [] G D (retI G P) := by
  have hG := hI.1
  have a12 := hI.l12 a1
  have b12 := hI.l12 b1
  intro n
  induction n with
  | zero =>
    intro D m hd mn m0 m1 z
    exact w_X11_feeds_37 hG (br_le (fun _ => rI (K 0 D hd (Or.inr ⟨rfl, fun m' p q => z m' p (by omega)⟩))) (fun g => by omega))
  | succ n ih =>
    intro D m hd mn m0 m1 z
    have nx : (lst D0 x1 m → ¬ fdP D0 a b (10 * x1 + m)) → ∀ D', ag D0 D' → Go E (d + 6) 0 0 mX11_feeds 37 [some (vR 2), some (vI x1), some (vI a), some (vI b), some (vI (m + 1)), none] [] G D' (retI G P) := fun hn D' hd' => ih D' (m + 1) hd' (by omega) (by omega) (by omega) (fun m' p q => by
      by_cases e : m' = m
      · rw [e]; exact hn
      · exact z m' p (by omega))
    refine w_X11_feeds_37 hG (br_le (fun g => by omega) (fun _ => c_listedA hI hd (by unfold rg; omega) (by unfold rg; omega) (fun lo => ⟨fun q => ?_, fun _ => ⟨⟨a0, a12⟩, ⟨b0, b12⟩, ?_⟩⟩) (fun lo => ⟨fun _ => nx (fun q => absurd q lo) D hd, fun q => absurd rfl q⟩)))
    · have := lo.j hI; omega
    · exact c_iof hI hd (lo.j hI).1 (lo.j hI).2 a0 a1 b0 b1 (fun f D' hd' => b_t (rI (K 1 D' hd' (Or.inl ⟨rfl, m, m0, by omega, lo, f⟩)))) (fun f D' hd' => b_f (nx (fun _ => f) D' hd'))
theorem l_feedsR (hI : Inv G D0) (h1 : 0 ≤ x1 ∧ x1 < 6) (a0 : 0 ≤ a) (a1 : a < D0 214 3) (b0 : 0 ≤ b) (b1 : b < D0 214 3) (K : ∀ v D', ag D0 D' → ((v = 1 ∧ ∃ m, 0 ≤ m ∧ m < 10 ∧ lst D0 x1 m ∧ fdP D0 a b (10 * x1 + m)) ∨ (v = 0 ∧ ∀ m, 0 ≤ m → m < 10 → lst D0 x1 m → ¬ fdP D0 a b (10 * x1 + m))) → P v D') :
    ∀ (n : Nat) (D : mmD) (m : Int), ag D0 D → 10 - m = n → 0 ≤ m → m ≤ 10 → (∀ m', 0 ≤ m' → m' < m → lst D0 x1 m' → ¬ fdP D0 a b (10 * x1 + m')) → Go E (d + 6) 0 0 mX12_feeds 37 [some (vR 214), some (vI x1), some (vI a), some (vI b), some (vI m), none, none, none] [] G D (retI G P) := by
  have hG := hI.1
  have a12 := hI.l12 a1
  have b12 := hI.l12 b1
  intro n
  induction n with
  | zero =>
    intro D m hd mn m0 m1 z
    exact w_X12_feeds_37 hG (br_le (fun _ => rI (K 0 D hd (Or.inr ⟨rfl, fun m' p q => z m' p (by omega)⟩))) (fun g => by omega))
  | succ n ih =>
    intro D m hd mn m0 m1 z
    have nx : (lst D0 x1 m → ¬ fdP D0 a b (10 * x1 + m)) → ∀ D', ag D0 D' → Go E (d + 6) 0 0 mX12_feeds 37 [some (vR 214), some (vI x1), some (vI a), some (vI b), some (vI (m + 1)), none, none, none] [] G D' (retI G P) := fun hn D' hd' => ih D' (m + 1) hd' (by omega) (by omega) (by omega) (fun m' p q => by
      by_cases e : m' = m
      · rw [e]; exact hn
      · exact z m' p (by omega))
    refine w_X12_feeds_37 hG (br_le (fun g => by omega) (fun _ => c_hasA hI hd (by unfold rg; omega) (by unfold rg; omega) (fun lo => b_t ?_) (fun lo => b_f (nx (fun q => absurd q lo) D hd))))
    obtain ⟨j0, j1⟩ := lo.j hI
    have hW := hI.wd j0 j1
    have la := inv_l1 hI ag.rfl a0 a1
    have lb := inv_l1 hI ag.rfl b0 b1
    have wa := apl_wd la hW
    have wb := apl_wd lb hW
    have wab := apl_wd lb wa
    have wba := apl_wd la wb
    refine c_takesA hI hd rfl j0 j1 (fun D1 g1 k1 r1 => c_appA hI g1 a0 a1 hW r1 (fun D2 g2 k2 r2 => c_appA hI g2 b0 b1 wa r2 (fun D3 g3 k3 r3 => ?_)))
    rw [r3.1]
    generalize hA : apl D0 b (apl D0 a (wl D0 (10 * x1 + m))) = A at *
    generalize hB : apl D0 a (apl D0 b (wl D0 (10 * x1 + m))) = B at *
    have A8 := wab.1
    have B8 := wba.1
    have hf : fdP D0 a b (10 * x1 + m) ↔ A ≠ B := by unfold fdP; rw [hA, hB]
    -- the second comparison
    have cmp : ∀ (n : Nat) (D' : mmD) (x k : Int), ag D0 D' → rWd D' B → (∀ q : Int, 0 ≤ q → q < A.length → D' 242 q = A.getD q.toNat 0) → A.length - k = n → 0 ≤ k → k ≤ A.length → ((x = 0 ∧ A ≠ B) ∨ (x = 1 ∧ A.length = B.length ∧ ∀ q : Int, 0 ≤ q → q < k → A.getD q.toNat 0 = B.getD q.toNat 0)) → Go E (d + 6) 0 0 mX12_feeds 143 [some (vR 214), some (vI x1), some (vI a), some (vI b), some (vI m), some (vI (A.length : Int)), some (vI x), some (vI k)] [] G D' (retI G P) := by
      intro n
      induction n with
      | zero =>
        intro D' x k hd' hb ho kn k0 k1 hx
        refine w_X12_feeds_143 hG (br_le (fun _ => ?_) (fun g => by omega))
        rcases hx with ⟨rfl, hx⟩ | ⟨rfl, hx1, hx2⟩
        · exact n_f (rI (K 1 D' hd' (Or.inl ⟨rfl, m, m0, by omega, lo, hf.mpr hx⟩)))
        · exact n_t (nx (fun _ q => hf.mp q (l_ext hx1 (fun q q0 q1 => hx2 q q0 (by omega)))) D' hd')
      | succ n ih =>
        intro D' x k hd' hb ho kn k0 k1 hx
        refine w_X12_feeds_143 hG (br_le (fun g => by omega) (fun _ => ?_))
        rcases hx with ⟨rfl, hx⟩ | ⟨rfl, hx1, hx2⟩
        · exact b_f (n_f (rI (K 1 D' hd' (Or.inl ⟨rfl, m, m0, by omega, lo, hf.mpr hx⟩))))
        · have p1 := wab.2 k.toNat (by omega)
          have p2 := wba.2 k.toNat (by omega)
          refine b_t ⟨⟨by omega, by omega⟩, ⟨by omega, by omega⟩, ?_⟩
          rw [hb.2 k k0 (by omega), ho k k0 (by omega)]
          refine br_ne (fun g => ih D' 0 (k + 1) hd' hb ho (by omega) (by omega) (by omega) (Or.inl ⟨rfl, fun e => g (by rw [e])⟩)) (fun g => ih D' 1 (k + 1) hd' hb ho (by omega) (by omega) (by omega) (Or.inr ⟨rfl, hx1, fun q q0 q1 => ?_⟩))
          by_cases e : q = k
          · rw [e]; exact g.symm
          · exact hx2 q q0 (by omega)
    have cpy : ∀ (n : Nat) (D' : mmD) (k : Int), ag D0 D' → rWd D' A → A.length - k = n → 0 ≤ k → k ≤ A.length → (∀ q : Int, 0 ≤ q → q < k → D' 242 q = A.getD q.toNat 0) → Go E (d + 6) 0 0 mX12_feeds 80 [some (vR 214), some (vI x1), some (vI a), some (vI b), some (vI m), some (vI (A.length : Int)), some (vI k), none] [] G D' (retI G P) := by
      intro n
      induction n with
      | zero =>
        intro D' k hd' hr kn k0 k1 ho
        refine w_X12_feeds_80 hG (br_le (fun _ => c_takesA hI hd' rfl j0 j1 (fun D1 g1 k1 r1 => c_appA hI g1 b0 b1 hW r1 (fun D2 g2 k2 r2 => c_appA hI g2 a0 a1 wb r2 (fun D3 g3 k3 r3 => ?_)))) (fun g => by omega))
        rw [hB] at r3
        have ho3 : ∀ q : Int, 0 ≤ q → q < A.length → D3 242 q = A.getD q.toNat 0 := fun q q0 q1 => by
          rw [k3 _ _ (by omega) (by omega) (by omega), k2 _ _ (by omega) (by omega) (by omega), k1 _ _ (by omega) (by omega)]
          exact ho q q0 (by omega)
        rw [r3.1]
        exact br_ne (fun g => cmp A.length D3 0 0 g3 r3 ho3 (by omega) (by omega) (by omega) (Or.inl ⟨rfl, fun e => g (by rw [e])⟩)) (fun g => cmp A.length D3 1 0 g3 r3 ho3 (by omega) (by omega) (by omega) (Or.inr ⟨rfl, by omega, fun q q0 q1 => by omega⟩))
      | succ n ih =>
        intro D' k hd' hr kn k0 k1 ho
        refine w_X12_feeds_80 hG (br_le (fun g => by omega) (fun _ => ⟨⟨by omega, by omega⟩, ⟨by omega, by omega⟩, fun D1 e1 => ih D1 (k + 1) (hd'.trans (fun c q p => ?_)) ⟨?_, fun q q0 q1 => ?_⟩ (by omega) (by omega) (by omega) (fun q q0 q1 => ?_)⟩))
        · rw [e1, up2_ne (by unfold pers at p; omega)]
        · rw [e1, up2_ne (by omega)]; exact hr.1
        · rw [e1, up2_ne (by omega)]; exact hr.2 q q0 q1
        · by_cases e : q = k
          · subst e; rw [e1, up2_same]; exact hr.2 q q0 (by omega)
          · rw [e1, up2_ne (by omega)]; exact ho q q0 (by omega)
    exact cpy A.length D3 0 g3 r3 (by omega) (by omega) (by omega) (fun q q0 q1 => by omega)
theorem p_feeds (hI : Inv G D0) (h1 : rg x1) (h2 : rg x2) (h3 : rg x3) : Pair E (d + 6) mX11_feeds mX12_feeds [vI x1, vI x2, vI x3] G D0 := by
  have hG := hI.1
  have s1 := hI.2.1.1
  have h2' := h2
  have h3' := h3
  unfold rg at h2' h3'
  have no : ∀ v : Int, ((x1 < 0 ∨ D0 214 1 ≤ x1 ∨ x2 < 0 ∨ D0 214 3 ≤ x2 ∨ x3 < 0 ∨ D0 214 3 ≤ x3) → v = -1) → (0 ≤ x1 → x1 < D0 214 1 → 0 ≤ x2 → x2 < D0 214 3 → 0 ≤ x3 → x3 < D0 214 3 → v = -2 ∧ x2 = x3) → Call E (d + 6) 0 0 mX12_feeds [vR 214, vI x1, vI x2, vI x3] G D0 (retI G (fun y D2 => iv v = iv y ∧ Inv G D2)) := fun v v1 v2 =>
    w_X12_feeds hG (c_rTongue hG hI.ri h1 (fun a b => b_t (c_rLaw hG hI.ri h2 (fun a' b' => b_t (c_rLaw hG hI.ri h3 (fun p q => n_t (br_ne (fun g => absurd (v2 a b a' b' p q).2 g) (fun g => rI ⟨by rw [(v2 a b a' b' p q).1], hI⟩))) (fun g => n_f (rI ⟨by rw [v1 (by omega)], hI⟩)))) (fun g => b_f (rI ⟨by rw [v1 (by omega)], hI⟩)))) (fun g => b_f (rI ⟨by rw [v1 (by omega)], hI⟩)))
  refine w_X11_feeds hG (c_isTongue hI h1 (fun a b => b_t (c_isLaw hI h2 (fun a' b' => b_t (c_isLaw hI h3 (fun p q => n_t (br_ne (fun ne => ?_) (fun e => rI (no _ (by omega) (fun _ _ _ _ _ _ => ⟨rfl, e⟩))))) (fun g => n_f (rI (no _ (fun _ => rfl) (by omega)))))) (fun g => b_f (rI (no _ (fun _ => rfl) (by omega)))))) (fun g => b_f (rI (no _ (fun _ => rfl) (by omega)))))
  refine l_feedsC hI ⟨a, by omega⟩ a' b' p q (fun v D1 hd1 hv => ?_) 10 D0 0 ag.rfl (by omega) (by omega) (by omega) (fun m p q => by omega)
  have r1 := (hI.ag hd1).ri
  have e1 : D1 214 1 = D0 214 1 := hd1.s (by omega) (by omega)
  have e3 : D1 214 3 = D0 214 3 := hd1.s (by omega) (by omega)
  refine w_X12_feeds hG (c_rTongue hG r1 h1 (fun _ _ => b_t (c_rLaw hG r1 h2 (fun _ _ => b_t (c_rLaw hG r1 h3 (fun _ _ => n_t (br_ne (fun _ => ?_) (fun e => absurd e ne))) (fun g => by omega))) (fun g => by omega))) (fun g => by omega))
  refine l_feedsR hI ⟨a, by omega⟩ a' b' p q (fun y D2 hd2 hy => ⟨?_, hI.ag hd2⟩) 10 D1 0 hd1 (by omega) (by omega) (by omega) (fun m p q => by omega)
  rcases hv with ⟨rfl, m, m0, m1, lo, f⟩ | ⟨rfl, hn⟩
  · rcases hy with ⟨rfl, -⟩ | ⟨rfl, hn⟩
    · rfl
    · exact absurd f (hn m m0 m1 lo)
  · rcases hy with ⟨rfl, m, m0, m1, lo, f⟩ | ⟨rfl, -⟩
    · exact absurd f (hn m m0 m1 lo)
    · rfl
end Feeds
