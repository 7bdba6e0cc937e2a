/-! ===== a LAW over a WORD, in the reference ===== -/
/-- the WORD in the reference's row -/
def rWd (D : mmD) (W : List Int) : Prop := D 214 35 = W.length ∧ ∀ q : Int, 0 ≤ q → q < W.length → D 235 q = W.getD q.toNat 0
/-- the WORD of a place -/
def wl (D : mmD) (j : Int) : List Int := (List.range (D 216 j).toNat).map (fun (q : Nat) => D 217 (8 * j + (q : Int)))
theorem wl_len {D : mmD} {j : Int} (h : 0 ≤ D 216 j) : ((wl D j).length : Int) = D 216 j := by
  unfold wl
  rw [List.length_map, List.length_range]
  omega
theorem wl_get {D : mmD} {j q : Int} (h0 : 0 ≤ q) (h1 : q < (wl D j).length) : (wl D j).getD q.toNat 0 = D 217 (8 * j + q) := by
  unfold wl at h1 ⊢
  rw [List.length_map, List.length_range] at h1
  rw [List.getD_eq_getElem?_getD, List.getElem?_map, List.getElem?_range (by omega)]
  show D 217 (8 * j + (q.toNat : Int)) = _
  rw [Int.toNat_of_nonneg h0]
theorem wl_keep {D D' : mmD} {j : Int} (h : D' 216 j = D 216 j) (h2 : ∀ q, 0 ≤ q → q < D 216 j → D' 217 (8 * j + q) = D 217 (8 * j + q)) : wl D' j = wl D j := by
  unfold wl
  rw [h]
  refine List.map_congr_left (fun q hq => ?_)
  have := List.mem_range.mp hq
  exact h2 _ (by omega) (by omega)
theorem l_ext {W V : List Int} (h : W.length = V.length) (h2 : ∀ q : Int, 0 ≤ q → q < W.length → W.getD q.toNat 0 = V.getD q.toNat 0) : W = V := by
  refine List.ext_getElem h (fun i a b => ?_)
  have := h2 i (by omega) (by omega)
  rw [Int.toNat_natCast, List.getD_eq_getElem?_getD, List.getD_eq_getElem?_getD, List.getElem?_eq_getElem a, List.getElem?_eq_getElem b] at this
  exact this
theorem Inv.wd {G : mmG} {D : mmD} {j : Int} (hI : Inv G D) (j0 : 0 ≤ j) (j1 : j < 60) : wdL (wl D j) := by
  obtain ⟨⟨w1, w2, w3⟩, w4, -⟩ := hI.2.2.2.1 j j0 j1
  have e := wl_len (D := D) (j := j) w2
  refine ⟨by omega, fun k hk => ?_⟩
  have g := wl_get (D := D) (j := j) (q := (k : Int)) (by omega) (by omega)
  rw [Int.toNat_natCast] at g
  rw [g]
  exact (w4 k (by omega) (by omega)).2
theorem Inv.cw {G : mmG} {D : mmD} {j : Int} (hI : Inv G D) (j0 : 0 ≤ j) (j1 : j < 60) : cW D (22 + 2 * j) (wl D j) := by
  obtain ⟨⟨w1, w2, w3⟩, w4, -⟩ := hI.2.2.2.1 j j0 j1
  have e := wl_len (D := D) (j := j) w2
  refine ⟨by rw [e]; exact w1, fun q q0 q1 => ?_⟩
  rw [wl_get q0 q1]
  have := (w4 q q0 (by omega)).1
  omega
section ApplyR
variable {E : mmE} {d : Nat} {G : mmG} {D D0 : mmD} {P : Int → mmD → Prop} {P0 : mmD → Prop} {W : List Int} {l k c r p x i j x1 x2 : Int}
theorem c_isAs (hG : Sh G) (hp : 0 ≤ p ∧ p ≤ 29) (hx : 1 ≤ x ∧ x ≤ 26) (h1 : asP p x → P 1 D) (h0 : ¬ asP p x → P 0 D) : Call E (d + 1) 0 0 mX12_isAs [vI p, vI x] G D (retI G P) := by
  unfold asP at h1 h0
  refine w_X12_isAs hG (br_eq (fun a => rI (h1 (Or.inl a))) (fun a => br_ne (fun b => br_ne (fun g => rI (h0 (by omega))) (fun g => c_rVowel hG (by unfold rg; omega) ?_)) (fun b => c_rVowel hG (by unfold rg; omega) ?_)))
  · rcases vow_v (x := x) with v | v
    · rw [v]; exact n_f (rI (h1 (Or.inr (Or.inr ⟨g, v⟩))))
    · rw [v]; exact n_t (rI (h0 (by omega)))
  · rcases vow_v (x := x) with v | v
    · rw [v]; exact n_f (br_ne (fun g => rI (h0 (by omega))) (fun g => by omega))
    · rw [v]; exact n_t (rI (h1 (Or.inr (Or.inl ⟨b, v⟩))))
theorem c_stands (hG : Sh G) (hp : 0 ≤ p ∧ p ≤ 29) (hW : wdL W) (hm : D 214 35 = W.length) (hb : ∀ q : Int, 0 ≤ q → q < W.length → D 236 q = W.getD q.toNat 0) (hk : -1 ≤ k ∧ k ≤ 8) (h1 : stP W p k → P 1 D) (h0 : ¬ stP W p k → P 0 D) : Call E (d + 2) 0 0 mX12_stands [vR 214, vI p, vI k] G D (retI G P) := by
  have w8 := hW.1
  refine w_X12_stands hG ?_
  rw [hm]
  refine c_in hG (by unfold rg; omega) (by unfold rg; omega) (by unfold rg; omega) (fun a b => ?_) (fun a => ?_)
  · refine br_eq (fun e => rI (h1 (Or.inl e))) (fun e => br_ne (fun f => b_t ⟨⟨by omega, by omega⟩, ?_⟩) (fun f => n_t (rI (h0 (fun q => ?_)))))
    · have w := hW.2 k.toNat (by omega)
      rw [hb k a (by omega)]
      refine c_isAs hG hp w (fun g => b_t (rI (h1 (Or.inr (Or.inr ⟨f, ⟨a, by omega⟩, g⟩))))) (fun g => b_f (rI (h0 (fun q => ?_))))
      rcases q with q | ⟨q1, q2⟩ | ⟨q1, q2, q3⟩
      · exact e q
      · exact f q1
      · exact g q3
    · rcases q with q | ⟨q1, q2⟩ | ⟨q1, q2, q3⟩
      · exact e q
      · omega
      · exact q1 f
  · refine br_eq (fun e => rI (h1 (Or.inl e))) (fun e => br_ne (fun f => b_f (rI (h0 (fun q => ?_)))) (fun f => n_f (rI (h1 (Or.inr (Or.inl ⟨f, by omega⟩))))))
    rcases q with q | ⟨q1, q2⟩ | ⟨q1, q2, q3⟩
    · exact e q
    · exact f q1
    · omega
theorem c_changeOf (hG : Sh G) (l0 : 0 ≤ l) (l12 : l < 12) (hl : i_l1 D l) (hW : wdL W) (hm : D 214 35 = W.length) (hb : ∀ q : Int, 0 ≤ q → q < W.length → D 236 q = W.getD q.toNat 0) (k0 : 0 ≤ k) (k1 : k < W.length) (h : ∀ z, (z = -1 ∧ lfn D l W k = W.getD k.toNat 0) ∨ (0 ≤ z ∧ z < 78 ∧ lfn D l W k = D 225 z) → P z D) : Call E (d + 3) 0 0 mX12_changeOf [vR 214, vI l, vI k] G D (retI G P) := by
  have w8 := hW.1
  obtain ⟨⟨n1, n2, n3⟩, hc⟩ := hl
  have lp : ∀ (n : Nat) (c : Int), D 223 l - c = n → 0 ≤ c → c ≤ D 223 l → lfs D l W k n c = lfn D l W k → Go E (d + 3) 0 0 mX12_changeOf 5 [some (vR 214), some (vI l), some (vI k), some (vI (6 * l + c))] [] G D (retI G P) := by
    intro n
    induction n with
    | zero =>
      intro c cn c0 c1 e
      refine w_X12_changeOf_5 hG ⟨⟨by omega, by omega⟩, br_le (fun _ => rI (h _ (Or.inl ⟨rfl, ?_⟩))) (fun g => by omega)⟩
      simp only [lfs] at e
      exact e.symm
    | succ n ih =>
      intro c cn c0 c1 e
      obtain ⟨g1, g2, g3, g4⟩ := hc c c0 (by omega)
      simp only [lfs] at e
      have wk := hW.2 k.toNat (by omega)
      have r1 : 0 ≤ D 224 (6 * l + c) ∧ D 224 (6 * l + c) ≤ 29 := by unfold l_sig at g1; omega
      have r3 : 0 ≤ D 226 (6 * l + c) ∧ D 226 (6 * l + c) ≤ 29 := by unfold l_sid l_sig at g3; omega
      have r4 : 0 ≤ D 227 (6 * l + c) ∧ D 227 (6 * l + c) ≤ 29 := by unfold l_sid l_sig at g4; omega
      have nx : ¬ mtP D l W k c → Go E (d + 3) 0 0 mX12_changeOf 5 [some (vR 214), some (vI l), some (vI k), some (vI (6 * l + c + 1))] [] G D (retI G P) := fun hn => by
        rw [cif_f hn] at e
        have := ih (c + 1) (by omega) (by omega) (by omega) e
        rw [show 6 * l + (c + 1) = 6 * l + c + 1 by omega] at this
        exact this
      refine w_X12_changeOf_5 hG ⟨⟨by omega, by omega⟩, br_le (fun g => by omega) (fun _ => ⟨⟨by omega, by omega⟩, ⟨by omega, by omega⟩, ?_⟩)⟩
      rw [hb k k0 k1]
      refine c_isAs hG r1 wk (fun a => b_t ⟨⟨by omega, by omega⟩, ?_⟩) (fun a => b_f (nx (fun q => a q.1)))
      refine c_stands hG r3 hW hm hb (by omega) (fun b => b_t ⟨⟨by omega, by omega⟩, ?_⟩) (fun b => b_f (nx (fun q => b q.2.1)))
      refine c_stands hG r4 hW hm hb (by omega) (fun b' => b_t ?_) (fun b' => b_f (nx (fun q => b' q.2.2)))
      rw [cif_t ⟨a, b, b'⟩] at e
      exact rI (h _ (Or.inr ⟨by omega, by omega, e.symm⟩))
  have := lp (D 223 l).toNat 0 (by omega) (by omega) (by omega) rfl
  rw [Int.add_zero] at this
  exact w_X12_changeOf hG this
theorem c_applies (hG : Sh G) (l0 : 0 ≤ l) (l12 : l < 12) (hl : i_l1 D l) (hW : wdL W) (hw : rWd D W) (h : ∀ D', (∀ c k, ¬ (c = 214 ∧ k = 35) → c ≠ 235 → c ≠ 236 → D' c k = D c k) → rWd D' (apl D l W) → P0 D') : Call E (d + 4) 0 0 mX12_applies [vR 214, vI l] G D (retV G P0) := by
  have w8 := hW.1
  have bk : ∀ (n : Nat) (D' : mmD) (k : Int), W.length - k = n → 0 ≤ k → k ≤ W.length → (∀ c j, c ≠ 235 → c ≠ 236 → D' c j = D c j) → (∀ q : Int, 0 ≤ q → q < W.length → D' 236 q = W.getD q.toNat 0) → (∀ q : Int, 0 ≤ q → q < k → D' 235 q = W.getD q.toNat 0) → apl D l W = W → Go E (d + 4) 0 0 mX12_applies 100 [some (vR 214), none, none, some (vI k), none, none] [] G D' (retV G P0) := by
    intro n
    induction n with
    | zero =>
      intro D' k kn k0 k1 fr bf z ea
      refine w_X12_applies_100 hG ?_
      rw [fr 214 35 (by omega) (by omega), hw.1]
      refine br_le (fun _ => rV (h D' (fun c j _ p q => fr c j p q) ?_)) (fun g => by omega)
      rw [ea]
      exact ⟨by rw [fr 214 35 (by omega) (by omega)]; exact hw.1, fun q q0 q1 => z q q0 (by omega)⟩
    | succ n ih =>
      intro D' k kn k0 k1 fr bf z ea
      refine w_X12_applies_100 hG ?_
      rw [fr 214 35 (by omega) (by omega), hw.1]
      refine br_le (fun g => by omega) (fun _ => ⟨⟨by omega, by omega⟩, ⟨by omega, by omega⟩, fun D1 e1 => ih D1 (k + 1) (by omega) (by omega) (by omega) (fun c j p q => ?_) (fun q q0 q1 => ?_) (fun q q0 q1 => ?_) ea⟩)
      · rw [e1, up2_ne (fun t => p t.1)]; exact fr c j p q
      · rw [e1, up2_ne (by omega)]; exact bf q q0 q1
      · by_cases e : q = k
        · subst e; rw [e1, up2_same]; exact bf q q0 (by omega)
        · rw [e1, up2_ne (by omega)]; exact z q q0 (by omega)
  have lp : ∀ (n : Nat) (D' : mmD) (k : Int), W.length - k = n → 0 ≤ k → k ≤ W.length → (∀ c j, c ≠ 235 → c ≠ 236 → D' c j = D c j) → (∀ q : Int, 0 ≤ q → q < W.length → D' 236 q = W.getD q.toNat 0) → (∀ q : Int, 0 ≤ q → q < (rls (lfn D l W) k.toNat).length → D' 235 q = (rls (lfn D l W) k.toNat).getD q.toNat 0) → Go E (d + 4) 0 0 mX12_applies 32 [some (vR 214), some (vI l), some (vI ((rls (lfn D l W) k.toNat).length : Int)), some (vI k), none, none] [] G D' (retV G P0) := by
    intro n
    induction n with
    | zero =>
      intro D' k kn k0 k1 fr bf z
      have et : k.toNat = W.length := by omega
      rw [et] at z ⊢
      have rl := rls_len (lfn D l W) W.length
      refine w_X12_applies_32 hG ?_
      rw [fr 214 35 (by omega) (by omega), hw.1]
      refine br_le (fun _ => br_ne (fun g D1 e1 => rV (h D1 (fun c j p q r => ?_) ?_)) (fun g => bk W.length D' 0 (by omega) (by omega) (by omega) fr bf (fun q q0 q1 => by omega) ?_)) (fun g => by omega)
      · rw [e1, up2_ne p]; exact fr c j q r
      · have ne : rls (lfn D l W) W.length ≠ [] := fun q => g (by rw [q]; rfl)
        have ea : apl D l W = rls (lfn D l W) W.length := by unfold apl; rw [cif_f ne]
        rw [ea]
        exact ⟨by rw [e1, up2_same], fun q q0 q1 => by rw [e1, up2_ne (by omega)]; exact z q q0 q1⟩
      · have ne : rls (lfn D l W) W.length = [] := List.eq_nil_of_length_eq_zero (by omega)
        unfold apl; rw [cif_t ne]
    | succ n ih =>
      intro D' k kn k0 k1 fr bf z
      have rl := rls_len (lfn D l W) k.toNat
      have hl' : i_l1 D' l := hl.keep (fr _ _ (by omega) (by omega)) (fun j => fr _ _ (by omega) (by omega)) (fun j => fr _ _ (by omega) (by omega)) (fun j => fr _ _ (by omega) (by omega)) (fun j => fr _ _ (by omega) (by omega)) (fr _ _ (by omega) (by omega)) (fun j _ _ => ⟨fr _ _ (by omega) (by omega), fr _ _ (by omega) (by omega), fr _ _ (by omega) (by omega), fr _ _ (by omega) (by omega)⟩)
      have ke : lfn D' l W = lfn D l W := lfn_keep (fun a c p q => fr a c (by omega) (by omega))
      have es := rls_s (f := lfn D l W) k0
      have rg' := lfn_rg hl hW k0 (show k < W.length by omega)
      have fin : ∀ v : Int, v = lfn D l W k → ((iv v ≤ iv 0 → Go E (d + 4) 0 0 mX12_applies 32 [some (vR 214), some (vI l), some (vI ((rls (lfn D l W) k.toNat).length : Int)), some (vI (k + 1)), none, none] [] G D' (retV G P0)) ∧ (¬ iv v ≤ iv 0 → ((0 ≤ ((rls (lfn D l W) k.toNat).length : Int) ∧ ((rls (lfn D l W) k.toNat).length : Int) < 8) ∧ (∀ D4 : mmD, D4 = up2 D' 235 ((rls (lfn D l W) k.toNat).length : Int) v → Go E (d + 4) 0 0 mX12_applies 32 [some (vR 214), some (vI l), some (vI (((rls (lfn D l W) k.toNat).length : Int) + 1)), some (vI (k + 1)), none, none] [] G D4 (retV G P0))))) := by
        intro v hv
        subst hv
        refine br_le (fun g => ?_) (fun g => ⟨⟨by omega, by omega⟩, fun D4 e4 => ?_⟩)
        · rw [cif_t (by omega)] at es
          have nx := ih D' (k + 1) (by omega) (by omega) (by omega) fr bf
          rw [es] at nx
          exact nx z
        · rw [cif_f (by omega)] at es
          have nx := ih D4 (k + 1) (by omega) (by omega) (by omega) (fun c j p q => by rw [e4, up2_ne (fun t => p t.1)]; exact fr c j p q) (fun q q0 q1 => by rw [e4, up2_ne (by omega)]; exact bf q q0 q1)
          rw [es] at nx
          have le : ((rls (lfn D l W) k.toNat ++ [lfn D l W k]).length : Int) = ((rls (lfn D l W) k.toNat).length : Int) + 1 := by simp
          rw [le] at nx
          refine nx (fun q q0 q1 => ?_)
          by_cases e : q = ((rls (lfn D l W) k.toNat).length : Int)
          · rw [e4, e, up2_same, Int.toNat_natCast, getD_end]
          · rw [e4, up2_ne (by omega), getD_app (by omega)]
            exact z q q0 (by omega)
      refine w_X12_applies_32 hG ?_
      rw [fr 214 35 (by omega) (by omega), hw.1]
      refine br_le (fun g => by omega) (fun _ => c_changeOf hG l0 l12 hl' hW (by rw [fr 214 35 (by omega) (by omega)]; exact hw.1) bf k0 (by omega) (fun z' hz => ?_))
      rw [ke] at hz
      refine br_ne (fun g => ?_) (fun g => ?_)
      · rcases hz with hz | ⟨z0, z1, hz⟩
        · omega
        · exact ⟨⟨z0, z1⟩, fin _ hz.symm⟩
      · rcases hz with ⟨_, hz⟩ | hz
        · exact ⟨⟨by omega, by omega⟩, fin _ (by rw [bf k k0 (by omega)]; exact hz.symm)⟩
        · omega
  have cp : ∀ (n : Nat) (D' : mmD) (k : Int), W.length - k = n → 0 ≤ k → k ≤ W.length → (∀ c j, c ≠ 236 → D' c j = D c j) → (∀ q : Int, 0 ≤ q → q < k → D' 236 q = W.getD q.toNat 0) → Go E (d + 4) 0 0 mX12_applies 2 [some (vR 214), some (vI l), some (vI k), none, none, none] [] G D' (retV G P0) := by
    intro n
    induction n with
    | zero =>
      intro D' k kn k0 k1 fr z
      refine w_X12_applies_2 hG ?_
      rw [fr 214 35 (by omega), hw.1]
      exact br_le (fun _ => lp W.length D' 0 (by omega) (by omega) (by omega) (fun c j _ p => fr c j p) (fun q q0 q1 => z q q0 (by omega)) (fun q q0 q1 => by simp [rls] at q1; omega)) (fun g => by omega)
    | succ n ih =>
      intro D' k kn k0 k1 fr z
      refine w_X12_applies_2 hG ?_
      rw [fr 214 35 (by omega), hw.1]
      refine br_le (fun g => by omega) (fun _ => ⟨⟨by omega, by omega⟩, ⟨by omega, by omega⟩, fun D1 e1 => ih D1 (k + 1) (by omega) (by omega) (by omega) (fun c j p => ?_) (fun q q0 q1 => ?_)⟩)
      · rw [e1, up2_ne (fun t => p t.1)]; exact fr c j p
      · by_cases e : q = k
        · subst e; rw [e1, up2_same, fr _ _ (by omega)]; exact hw.2 q q0 (by omega)
        · rw [e1, up2_ne (by omega)]; exact z q q0 (by omega)
  exact w_X12_applies hG (cp W.length D 0 (by omega) (by omega) (by omega) (fun _ _ _ => rfl) (fun q q0 q1 => by omega))
theorem c_isWord (hG : Sh G) (hj : 10 * x1 + x2 = j) (j0 : 0 ≤ j) (j1 : j < 60) (hw : rWd D W) (hW : wdL W) (hV : wdL (wl D j)) (v0 : 0 ≤ D 216 j) (h1 : W = wl D j → P 1 D) (h0 : W ≠ wl D j → P 0 D) : Call E d 0 0 mX12_isWord [vR 214, vI x1, vI x2] G D (retI G P) := by
  have w8 := hW.1
  have v8 := hV.1
  have vl := wl_len v0
  have lp : ∀ (n : Nat) (x k : Int), W.length - k = n → 0 ≤ k → k ≤ W.length → ((x = 0 ∧ W ≠ wl D j) ∨ (x = 1 ∧ W.length = (wl D j).length ∧ ∀ q : Int, 0 ≤ q → q < k → W.getD q.toNat 0 = (wl D j).getD q.toNat 0)) → Go E d 0 0 mX12_isWord 27 [some (vR 214), some (vI x1), some (vI x2), some (vI x), some (vI k)] [] G D (retI G P) := by
    intro n
    induction n with
    | zero =>
      intro x k kn k0 k1 hx
      refine w_X12_isWord_27 hG ?_
      rw [hw.1]
      refine br_le (fun _ => ?_) (fun g => by omega)
      rcases hx with ⟨rfl, hx⟩ | ⟨rfl, hx1, hx2⟩
      · exact ⟨Or.inl rfl, rI (h0 hx)⟩
      · exact ⟨Or.inr rfl, rI (h1 (l_ext hx1 (fun q q0 q1 => hx2 q q0 (by omega))))⟩
    | succ n ih =>
      intro x k kn k0 k1 hx
      refine w_X12_isWord_27 hG ?_
      rw [hw.1]
      refine br_le (fun g => by omega) (fun _ => ?_)
      rcases hx with ⟨rfl, hx⟩ | ⟨rfl, hx1, hx2⟩
      · exact b_f ⟨Or.inl rfl, rI (h0 hx)⟩
      · refine b_t ⟨⟨by omega, by omega⟩, ⟨by omega, by omega⟩, ?_⟩
        have a := hW.2 k.toNat (by omega)
        have b := hV.2 k.toNat (by omega)
        rw [show 80 * x1 + 8 * x2 + k = 8 * j + k by omega, hw.2 k k0 (by omega), ← wl_get (D := D) (j := j) (q := k) k0 (by omega)]
        refine br_ne (fun g => ih 0 (k + 1) (by omega) (by omega) (by omega) (Or.inl ⟨rfl, fun e => g (by rw [e])⟩)) (fun g => ih 1 (k + 1) (by omega) (by omega) (by omega) (Or.inr ⟨rfl, hx1, fun q q0 q1 => ?_⟩))
        by_cases e : q = k
        · rw [e]; exact g
        · exact hx2 q q0 (by omega)
  refine w_X12_isWord hG ?_
  rw [hj, hw.1]
  refine ⟨⟨j0, j1⟩, br_ne (fun g => lp W.length 0 0 (by omega) (by omega) (by omega) (Or.inl ⟨rfl, fun e => g (by rw [e]; exact vl)⟩)) (fun g => lp W.length 1 0 (by omega) (by omega) (by omega) (Or.inr ⟨rfl, by omega, fun q q0 q1 => by omega⟩))⟩
end ApplyR
