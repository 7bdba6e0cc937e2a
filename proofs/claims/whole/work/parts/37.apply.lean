/-! ===== a LAW comes over a WORD ===== -/
def asP (p x : Int) : Prop := p = x ∨ (p = 27 ∧ vow x = 1) ∨ (p = 28 ∧ vow x = 0)
def stP (W : List Int) (p i : Int) : Prop := p = 0 ∨ (p = 29 ∧ ¬ (0 ≤ i ∧ i < W.length)) ∨ (p ≠ 29 ∧ (0 ≤ i ∧ i < W.length) ∧ asP p (W.getD i.toNat 0))
def mtP (D : mmD) (l : Int) (W : List Int) (k c : Int) : Prop := asP (D 224 (6 * l + c)) (W.getD k.toNat 0) ∧ stP W (D 226 (6 * l + c)) (k - 1) ∧ stP W (D 227 (6 * l + c)) (k + 1)
/-- what becomes of letter k, from CHANGE c on -/
noncomputable def lfs (D : mmD) (l : Int) (W : List Int) (k : Int) : Nat → Int → Int
  | 0, _ => W.getD k.toNat 0
  | n + 1, c => cif (mtP D l W k c) (D 225 (6 * l + c)) (lfs D l W k n (c + 1))
noncomputable def lfn (D : mmD) (l : Int) (W : List Int) (k : Int) : Int := lfs D l W k (D 223 l).toNat 0
noncomputable def rls (f : Int → Int) : Nat → List Int
  | 0 => []
  | n + 1 => cif (f n = 0) (rls f n) (rls f n ++ [f n])
noncomputable def apl (D : mmD) (l : Int) (W : List Int) : List Int := cif (rls (lfn D l W) W.length = []) W (rls (lfn D l W) W.length)
/-- letters, at most eight -/
def wdL (W : List Int) : Prop := W.length ≤ 8 ∧ ∀ k : Nat, k < W.length → 1 ≤ W.getD k 0 ∧ W.getD k 0 ≤ 26
theorem rls_len (f : Int → Int) : ∀ n : Nat, (rls f n).length ≤ n
  | 0 => by simp [rls]
  | n + 1 => by
    have := rls_len f n
    simp only [rls]
    by_cases h : f n = 0
    · rw [cif_t h]; omega
    · rw [cif_f h]; simp; omega
theorem getD_app {l : List Int} {x : Int} {k : Nat} (h : k < l.length) : (l ++ [x]).getD k 0 = l.getD k 0 := by
  rw [List.getD_eq_getElem?_getD, List.getD_eq_getElem?_getD, List.getElem?_append_left h]
theorem getD_end {l : List Int} {x : Int} : (l ++ [x]).getD l.length 0 = x := by
  rw [List.getD_eq_getElem?_getD, List.getElem?_append_right (Nat.le_refl _)]; simp
theorem rls_rg {f : Int → Int} : ∀ n : Nat, (∀ k : Int, 0 ≤ k → k < n → 0 ≤ f k ∧ f k ≤ 26) → ∀ k : Nat, k < (rls f n).length → 1 ≤ (rls f n).getD k 0 ∧ (rls f n).getD k 0 ≤ 26
  | 0, _, k, h => by simp [rls] at h
  | n + 1, hf, k, h => by
    simp only [rls] at h ⊢
    have i := rls_rg n (fun k a b => hf k a (by omega))
    have q := hf n (by omega) (by omega)
    by_cases e : f n = 0
    · rw [cif_t e] at h ⊢; exact i k h
    · rw [cif_f e] at h ⊢
      rw [List.length_append, List.length_singleton] at h
      by_cases hk : k < (rls f n).length
      · rw [getD_app hk]; exact i k hk
      · have : k = (rls f n).length := by omega
        subst this
        rw [getD_end]
        omega
/-- all kept: then each letter is what became of it -/
theorem rls_all {f : Int → Int} : ∀ n : Nat, (rls f n).length = n → ∀ k : Nat, k < n → (rls f n).getD k 0 = f k
  | 0, _, k, h => by omega
  | n + 1, hl, k, h => by
    simp only [rls] at hl ⊢
    have i := rls_len f n
    by_cases e : f n = 0
    · rw [cif_t e] at hl; omega
    · rw [cif_f e] at hl ⊢
      rw [List.length_append, List.length_singleton] at hl
      by_cases hk : k < n
      · rw [getD_app (by omega)]; exact rls_all n (by omega) k hk
      · have : k = (rls f n).length := by omega
        rw [this, getD_end]
        congr 1
        omega
theorem rls_id {f : Int → Int} {W : List Int} : ∀ n : Nat, n ≤ W.length → (∀ k : Nat, k < n → f k = W.getD k 0 ∧ W.getD k 0 ≠ 0) → rls f n = W.take n
  | 0, _, _ => by simp [rls]
  | n + 1, hn, h => by
    simp only [rls]
    obtain ⟨a, b⟩ := h n (by omega)
    rw [cif_f (by omega), rls_id n (by omega) (fun k hk => h k (by omega)), List.take_succ, a]
    congr 1
    rw [List.getD_eq_getElem?_getD, List.getElem?_eq_getElem (by omega)]
    simp
theorem lfs_rg {D : mmD} {l : Int} {W : List Int} {k : Int} (hW : wdL W) (k0 : 0 ≤ k) (k1 : k < W.length) : ∀ (n : Nat) (c : Int), (∀ j, c ≤ j → j < c + n → 0 ≤ D 225 (6 * l + j) ∧ D 225 (6 * l + j) ≤ 26) → 0 ≤ lfs D l W k n c ∧ lfs D l W k n c ≤ 26
  | 0, c, _ => by
    have := hW.2 k.toNat (by omega)
    simp only [lfs]
    omega
  | n + 1, c, h => by
    simp only [lfs]
    by_cases g : mtP D l W k c
    · rw [cif_t g]; exact h c (by omega) (by omega)
    · rw [cif_f g]; exact lfs_rg hW k0 k1 n (c + 1) (fun j a b => h j (by omega) (by omega))
theorem lfn_rg {D : mmD} {l : Int} {W : List Int} {k : Int} (hl : i_l1 D l) (hW : wdL W) (k0 : 0 ≤ k) (k1 : k < W.length) : 0 ≤ lfn D l W k ∧ lfn D l W k ≤ 26 := by
  refine lfs_rg hW k0 k1 _ 0 (fun j a b => ?_)
  have := (hl.2 j a (by have := hl.1; omega)).2.1
  unfold l_bec at this
  omega
theorem apl_wd {D : mmD} {l : Int} {W : List Int} (hl : i_l1 D l) (hW : wdL W) : wdL (apl D l W) := by
  unfold apl
  by_cases h : rls (lfn D l W) W.length = []
  · rw [cif_t h]; exact hW
  · rw [cif_f h]
    have := rls_len (lfn D l W) W.length
    exact ⟨by have := hW.1; omega, rls_rg W.length (fun k a b => lfn_rg hl hW a (by omega))⟩
/-- it became another just where a letter did -/
theorem apl_eq {D : mmD} {l : Int} {W : List Int} (hW : wdL W) (hne : rls (lfn D l W) W.length ≠ []) : apl D l W = W ↔ ∀ k : Int, 0 ≤ k → k < W.length → lfn D l W k = W.getD k.toNat 0 := by
  unfold apl
  rw [cif_f hne]
  constructor
  · intro h k k0 k1
    have ln : (rls (lfn D l W) W.length).length = W.length := congrArg List.length h
    have := rls_all W.length ln k.toNat (by omega)
    rw [h, show ((k.toNat : Nat) : Int) = k by omega] at this
    exact this.symm
  · intro h
    rw [rls_id W.length (Nat.le_refl _) (fun k hk => ⟨?_, ?_⟩), List.take_length]
    · have := h k (by omega) (by omega)
      rw [Int.toNat_natCast] at this
      exact this
    · have := hW.2 k hk; omega
theorem vow_v {x : Int} : vow x = 0 ∨ vow x = 1 := by have := vow_01 x; omega
section Apply
variable {E : mmE} {d : Nat} {G : mmG} {D D0 : mmD} {P : Int → mmD → Prop} {P0 : mmD → Prop} {W : List Int} {l k c r p x i : Int}
theorem c_isSignOf (hG : Sh G) (hs : l_sid i p) (h29 : p ≠ 0) (hx : 1 ≤ x ∧ x ≤ 26) (h1 : p ≠ 29 → asP p x → P 1 D) (h0 : (p = 29 ∨ ¬ asP p x) → P 0 D) : Call E (d + 1) 0 0 mX4_isSignOf [vI i, vI (x - 1)] G D (retI G P) := by
  unfold l_sid l_sig at hs
  unfold asP at h1 h0
  have v := vow_v (x := x)
  have ev : x - 1 + 1 = x := by omega
  refine w_X4_isSignOf hG (br_ne (fun a => br_ne (fun b => br_ne (fun g => rI (h0 ?_)) (fun g => rI (h1 ?_ ?_))) (fun b => c_isVowel hG (by unfold rg; omega) ?_)) (fun a => c_isVowel hG (by unfold rg; omega) ?_))
  · by_cases e : p = 29
    · exact Or.inl e
    · right; omega
  · omega
  · left; omega
  · rw [ev]
    refine br_ne (fun q => rI (h0 (Or.inr ?_))) (fun q => rI (h1 ?_ ?_))
    · omega
    · omega
    · omega
  · rw [ev]
    rcases v with v | v
    · rw [v]; exact ⟨Or.inl rfl, rI (h0 (Or.inr (by omega)))⟩
    · rw [v]; exact ⟨Or.inr rfl, rI (h1 (by omega) (by omega))⟩
theorem c_isBeside (hG : Sh G) (hl : isLw r) (hs : l_sid i p) (hW : wdL W) (hb : ∀ q : Int, 0 ≤ q → q < W.length → D (r + 5) q = W.getD q.toNat 0 - 1) (hk : -1 ≤ k ∧ k ≤ 8) (h1 : stP W p k → P 1 D) (h0 : ¬ stP W p k → P 0 D) : Call E (d + 2) 0 0 mX4_isBeside [vR r, vI i, vI k, vI (W.length : Int)] G D (retI G P) := by
  have w8 := hW.1
  have out : ¬ (0 ≤ k ∧ k < W.length) → i ≠ 0 → (¬ iv i = iv 35 → retI G P (some (vI 0)) G D) ∧ (iv i = iv 35 → retI G P (some (vI 1)) G D) := fun ho hi => by
    have hs' := hs
    unfold l_sid l_sig at hs'
    refine br_ne (fun g => rI (h0 (fun q => ?_))) (fun g => rI (h1 (Or.inr (Or.inl ⟨by omega, ho⟩))))
    unfold stP at q
    omega
  have hs' := hs
  unfold l_sid l_sig at hs'
  refine w_X4_isBeside hG hl (br_ne (fun a => br_lt (fun b => out (by omega) a) (fun b => br_lt (fun g => ⟨⟨by omega, by omega⟩, ?_⟩) (fun g => out (by omega) a))) (fun a => rI (h1 (Or.inl (by omega)))))
  have w := hW.2 k.toNat (by omega)
  rw [hb k b g]
  refine c_isSignOf hG hs (by omega) w (fun q1 q2 => ⟨Or.inr rfl, rI (h1 (Or.inr (Or.inr ⟨q1, ⟨b, g⟩, q2⟩)))⟩) (fun q => ⟨Or.inl rfl, rI (h0 (fun q' => ?_))⟩)
  rcases q' with q' | ⟨q1, q2⟩ | ⟨q1, q2, q3⟩
  · omega
  · exact q2 ⟨b, g⟩
  · exact q.elim q1 (fun z => z q3)
theorem c_letterFor (hG : Sh G) (l0 : 0 ≤ l) (l12 : l < 12) (hl : i_l1 D l) (hW : wdL W) (hb : ∀ q : Int, 0 ≤ q → q < W.length → D (142 + 6 * l + 5) q = W.getD q.toNat 0 - 1) (k0 : 0 ≤ k) (k1 : k < W.length) (h : P (lfn D l W k - 1) D) : Call E (d + 3) 0 0 mX4_letterFor [vR (142 + 6 * l), vI k, vI (W.length : Int)] G D (retI G P) := by
  have isl : isLw (142 + 6 * l) := by unfold isLw; omega
  have w8 := hW.1
  obtain ⟨⟨n1, n2, n3⟩, hc⟩ := hl
  have lp : ∀ (n : Nat) (c : Int), D 223 l - c = n → 0 ≤ c → c ≤ D 223 l → lfs D l W k n c = lfn D l W k → Go E (d + 3) 0 0 mX4_letterFor 2 [some (vR (142 + 6 * l)), some (vI k), some (vI (W.length : Int)), some (vI c)] [] G D (retI G P) := by
    intro n
    induction n with
    | zero =>
      intro c cn c0 c1 e
      refine w_X4_letterFor_2 hG ⟨isl, ?_⟩
      rw [n1]
      refine br_le (fun _ => ⟨⟨by omega, by omega⟩, ?_⟩) (fun g => by omega)
      rw [hb k k0 k1]
      simp only [lfs] at e
      rw [e]
      exact rI h
    | succ n ih =>
      intro c cn c0 c1 e
      obtain ⟨g1, g2, g3, g4⟩ := hc c c0 (by omega)
      simp only [lfs] at e
      have wk := hW.2 k.toNat (by omega)
      have g1' := g1
      have g2' := g2
      unfold l_sig at g1'
      unfold l_bec at g2'
      have nx : ¬ mtP D l W k c → Go E (d + 3) 0 0 mX4_letterFor 2 [some (vR (142 + 6 * l)), some (vI k), some (vI (W.length : Int)), some (vI (c + 1))] [] G D (retI G P) := fun hn => by
        rw [cif_f hn] at e
        exact ih (c + 1) (by omega) (by omega) (by omega) e
      refine w_X4_letterFor_2 hG ⟨isl, ?_⟩
      rw [n1]
      refine br_le (fun g => by omega) (fun _ => ⟨⟨by omega, by omega⟩, ⟨by omega, by omega⟩, ?_⟩)
      rw [hb k k0 k1]
      refine c_isSignOf hG (Or.inr (Or.inl g1)) (by omega) wk (fun _ a => b_t ⟨⟨by omega, by omega⟩, ?_⟩) (fun a => b_f (nx (fun q => ?_)))
      · refine c_isBeside hG isl g3 hW hb (by omega) (fun b => b_t ⟨⟨by omega, by omega⟩, ?_⟩) (fun b => b_f (nx (fun q => b q.2.1)))
        refine c_isBeside hG isl g4 hW hb (by omega) (fun b' => b_t ⟨⟨by omega, by omega⟩, ?_⟩) (fun b' => b_f (nx (fun q => b' q.2.2)))
        rw [cif_t ⟨a, b, b'⟩] at e
        refine br_ne (fun z => ⟨⟨by omega, by omega⟩, ?_⟩) (fun z => ?_)
        · rw [show D (142 + 6 * l + 2) c - 97 = lfn D l W k - 1 by omega]
          exact rI h
        · rw [show (-1 : Int) = lfn D l W k - 1 by omega]
          exact rI h
      · exact a.elim (fun z => by omega) (fun z => z q.1)
  exact w_X4_letterFor hG isl (lp (D 223 l).toNat 0 (by omega) (by omega) (by omega) rfl)
/-- the WORD in a place of the class -/
def cW (D : mmD) (r : Int) (W : List Int) : Prop := D r 1 = W.length ∧ ∀ q : Int, 0 ≤ q → q < W.length → D (r + 1) q = W.getD q.toNat 0 - 1
theorem lfs_keep {D D' : mmD} {l : Int} {W : List Int} {k : Int} (h4 : ∀ c, D' 224 c = D 224 c) (h5 : ∀ c, D' 225 c = D 225 c) (h6 : ∀ c, D' 226 c = D 226 c) (h7 : ∀ c, D' 227 c = D 227 c) : ∀ (n : Nat) (c : Int), lfs D' l W k n c = lfs D l W k n c
  | 0, _ => rfl
  | n + 1, c => by
    simp only [lfs]
    have e : mtP D' l W k c = mtP D l W k c := by unfold mtP; rw [h4, h6, h7]
    rw [e, h5, lfs_keep h4 h5 h6 h7 n (c + 1)]
theorem lfn_keep {D D' : mmD} {l : Int} {W : List Int} (h : ∀ a c, 223 ≤ a → a ≤ 227 → D' a c = D a c) : lfn D' l W = lfn D l W := by
  funext k
  unfold lfn
  rw [h 223 l (by omega) (by omega)]
  exact lfs_keep (fun c => h _ _ (by omega) (by omega)) (fun c => h _ _ (by omega) (by omega)) (fun c => h _ _ (by omega) (by omega)) (fun c => h _ _ (by omega) (by omega)) _ _
theorem apl_keep {D D' : mmD} {l : Int} {W : List Int} (h : ∀ a c, 223 ≤ a → a ≤ 227 → D' a c = D a c) : apl D' l W = apl D l W := by
  unfold apl
  rw [lfn_keep h]
theorem rls_s {f : Int → Int} {k : Int} (h : 0 ≤ k) : rls f (k + 1).toNat = cif (f k = 0) (rls f k.toNat) (rls f k.toNat ++ [f k]) := by
  rw [show (k + 1).toNat = k.toNat + 1 by omega]
  simp only [rls]
  rw [Int.toNat_of_nonneg h]
/-- only the WORD and the LAW's own row differ -/
def frW (l r : Int) (D D' : mmD) : Prop := ∀ c k, ¬ (c = r ∧ k = 1) → c ≠ r + 1 → c ≠ 142 + 6 * l + 5 → D' c k = D c k
theorem c_comeOver (hG : Sh G) (l0 : 0 ≤ l) (l12 : l < 12) (hl : i_l1 D l) (hr : isW r) (hW : wdL W) (hw : cW D r W) (h : ∀ D', frW l r D D' → cW D' r (apl D l W) → P (cif (apl D l W = W) 0 1) D') : Call E (d + 4) 0 0 mX4_comeOver [vR (142 + 6 * l), vR r] G D (retI G P) := by
  have isl : isLw (142 + 6 * l) := by unfold isLw; omega
  have hr' := hr
  unfold isW at hr'
  have w8 := hW.1
  have fin : ∀ (D' : mmD) (x4 : Int), frW l r D D' → D' r 1 = W.length → ((rls (lfn D l W) W.length).length = 0 → ∀ q : Int, 0 ≤ q → q < W.length → D' (r + 1) q = W.getD q.toNat 0 - 1) → (∀ q : Int, 0 ≤ q → q < (rls (lfn D l W) W.length).length → D' (r + 1) q = (rls (lfn D l W) W.length).getD q.toNat 0 - 1) → (x4 = 0 ∧ (∀ q : Int, 0 ≤ q → q < W.length → lfn D l W q = W.getD q.toNat 0) ∨ x4 = 1 ∧ (∃ q : Int, 0 ≤ q ∧ q < W.length ∧ lfn D l W q ≠ W.getD q.toNat 0)) →
      ((¬ iv ((rls (lfn D l W) W.length).length : Int) = iv 0 → (isW r ∧ (∀ D2 : mmD, D2 = up2 D' r 1 ((rls (lfn D l W) W.length).length : Int) → ((x4 = 0 ∨ x4 = 1) ∧ retI G P (some (vI x4)) G D2)))) ∧ (iv ((rls (lfn D l W) W.length).length : Int) = iv 0 → retI G P (some (vI 0)) G D')) := by
    intro D' x4 fr sz z0 z1 ot
    have rl := rls_len (lfn D l W) W.length
    refine br_ne (fun g => ⟨hr, fun D2 e2 => ?_⟩) (fun g => ?_)
    · have ne : rls (lfn D l W) W.length ≠ [] := fun q => g (by rw [q]; rfl)
      have ea : apl D l W = rls (lfn D l W) W.length := by unfold apl; rw [cif_f ne]
      have f2 : frW l r D D2 := fun c k p q u => by rw [e2, up2_ne p]; exact fr c k p q u
      have c2 : cW D2 r (apl D l W) := by
        rw [ea]
        exact ⟨by rw [e2, up2_same], fun q q0 q1 => by rw [e2, up2_ne (by omega)]; exact z1 q q0 q1⟩
      have hh := h D2 f2 c2
      rcases ot with ⟨rfl, ot⟩ | ⟨rfl, q, q0, q1, ot⟩
      · rw [cif_t ((apl_eq hW ne).mpr ot)] at hh
        exact ⟨Or.inl rfl, rI hh⟩
      · rw [cif_f (fun e => ot ((apl_eq hW ne).mp e q q0 q1))] at hh
        exact ⟨Or.inr rfl, rI hh⟩
    · have ne : rls (lfn D l W) W.length = [] := List.eq_nil_of_length_eq_zero (by omega)
      have ea : apl D l W = W := by unfold apl; rw [cif_t ne]
      have hh := h D' fr (by rw [ea]; exact ⟨sz, z0 (by omega)⟩)
      rw [ea, cif_t rfl] at hh
      exact rI hh
  have lp : ∀ (n : Nat) (D' : mmD) (k x4 : Int), W.length - k = n → 0 ≤ k → k ≤ W.length → frW l r D D' → D' r 1 = W.length → (∀ q : Int, 0 ≤ q → q < W.length → D' (142 + 6 * l + 5) q = W.getD q.toNat 0 - 1) → ((rls (lfn D l W) k.toNat).length = 0 → ∀ q : Int, 0 ≤ q → q < W.length → D' (r + 1) q = W.getD q.toNat 0 - 1) → (∀ q : Int, 0 ≤ q → q < (rls (lfn D l W) k.toNat).length → D' (r + 1) q = (rls (lfn D l W) k.toNat).getD q.toNat 0 - 1) → (x4 = 0 ∧ (∀ q : Int, 0 ≤ q → q < k → lfn D l W q = W.getD q.toNat 0) ∨ x4 = 1 ∧ (∃ q : Int, 0 ≤ q ∧ q < k ∧ lfn D l W q ≠ W.getD q.toNat 0)) →
      Go E (d + 4) 0 0 mX4_comeOver 28 [some (vR (142 + 6 * l)), some (vR r), some (vI (W.length : Int)), some (vI ((rls (lfn D l W) k.toNat).length : Int)), some (vI x4), some (vI k), none] [] G D' (retI G P) := by
    intro n
    induction n with
    | zero =>
      intro D' k x4 kn k0 k1 fr sz bf z0 z1 ot
      have ek : k = W.length := by omega
      have et : k.toNat = W.length := by omega
      rw [et] at z0 z1 ⊢
      rw [ek] at ot ⊢
      exact w_X4_comeOver_28 hG (br_le (fun _ => fin D' x4 fr sz z0 z1 ot) (fun g => by omega))
    | succ n ih =>
      intro D' k x4 kn k0 k1 fr sz bf z0 z1 ot
      have rl := rls_len (lfn D l W) k.toNat
      have hl' : i_l1 D' l := hl.keep (fr _ _ (by omega) (by omega) (by omega)) (fun j => fr _ _ (by omega) (by omega) (by omega)) (fun j => fr _ _ (by omega) (by omega) (by omega)) (fun j => fr _ _ (by omega) (by omega) (by omega)) (fun j => fr _ _ (by omega) (by omega) (by omega)) (fr _ _ (by omega) (by omega) (by omega)) (fun j _ _ => ⟨fr _ _ (by omega) (by omega) (by omega), fr _ _ (by omega) (by omega) (by omega), fr _ _ (by omega) (by omega) (by omega), fr _ _ (by omega) (by omega) (by omega)⟩)
      have ke : lfn D' l W = lfn D l W := lfn_keep (fun a c p q => fr a c (by omega) (by omega) (by omega))
      have fr' := lfn_rg hl hW k0 (by omega)
      have wk := hW.2 k.toNat (by omega)
      -- one letter on
      have go : ∀ (x' : Int), ((lfn D l W k = W.getD k.toNat 0 ∧ x' = x4) ∨ (lfn D l W k ≠ W.getD k.toNat 0 ∧ x' = 1)) → ((iv (lfn D l W k - 1) = iv (-1) → Go E (d + 4) 0 0 mX4_comeOver 28 [some (vR (142 + 6 * l)), some (vR r), some (vI (W.length : Int)), some (vI ((rls (lfn D l W) k.toNat).length : Int)), some (vI x'), some (vI (k + 1)), none] [] G D' (retI G P)) ∧ (¬ iv (lfn D l W k - 1) = iv (-1) → (isW r ∧ ((0 ≤ ((rls (lfn D l W) k.toNat).length : Int) ∧ ((rls (lfn D l W) k.toNat).length : Int) < 8) ∧ (∀ D9 : mmD, D9 = up2 D' (r + 1) ((rls (lfn D l W) k.toNat).length : Int) (lfn D l W k - 1) → Go E (d + 4) 0 0 mX4_comeOver 28 [some (vR (142 + 6 * l)), some (vR r), some (vI (W.length : Int)), some (vI (((rls (lfn D l W) k.toNat).length : Int) + 1)), some (vI x'), some (vI (k + 1)), none] [] G D9 (retI G P)))))) := by
        intro x' hx'
        have ot' : x' = 0 ∧ (∀ q : Int, 0 ≤ q → q < k + 1 → lfn D l W q = W.getD q.toNat 0) ∨ x' = 1 ∧ (∃ q : Int, 0 ≤ q ∧ q < k + 1 ∧ lfn D l W q ≠ W.getD q.toNat 0) := by
          rcases hx' with ⟨he, rfl⟩ | ⟨he, rfl⟩
          · rcases ot with ⟨o1, o2⟩ | ⟨o1, q, q0, q1, o2⟩
            · refine Or.inl ⟨o1, fun q q0 q1 => ?_⟩
              by_cases e : q = k
              · rw [e]; exact he
              · exact o2 q q0 (by omega)
            · exact Or.inr ⟨o1, q, q0, by omega, o2⟩
          · exact Or.inr ⟨rfl, k, k0, by omega, he⟩
        have es := rls_s (f := lfn D l W) k0
        refine br_eq (fun g => ?_) (fun g => ⟨hr, ⟨by omega, by omega⟩, fun D9 e9 => ?_⟩)
        · rw [cif_t (by omega)] at es
          have nx := ih D' (k + 1) x' (by omega) (by omega) (by omega) fr sz bf
          rw [es] at nx
          exact nx z0 z1 ot'
        · rw [cif_f (by omega)] at es
          have nx := ih D9 (k + 1) x' (by omega) (by omega) (by omega) (fun c j p q u => by rw [e9, up2_ne (fun t => q t.1)]; exact fr c j p q u) (by rw [e9, up2_ne (by omega)]; exact sz) (fun q q0 q1 => by rw [e9, up2_ne (by omega)]; exact bf q q0 q1)
          rw [es] at nx
          have le : ((rls (lfn D l W) k.toNat ++ [lfn D l W k]).length : Int) = ((rls (lfn D l W) k.toNat).length : Int) + 1 := by simp
          rw [le] at nx
          refine nx (fun q => by omega) (fun q q0 q1 => ?_) ot'
          by_cases e : q = ((rls (lfn D l W) k.toNat).length : Int)
          · rw [e9, e, up2_same, Int.toNat_natCast, getD_end]
          · rw [e9, up2_ne (by omega), getD_app (by omega)]
            exact z1 q q0 (by omega)
      refine w_X4_comeOver_28 hG (br_le (fun g => by omega) (fun _ => br_le (fun g => by omega) (fun _ => ⟨isl, c_letterFor hG l0 l12 hl' hW bf k0 (by omega) ?_⟩)))
      rw [ke, bf k k0 (by omega)]
      rcases ot with ⟨rfl, o2⟩ | ⟨rfl, o2⟩
      · refine n_f ⟨⟨by omega, by omega⟩, br_eq (fun g => go 0 (Or.inl ⟨by omega, rfl⟩)) (fun g => go 1 (Or.inr ⟨by omega, rfl⟩))⟩
      · refine n_t (go 1 ?_)
        by_cases e : lfn D l W k = W.getD k.toNat 0
        · exact Or.inl ⟨e, rfl⟩
        · exact Or.inr ⟨e, rfl⟩
  refine w_X4_comeOver hG isl hr (fun D1 e1 => ?_)
  have k1 : ∀ c j, c ≠ 142 + 6 * l + 5 → D1 c j = D c j := fun c j q => by rw [e1]; unfold cp0; rw [if_neg (fun t => q t.1)]
  rw [hw.1]
  exact lp W.length D1 0 0 (by omega) (by omega) (by omega) (fun c j _ _ q => k1 c j q) (by rw [k1 _ _ (by omega)]; exact hw.1) (fun q q0 q1 => by rw [e1]; unfold cp0; rw [if_pos ⟨rfl, q0, by omega⟩]; exact hw.2 q q0 q1) (fun _ q q0 q1 => by rw [k1 _ _ (by omega)]; exact hw.2 q q0 q1) (fun q q0 q1 => by simp [rls] at q1; omega) (Or.inl ⟨rfl, fun q q0 q1 => by omega⟩)
end Apply
