/-- a choice by a statement -/
noncomputable def cif {α : Type} (p : Prop) (a b : α) : α := @ite α p (Classical.propDecidable p) a b
theorem cif_t {α : Type} {p : Prop} {a b : α} (h : p) : cif p a b = a := by unfold cif; exact if_pos h
theorem cif_f {α : Type} {p : Prop} {a b : α} (h : ¬ p) : cif p a b = b := by unfold cif; exact if_neg h
theorem fsum_s {f : Int → Int} {c : Int} (h : 0 ≤ c) : fsum f (c + 1).toNat = fsum f c.toNat + f c := by
  rw [show (c + 1).toNat = c.toNat + 1 by omega]
  simp only [fsum]
  rw [Int.toNat_of_nonneg h]
theorem ecw_self {G : mmG} {D : mmD} (h : Inv G D) {j : Int} (a0 : 0 ≤ j) (a1 : j < 60) : ecw D j j = 0 := by
  have p := (h.w8 a0 a1).1
  have key : ∀ (n : Nat) (i : Int), 0 ≤ i → i ≤ D 216 j → D 216 j - i = n → ec (rla D j) (rla D j) (D 216 j) (D 216 j) i i = 0 := by
    intro n
    induction n with
    | zero =>
      intro i i0 i1 i2
      rw [ec_out (by omega) (by omega) (by omega)]; omega
    | succ n ih =>
      intro i i0 i1 i2
      have b1 := ec_rg8 (a := rla D j) (b := rla D j) (u := D 216 j) (v := D 216 j) (i := i + 1) (j := i) (by omega) (by omega) (by omega) (by omega) p.2 p.2
      have b2 := ec_rg8 (a := rla D j) (b := rla D j) (u := D 216 j) (v := D 216 j) (i := i) (j := i + 1) (by omega) (by omega) (by omega) (by omega) p.2 p.2
      rw [ec_in (by omega) (by omega), ih (i + 1) (by omega) (by omega) (by omega)]
      have : apt (rla D j i) (rla D j i) = 0 := by unfold apt; rw [if_pos rfl]
      omega
  exact key (D 216 j).toNat 0 (by omega) (by omega) (by omega)
section Pub4
variable {E : mmE} {d : Nat} {G : mmG} {D0 D : mmD} {x1 x2 x3 x4 x5 : Int}
noncomputable def odA (D : mmD) (m b : Int) : Int → Int := fun k => cif (k ≠ m ∧ lst D b k) 1 0
noncomputable def odK (D : mmD) (m a b : Int) : Int → Int := fun k => cif (k ≠ m ∧ lst D b k) (cif (kinP D (10 * a + m) (10 * b + k)) 1 0) 0
theorem p_odds (hI : Inv G D0) (h1 : rg x1) (h2 : rg x2) (h3 : rg x3) (h4 : rg x4) : Pair E (d + 4) mX11_odds mX12_odds [vI x1, vI x2, vI x3, vI x4] G D0 := by
  have hG := hI.1
  have s1 := hI.2.1.1
  have h1' := h1
  have h4' := h4
  unfold rg at h1' h4'
  by_cases hl : lst D0 x2 x1
  · obtain ⟨a0, a1⟩ := hl.j hI
    have lc : ∀ (Q : mmQ), (∀ D', ag D0 D' → (x4 ≠ 0 → Q (some (vI (fsum (odA D0 x1 x3) 10))) G D') ∧ (x4 = 0 → Q (some (vI (fsum (odK D0 x1 x2 x3) 10))) G D')) → ∀ (n : Nat) (D : mmD) (k : Int), ag D0 D → 0 ≤ k → k ≤ 10 → 10 - k = n → Go E (d + 4) 0 0 mX11_odds 43 [some (vR 2), some (vI x1), none, some (vI x3), some (vI x4), some (vR (22 + 2 * (10 * x2 + x1))), some (vI (fsum (odK D0 x1 x2 x3) k.toNat)), some (vI (fsum (odA D0 x1 x3) k.toNat)), some (vI k), none] [] G D Q := by
      intro Q hQ n
      induction n with
      | zero =>
        intro D k hd k0 k1 kn
        have e : k = 10 := by omega
        subst e
        exact w_X11_odds_43 hG (br_le (fun _ => br_ne (fun g => (hQ D hd).1 g) (fun g => (hQ D hd).2 g)) (fun g => by omega))
      | succ n ih =>
        intro D k hd k0 k1 kn
        refine w_X11_odds_43 hG (br_le (fun g => by omega) (fun _ => c_listedA hI hd (by exact h3) (by unfold rg; omega) (fun b => ?_) (fun b => ?_)))
        · obtain ⟨b0, b1⟩ := b.j hI
          have nx : ∀ D', ag D0 D' → _ := fun D' hd' => ih D' (k + 1) hd' (by omega) (by omega) (by omega)
          rw [fsum_s k0, fsum_s k0] at nx
          refine br_eq (fun g => ?_) (fun g => ⟨fun q => by omega, fun _ => c_kin hI hd a0 a1 b0 b1 (fun q D' hd' => c_oneIf hG (Or.inr rfl) ?_) (fun q D' hd' => c_oneIf hG (Or.inl rfl) ?_)⟩)
          · have := nx D hd
            rw [show odK D0 x1 x2 x3 k = 0 from cif_f (fun q => q.1 g), show odA D0 x1 x3 k = 0 from cif_f (fun q => q.1 g), Int.add_zero, Int.add_zero] at this
            exact this
          · have := nx D' hd'
            rw [show odK D0 x1 x2 x3 k = 1 from (cif_t (And.intro g b)).trans (cif_t q), show odA D0 x1 x3 k = 1 from cif_t (And.intro g b)] at this
            exact this
          · have := nx D' hd'
            rw [show odK D0 x1 x2 x3 k = 0 from (cif_t (And.intro g b)).trans (cif_f q), show odA D0 x1 x3 k = 1 from cif_t (And.intro g b)] at this
            exact this
        · have nx := ih D (k + 1) hd (by omega) (by omega) (by omega)
          rw [fsum_s k0, fsum_s k0] at nx
          rw [show odK D0 x1 x2 x3 k = 0 from cif_f (fun q => b q.2), show odA D0 x1 x3 k = 0 from cif_f (fun q => b q.2), Int.add_zero, Int.add_zero] at nx
          exact br_eq (fun _ => nx) (fun _ => ⟨fun _ => nx, fun q => absurd rfl q⟩)
    have lr : ∀ (Q : mmQ), (∀ D', ag D0 D' → (x4 ≠ 0 → Q (some (vI (fsum (odA D0 x1 x3) 10))) G D') ∧ (x4 = 0 → Q (some (vI (fsum (odK D0 x1 x2 x3) 10))) G D')) → ∀ (n : Nat) (D : mmD) (k : Int), ag D0 D → 0 ≤ k → k ≤ 10 → 10 - k = n → Go E (d + 4) 0 0 mX12_odds 38 [some (vR 214), some (vI x1), some (vI x2), some (vI x3), some (vI x4), some (vI (fsum (odK D0 x1 x2 x3) k.toNat)), some (vI (fsum (odA D0 x1 x3) k.toNat)), some (vI k)] [] G D Q := by
      intro Q hQ n
      induction n with
      | zero =>
        intro D k hd k0 k1 kn
        have e : k = 10 := by omega
        subst e
        exact w_X12_odds_38 hG (br_le (fun _ => br_ne (fun g => (hQ D hd).1 g) (fun g => (hQ D hd).2 g)) (fun g => by omega))
      | succ n ih =>
        intro D k hd k0 k1 kn
        have nx : ∀ D', ag D0 D' → _ := fun D' hd' => ih D' (k + 1) hd' (by omega) (by omega) (by omega)
        rw [fsum_s k0, fsum_s k0] at nx
        refine w_X12_odds_38 hG (br_le (fun g => by omega) (fun _ => br_eq (fun g => ?_) (fun g => c_hasA hI hd h3 (by unfold rg; omega) (fun b => b_t (c_rkin hI hd rfl rfl a0 a1 (b.j hI).1 (b.j hI).2 (fun q D' hd' => b_t ?_) (fun q D' hd' => b_f ?_))) (fun b => b_f ?_))))
        · have := nx D hd
          rw [show odK D0 x1 x2 x3 k = 0 from cif_f (fun q => q.1 g), show odA D0 x1 x3 k = 0 from cif_f (fun q => q.1 g), Int.add_zero, Int.add_zero] at this
          exact this
        · have := nx D' hd'
          rw [show odK D0 x1 x2 x3 k = 1 from (cif_t (And.intro g b)).trans (cif_t q), show odA D0 x1 x3 k = 1 from cif_t (And.intro g b)] at this
          exact this
        · have := nx D' hd'
          rw [show odK D0 x1 x2 x3 k = 0 from (cif_t (And.intro g b)).trans (cif_f q), show odA D0 x1 x3 k = 1 from cif_t (And.intro g b)] at this
          exact this
        · have := nx D hd
          rw [show odK D0 x1 x2 x3 k = 0 from cif_f (fun q => b q.2), show odA D0 x1 x3 k = 0 from cif_f (fun q => b q.2), Int.add_zero, Int.add_zero] at this
          exact this
    have no : (x3 < 0 ∨ D0 214 1 ≤ x3 ∨ x4 < 0 ∨ 1 < x4) → Call E (d + 4) 0 0 mX12_odds [vR 214, vI x1, vI x2, vI x3, vI x4] G D0 (retI G (fun y D2 => iv (-1) = iv y ∧ Inv G D2)) := fun q =>
      w_X12_odds hG (c_hasA hI ag.rfl h2 h1 (fun _ => b_t (c_rTongue hG hI.ri h3 (fun _ _ => b_t (c_in hG h4 (by unfold rg; omega) (by unfold rg; omega) (fun _ _ => by omega) (fun _ => n_f (rI ⟨rfl, hI⟩)))) (fun _ => b_f (rI ⟨rfl, hI⟩)))) (fun g => absurd hl g))
    have fin : 0 ≤ x3 → x3 < D0 214 1 → 0 ≤ x4 → x4 ≤ 1 → ∀ (v : Int) (D : mmD), ag D0 D → (x4 ≠ 0 → v = fsum (odA D0 x1 x3) 10) → (x4 = 0 → v = fsum (odK D0 x1 x2 x3) 10) → Call E (d + 4) 0 0 mX12_odds [vR 214, vI x1, vI x2, vI x3, vI x4] G D (retI G (fun y D2 => iv v = iv y ∧ Inv G D2)) := fun q1 q2 q3 q4 v D hd e1 e2 =>
      w_X12_odds hG (c_hasA hI hd h2 h1 (fun _ => b_t (c_rTongue hG (hI.ag hd).ri h3 (fun _ _ => b_t (c_in hG h4 (by unfold rg; omega) (by unfold rg; omega) (fun _ _ => n_t (lr _ (fun D' hd' => ⟨fun g => rI ⟨by rw [e1 g], hI.ag hd'⟩, fun g => rI ⟨by rw [e2 g], hI.ag hd'⟩⟩) 10 D 0 hd (by omega) (by omega) (by omega))) (fun g => by omega))) (fun g => by rw [hd.s (by omega) (by omega)] at g; omega))) (fun g => absurd hl g))
    refine w_X11_odds hG (c_listedA hI ag.rfl h2 h1 (fun _ => ⟨fun q => by omega, fun _ => c_isTongue hI h3 (fun p q => b_t (br_lt (fun r => rI (no (by omega))) (fun r => br_le (fun s => ?_) (fun s => rI (no (by omega)))))) (fun p => b_f (rI (no (by omega))))⟩) (fun g => absurd hl g))
    exact lc _ (fun D' hd' => ⟨fun g => rI (fin p q r s _ D' hd' (fun _ => rfl) (fun g' => absurd g' g)), fun g => rI (fin p q r s _ D' hd' (fun g' => absurd g g') (fun _ => rfl))⟩) 10 D0 0 ag.rfl (by omega) (by omega) (by omega)
  · exact w_X11_odds hG (c_listedA hI ag.rfl h2 h1 (fun g => absurd g hl) (fun _ => ⟨fun _ => rI (w_X12_odds hG (c_hasA hI ag.rfl h2 h1 (fun g => absurd g hl) (fun _ => b_f (rI ⟨rfl, hI⟩)))), fun q => absurd rfl q⟩))
/-- COSTS of a TONGUE's WORD with all others -/
noncomputable def oc (D : mmD) (m t : Int) : Int → Int := fun o => cif (lst D o m) (ecw D (10 * t + m) (10 * o + m)) 0
noncomputable def ocs (D : mmD) (m t : Int) : Int := fsum (oc D m t) (D 214 1).toNat
theorem ocs_rg (hI : Inv G D0) {m t : Int} (hl : lst D0 t m) : ∀ n : Nat, (n : Int) ≤ D0 214 1 → 0 ≤ fsum (oc D0 m t) n ∧ fsum (oc D0 m t) n ≤ 32 * n
  | 0, _ => by simp [fsum]
  | n + 1, h => by
    simp only [fsum]
    have i := ocs_rg hI hl n (by omega)
    have : 0 ≤ oc D0 m t n ∧ oc D0 m t n ≤ 32 := by
      unfold oc
      by_cases g : lst D0 n m
      · rw [cif_t g]; exact ecw_rg hI (hl.j hI).1 (hl.j hI).2 (g.j hI).1 (g.j hI).2
      · rw [cif_f g]; omega
    omega
/-- OLD FORM as far as TONGUE n: whose, its COSTS, how many have as little -/
noncomputable def ost (D : mmD) (m : Int) : Nat → Int × Int × Int
  | 0 => (-5, 0, 0)
  | n + 1 => cif (lst D n m) (cif ((ost D m n).1 = -5 ∨ ocs D m n < (ost D m n).2.1) ((n : Int), ocs D m n, 1) (cif (ocs D m n = (ost D m n).2.1) ((ost D m n).1, (ost D m n).2.1, (ost D m n).2.2 + 1) (ost D m n))) (ost D m n)
theorem ost_rg (hI : Inv G D0) (m : Int) : ∀ n : Nat, (n : Int) ≤ D0 214 1 → ((ost D0 m n).1 = -5 ∨ (0 ≤ (ost D0 m n).1 ∧ (ost D0 m n).1 < 6)) ∧ (0 ≤ (ost D0 m n).2.1 ∧ (ost D0 m n).2.1 ≤ 192) ∧ (0 ≤ (ost D0 m n).2.2 ∧ (ost D0 m n).2.2 ≤ n)
  | 0, _ => by simp [ost]
  | n + 1, h => by
    have s1 := hI.2.1.1
    have i := ost_rg hI m n (by omega)
    simp only [ost]
    by_cases g : lst D0 n m
    · rw [cif_t g]
      have r := ocs_rg hI g (D0 214 1).toNat (by omega)
      have r' : 0 ≤ ocs D0 m n ∧ ocs D0 m n ≤ 192 := by unfold ocs; omega
      by_cases g2 : (ost D0 m n).1 = -5 ∨ ocs D0 m n < (ost D0 m n).2.1
      · rw [cif_t g2]
        simp only
        omega
      · rw [cif_f g2]
        by_cases g3 : ocs D0 m n = (ost D0 m n).2.1
        · rw [cif_t g3]
          simp only
          omega
        · rw [cif_f g3]
          omega
    · rw [cif_f g]
      omega
theorem c_cwo {P : Int → mmD → Prop} (hI : Inv G D0) (ha : ag D0 D) {t m : Int} (hl : lst D0 t m) (h : ∀ D', ag D0 D' → P (ocs D0 m t) D') : Call E (d + 4) 0 0 mX11_costsWithOthers [vR 2, vI t, vI m] G D (retI G P) := by
  have hG := hI.1
  have s1 := hI.2.1.1
  have hl' := hl.1
  unfold hasW at hl'
  have lp : ∀ (n : Nat) (D : mmD) (o : Int), ag D0 D → 0 ≤ o → o ≤ D0 214 1 → D0 214 1 - o = n → Go E (d + 4) 0 0 mX11_costsWithOthers 5 [some (vR 2), some (vI t), some (vI m), some (vI (fsum (oc D0 m t) o.toNat)), some (vI o)] [] G D (retI G P) := by
    intro n
    induction n with
    | zero =>
      intro D o hd o0 o1 on
      have e : o = D0 214 1 := by omega
      refine w_X11_costsWithOthers_5 hG ?_
      rw [show D 2 3 = D0 214 1 from (hd 2 3 (by unfold pers; omega)).trans s1.1, e]
      exact br_le (fun _ => rI (h D hd)) (fun g => by omega)
    | succ n ih =>
      intro D o hd o0 o1 on
      refine w_X11_costsWithOthers_5 hG ?_
      rw [show D 2 3 = D0 214 1 from (hd 2 3 (by unfold pers; omega)).trans s1.1]
      refine br_le (fun g => by omega) (fun _ => c_listedA hI hd (by unfold rg; omega) (by unfold rg; omega) (fun b => ⟨fun q => ?_, fun _ => c_cost hI hd (by unfold rg; omega) (by unfold rg; omega) (by unfold rg; omega) (fun _ _ D' hd' => ?_) (fun q => absurd ⟨hl, b⟩ q)⟩) (fun b => ⟨fun _ => ?_, fun q => absurd rfl q⟩))
      · have := b.j hI; omega
      · have nx := ih D' (o + 1) hd' (by omega) (by omega) (by omega)
        rw [fsum_s o0] at nx
        unfold oc at nx
        rw [cif_t b] at nx
        exact nx
      · have nx := ih D (o + 1) hd (by omega) (by omega) (by omega)
        rw [fsum_s o0] at nx
        unfold oc at nx
        rw [cif_f b, Int.add_zero] at nx
        exact nx
  exact w_X11_costsWithOthers hG (lp (D0 214 1).toNat D 0 ha (by omega) (by omega) (by omega))
theorem ost_s {D : mmD} {m t : Int} (h : 0 ≤ t) : ost D m (t + 1).toNat = cif (lst D t m) (cif ((ost D m t.toNat).1 = -5 ∨ ocs D m t < (ost D m t.toNat).2.1) (t, ocs D m t, 1) (cif (ocs D m t = (ost D m t.toNat).2.1) ((ost D m t.toNat).1, (ost D m t.toNat).2.1, (ost D m t.toNat).2.2 + 1) (ost D m t.toNat))) (ost D m t.toNat) := by
  rw [show (t + 1).toNat = t.toNat + 1 by omega]
  simp only [ost]
  rw [Int.toNat_of_nonneg h]
theorem p_old (hI : Inv G D0) (h1 : rg x1) (h2 : rg x2) : Pair E (d + 5) mX11_old mX12_old [vI x1, vI x2] G D0 := by
  have hG := hI.1
  have s1 := hI.2.1.1
  have h1' := h1
  have h2' := h2
  unfold rg at h1' h2'
  have fr := ost_rg hI x1 (D0 214 1).toNat (by omega)
  have lc : ∀ (Q : mmQ), (∀ D', ag D0 D' → ∀ v : Int, ((ost D0 x1 (D0 214 1).toNat).1 = -5 → v = -5) → ((ost D0 x1 (D0 214 1).toNat).1 ≠ -5 → (x2 = 0 → v = (ost D0 x1 (D0 214 1).toNat).1) ∧ (x2 = 1 → v = (ost D0 x1 (D0 214 1).toNat).2.1) ∧ (x2 ≠ 0 → x2 ≠ 1 → v = (ost D0 x1 (D0 214 1).toNat).2.2)) → Q (some (vI v)) G D') → ∀ (n : Nat) (D : mmD) (t : Int), ag D0 D → 0 ≤ t → t ≤ D0 214 1 → D0 214 1 - t = n → Go E (d + 5) 0 0 mX11_old 30 [some (vR 2), some (vI x1), some (vI x2), some (vI (ost D0 x1 t.toNat).1), some (vI (ost D0 x1 t.toNat).2.1), some (vI (ost D0 x1 t.toNat).2.2), some (vI t), none] [] G D Q := by
    intro Q hQ n
    induction n with
    | zero =>
      intro D t hd t0 t1 tn
      have e : t = D0 214 1 := by omega
      refine w_X11_old_30 hG ?_
      rw [show D 2 3 = D0 214 1 from (hd 2 3 (by unfold pers; omega)).trans s1.1, e]
      refine br_le (fun _ => br_le (fun g => br_ne (fun g1 => br_ne (fun g2 => hQ D hd _ (fun q => by omega) (fun _ => ⟨fun q => by omega, fun q => by omega, fun _ _ => rfl⟩)) (fun g2 => hQ D hd _ (fun q => by omega) (fun _ => ⟨fun q => by omega, fun _ => rfl, fun _ q => by omega⟩))) (fun g1 => hQ D hd _ (fun q => by omega) (fun _ => ⟨fun _ => rfl, fun q => by omega, fun q => by omega⟩))) (fun g => hQ D hd _ (fun _ => rfl) (fun q => by omega))) (fun g => by omega)
    | succ n ih =>
      intro D t hd t0 t1 tn
      have hr := ost_rg hI x1 t.toNat (by omega)
      have nx : ∀ D', ag D0 D' → _ := fun D' hd' => ih D' (t + 1) hd' (by omega) (by omega) (by omega)
      rw [ost_s t0] at nx
      generalize ost D0 x1 t.toNat = S at *
      obtain ⟨sb, sl, sa⟩ := S
      simp only at hr nx ⊢
      refine w_X11_old_30 hG ?_
      rw [show D 2 3 = D0 214 1 from (hd 2 3 (by unfold pers; omega)).trans s1.1]
      refine br_le (fun g => by omega) (fun _ => c_listedA hI hd (by unfold rg; omega) (by unfold rg; omega) (fun b => ⟨fun q => ?_, fun _ => c_cwo hI hd b (fun D' hd' => ?_)⟩) (fun b => ⟨fun _ => ?_, fun q => absurd rfl q⟩))
      · have := b.j hI; omega
      · have r := ocs_rg hI b (D0 214 1).toNat (by omega)
        have r' : 0 ≤ ocs D0 x1 t ∧ ocs D0 x1 t ≤ 192 := by unfold ocs; omega
        have n2 := nx D' hd'
        rw [cif_t b] at n2
        refine br_lt (fun g => ?_) (fun g => br_le (fun g2 => ?_) (fun g2 => ?_))
        · rw [cif_t (Or.inl (by omega))] at n2
          exact br_ne (fun q => absurd rfl q) (fun _ => c_oneIf hG (Or.inr rfl) n2)
        · rw [cif_f (by omega)] at n2
          refine br_ne (fun g3 => c_oneIf hG (Or.inl rfl) ?_) (fun g3 => c_oneIf hG (Or.inr rfl) ?_)
          · rw [cif_f g3] at n2
            rw [Int.add_zero]
            exact n2
          · rw [cif_t g3] at n2
            exact n2
        · rw [cif_t (Or.inr (by omega))] at n2
          exact br_ne (fun q => absurd rfl q) (fun _ => c_oneIf hG (Or.inr rfl) n2)
      · have n2 := nx D hd
        rw [cif_f b] at n2
        exact n2
  have lr : ∀ (Q : mmQ), (∀ D', ag D0 D' → ∀ v : Int, ((ost D0 x1 (D0 214 1).toNat).1 = -5 → v = -5) → ((ost D0 x1 (D0 214 1).toNat).1 ≠ -5 → (x2 = 0 → v = (ost D0 x1 (D0 214 1).toNat).1) ∧ (x2 = 1 → v = (ost D0 x1 (D0 214 1).toNat).2.1) ∧ (x2 ≠ 0 → x2 ≠ 1 → v = (ost D0 x1 (D0 214 1).toNat).2.2)) → Q (some (vI v)) G D') → 0 ≤ x1 → x1 < 10 → ∀ (n : Nat) (D : mmD) (t : Int), ag D0 D → 0 ≤ t → t ≤ D0 214 1 → D0 214 1 - t = n → Go E (d + 5) 0 0 mX12_old 30 [some (vR 214), some (vI x1), some (vI x2), some (vI (ost D0 x1 t.toNat).1), some (vI (ost D0 x1 t.toNat).2.1), some (vI (ost D0 x1 t.toNat).2.2), some (vI t), none, none] [] G D Q := by
    intro Q hQ m0 m1 n
    induction n with
    | zero =>
      intro D t hd t0 t1 tn
      have e : t = D0 214 1 := by omega
      refine w_X12_old_30 hG ?_
      rw [hd.s (by omega) (by omega), e]
      exact br_le (fun _ => br_eq (fun g => hQ D hd _ (fun _ => g) (fun q => absurd g q)) (fun g => br_ne (fun g1 => br_ne (fun g2 => hQ D hd _ (fun q => absurd q g) (fun _ => ⟨fun q => by omega, fun q => by omega, fun _ _ => rfl⟩)) (fun g2 => hQ D hd _ (fun q => absurd q g) (fun _ => ⟨fun q => by omega, fun _ => rfl, fun _ q => by omega⟩))) (fun g1 => hQ D hd _ (fun q => absurd q g) (fun _ => ⟨fun _ => rfl, fun q => by omega, fun q => by omega⟩)))) (fun g => by omega)
    | succ n ih =>
      intro D t hd t0 t1 tn
      have hr := ost_rg hI x1 t.toNat (by omega)
      have nx : ∀ D', ag D0 D' → _ := fun D' hd' => ih D' (t + 1) hd' (by omega) (by omega) (by omega)
      rw [ost_s t0] at nx
      generalize ost D0 x1 t.toNat = S at *
      obtain ⟨sb, sl, sa⟩ := S
      simp only at hr nx ⊢
      -- the inner sum
      have inner : ∀ (k : Nat) (D : mmD) (o : Int), ag D0 D → 0 ≤ o → o ≤ D0 214 1 → D0 214 1 - o = k → ∀ s : Int, (lst D0 t x1 → s = fsum (oc D0 x1 t) o.toNat) → Go E (d + 5) 0 0 mX12_old 45 [some (vR 214), some (vI x1), some (vI x2), some (vI sb), some (vI sl), some (vI sa), some (vI t), some (vI s), some (vI o)] [] G D Q := by
        intro k
        induction k with
        | zero =>
          intro D o hd o0 o1 on s hs
          have e : o = D0 214 1 := by omega
          refine w_X12_old_45 hG ?_
          rw [hd.s (by omega) (by omega)]
          refine br_le (fun _ => c_hasA hI hd (by unfold rg; omega) h1 (fun b => b_t ?_) (fun b => b_f ?_)) (fun g => by omega)
          · have es : s = ocs D0 x1 t := by rw [hs b, e]; rfl
            have r := ocs_rg hI b (D0 214 1).toNat (by omega)
            have r' : 0 ≤ ocs D0 x1 t ∧ ocs D0 x1 t ≤ 192 := by unfold ocs; omega
            have n2 := nx D hd
            rw [cif_t b] at n2
            rw [es]
            refine br_eq (fun g => b_t ?_) (fun g => br_le (fun g2 => b_f ?_) (fun g2 => b_t ?_))
            · rw [cif_t (Or.inl g)] at n2
              exact w_X12_old_161 hG (b_t (b_t n2))
            · rw [cif_f (by omega)] at n2
              refine br_ne (fun g3 => ?_) (fun g3 => ?_)
              · rw [cif_f g3] at n2
                exact w_X12_old_161 hG (b_f (b_f n2))
              · rw [cif_t g3] at n2
                exact w_X12_old_161 hG (b_f (b_f n2))
            · rw [cif_t (Or.inr (by omega))] at n2
              exact w_X12_old_161 hG (b_t (b_t n2))
          · have n2 := nx D hd
            rw [cif_f b] at n2
            exact n2
        | succ k ihk =>
          intro D o hd o0 o1 on s hs
          refine w_X12_old_45 hG ?_
          rw [hd.s (by omega) (by omega)]
          refine br_le (fun g => by omega) (fun _ => br_eq (fun g => ?_) (fun g => c_hasA hI hd (by unfold rg; omega) h1 (fun b => b_t (c_hasA hI hd (by unfold rg; omega) h1 (fun b' => b_t (c_rcost hI hd rfl rfl (b.j hI).1 (b.j hI).2 (b'.j hI).1 (b'.j hI).2 (fun D' hd' _ _ => ?_))) (fun b' => b_f ?_))) (fun b => b_f ?_)))
          · refine ihk D (o + 1) hd (by omega) (by omega) (by omega) _ (fun b => ?_)
            rw [fsum_s o0, hs b]
            unfold oc
            rw [g, cif_t b, ecw_self hI (b.j hI).1 (b.j hI).2]
          · refine ihk D' (o + 1) hd' (by omega) (by omega) (by omega) _ (fun _ => ?_)
            rw [fsum_s o0, hs b]
            unfold oc
            rw [cif_t b']
          · refine ihk D (o + 1) hd (by omega) (by omega) (by omega) _ (fun _ => ?_)
            rw [fsum_s o0, hs b]
            unfold oc
            rw [cif_f b']
          · exact ihk D (o + 1) hd (by omega) (by omega) (by omega) _ (fun q => absurd q b)
      refine w_X12_old_30 hG ?_
      rw [hd.s (by omega) (by omega)]
      exact br_le (fun g => by omega) (fun _ => inner (D0 214 1).toNat D 0 hd (by omega) (by omega) (by omega) 0 (fun _ => rfl))
  have no : (x1 < 0 ∨ 10 ≤ x1 ∨ x2 < 0 ∨ 2 < x2) → Call E (d + 5) 0 0 mX12_old [vR 214, vI x1, vI x2] G D0 (retI G (fun y D2 => iv (-1) = iv y ∧ Inv G D2)) := fun q =>
    w_X12_old hG (c_rMeaning hG h1 (fun _ _ => b_t (c_in hG h2 (by unfold rg; omega) (by unfold rg; omega) (fun _ _ => by omega) (fun _ => n_f (rI ⟨rfl, hI⟩)))) (fun _ => b_f (rI ⟨rfl, hI⟩)))
  refine w_X11_old hG (c_isMeaning hG h1 (fun a b => b_t (br_lt (fun p => rI (no (by omega))) (fun p => br_le (fun q => ?_) (fun q => rI (no (by omega)))))) (fun a => b_f (rI (no (by omega)))))
  refine lc _ (fun D' hd' v e1 e2 => rI (w_X12_old hG (c_rMeaning hG h1 (fun _ _ => b_t (c_in hG h2 (by unfold rg; omega) (by unfold rg; omega) (fun _ _ => n_t (lr _ (fun D2 hd2 v2 f1 f2 => rI ⟨?_, hI.ag hd2⟩) a b (D0 214 1).toNat D' 0 hd' (by omega) (by omega) (by omega))) (fun g => by omega))) (fun g => by omega)))) (D0 214 1).toNat D0 0 ag.rfl (by omega) (by omega) (by omega)
  by_cases g : (ost D0 x1 (D0 214 1).toNat).1 = -5
  · rw [e1 g, f1 g]
  · obtain ⟨p1, p2, p3⟩ := e2 g
    obtain ⟨q1, q2, q3⟩ := f2 g
    by_cases g0 : x2 = 0
    · rw [p1 g0, q1 g0]
    · by_cases g1 : x2 = 1
      · rw [p2 g1, q2 g1]
      · rw [p3 g0 g1, q3 g0 g1]
end Pub4
