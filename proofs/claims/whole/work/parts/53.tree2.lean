/-- best TREE so far, its STEPS, how many have as few -/
def tst (F : Int → Int) : Nat → Int × Int × Int
  | 0 => (-1, 0, 0)
  | k + 1 => if (tst F k).1 = -1 ∨ F k < (tst F k).2.1 then ((k : Int), F k, 1) else if F k = (tst F k).2.1 then ((tst F k).1, (tst F k).2.1, (tst F k).2.2 + 1) else tst F k
theorem tst_rg {F : Int → Int} (hF : ∀ k, 0 ≤ F k ∧ F k ≤ 90) : ∀ k : Nat, (k = 0 ∨ 0 ≤ (tst F k).1) ∧ -1 ≤ (tst F k).1 ∧ (tst F k).1 < k ∧ 0 ≤ (tst F k).2.1 ∧ (tst F k).2.1 ≤ 90 ∧ 0 ≤ (tst F k).2.2 ∧ (tst F k).2.2 ≤ k
  | 0 => ⟨Or.inl rfl, by show (-1 : Int) ≤ -1; omega, by show (-1 : Int) < 0; omega, by show (0 : Int) ≤ 0; omega, by show (0 : Int) ≤ 90; omega, by show (0 : Int) ≤ 0; omega, by show (0 : Int) ≤ 0; omega⟩
  | k + 1 => by
    have i := tst_rg hF k
    have f := hF k
    simp only [tst]
    by_cases a : (tst F k).1 = -1 ∨ F k < (tst F k).2.1
    · rw [if_pos a]
      show (k + 1 = 0 ∨ 0 ≤ (k : Int)) ∧ -1 ≤ (k : Int) ∧ (k : Int) < ((k + 1 : Nat) : Int) ∧ 0 ≤ F k ∧ F k ≤ 90 ∧ (0 : Int) ≤ 1 ∧ (1 : Int) ≤ ((k + 1 : Nat) : Int)
      omega
    · rw [if_neg a]
      by_cases b : F k = (tst F k).2.1
      · rw [if_pos b]
        show (k + 1 = 0 ∨ 0 ≤ (tst F k).1) ∧ -1 ≤ (tst F k).1 ∧ (tst F k).1 < ((k + 1 : Nat) : Int) ∧ 0 ≤ (tst F k).2.1 ∧ (tst F k).2.1 ≤ 90 ∧ 0 ≤ (tst F k).2.2 + 1 ∧ (tst F k).2.2 + 1 ≤ ((k + 1 : Nat) : Int)
        omega
      · rw [if_neg b]
        omega
theorem fit_rg : ∀ (R : List (Nat × Nat)) (st : (Nat → Int) × Int), st.2 ≤ (R.foldl fst1 st).2 ∧ (R.foldl fst1 st).2 ≤ st.2 + R.length
  | [], st => by simp
  | b :: R, st => by
    rw [List.foldl_cons, List.length_cons]
    have i := fit_rg R (fst1 st b)
    have : st.2 ≤ (fst1 st b).2 ∧ (fst1 st b).2 ≤ st.2 + 1 := by
      unfold fst1
      split
      · show st.2 ≤ st.2 + 1 ∧ st.2 + 1 ≤ st.2 + 1; omega
      · show st.2 ≤ st.2 ∧ st.2 ≤ st.2 + 1; omega
    omega
theorem fsum_b {f : Int → Int} {b : Int} (h : ∀ k, 0 ≤ f k ∧ f k ≤ b) : ∀ n : Nat, 0 ≤ fsum f n ∧ fsum f n ≤ b * n
  | 0 => by simp [fsum]
  | n + 1 => by
    have i := fsum_b h n
    have q := h n
    show 0 ≤ fsum f n + f n ∧ fsum f n + f n ≤ b * ((n + 1 : Nat) : Int)
    have : b * ((n + 1 : Nat) : Int) = b * (n : Int) + b := by
      rw [show ((n + 1 : Nat) : Int) = (n : Int) + 1 by omega, Int.mul_add, Int.mul_one]
    omega
section Tree2
variable {E : mmE} {d : Nat} {G : mmG} {D0 D : mmD} {N : Nat} {x x1 x2 : Int}
theorem stF_rg (n3 : 3 ≤ N) (n6 : N ≤ 6) (num : Int) : 0 ≤ stF D x N num ∧ stF D x N num ≤ 90 := by
  have dlt : ∀ r : Nat, 3 ≤ r → r < N → dgN N num r < 2 * r - 3 := fun r r3 rN => by
    have := dgx_rg (r := (r : Int)) (by omega) ((N : Int) - 1 - (r : Int)).toNat num
    rw [← dgN_ok num r r3 rN] at this
    omega
  obtain ⟨-, f2, -⟩ := fac_B (fac_of n3 n6 dlt)
  have l9 : (rvB (pbr (dgN N num) N)).length ≤ 9 := by
    unfold rvB
    rw [List.length_reverse, List.length_map, f2]; omega
  have := fsum_b (f := fch D (fun q => (bl x 6).getD q 0) N (pbr (dgN N num) N)) (b := 9) (fun m => by
    have := fit_rg (rvB (pbr (dgN N num) N)) (S0f (Lbf D (fun q => (bl x 6).getD q 0) N m), 0)
    unfold fch
    simp only at this
    omega) 10
  unfold stF
  omega
theorem l_treeC {Q : mmQ} {tr : Nat} (hI : Inv G D0) (x0 : 0 ≤ x) (xt : x < ishl 1 (D0 214 1)) (hN : (bl x 6).length = N) (n3 : 3 ≤ N) (n6 : N ≤ 6) (t1 : tr ≤ 105) (w0 : 0 ≤ x2) (w2 : x2 ≤ 2) (tp : 1 ≤ tr)
    (K : ∀ D', ag D0 D' → Q (some (vI (if x2 = 0 then (tst (stF D0 x N) tr).1 else if x2 = 1 then (tst (stF D0 x N) tr).2.1 else (tst (stF D0 x N) tr).2.2))) G D') :
    ∀ (n : Nat) (D : mmD) (k : Nat) (x4 x5 x6 : Int), tr - k = n → k ≤ tr → ag D0 D → hng D0 D → (k = 0 → x4 = 0 ∧ x5 = 0 ∧ x6 = 0) → (1 ≤ k → (x4, x5, x6) = tst (stF D0 x N) k) → Go E (d + 5) 0 0 mX11_tree 43 [some (vR 2), some (vI x), some (vI x2), some (vI (tr : Int)), some (vI x4), some (vI x5), some (vI x6), some (vI (k : Int)), none] [] G D Q := by
  have hG := hI.1
  have rgt := tst_rg (F := stF D0 x N) (fun k => stF_rg n3 n6 k)
  intro n
  induction n with
  | zero =>
    intro D k x4 x5 x6 kn k1 hd hh z0 z1
    have ek : k = tr := by omega
    subst ek
    have e := z1 tp
    have e4 : x4 = (tst (stF D0 x N) k).1 := by rw [← e]
    have e5 : x5 = (tst (stF D0 x N) k).2.1 := by rw [← e]
    have e6 : x6 = (tst (stF D0 x N) k).2.2 := by rw [← e]
    have kk := K D hd
    refine w_X11_tree_43 hG (br_le (fun _ => br_ne (fun g => br_ne (fun g' => ?_) (fun g' => ?_)) (fun g => ?_)) (fun g => by omega))
    · rw [if_neg g, if_neg g'] at kk; rw [e6]; exact kk
    · rw [if_neg g, if_pos g'] at kk; rw [e5]; exact kk
    · rw [if_pos g] at kk; rw [e4]; exact kk
  | succ n ih =>
    intro D k x4 x5 x6 kn k1 hd hh z0 z1
    have hF := stF_rg (D := D0) (x := x) n3 n6 (k : Int)
    have rk := rgt k
    have nx : ∀ D' x4 x5 x6, ag D0 D' → hng D0 D' → (x4, x5, x6) = tst (stF D0 x N) (k + 1) → Go E (d + 5) 0 0 mX11_tree 43 [some (vR 2), some (vI x), some (vI x2), some (vI (tr : Int)), some (vI x4), some (vI x5), some (vI x6), some (vI ((k : Int) + 1)), none] [] G D' Q := fun D' x4 x5 x6 a b c => by
      have q := ih D' (k + 1) x4 x5 x6 (by omega) (by omega) a b (fun e => by omega) (fun _ => c)
      rw [show ((k + 1 : Nat) : Int) = (k : Int) + 1 by omega] at q
      exact q
    have red : ∀ {A B : Prop} {a : Int}, B → (¬ iv a = iv a → A) ∧ (iv a = iv a → B) := fun b => ⟨fun q => absurd rfl q, fun _ => b⟩
    refine w_X11_tree_43 hG (br_le (fun g => by omega) (fun _ => c_stepsOf hI hd hh x0 xt hN n3 n6 (by omega) (by omega) (dgN_ok (k : Int)) (fun D1 g1 h1 => ?_)))
    show (iv (k : Int) = iv 0 → _) ∧ _
    have ef : fsum (fch D0 (fun q => (bl x 6).getD q 0) N (pbr (dgN N (k : Int)) N)) 10 = stF D0 x N (k : Int) := rfl
    rw [ef]
    refine br_eq (fun e0 => red (c_oneIf hG (Or.inr rfl) (nx D1 _ _ _ g1 h1 ?_))) (fun e0 => ?_)
    · have ek : k = 0 := by omega
      subst ek
      simp only [tst]
      rw [if_pos (Or.inl trivial)]
      rfl
    · have e := z1 (by omega)
      have e4 : x4 = (tst (stF D0 x N) k).1 := by rw [← e]
      have e5 : x5 = (tst (stF D0 x N) k).2.1 := by rw [← e]
      have e6 : x6 = (tst (stF D0 x N) k).2.2 := by rw [← e]
      have nm : (tst (stF D0 x N) k).1 ≠ -1 := by omega
      refine br_le (fun g => br_ne (fun g' => c_oneIf hG (Or.inl rfl) (nx D1 _ _ _ g1 h1 ?_)) (fun g' => c_oneIf hG (Or.inr rfl) (nx D1 _ _ _ g1 h1 ?_))) (fun g => red (c_oneIf hG (Or.inr rfl) (nx D1 _ _ _ g1 h1 ?_)))
      · simp only [tst]
        rw [if_neg (by omega), if_neg (by omega), ← e, Int.add_zero]
      · simp only [tst]
        rw [if_neg (by omega), if_pos (by omega), e4, e5, e6]
      · simp only [tst]
        rw [if_pos (Or.inr (by omega))]
        rfl
theorem l_treeR {Q : mmQ} {tr : Nat} (hI : Inv G D0) (htr : N = 3 ∧ tr = 1 ∨ N = 4 ∧ tr = 3 ∨ N = 5 ∧ tr = 15 ∨ N = 6 ∧ tr = 105) (n3 : 3 ≤ N) (n6 : N ≤ 6) (w0 : 0 ≤ x2) (w2 : x2 ≤ 2)
    (K : ∀ D', ag D0 D' → Q (some (vI (if x2 = 0 then (tst (stF D0 x N) tr).1 else if x2 = 1 then (tst (stF D0 x N) tr).2.1 else (tst (stF D0 x N) tr).2.2))) G D') :
    ∀ (n : Nat) (D : mmD) (k : Nat), tr - k = n → k ≤ tr → ag D0 D → rfD D0 D x N → Go E (d + 3) 0 0 mX12_tree 35 [some (vR 214), none, some (vI x2), none, some (vI (tst (stF D0 x N) k).1), some (vI (tst (stF D0 x N) k).2.1), some (vI (tst (stF D0 x N) k).2.2), some (vI (k : Int)), none, none] [] G D Q := by
  have hG := hI.1
  have rgt := tst_rg (F := stF D0 x N) (fun k => stF_rg n3 n6 k)
  intro n
  induction n with
  | zero =>
    intro D k kn k1 hd hr
    have ek : k = tr := by omega
    subst ek
    have kk := K D hd
    refine w_X12_tree_35 hG (r_trees hG hr.1 n3 n6 (fun v hv => br_le (fun _ => br_ne (fun g => br_ne (fun g' => ?_) (fun g' => ?_)) (fun g => ?_)) (fun g => by omega)))
    · rw [if_neg g, if_neg g'] at kk; exact kk
    · rw [if_neg g, if_pos g'] at kk; exact kk
    · rw [if_pos g] at kk; exact kk
  | succ n ih =>
    intro D k kn k1 hd hr
    have hF := stF_rg (D := D0) (x := x) n3 n6 (k : Int)
    have rk := rgt k
    refine w_X12_tree_35 hG (r_trees hG hr.1 n3 n6 (fun v hv => br_le (fun g => by omega) (fun _ => r_stepsOf hI hd hr n3 n6 (by omega) (by omega) (dgN_ok (k : Int)) (fun D1 g1 r1 => ?_))))
    have ef : fsum (fch D0 (fun q => (bl x 6).getD q 0) N (pbr (dgN N (k : Int)) N)) 10 = stF D0 x N (k : Int) := rfl
    rw [ef]
    have nx := ih D1 (k + 1) (by omega) (by omega) g1 r1
    rw [show ((k + 1 : Nat) : Int) = (k : Int) + 1 by omega] at nx
    simp only [tst] at nx
    have less : (tst (stF D0 x N) k).1 = -1 ∨ stF D0 x N (k : Int) < (tst (stF D0 x N) k).2.1 → Go E (d + 3) 0 0 mX12_tree 97 [some (vR 214), none, some (vI x2), none, some (vI (tst (stF D0 x N) k).1), some (vI (tst (stF D0 x N) k).2.1), none, some (vI (k : Int)), some (vI (stF D0 x N (k : Int))), some (vI 1)] [vI 1] G D1 Q := fun q => by
      rw [if_pos q] at nx
      exact w_X12_tree_97 hG (b_t (b_t nx))
    refine br_eq (fun e0 => b_t (less (Or.inl e0))) (fun e0 => br_le (fun g => b_f (br_ne (fun g' => ?_) (fun g' => ?_))) (fun g => b_t (less (Or.inr g))))
    · rw [if_neg (by omega), if_neg g'] at nx
      exact w_X12_tree_97 hG (b_f (b_f nx))
    · rw [if_neg (by omega), if_pos g'] at nx
      exact w_X12_tree_97 hG (b_f (b_f nx))
theorem p_tree (hI : Inv G D0) (h1 : rg x1) (h2 : rg x2) : Pair E (d + 6) mX11_tree mX12_tree [vI x1, vI x2] G D0 := by
  have hG := hI.1
  have h2' := h2
  unfold rg at h2'
  refine w_X11_tree hG (c_areLeaves hI h1 (fun x0 xt x64 n3 => n_t ?_) (fun hn => n_f (rI (w_X12_tree hG (r_refusesN hI h1 hn ⟨fun q => absurd q (by decide +kernel), fun _ => rI ⟨rfl, hI⟩⟩)))))
  generalize hN : (bl x1 6).length = N at *
  have n6 : N ≤ 6 := by
    have := bl_len (x := x1) 6
    have := pcn_rg x1 6
    omega
  have no : (x2 < 0 ∨ 2 < x2) → Call E (d + 6) 0 0 mX12_tree [vR 214, vI x1, vI x2] G D0 (retI G (fun y D2 => iv (-1) = iv y ∧ Inv G D2)) := fun hb =>
    w_X12_tree hG (r_refuses hI ag.rfl h1 x0 xt hN n3 n6 (fun D1 g1 r1 => b_f (c_in hG h2 (by unfold rg; omega) (by unfold rg; omega) (fun a b => by omega) (fun a => n_f (rI ⟨rfl, hI.ag g1⟩)))))
  refine br_lt (fun g => rI (no (by omega))) (fun w0 => br_le (fun w2 => ?_) (fun g => rI (no (by omega))))
  refine c_hangSets hI ag.rfl (fun D1 g1 h1' => c_treesOf hG x0 x64 hN n3 n6 (fun v hv => ?_))
  obtain ⟨tr, etr⟩ : ∃ tr : Nat, v = (tr : Int) := ⟨v.toNat, by omega⟩
  subst etr
  refine l_treeC hI x0 xt hN n3 n6 (by omega) w0 w2 (by omega) (fun D2 g2 => rI ?_) tr D1 0 0 0 0 (by omega) (by omega) g1 h1' (fun _ => ⟨rfl, rfl, rfl⟩) (fun q => by omega)
  refine w_X12_tree hG (r_refuses hI g2 h1 x0 xt hN n3 n6 (fun D3 g3 r3 => b_f (c_in hG h2 (by unfold rg; omega) (by unfold rg; omega) (fun _ _ => n_t ?_) (fun a => by omega))))
  exact l_treeR (tr := tr) hI (by omega) n3 n6 w0 w2 (fun D4 g4 => rI ⟨rfl, hI.ag g4⟩) tr D3 0 (by omega) (by omega) g3 r3
end Tree2
