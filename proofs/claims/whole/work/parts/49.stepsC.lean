/-- the label of a KIN SET: its least TONGUE; -1: no WORD -/
def isLb (D : mmD) (m t v : Int) : Prop := (¬ lst D t m ∧ v = -1) ∨ (lst D t m ∧ 0 ≤ v ∧ v < 6 ∧ rch D m t v ∧ ∀ i, 0 ≤ i → i < v → ¬ rch D m t i)
theorem isLb.uniq {D : mmD} {m t v w : Int} (h : isLb D m t v) (h2 : isLb D m t w) : v = w := by
  rcases h with ⟨a, b⟩ | ⟨a, b, c, e, f⟩
  · rcases h2 with ⟨a', b'⟩ | ⟨a', -⟩
    · omega
    · exact absurd a' a
  · rcases h2 with ⟨a', b'⟩ | ⟨a', b', c', e', f'⟩
    · exact absurd a a'
    · by_cases q : v < w
      · exact absurd e (f' v b q)
      · by_cases q' : w < v
        · exact absurd e' (f w b' q')
        · omega
noncomputable def lbl (D : mmD) (m t : Int) : Int := Classical.epsilon (isLb D m t)
theorem lbl_eq {D : mmD} {m t v : Int} (h : isLb D m t v) : lbl D m t = v := (Classical.epsilon_spec ⟨v, h⟩ : isLb D m t (lbl D m t)).uniq h
theorem isLb.rg {D : mmD} {m t v : Int} (h : isLb D m t v) : -1 ≤ v ∧ v < 6 := by
  rcases h with ⟨a, b⟩ | ⟨a, b, c, e, f⟩ <;> omega
/-- labels by the leaf's rank -/
noncomputable def Lbf (D : mmD) (T : Nat → Int) (n : Nat) (m : Int) : Nat → Int := fun q => if q < n then lbl D m (T q) else -1
section StepsC
variable {E : mmE} {d : Nat} {G : mmG} {D0 D : mmD} {P : Int → mmD → Prop} {P0 : mmD → Prop} {T : Nat → Int} {N : Nat} {x m t : Int} {B : List (Nat × Nat)} {Lb : Nat → Int}
/-- the sets as the class has them -/
def rlS (D : mmD) (T : Nat → Int) (n : Nat) (S : Nat → Int) : Prop := (∀ q : Nat, q < n → D 17 (T q) = S q) ∧ (∀ v : Nat, 6 ≤ v → v < 10 → D 17 (v : Int) = S v) ∧ ∀ q, 0 ≤ S q ∧ S q < 64
theorem c_fewest (hG : Sh G) (hT : ∀ q : Nat, q < N → 0 ≤ T q ∧ T q < 6) (n3 : 3 ≤ N) (n6 : N ≤ 6) (hf : fac N B = true) (hb : brC D T B) (ho : ∀ i : Nat, i < (owt B).length → D 15 (i : Int) = (((owt B).getD i 0 : Nat) : Int)) (m0 : 0 ≤ m) (m1 : m < 10) (hL : ∀ q, -1 ≤ Lb q ∧ Lb q < 6) (h16 : ∀ q : Nat, q < N → D 16 (6 * m + T q) = msk (Lb q))
    (h : ∀ D', (∀ c k, c ≠ 17 → D' c k = D c k) → P ((rvB B).foldl fst1 (S0f Lb, 0)).2 D') : Call E d 0 0 mX0_fewestChanges [vR 12, vI m] G D (retI G P) := by
  obtain ⟨f1, f2, f3, f4, -⟩ := fac_B hf
  -- from the leaves inward
  have fold : ∀ (k : Nat) (D' : mmD) (S : Nat → Int) (c : Int), k ≤ (owt B).length → (∀ c k, c ≠ 17 → D' c k = D c k) → rlS D' T N S → ((((owt B).take k).map (fun b => B.getD b (0, 0))).reverse.foldl fst1 (S, c)).2 = ((rvB B).foldl fst1 (S0f Lb, 0)).2 → Go E d 0 0 mX0_fewestChanges 51 [some (vR 12), none, some (vI c), some (vI ((k : Int) - 1)), none, none, none] [] G D' (retI G P) := by
    intro k
    induction k with
    | zero =>
      intro D' S c kl fr hS e
      refine w_X0_fewestChanges_51 hG (br_lt (fun _ => rI ?_) (fun g => by omega))
      have : c = ((rvB B).foldl fst1 (S0f Lb, 0)).2 := e
      rw [this]
      exact h D' fr
    | succ k ih =>
      intro D' S c kl fr hS e
      have ek : ((k + 1 : Nat) : Int) - 1 = (k : Int) := by omega
      have bidx : (owt B).getD k 0 < B.length := by
        rw [List.getD_eq_getElem?_getD, List.getElem?_eq_getElem (by omega), f1]
        exact f3 _ (List.getElem_mem _)
      have etk : (owt B).take (k + 1) = (owt B).take k ++ [(owt B).getD k 0] := by
        rw [List.take_succ, List.getElem?_eq_getElem (by omega), List.getD_eq_getElem?_getD, List.getElem?_eq_getElem (by omega)]
        rfl
      rw [etk, List.map_append, List.reverse_append] at e
      have e' : ((((owt B).take k).map (fun b => B.getD b (0, 0))).reverse.foldl fst1 (fst1 (S, c) (B.getD ((owt B).getD k 0) (0, 0)))).2 = ((rvB B).foldl fst1 (S0f Lb, 0)).2 := e
      have hbb := hb.2 _ bidx
      have hB := f4 _ bidx
      generalize hbr : B.getD ((owt B).getD k 0) (0, 0) = br at *
      have e15 : D' 15 (k : Int) = (((owt B).getD k 0 : Nat) : Int) := by rw [fr _ _ (by omega)]; exact ho k (by omega)
      have e13 : D' 13 (((owt B).getD k 0 : Nat) : Int) = (br.1 : Int) := by rw [fr _ _ (by omega)]; exact hbb.1
      have e14 : D' 14 (((owt B).getD k 0 : Nat) : Int) = lab T br.2 := by rw [fr _ _ (by omega)]; exact hbb.2
      obtain ⟨s1, s2, s3⟩ := id hS
      have v17 : D' 17 (br.1 : Int) = S br.1 := s2 br.1 hB.1.1 (by omega)
      have lr : 0 ≤ lab T br.2 ∧ lab T br.2 < 10 ∧ D' 17 (lab T br.2) = S br.2 := by
        unfold lab
        by_cases q : br.2 < 6
        · rw [if_pos q]
          have := hT br.2 (by omega)
          exact ⟨by omega, by omega, s1 br.2 (by omega)⟩
        · rw [if_neg q]
          exact ⟨by omega, by omega, s2 br.2 (by omega) (by omega)⟩
      have A := s3 br.1
      have C := s3 br.2
      have ar := and_rg (x := S br.1) (y := S br.2) A.1 (by omega) C.1 (by omega)
      have orr := or_rg (x := S br.1) (y := S br.2) 6 (by omega) A.1 (by rw [pw6]; exact A.2) C.1 (by rw [pw6]; exact C.2)
      rw [pw6] at orr
      have upd : ∀ (y : Int) (D2 : mmD), 0 ≤ y → y < 64 → D2 = up2 D' 17 (br.1 : Int) y → (∀ c k, c ≠ 17 → D2 c k = D c k) ∧ rlS D2 T N (upN S br.1 y) := fun y D2 y0 y1 e2 => by
        refine ⟨fun c j q => by rw [e2, up2_ne (fun t => q t.1)]; exact fr c j q, fun q hq => ?_, fun v v6 v10 => ?_, fun q => ?_⟩
        · have := hT q hq
          unfold upN
          rw [e2, up2_ne (by omega), if_neg (by omega)]; exact s1 q hq
        · unfold upN
          by_cases ev : v = br.1
          · rw [if_pos ev, e2, ev, up2_same]
          · rw [if_neg ev, e2, up2_ne (by omega)]; exact s2 v v6 v10
        · unfold upN
          split
          · exact ⟨y0, y1⟩
          · exact s3 q
      rw [ek]
      refine w_X0_fewestChanges_51 hG (br_lt (fun g => by omega) (fun _ => ?_))
      rw [e15, e13, e14, v17, lr.2.2]
      have ixb : 0 ≤ (((owt B).getD k 0 : Nat) : Int) ∧ (((owt B).getD k 0 : Nat) : Int) < 9 := by omega
      refine ⟨⟨by omega, by omega⟩, ixb, ⟨by omega, by omega⟩, ixb, ⟨by omega, by omega⟩, ⟨by omega, by omega⟩, br_ne (fun g => ⟨⟨by omega, by omega⟩, fun D2 e2 => ?_⟩) (fun g => ⟨⟨by omega, by omega⟩, ⟨by omega, by omega⟩, ⟨by omega, by omega⟩, fun D2 e2 => ?_⟩)⟩
      · obtain ⟨u1, u2⟩ := upd _ D2 ar.1 (by omega) e2
        have ef : fst1 (S, c) br = (upN S br.1 (iand (S br.1) (S br.2)), c) := by unfold fst1; rw [if_neg g]
        rw [ef] at e'
        have nx := ih D2 _ c (by omega) u1 u2 e'
        rw [show (k : Int) + -1 = (k : Int) - 1 by omega]
        exact nx
      · obtain ⟨u1, u2⟩ := upd _ D2 orr.1 orr.2 e2
        have ef : fst1 (S, c) br = (upN S br.1 (ior (S br.1) (S br.2)), c + 1) := by unfold fst1; rw [if_pos g]
        rw [ef] at e'
        have nx := ih D2 _ (c + 1) (by omega) u1 u2 e'
        rw [show (k : Int) + -1 = (k : Int) - 1 by omega]
        exact nx
  have ini : ∀ (n : Nat) (D' : mmD) (k : Int), 10 - k = n → 0 ≤ k → k ≤ 10 → (∀ c k, c ≠ 17 → D' c k = D c k) → (∀ e : Int, 0 ≤ e → e < k → D' 17 e = if e < 6 then D 16 (6 * m + e) else 63) → Go E d 0 0 mX0_fewestChanges 2 [some (vR 12), some (vI m), some (vI k), none, none, none, none] [] G D' (retI G P) := by
    intro n
    induction n with
    | zero =>
      intro D' k kn k0 k1 fr z
      refine w_X0_fewestChanges_2 hG (br_le (fun _ => ?_) (fun g => by omega))
      rw [fr 12 2 (by omega), hb.1]
      have nx := fold (owt B).length D' (S0f Lb) 0 (Nat.le_refl _) fr ⟨fun q hq => ?_, fun v v6 v10 => ?_, fun q => ?_⟩ (by rw [List.take_length]; rfl)
      · rw [f2] at nx
        rw [f1]
        exact nx
      · have := hT q hq
        rw [z _ this.1 (by omega), if_pos this.2, h16 q hq]
        unfold S0f
        rw [if_pos (by omega)]
      · rw [z _ (by omega) (by omega), if_neg (by omega)]
        unfold S0f
        rw [if_neg (by omega)]
      · unfold S0f
        split
        · have := msk_rg (hL q).1 (hL q).2; omega
        · omega
    | succ n ih =>
      intro D' k kn k0 k1 fr z
      refine w_X0_fewestChanges_2 hG (br_le (fun g => by omega) (fun _ => br_le (fun g => ⟨⟨by omega, by omega⟩, fun D1 e1 => ?_⟩) (fun g => ⟨⟨by omega, by omega⟩, ⟨by omega, by omega⟩, fun D1 e1 => ?_⟩)))
      · refine ih D1 (k + 1) (by omega) (by omega) (by omega) (fun c j q => by rw [e1, up2_ne (fun t => q t.1)]; exact fr c j q) (fun e e0 ek => ?_)
        by_cases q : e = k
        · rw [q, e1, up2_same, if_neg (by omega)]
        · rw [e1, up2_ne (by omega)]; exact z e e0 (by omega)
      · refine ih D1 (k + 1) (by omega) (by omega) (by omega) (fun c j q => by rw [e1, up2_ne (fun t => q t.1)]; exact fr c j q) (fun e e0 ek => ?_)
        by_cases q : e = k
        · rw [q, e1, up2_same, if_pos (by omega), fr _ _ (by omega), show m * 6 + k = 6 * m + k by omega]
        · rw [e1, up2_ne (by omega)]; exact z e e0 (by omega)
  exact w_X0_fewestChanges hG (ini 10 D 0 (by omega) (by omega) (by omega) (fun _ _ _ => rfl) (fun e e0 ek => by omega))
/-- changes of a MEANING -/
noncomputable def fch (D : mmD) (T : Nat → Int) (n : Nat) (B : List (Nat × Nat)) : Int → Int := fun m => ((rvB B).foldl fst1 (S0f (Lbf D T n m), 0)).2
/-- what the leaves hang on, in the class -/
def hng (D0 D : mmD) : Prop := ∀ m t : Int, 0 ≤ m → m < 10 → 0 ≤ t → t < D0 214 1 → ∃ v, isLb D0 m t v ∧ D 16 (6 * m + t) = msk v
theorem c_stepsOf {num : Int} {dg : Nat → Nat} (hI : Inv G D0) (ha : ag D0 D) (hh : hng D0 D) (x0 : 0 ≤ x) (x1 : x < ishl 1 (D0 214 1)) (hN : (bl x 6).length = N) (n3 : 3 ≤ N) (n6 : N ≤ 6) (z0 : 0 ≤ num) (z1 : num ≤ 105) (hdg : ∀ r : Nat, 3 ≤ r → r < N → (dg r : Int) = dgx (r : Int) ((N : Int) - 1 - (r : Int)).toNat num)
    (h : ∀ D', ag D0 D' → hng D0 D' → P (fsum (fch D0 (fun q => (bl x 6).getD q 0) N (pbr dg N)) 10) D') : Call E (d + 4) 0 0 mX11_stepsOf [vR 2, vI x, vI num] G D (retI G P) := by
  have hG := hI.1
  have s1 := hI.2.1.1
  have x64 : x < 64 := by
    have := ishl_1 (k := D0 214 1) s1.2.1 (by omega)
    have h2 : 2 ^ (D0 214 1).toNat ≤ 2 ^ 6 := Nat.pow_le_pow_right (by omega) (by omega)
    have h3 : ((2 ^ (D0 214 1).toNat : Nat) : Int) ≤ ((2 ^ 6 : Nat) : Int) := Int.ofNat_le.mpr h2
    rw [pw6] at h3
    omega
  have dlt : ∀ r : Nat, 3 ≤ r → r < N → dg r < 2 * r - 3 := fun r r3 rN => by
    have := dgx_rg (r := (r : Int)) (by omega) ((N : Int) - 1 - (r : Int)).toNat num
    rw [← hdg r r3 rN] at this
    omega
  have fa := fac_of n3 n6 dlt
  have hT : ∀ q : Nat, q < N → 0 ≤ (bl x 6).getD q 0 ∧ (bl x 6).getD q 0 < 6 ∧ (bl x 6).getD q 0 < D0 214 1 := fun q hq => by
    have := bl_rg (x := x) 6 q (by omega)
    refine ⟨this.1, this.2.1, ?_⟩
    by_cases e : (bl x 6).getD q 0 < D0 214 1
    · exact e
    · exact absurd this.2.2 (bt_hi (D0 214 1).toNat x0 (by rw [← ishl_1 s1.2.1 (by omega)]; exact x1) (by omega))
  have hLr : ∀ m : Int, 0 ≤ m → m < 10 → ∀ q, -1 ≤ Lbf D0 (fun q => (bl x 6).getD q 0) N m q ∧ Lbf D0 (fun q => (bl x 6).getD q 0) N m q < 6 := fun m m0 m1 q => by
    unfold Lbf
    split
    · rename_i hq
      obtain ⟨v, hv, -⟩ := hh m ((bl x 6).getD q 0) m0 m1 (hT q hq).1 (hT q hq).2.2
      rw [lbl_eq hv]
      exact hv.rg
    · omega
  refine w_X11_stepsOf hG (c_grow hG x0 x64 hN n3 n6 z0 z1 hdg (fun D1 k1 b1 o1 => ?_))
  have lp : ∀ (n : Nat) (D' : mmD) (m : Int), 10 - m = n → 0 ≤ m → m ≤ 10 → (∀ c k, c ≠ 17 → D' c k = D1 c k) → Go E (d + 4) 0 0 mX11_stepsOf 14 [some (vR 2), none, none, some (vI (fsum (fch D0 (fun q => (bl x 6).getD q 0) N (pbr dg N)) m.toNat)), some (vI m)] [] G D' (retI G P) := by
    intro n
    induction n with
    | zero =>
      intro D' m mn m0 m1 fr
      have e : m = 10 := by omega
      subst e
      refine w_X11_stepsOf_14 hG (br_le (fun _ => rI (h D' (ha.trans (fun c k p => ?_)) (fun m t a b c e => ?_))) (fun g => by omega))
      · rw [fr c k (by unfold pers at p; omega), k1 c k (by unfold pers at p; omega) (by unfold pers at p; omega) (by unfold pers at p; omega) (by unfold pers at p; omega)]
      · rw [fr _ _ (by omega), k1 _ _ (by omega) (by omega) (by omega) (by omega)]
        exact hh m t a b c e
    | succ n ih =>
      intro D' m mn m0 m1 fr
      have nx := fun D2 => ih D2 (m + 1) (by omega) (by omega) (by omega)
      rw [fsum_s m0] at nx
      refine w_X11_stepsOf_14 hG (br_le (fun g => by omega) (fun _ => ?_))
      refine c_fewest (T := fun q => (bl x 6).getD q 0) (N := N) (B := pbr dg N) (Lb := Lbf D0 (fun q => (bl x 6).getD q 0) N m) hG (fun q hq => ⟨(hT q hq).1, (hT q hq).2.1⟩) n3 n6 fa ⟨by rw [fr _ _ (by omega)]; exact b1.1, fun b hb => by rw [fr _ _ (by omega), fr _ _ (by omega)]; exact b1.2 b hb⟩ (fun i hi => by rw [fr _ _ (by omega)]; exact o1 i hi) m0 (by omega) (hLr m m0 (by omega)) (fun q hq => ?_) (fun D2 k2 => nx D2 (fun c k p => by rw [k2 c k p]; exact fr c k p))
      obtain ⟨v, hv, e16⟩ := hh m ((bl x 6).getD q 0) m0 (by omega) (hT q hq).1 (hT q hq).2.2
      unfold Lbf
      rw [if_pos hq, lbl_eq hv, fr _ _ (by omega), k1 _ _ (by omega) (by omega) (by omega) (by omega)]
      exact e16
  exact lp 10 D1 0 (by omega) (by omega) (by omega) (fun _ _ _ => rfl)
theorem c_hang {y : Int} (hG : Sh G) (m0 : 0 ≤ m) (m1 : m < 10) (x0 : 0 ≤ x) (x1 : x < 64) (h : ∀ D', (∀ c k, c ≠ 16 → D' c k = D c k) → (∀ k, ¬ (6 * m ≤ k ∧ k < 6 * m + 6) → D' 16 k = D 16 k) → (∀ k, 0 ≤ k → k < 6 → (bt x k → D' 16 (6 * m + k) = y) ∧ (¬ bt x k → D' 16 (6 * m + k) = D 16 (6 * m + k))) → P0 D') : Call E d 0 0 mX0_hang [vR 12, vI m, vI x, vI y] G D (retV G P0) := by
  have lp : ∀ (n : Nat) (D' : mmD) (k : Int), 6 - k = n → 0 ≤ k → k ≤ 6 → (∀ c j, c ≠ 16 → D' c j = D c j) → (∀ j, ¬ (6 * m ≤ j ∧ j < 6 * m + 6) → D' 16 j = D 16 j) → (∀ j, 0 ≤ j → j < 6 → (j < k → bt x j → D' 16 (6 * m + j) = y) ∧ (¬ (j < k ∧ bt x j) → D' 16 (6 * m + j) = D 16 (6 * m + j))) → Go E d 0 0 mX0_hang 3 [some (vR 12), some (vI m), some (vI x), some (vI y), some (vI k)] [] G D' (retV G P0) := by
    intro n
    induction n with
    | zero =>
      intro D' k kn k0 k1 fr fo z
      exact w_X0_hang_3 hG (br_le (fun _ => rV (h D' fr fo (fun j j0 j1 => ⟨fun q => (z j j0 j1).1 (by omega) q, fun q => (z j j0 j1).2 (fun u => q u.2)⟩))) (fun g => by omega))
    | succ n ih =>
      intro D' k kn k0 k1 fr fo z
      refine w_X0_hang_3 hG (br_le (fun g => by omega) (fun _ => ?_))
      by_cases hb : bt x k
      · rw [tb_1 x0 (by omega) k0 (by omega) hb]
        refine b_t ⟨⟨by omega, by omega⟩, fun D1 e1 => ih D1 (k + 1) (by omega) (by omega) (by omega) (fun c j q => by rw [e1, up2_ne (fun t => q t.1)]; exact fr c j q) (fun j q => by rw [e1, up2_ne (by omega)]; exact fo j q) (fun j j0 j1 => ?_)⟩
        rw [show m * 6 + k = 6 * m + k by omega] at e1
        by_cases e : j = k
        · subst e
          refine ⟨fun _ _ => by rw [e1, up2_same], fun q => absurd ⟨by omega, hb⟩ q⟩
        · rw [e1, up2_ne (by omega)]
          exact ⟨fun q1 q2 => (z j j0 j1).1 (by omega) q2, fun q => (z j j0 j1).2 (fun u => q ⟨by omega, u.2⟩)⟩
      · rw [tb_0 x0 (by omega) k0 (by omega) hb]
        refine b_f (ih D' (k + 1) (by omega) (by omega) (by omega) fr fo (fun j j0 j1 => ⟨fun q1 q2 => (z j j0 j1).1 ?_ q2, fun q => (z j j0 j1).2 (fun u => q ⟨by omega, u.2⟩)⟩))
        by_cases e : j = k
        · subst e; exact absurd q2 hb
        · omega
  exact w_X0_hang hG (lp 6 D 0 (by omega) (by omega) (by omega) (fun _ _ _ => rfl) (fun _ _ => rfl) (fun j j0 j1 => ⟨fun q => by omega, fun _ => rfl⟩))
theorem c_hangSets (hI : Inv G D0) (ha : ag D0 D) (h : ∀ D', ag D0 D' → hng D0 D' → P0 D') : Call E (d + 5) 0 0 mX11_hangSets [vR 2] G D (retV G P0) := by
  have hG := hI.1
  have s1 := hI.2.1.1
  let hg1 : mmD → Int → Int → Prop := fun D m t => ∃ v, isLb D0 m t v ∧ D 16 (6 * m + t) = msk v
  have inner : ∀ (m : Int), 0 ≤ m → m < 10 → ∀ (Q : mmQ), (∀ D', ag D0 D' → (∀ m' t, 0 ≤ m' → m' < m + 1 → 0 ≤ t → t < D0 214 1 → hg1 D' m' t) → Go E (d + 5) 0 0 mX11_hangSets 2 [some (vR 2), some (vI (m + 1)), none, none, none] [] G D' Q) →
      ∀ (n : Nat) (D : mmD) (H t : Int), ag D0 D → D0 214 1 - t = n → 0 ≤ t → t ≤ D0 214 1 → 0 ≤ H → H < 64 → (∀ k, 0 ≤ k → (bt H k ↔ ∃ j, 0 ≤ j ∧ j < t ∧ rch D0 m j k)) → (∀ m' t', 0 ≤ m' → m' < m → 0 ≤ t' → t' < D0 214 1 → hg1 D m' t') → (∀ k, 0 ≤ k → k < D0 214 1 → (k < t ∨ bt H k) → hg1 D m k) →
      Go E (d + 5) 0 0 mX11_hangSets 12 [some (vR 2), some (vI m), some (vI H), some (vI t), none] [] G D Q := by
    intro m m0 m1 Q K n
    induction n with
    | zero =>
      intro D H t hd tn t0 t1 H0 H1 hH old new
      refine w_X11_hangSets_12 hG ?_
      rw [hd 2 3 (by unfold pers; omega), s1.1]
      refine br_le (fun _ => K D hd (fun m' t' a b c e => ?_)) (fun g => by omega)
      by_cases q : m' = m
      · subst q; exact new t' c e (Or.inl (by omega))
      · exact old m' t' a (by omega) c e
    | succ n ih =>
      intro D H t hd tn t0 t1 H0 H1 hH old new
      refine w_X11_hangSets_12 hG ?_
      rw [hd 2 3 (by unfold pers; omega), s1.1]
      have nol : ¬ lst D0 t m → ∀ k, 0 ≤ k → (bt H k ↔ ∃ j, 0 ≤ j ∧ j < t + 1 ∧ rch D0 m j k) := fun hn k k0 => by
        rw [hH k k0]
        constructor
        · rintro ⟨j, a, b, c⟩; exact ⟨j, a, by omega, c⟩
        · rintro ⟨j, a, b, c⟩
          by_cases e : j = t
          · exact absurd (e ▸ c.1) hn
          · exact ⟨j, a, by omega, c⟩
      refine br_le (fun g => by omega) (fun _ => c_listedA hI hd (by unfold rg; omega) (by unfold rg; omega) (fun lo => ⟨fun _ => ?_, fun q => ?_⟩) (fun lo => ⟨fun q => absurd rfl q, fun _ => ?_⟩))
      · by_cases hb : bt H t
        · rw [tb_1 H0 (by omega) t0 (by omega) hb]
          refine n_t (ih D H (t + 1) hd (by omega) (by omega) (by omega) H0 H1 (fun k k0 => ?_) old (fun k k0 k1 hk => ?_))
          · rw [hH k k0]
            constructor
            · rintro ⟨j, a, b, c⟩; exact ⟨j, a, by omega, c⟩
            · rintro ⟨j, a, b, c⟩
              by_cases e : j = t
              · obtain ⟨i, i0, i1, ic⟩ := (hH t t0).mp hb
                exact ⟨i, i0, i1, ic.trans (e ▸ c)⟩
              · exact ⟨j, a, by omega, c⟩
          · refine new k k0 k1 ?_
            rcases hk with hk | hk
            · by_cases e : k = t
              · exact Or.inr (e ▸ hb)
              · exact Or.inl (by omega)
            · exact Or.inr hk
        · rw [tb_0 H0 (by omega) t0 (by omega) hb]
          refine n_f (c_kinSetF (K := D) hI ⟨hd, fun _ _ _ _ => rfl⟩ lo (fun x D3 hd3 q0 q1 hx => c_hang hG m0 m1 q0 q1 (fun D5 k5 o5 z5 => ?_)))
          have r2 := or_rg (x := H) (y := x) 6 (by omega) H0 (by rw [pw6]; exact H1) q0 (by rw [pw6]; exact q1)
          rw [pw6] at r2
          have hd5 : ag D0 D5 := hd3.1.trans (fun c k p => k5 c k (by unfold pers at p; omega))
          have d16 : ∀ k, D3 16 k = D 16 k := fun k => hd3.2 16 k (by omega) (by omega)
          -- t is the least of its set
          have least : ∀ k, 0 ≤ k → rch D0 m t k → isLb D0 m k t := fun k k0 hk => by
            have hkt := hk.symm hI
            refine Or.inr ⟨hk.l, t0, by omega, hkt, fun i i0 i1 hi => hb ((hH t t0).mpr ⟨i, i0, i1, ?_⟩)⟩
            exact ((hk.trans hi).symm hI)
          have e16 : ∀ k, 0 ≤ k → rch D0 m t k → D5 16 (6 * m + k) = msk t := fun k k0 hk => by
            have kb := hk.b hI
            rw [(z5 k k0 kb.2.2).1 ((hx k k0).mpr hk)]
            unfold msk
            rw [if_neg (by omega)]
          have obt : ∀ k, bt (ior H x) k ↔ bt H k ∨ bt x k := fun k => bt_or H0 (by omega) q0 (by omega)
          refine ih D5 (ior H x) (t + 1) hd5 (by omega) (by omega) (by omega) r2.1 r2.2 (fun k k0 => ?_) (fun m' t' a b c e => ?_) (fun k k0 k1 hk => ?_)
          · rw [obt, hH k k0, hx k k0]
            constructor
            · rintro (⟨j, a, b, c⟩ | q)
              · exact ⟨j, a, by omega, c⟩
              · exact ⟨t, t0, by omega, q⟩
            · rintro ⟨j, a, b, c⟩
              by_cases e : j = t
              · exact Or.inr (e ▸ c)
              · exact Or.inl ⟨j, a, by omega, c⟩
          · obtain ⟨v, v1, v2⟩ := old m' t' a b c e
            exact ⟨v, v1, by rw [o5 _ (by omega), d16]; exact v2⟩
          · by_cases hr : rch D0 m t k
            · exact ⟨t, least k k0 hr, e16 k k0 hr⟩
            · have nx : ¬ bt x k := fun q => hr ((hx k k0).mp q)
              obtain ⟨v, v1, v2⟩ := new k k0 k1 (by
                rcases hk with hk | hk
                · by_cases e : k = t
                  · exact absurd (by rw [e]; exact rch.self lo) hr
                  · exact Or.inl (by omega)
                · exact Or.inr (((obt k).mp hk).resolve_right nx))
              exact ⟨v, v1, by rw [(z5 k k0 (by omega)).2 nx, d16]; exact v2⟩
      · have := lo.j hI; omega
      · have s := sh_rg (j := t) (n := 6) t0 (by omega) (by omega)
        rw [pw6] at s
        refine c_hang hG m0 m1 s.1 s.2 (fun D5 k5 o5 z5 => ?_)
        have b1 : ∀ k, 0 ≤ k → (bt (ishl 1 t) k ↔ t = k) := fun k k0 => bt_1 t0 (by omega) k0
        refine ih D5 H (t + 1) (hd.trans (fun c k p => k5 c k (by unfold pers at p; omega))) (by omega) (by omega) (by omega) H0 H1 (nol lo) (fun m' t' a b c e => ?_) (fun k k0 k1 hk => ?_)
        · obtain ⟨v, v1, v2⟩ := old m' t' a b c e
          exact ⟨v, v1, by rw [o5 _ (by omega)]; exact v2⟩
        · by_cases e : t = k
          · subst e
            refine ⟨-1, Or.inl ⟨lo, rfl⟩, ?_⟩
            rw [(z5 t t0 (by omega)).1 ((b1 t t0).mpr rfl)]
            rfl
          · obtain ⟨v, v1, v2⟩ := new k k0 k1 (by
              rcases hk with hk | hk
              · exact Or.inl (by omega)
              · exact Or.inr hk)
            exact ⟨v, v1, by rw [(z5 k k0 (by omega)).2 (fun q => e ((b1 k k0).mp q))]; exact v2⟩
  have outer : ∀ (n : Nat) (D : mmD) (m : Int), ag D0 D → 10 - m = n → 0 ≤ m → m ≤ 10 → (∀ m' t, 0 ≤ m' → m' < m → 0 ≤ t → t < D0 214 1 → hg1 D m' t) → Go E (d + 5) 0 0 mX11_hangSets 2 [some (vR 2), some (vI m), none, none, none] [] G D (retV G P0) := by
    intro n
    induction n with
    | zero =>
      intro D m hd mn m0 m1 z
      exact w_X11_hangSets_2 hG (br_le (fun _ => rV (h D hd (fun m' t a b c e => z m' t a (by omega) c e))) (fun g => by omega))
    | succ n ih =>
      intro D m hd mn m0 m1 z
      exact w_X11_hangSets_2 hG (br_le (fun g => by omega) (fun _ => inner m m0 (by omega) _ (fun D' hd' z' => ih D' (m + 1) hd' (by omega) (by omega) (by omega) z') (D0 214 1).toNat D 0 0 hd (by omega) (by omega) (by omega) (by omega) (by omega) (fun k k0 => ⟨fun q => absurd q bt_0, fun ⟨j, a, b, _⟩ => by omega⟩) z (fun k k0 k1 hk => by
        rcases hk with hk | hk
        · omega
        · exact absurd hk bt_0)))
  exact w_X11_hangSets hG (outer 10 D 0 ha (by omega) (by omega) (by omega) (fun m' t a b => by omega))
end StepsC
