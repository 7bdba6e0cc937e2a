def upN (S : Nat → Int) (v : Nat) (x : Int) : Nat → Int := fun k => if k = v then x else S k
def fst1 (st : (Nat → Int) × Int) (b : Nat × Nat) : (Nat → Int) × Int := if iand (st.1 b.1) (st.1 b.2) = 0 then (upN st.1 b.1 (ior (st.1 b.1) (st.1 b.2)), st.2 + 1) else (upN st.1 b.1 (iand (st.1 b.1) (st.1 b.2)), st.2)
def msk (v : Int) : Int := if v = -1 then 63 else ishl 1 v
theorem bt_63 {s : Int} (s0 : 0 ≤ s) (s1 : s < 6) : bt 63 s := by
  have : ∀ n : Fin 6, (63 : Int).toNat.testBit n.1 = true := by decide
  exact this ⟨s.toNat, by omega⟩
theorem msk_rg {v : Int} (v0 : -1 ≤ v) (v1 : v < 6) : 0 < msk v ∧ msk v < 64 := by
  unfold msk
  by_cases h : v = -1
  · rw [if_pos h]; omega
  · rw [if_neg h]
    have r := sh_rg (j := v) (n := 6) (by omega) (by omega) (by omega)
    rw [pw6] at r
    have : ishl 1 v ≠ 0 := fun e => by
      have := (bt_1 (j := v) (k := v) (by omega) (by omega) (by omega)).mpr rfl
      rw [e] at this
      exact bt_0 this
    omega
theorem msk_bt {v s : Int} (v0 : -1 ≤ v) (v1 : v < 6) (s0 : 0 ≤ s) (s1 : s < 6) : bt (msk v) s ↔ v = -1 ∨ v = s := by
  unfold msk
  by_cases h : v = -1
  · rw [if_pos h]
    exact ⟨fun _ => Or.inl h, fun _ => bt_63 s0 s1⟩
  · rw [if_neg h, bt_1 (by omega) (by omega) s0]
    exact ⟨fun q => Or.inr q, fun q => q.resolve_left h⟩
/-- a table of costs, row by row -/
def tabE (n : Nat) (B : List (Nat × Nat)) (Lb : Nat → Int) (M : Nat → Int → Int) : Prop :=
  (∀ q : Nat, q < n → ∀ s : Int, 0 ≤ s → s < 6 → M q s = if Lb q = -1 ∨ Lb q = s then 0 else 1000000) ∧ (∀ v : Nat, 6 ≤ v → v < 10 → 0 < (chs B v).length → ∀ s : Int, 0 ≤ s → s < 6 → M v s = lsum (fun w => emn (M w) s) (chs B v))
def gch (M : Nat → Int → Int) (Pd : List (Nat × Nat)) (v : Nat) (s : Int) : Int := lsum (fun w => emn (M w) s) (chs Pd v)
def FI (Lb : Nat → Int) (M : Nat → Int → Int) (Pd : List (Nat × Nat)) (S : Nat → Int) (c : Int) : Prop := ∃ cv : Nat → Int,
  (∀ v, 0 ≤ cv v) ∧ (∀ v, 0 < S v ∧ S v < 64) ∧ cld Pd 6 = false ∧
  c = fsum (fun k => cif (cld Pd k.toNat = true) 0 (cv k.toNat)) 10 ∧ c ≤ Pd.length ∧
  (∀ q, q < 6 → cv q = 0 ∧ S q = msk (Lb q)) ∧
  (∀ v, 6 ≤ v → v < 10 → ((chs Pd v).length = 0 → S v = 63 ∧ cv v = 0) ∧ ((chs Pd v).length = 1 → ∀ s : Int, 0 ≤ s → s < 6 → gch M Pd v s = cv v + ind (S v) s) ∧ ((chs Pd v).length = 2 → ∀ s : Int, 0 ≤ s → s < 6 → emn (gch M Pd v) s = cv v + ind (S v) s) ∧ ((chs Pd v).length = 3 → (∀ s : Int, 0 ≤ s → s < 6 → cv v ≤ gch M Pd v s) ∧ ∃ s : Int, 0 ≤ s ∧ s < 6 ∧ gch M Pd v s = cv v))
theorem leaf_e {Lb : Nat → Int} {M : Nat → Int → Int} {q : Nat} (l0 : -1 ≤ Lb q) (l1 : Lb q < 6) (h : ∀ s : Int, 0 ≤ s → s < 6 → M q s = if Lb q = -1 ∨ Lb q = s then 0 else 1000000) (s : Int) (s0 : 0 ≤ s) (s1 : s < 6) : emn (M q) s = ind (msk (Lb q)) s := by
  by_cases e : Lb q = -1 ∨ Lb q = s
  · rw [ind_t ((msk_bt l0 l1 s0 s1).mpr e)]
    refine emn_eq (by omega) (fun t t0 t1 => ?_) ⟨s, s0, s1, ?_⟩
    · rw [h t t0 t1]
      split <;> split <;> omega
    · rw [h s s0 s1, if_pos e, if_pos rfl]; omega
  · rw [ind_f (fun q => e ((msk_bt l0 l1 s0 s1).mp q))]
    have e1 : Lb q ≠ -1 := fun x => e (Or.inl x)
    have e2 : Lb q ≠ s := fun x => e (Or.inr x)
    refine emn_eq (by omega) (fun t t0 t1 => ?_) ⟨Lb q, by omega, l1, ?_⟩
    · rw [h t t0 t1]
      by_cases ts : t = s
      · subst ts
        rw [if_neg e, if_pos rfl]; omega
      · rw [if_neg ts]
        split <;> omega
    · rw [h (Lb q) (by omega) l1, if_pos (Or.inr rfl), if_neg e2]; omega
theorem chs_app (Pd : List (Nat × Nat)) (b : Nat × Nat) (v : Nat) : chs (Pd ++ [b]) v = if b.1 = v then chs Pd v ++ [b.2] else chs Pd v := by
  unfold chs
  rw [List.filter_append, List.map_append]
  by_cases h : b.1 = v
  · rw [if_pos h, List.filter_cons, if_pos (by simp [h])]; rfl
  · rw [if_neg h, List.filter_cons, if_neg (by simp [h])]; simp
theorem cld_app (Pd : List (Nat × Nat)) (b : Nat × Nat) (v : Nat) : cld (Pd ++ [b]) v = (cld Pd v || b.2 == v) := by
  unfold cld
  rw [List.any_append]
  simp
theorem FI_step {n : Nat} {B : List (Nat × Nat)} {Lb : Nat → Int} {M : Nat → Int → Int} {Pd : List (Nat × Nat)} {S : Nat → Int} {c : Int} {b : Nat × Nat} (hLb : ∀ q, -1 ≤ Lb q ∧ Lb q < 6) (hM : tabE n B Lb M) (n6 : n ≤ 6) (h : FI Lb M Pd S c) (hl : Pd.length ≤ 9)
    (c1 : 6 ≤ b.1) (c2 : b.1 < 10) (c3 : b.2 < 10) (c4 : b.2 ≠ b.1) (c5 : b.2 ≠ 6) (c6 : cld Pd b.2 = false) (c7 : cld Pd b.1 = false) (c8 : b.2 < n ∨ ((6 ≤ b.2 ∧ chs Pd b.2 = (chs B b.2).reverse) ∧ (chs Pd b.2).length = 2)) (c9 : (chs Pd b.1).length < if b.1 = 6 then 3 else 2) : FI Lb M (Pd ++ [b]) (fst1 (S, c) b).1 (fst1 (S, c) b).2 := by
  obtain ⟨cv, h0, hS, h6, hc, hcl, hq, hv⟩ := h
  -- the branch's end is complete
  have ew : ∀ s : Int, 0 ≤ s → s < 6 → emn (M b.2) s = cv b.2 + ind (S b.2) s := fun s s0 s1 => by
    rcases c8 with c8 | ⟨⟨k6, ke⟩, kl⟩
    · obtain ⟨z, e⟩ := hq b.2 (by omega)
      rw [z, e, leaf_e (hLb _).1 (hLb _).2 (hM.1 b.2 c8) s s0 s1]; omega
    · rw [← ((hv b.2 k6 c3).2.2.1 kl) s s0 s1]
      unfold emn
      refine emk_congr 6 (fun t t0 t1 => ?_)
      have lB : (chs B b.2).length = 2 := by rw [ke, List.length_reverse] at kl; exact kl
      rw [hM.2 b.2 k6 c3 (by omega) t t0 t1]
      unfold gch
      rw [ke, lsum_rev]
  have nf : ∀ k : Int, 0 ≤ cif (cld Pd k.toNat = true) 0 (cv k.toNat) := fun k => by
    by_cases e : cld Pd k.toNat = true
    · rw [cif_t e]; omega
    · rw [cif_f e]; exact h0 _
  have bw : cv b.2 ≤ 9 := by
    have := (fsum_ge1 (v := (b.2 : Int)) nf 10 (by omega) (by omega)).1
    rw [Int.toNat_natCast, cif_f (by rw [c6]; simp), ← hc] at this
    omega
  have bv : cv b.1 ≤ 9 := by
    have := (fsum_ge1 (v := (b.1 : Int)) nf 10 (by omega) (by omega)).1
    rw [Int.toNat_natCast, cif_f (by rw [c7]; simp), ← hc] at this
    omega
  have A := hS b.1
  have C := hS b.2
  have hw0 := h0 b.2
  have hv0 := h0 b.1
  obtain ⟨dl, S1, e1, r1, dr, dc⟩ : ∃ dl S1 : Int, fst1 (S, c) b = (upN S b.1 S1, c + dl) ∧ (0 < S1 ∧ S1 < 64) ∧ (0 ≤ dl ∧ dl ≤ 1) ∧ ((iand (S b.1) (S b.2) ≠ 0 ∧ dl = 0 ∧ S1 = iand (S b.1) (S b.2)) ∨ (iand (S b.1) (S b.2) = 0 ∧ dl = 1 ∧ S1 = ior (S b.1) (S b.2))) := by
    by_cases z : iand (S b.1) (S b.2) = 0
    · exact ⟨1, ior (S b.1) (S b.2), by unfold fst1; rw [if_pos z], (set_or A.1 A.2 C.1 C.2 z).1, by omega, Or.inr ⟨z, rfl, rfl⟩⟩
    · exact ⟨0, iand (S b.1) (S b.2), by unfold fst1; rw [if_neg z, Int.add_zero], (set_and A.1 A.2 C.1 C.2 z).1, by omega, Or.inl ⟨z, rfl, rfl⟩⟩
  rw [e1]
  show FI Lb M (Pd ++ [b]) (upN S b.1 S1) (c + dl)
  refine ⟨fun k => if k = b.1 then cv b.1 + cv b.2 + dl else cv k, fun v => ?_, fun v => ?_, ?_, ?_, ?_, fun q q6 => ?_, fun v v6 v10 => ?_⟩
  · show 0 ≤ if v = b.1 then cv b.1 + cv b.2 + dl else cv v
    split
    · omega
    · exact h0 v
  · unfold upN
    split
    · exact r1
    · exact hS v
  · rw [cld_app, h6]; simp; exact c5
  · -- the sum
    have s1 := fsum_one (f := fun k => cif (cld Pd k.toNat = true) 0 (cv k.toNat)) (f' := fun k => cif (k = (b.2 : Int)) 0 (cif (cld Pd k.toNat = true) 0 (cv k.toNat))) (v := (b.2 : Int)) 10 (fun k _ _ q => by rw [cif_f q]) (by omega)
    rw [cif_t (by omega), cif_t rfl, Int.toNat_natCast, cif_f (by rw [c6]; simp), ← hc] at s1
    have s2 := fsum_one (f := fun k => cif (k = (b.2 : Int)) 0 (cif (cld Pd k.toNat = true) 0 (cv k.toNat))) (f' := fun k => cif (cld (Pd ++ [b]) k.toNat = true) 0 (if k.toNat = b.1 then cv b.1 + cv b.2 + dl else cv k.toNat)) (v := (b.1 : Int)) 10 (fun k k0 k1 q => ?_) (by omega)
    · rw [cif_t (by omega), s1, Int.toNat_natCast, if_pos rfl, cif_f (show ¬ (b.1 : Int) = (b.2 : Int) by omega), cif_f (show ¬ cld Pd b.1 = true by rw [c7]; simp), cif_f (show ¬ cld (Pd ++ [b]) b.1 = true by rw [cld_app, c7]; simp; exact c4)] at s2
      rw [s2]; omega
    · rw [if_neg (by omega), cld_app]
      by_cases e : k = (b.2 : Int)
      · rw [cif_t (show (cld Pd k.toNat || b.2 == k.toNat) = true by rw [e]; simp), cif_t e]
      · have : (cld Pd k.toNat || b.2 == k.toNat) = cld Pd k.toNat := by
          have : (b.2 == k.toNat) = false := by simp; omega
          rw [this, Bool.or_false]
        rw [this, cif_f e]
  · rw [List.length_append, List.length_singleton]; omega
  · obtain ⟨z1, z2⟩ := hq q q6
    refine ⟨?_, ?_⟩
    · show (if q = b.1 then _ else cv q) = 0
      rw [if_neg (by omega)]; exact z1
    · unfold upN
      rw [if_neg (by omega)]; exact z2
  · by_cases e : v = b.1
    · subst e
      have ech : chs (Pd ++ [b]) b.1 = chs Pd b.1 ++ [b.2] := by rw [chs_app, if_pos rfl]
      have eg : ∀ s, gch M (Pd ++ [b]) b.1 s = gch M Pd b.1 s + emn (M b.2) s := fun s => by
        unfold gch
        rw [ech, lsum_app]
        simp only [lsum]; omega
      have el : (chs (Pd ++ [b]) b.1).length = (chs Pd b.1).length + 1 := by rw [ech, List.length_append, List.length_singleton]
      obtain ⟨w0, w1, w2, -⟩ := hv b.1 c1 c2
      have eS : upN S b.1 S1 b.1 = S1 := by unfold upN; rw [if_pos rfl]
      have eC : (if b.1 = b.1 then cv b.1 + cv b.2 + dl else cv b.1) = cv b.1 + cv b.2 + dl := if_pos rfl
      simp only [eS, el, eq_self, if_true]
      refine ⟨fun q => by omega, fun q s s0 s1 => ?_, fun q s s0 s1 => ?_, fun q => ?_⟩
      · obtain ⟨z1, z2⟩ := w0 (by omega)
        have ei : iand (S b.1) (S b.2) = S b.2 := by
          rw [z1]
          have r := and_rg (x := 63) (y := S b.2) (by omega) (by omega) (by omega) (by omega)
          exact bt_ext 6 r.1 (by rw [pw6]; omega) (by omega) (by rw [pw6]; exact C.2) (fun k k0 k1 => by
            rw [bt_and (by omega) (by omega) (by omega) (by omega)]
            exact ⟨fun q => q.2, fun q => ⟨bt_63 k0 k1, q⟩⟩)
        rcases dc with ⟨d1, d2, d3⟩ | ⟨d1, -, -⟩
        · have g0 : gch M Pd b.1 s = 0 := by
            unfold gch
            rw [List.eq_nil_of_length_eq_zero (show (chs Pd b.1).length = 0 by omega)]
            rfl
          rw [eg, g0, ew s s0 s1, d3, ei, z2, d2]; omega
        · omega
      · have g1 := w1 (by omega)
        have hg : ∀ s : Int, 0 ≤ s → s < 6 → gch M (Pd ++ [b]) b.1 s = (cv b.1 + cv b.2) + ind (S b.1) s + ind (S b.2) s := fun s s0 s1 => by
          rw [eg, g1 s s0 s1, ew s s0 s1]; omega
        rcases dc with ⟨d1, d2, d3⟩ | ⟨d1, d2, d3⟩
        · rw [two_and (by omega) hg A.1 A.2 C.1 C.2 d1 s s0 s1, d2, d3]; omega
        · rw [two_or (by omega) hg A.1 A.2 C.1 C.2 d1 s s0 s1, d2, d3]
      · have g2 := w2 (by omega)
        obtain ⟨t1, u, u0, u1, t2⟩ := three (g := gch M Pd b.1) (h := fun s => emn (M b.2) s) (A := S b.1) (B := S b.2) (K := cv b.1) (L := cv b.2) (d := dl) (by omega) g2 ew A.1 A.2 C.1 C.2 (by
          rcases dc with ⟨d1, d2, -⟩ | ⟨d1, d2, -⟩
          · exact Or.inl ⟨d1, d2⟩
          · exact Or.inr ⟨d1, d2⟩)
        exact ⟨fun s s0 s1 => by rw [eg]; exact t1 s s0 s1, u, u0, u1, by rw [eg]; exact t2⟩
    · have ech : chs (Pd ++ [b]) v = chs Pd v := by rw [chs_app, if_neg (fun q => e q.symm)]
      have eg : gch M (Pd ++ [b]) v = gch M Pd v := by
        funext s
        unfold gch
        rw [ech]
      have eS : upN S b.1 S1 v = S v := by unfold upN; rw [if_neg e]
      have eC : (if v = b.1 then cv b.1 + cv b.2 + dl else cv v) = cv v := if_neg e
      simp only [eS, eC, ech, eg]
      exact hv v v6 v10
theorem fit_ok {n : Nat} {B : List (Nat × Nat)} {Lb : Nat → Int} {M : Nat → Int → Int} (hLb : ∀ q, -1 ≤ Lb q ∧ Lb q < 6) (hM : tabE n B Lb M) (n6 : n ≤ 6) : ∀ (R Pd : List (Nat × Nat)) (S : Nat → Int) (c : Int), FI Lb M Pd S c → ckb n B R Pd = true → Pd.length + R.length ≤ 9 →
    (0 ≤ (R.foldl fst1 (S, c)).2 ∧ (R.foldl fst1 (S, c)).2 ≤ 9) ∧ (∀ s : Int, 0 ≤ s → s < 6 → (R.foldl fst1 (S, c)).2 ≤ M 6 s) ∧ ∃ s : Int, 0 ≤ s ∧ s < 6 ∧ M 6 s = (R.foldl fst1 (S, c)).2
  | [], Pd, S, c, h, hk, hl => by
    simp only [ckb, Bool.and_eq_true, beq_iff_eq, List.all_eq_true] at hk
    obtain ⟨⟨k1, k2⟩, k3⟩ := hk
    obtain ⟨cv, h0, hS, h6, hc, hcl, hq, hv⟩ := h
    show (0 ≤ c ∧ c ≤ 9) ∧ (∀ s : Int, 0 ≤ s → s < 6 → c ≤ M 6 s) ∧ ∃ s : Int, 0 ≤ s ∧ s < 6 ∧ M 6 s = c
    have s1 := fsum_one (f := fun _ => (0 : Int)) (f' := fun k => cif (cld Pd k.toNat = true) 0 (cv k.toNat)) (v := 6) 10 (fun k k0 k1' q => ?_) (by omega)
    · rw [cif_t (by omega), ← hc, show (6 : Int).toNat = 6 from rfl, cif_f (by rw [h6]; simp)] at s1
      have z : fsum (fun _ => (0 : Int)) 10 = 0 := rfl
      rw [z] at s1
      have ec : c = cv 6 := by omega
      have lB : (chs B 6).length = 3 := by rw [k1, List.length_reverse] at k2; exact k2
      have em : ∀ s : Int, 0 ≤ s → s < 6 → M 6 s = gch M Pd 6 s := fun s s0 s1 => by
        rw [hM.2 6 (by omega) (by omega) (by omega) s s0 s1]
        unfold gch
        rw [k1, lsum_rev]
      obtain ⟨t1, u, u0, u1, t2⟩ := (hv 6 (by omega) (by omega)).2.2.2 k2
      rw [ec]
      have := h0 6
      have hl' : Pd.length ≤ 9 := by rw [List.length_nil] at hl; omega
      exact ⟨⟨this, by omega⟩, fun s s0 s1 => by rw [em s s0 s1]; exact t1 s s0 s1, u, u0, u1, by rw [em u u0 u1]; exact t2⟩
    · by_cases e : cld Pd k.toNat = true
      · rw [cif_t e]
      · rw [cif_f e]
        by_cases k6 : k < 6
        · exact (hq k.toNat (by omega)).1
        · have m : k.toNat ∈ [7, 8, 9] := by
            have : k.toNat = 7 ∨ k.toNat = 8 ∨ k.toNat = 9 := by omega
            rcases this with h | h | h <;> rw [h] <;> simp
          have := k3 _ m
          rw [Bool.or_eq_true] at this
          rcases this with q' | q'
          · exact ((hv k.toNat (by omega) (by omega)).1 (by rw [List.isEmpty_iff] at q'; rw [q']; rfl)).2
          · exact absurd q' e
  | b :: R, Pd, S, c, h, hk, hl => by
    simp only [ckb, Bool.and_eq_true, beq_iff_eq, decide_eq_true_eq, Bool.not_eq_true', Bool.or_eq_true] at hk
    obtain ⟨⟨⟨⟨⟨⟨⟨⟨⟨c1, c2⟩, c3⟩, c4⟩, c5⟩, c6⟩, c7⟩, c8⟩, c9⟩, hk⟩ := hk
    rw [List.length_cons] at hl
    have st := FI_step hLb hM n6 h (by omega) c1 c2 c3 c4 c5 c6 c7 c8 c9
    rw [List.foldl_cons]
    exact fit_ok hLb hM n6 R (Pd ++ [b]) _ _ st hk (by rw [List.length_append, List.length_singleton]; omega)
def mnk (g : Int → Int) : Nat → Int
  | 0 => 1000000
  | k + 1 => min (mnk g k) (g k)
theorem mnk_ge {g : Int → Int} {x : Int} (hx : x ≤ 1000000) : ∀ k : Nat, (∀ t : Int, 0 ≤ t → t < k → x ≤ g t) → x ≤ mnk g k
  | 0, _ => hx
  | k + 1, h => by
    simp only [mnk]
    have := mnk_ge hx k (fun t a b => h t a (by omega))
    have := h k (by omega) (by omega)
    omega
theorem mnk_le {g : Int → Int} {t : Int} (t0 : 0 ≤ t) : ∀ k : Nat, t < k → mnk g k ≤ g t
  | 0, h => by omega
  | k + 1, h => by
    simp only [mnk]
    by_cases e : t = k
    · rw [e]; exact Int.min_le_right _ _
    · have := mnk_le (g := g) t0 k (by omega)
      omega
def S0f (Lb : Nat → Int) : Nat → Int := fun q => if q < 6 then msk (Lb q) else 63
theorem fitch {n : Nat} {B : List (Nat × Nat)} {Lb : Nat → Int} {M : Nat → Int → Int} (hLb : ∀ q, -1 ≤ Lb q ∧ Lb q < 6) (hM : tabE n B Lb M) (n3 : 3 ≤ n) (n6 : n ≤ 6) (hf : fac n B = true) : ((rvB B).foldl fst1 (S0f Lb, 0)).2 = mnk (M 6) 6 ∧ 0 ≤ mnk (M 6) 6 ∧ mnk (M 6) 6 ≤ 9 := by
  simp only [fac, Bool.and_eq_true, beq_iff_eq] at hf
  obtain ⟨⟨⟨⟨⟨⟨⟨⟨⟨-, f2⟩, -⟩, f4⟩, -⟩, -⟩, -⟩, -⟩, -⟩, -⟩ := hf
  have hl : (rvB B).length ≤ 9 := by
    unfold rvB
    rw [List.length_reverse, List.length_map, f2]; omega
  have h0 : FI Lb M [] (S0f Lb) 0 := by
    refine ⟨fun _ => 0, fun _ => Int.le_refl _, fun v => ?_, rfl, ?_, by simp, fun q q6 => ⟨rfl, ?_⟩, fun v v6 v10 => ⟨fun _ => ⟨?_, rfl⟩, fun q => ?_, fun q => ?_, fun q => ?_⟩⟩
    · unfold S0f
      split
      · exact msk_rg (hLb _).1 (hLb _).2
      · omega
    · have : (fun k : Int => cif (cld [] k.toNat = true) (0 : Int) 0) = fun _ => 0 := by
        funext k
        by_cases e : cld [] k.toNat = true
        · rw [cif_t e]
        · rw [cif_f e]
      rw [this]; rfl
    · unfold S0f; rw [if_pos q6]
    · unfold S0f; rw [if_neg (by omega)]
    · exact absurd q (by simp [chs])
    · exact absurd q (by simp [chs])
    · exact absurd q (by simp [chs])
  obtain ⟨r, t1, u, u0, u1, t2⟩ := fit_ok hLb hM n6 (rvB B) [] (S0f Lb) 0 h0 f4 (by simpa using hl)
  have a := mnk_ge (g := M 6) (x := ((rvB B).foldl fst1 (S0f Lb, 0)).2) (by omega) 6 t1
  have b := mnk_le (g := M 6) u0 6 u1
  omega
