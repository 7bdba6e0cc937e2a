section Best2
variable {E : mmE} {d : Nat} {G : mmG} {D0 D : mmD} {P : Int → mmD → Prop} {P0 : mmD → Prop} {T : Nat → Int} {N : Nat} {p : List Nat} {s : Int × List Nat} {a b x : Int}
/-- what the reference holds as the best so far -/
def rS (D0 D : mmD) (a b : Int) (T : Nat → Int) (N : Nat) (s : Int × List Nat) : Prop := D 214 45 = s.1 ∧ -1 ≤ s.1 ∧ s.1 ≤ 10 ∧ (0 ≤ s.1 → (0 ≤ D 214 46 ∧ D 214 46 < 1024 ∧ bm (D 214 46) 10 (excP D0 a b T N s.2)) ∧ rwk D 241 T N s.2)
/-- what the class holds as the best so far -/
def cS (D0 D : mmD) (r8 x8 x9 a b : Int) (T : Nat → Int) (N : Nat) (s : Int × List Nat) : Prop := x9 = s.1 ∧ -1 ≤ s.1 ∧ s.1 ≤ 10 ∧ (0 ≤ s.1 → (0 ≤ x8 ∧ x8 < 1024 ∧ bm x8 10 (outP D0 a b T N s.2)) ∧ rwk D r8 T N s.2)
theorem cnt_rg : 0 ≤ cnt D0 a b T N p ∧ cnt D0 a b T N p ≤ 10 := ctf_rg (p := outP D0 a b T N p) 10
theorem c_tries (hI : Inv G D0) (ha : ag D0 D) (hN : N ≤ 4) (h44 : D 214 44 = N) (hp : rwk D 240 T N p) (hT : ∀ q : Nat, q < N → 0 ≤ T (p.getD q 0) ∧ T (p.getD q 0) < D0 214 3) (h1 : rg a) (h2 : rg b) (hs : rS D0 D a b T N s) (h : ∀ D', ag D0 D' → (∀ c k, c = 239 ∨ c = 240 ∨ (c = 214 ∧ k = 44) → D' c k = D c k) → rS D0 D' a b T N (bstep (cnt D0 a b T N) s p) → P0 D') : Call E (d + 5) 0 0 mX12_tries [vR 214, vI a, vI b] G D (retV G P0) := by
  have hG := hI.1
  have lp : ∀ (n : Nat) (D' : mmD) (m x : Int), ag D0 D' → (∀ c k, ¬ (c = 214 ∧ k = 35) → c ≠ 235 → c ≠ 236 → D' c k = D c k) → 10 - m = n → 0 ≤ m → m ≤ 10 → 0 ≤ x → x < 1024 → bm x m (excP D0 a b T N p) → Go E (d + 5) 0 0 mX12_tries 8 [some (vR 214), some (vI a), some (vI b), some (vI (fsum (ctf (outP D0 a b T N p)) m.toNat)), some (vI x), some (vI m), none] [] G D' (retV G P0) := by
    intro n
    induction n with
    | zero =>
      intro D' m x hd fr mn m0 m1 q0 q1 hb
      have e : m = 10 := by omega
      subst e
      have cr := cnt_rg (D0 := D0) (a := a) (b := b) (T := T) (N := N) (p := p)
      unfold cnt at cr
      have e10 : (10 : Int).toNat = 10 := rfl
      rw [e10]
      obtain ⟨s1, s2, s3, s4⟩ := hs
      refine w_X12_tries_8 hG (br_le (fun _ => ?_) (fun g => by omega))
      rw [fr 214 45 (by omega) (by omega) (by omega), s1]
      refine br_le (fun g => rV (h D' hd (fun c k q => fr c k (by omega) (by omega) (by omega)) ?_)) (fun g D1 e1 D2 e2 => ?_)
      · have eb : bstep (cnt D0 a b T N) s p = s := by unfold bstep; rw [cif_f (by unfold cnt; omega)]
        rw [eb]
        refine ⟨by rw [fr 214 45 (by omega) (by omega) (by omega)]; exact s1, s2, s3, fun g0 => ?_⟩
        obtain ⟨⟨u1, u2, u3⟩, u4⟩ := s4 g0
        rw [fr 214 46 (by omega) (by omega) (by omega)]
        exact ⟨⟨u1, u2, u3⟩, fun q hq => by rw [fr 241 _ (by omega) (by omega) (by omega)]; exact u4 q hq⟩
      · have eb : bstep (cnt D0 a b T N) s p = (cnt D0 a b T N p, p) := by unfold bstep; rw [cif_t (by unfold cnt; omega)]
        have k2 : ∀ c k, ¬ (c = 214 ∧ (k = 45 ∨ k = 46)) → D2 c k = D' c k := fun c k q => by rw [e2, up2_ne (by omega), e1, up2_ne (by omega)]
        have v45 : D2 214 45 = cnt D0 a b T N p := by rw [e2, up2_ne (by omega), e1, up2_same]; rfl
        have v46 : D2 214 46 = x := by rw [e2, up2_same]
        have cp : ∀ (n2 : Nat) (D3 : mmD) (k : Nat), N - k = n2 → k ≤ N → (∀ c j, c ≠ 241 → D3 c j = D2 c j) → rwk D3 241 T k p → Go E (d + 5) 0 0 mX12_tries 139 [some (vR 214), none, none, none, none, some (vI (k : Int)), none] [] G D3 (retV G P0) := by
          intro n2
          induction n2 with
          | zero =>
            intro D3 k kn k1 f3 z
            have e : k = N := by omega
            subst e
            refine w_X12_tries_139 hG ?_
            rw [f3 214 44 (by omega), k2 _ _ (by omega), fr _ _ (by omega) (by omega) (by omega), h44]
            refine br_le (fun _ => rV (h D3 (hd.trans (fun c j q => ?_)) (fun c j q => ?_) ?_)) (fun g => by omega)
            · rw [f3 c j (by unfold pers at q; omega), k2 c j (by unfold pers at q; omega)]
            · rw [f3 c j (by omega), k2 c j (by omega), fr c j (by omega) (by omega) (by omega)]
            · rw [eb]
              refine ⟨by rw [f3 _ _ (by omega)]; exact v45, by unfold cnt; show -1 ≤ fsum _ 10; omega, by unfold cnt; show fsum _ 10 ≤ 10; omega, fun _ => ?_⟩
              rw [f3 214 46 (by omega), v46]
              exact ⟨⟨q0, q1, hb⟩, z⟩
          | succ n2 ih2 =>
            intro D3 k kn k1 f3 z
            refine w_X12_tries_139 hG ?_
            rw [f3 214 44 (by omega), k2 _ _ (by omega), fr _ _ (by omega) (by omega) (by omega), h44]
            refine br_le (fun g => by omega) (fun _ => ⟨⟨by omega, by omega⟩, ⟨by omega, by omega⟩, fun D4 e4 => ?_⟩)
            have nx := ih2 D4 (k + 1) (by omega) (by omega) (fun c j q => by rw [e4, up2_ne (fun t => q t.1)]; exact f3 c j q) (fun q hq => ?_)
            · rw [show ((k + 1 : Nat) : Int) = (k : Int) + 1 by omega] at nx
              exact nx
            · by_cases e : q = k
              · subst e
                rw [e4, up2_same, f3 240 _ (by omega), k2 240 _ (by omega), fr 240 _ (by omega) (by omega) (by omega)]
                exact hp q (by omega)
              · rw [e4, up2_ne (by omega)]; exact z q (by omega)
        exact cp N D2 0 (by omega) (by omega) (fun _ _ _ => rfl) (fun q hq => by omega)
    | succ n ih =>
      intro D' m x hd fr mn m0 m1 q0 q1 hb
      have nx : ∀ D2 x', _ := fun D2 x' => ih D2 (m + 1) x'
      rw [fsum_s m0] at nx
      have sk : ¬ (lst D0 a m ∧ lst D0 b m) → Go E (d + 5) 0 0 mX12_tries 8 [some (vR 214), some (vI a), some (vI b), some (vI (fsum (ctf (outP D0 a b T N p)) m.toNat)), some (vI x), some (vI (m + 1)), none] [] G D' (retV G P0) := fun hn => by
        have n2 := nx D' x hd fr (by omega) (by omega) (by omega) q0 q1 (bm_skip hb (fun o => hn o.1))
        unfold ctf at n2 ⊢
        rw [cif_f (fun o => hn o.1), Int.add_zero] at n2
        exact n2
      refine w_X12_tries_8 hG (br_le (fun g => by omega) (fun _ => c_hasA hI hd h1 (by unfold rg; omega) (fun la => b_t (c_hasA hI hd h2 (by unfold rg; omega) (fun lb => b_t ?_) (fun lb => b_f (sk (fun o => lb o.2))))) (fun la => b_f (sk (fun o => la o.1)))))
      obtain ⟨ja0, ja1⟩ := la.j hI
      obtain ⟨jb0, jb1⟩ := lb.j hI
      have hW := hI.wd ja0 ja1
      refine c_takesA hI hd rfl ja0 ja1 (fun D1 g1 k1 r1 => ?_)
      have inner : ∀ (n2 : Nat) (D2 : mmD) (k : Nat), N - k = n2 → k ≤ N → ag D0 D2 → (∀ c k, ¬ (c = 214 ∧ k = 35) → c ≠ 235 → c ≠ 236 → D2 c k = D c k) → rWd D2 (aps D0 T p (wl D0 (10 * a + m)) k) → Go E (d + 5) 0 0 mX12_tries 45 [some (vR 214), some (vI a), some (vI b), some (vI (fsum (ctf (outP D0 a b T N p)) m.toNat)), some (vI x), some (vI m), some (vI (k : Int))] [] G D2 (retV G P0) := by
        intro n2
        induction n2 with
        | zero =>
          intro D2 k kn k1 hd2 fr2 w2
          have e : k = N := by omega
          subst e
          have wz := aps_wd hI hT hW k (Nat.le_refl _)
          refine w_X12_tries_45 hG ?_
          rw [fr2 214 44 (by omega) (by omega) (by omega), h44]
          refine br_le (fun _ => ?_) (fun g => by omega)
          refine c_isWordA hI hd2 rfl jb0 jb1 w2 wz (fun e => b_t (b_t ?_)) (fun e => b_f (b_f ?_))
          · have n2 := nx D2 x hd2 fr2 (by omega) (by omega) (by omega) q0 q1 (bm_skip hb (fun o => o.2 e))
            have e1 : ctf (outP D0 a b T k p) m = 1 := by unfold ctf; rw [cif_t ⟨⟨la, lb⟩, e⟩]
            rw [e1] at n2
            rw [ior0 q0 (by omega)]
            exact n2
          · obtain ⟨z1, z2, z3⟩ := bm_step (n := 10) (f := excP D0 a b T k p) (by omega) m0 (by omega) q0 (by rw [pw10]; exact q1) hb ⟨⟨la, lb⟩, e⟩
            rw [pw10] at z3
            have n2 := nx D2 _ hd2 fr2 (by omega) (by omega) (by omega) z2 z3 z1
            have e0 : ctf (outP D0 a b T k p) m = 0 := by unfold ctf; rw [cif_f (fun o => e o.2)]
            rw [e0] at n2
            exact n2
        | succ n2 ih2 =>
          intro D2 k kn k1 hd2 fr2 w2
          obtain ⟨t0, t1⟩ := hT k (by omega)
          have er : D2 240 (k : Int) = T (p.getD k 0) := by rw [fr2 _ _ (by omega) (by omega) (by omega)]; exact hp k (by omega)
          refine w_X12_tries_45 hG ?_
          rw [fr2 214 44 (by omega) (by omega) (by omega), h44]
          refine br_le (fun g => by omega) (fun _ => ⟨⟨by omega, by omega⟩, ?_⟩)
          rw [er]
          refine c_appA hI hd2 t0 t1 (aps_wd hI hT hW k (by omega)) w2 (fun D3 g3 k3 w3 => ?_)
          have nx2 := ih2 D3 (k + 1) (by omega) (by omega) g3 (fun c j u v w => by rw [k3 c j u v w]; exact fr2 c j u v w) w3
          rw [show ((k + 1 : Nat) : Int) = (k : Int) + 1 by omega] at nx2
          exact nx2
      exact inner N D1 0 (by omega) (by omega) g1 (fun c j u v w => by rw [k1 c j u v]; exact fr c j u v w) r1
  exact w_X12_tries hG (lp 10 D 0 0 ha (fun _ _ _ _ _ => rfl) (by omega) (by omega) (by omega) (by omega) (by omega) bm_0)
theorem getD_app' {l : List Nat} {x : Nat} {k : Nat} (h : k < l.length) : (l ++ [x]).getD k 0 = l.getD k 0 := by
  rw [List.getD_eq_getElem?_getD, List.getD_eq_getElem?_getD, List.getElem?_append_left h]
theorem getD_end' {l : List Nat} {x : Nat} : (l ++ [x]).getD l.length 0 = x := by
  rw [List.getD_eq_getElem?_getD, List.getElem?_append_right (Nat.le_refl _)]; simp
theorem c_orders (hI : Inv G D0) (hN : N ≤ 4) (h1 : rg a) (h2 : rg b) (hTb : ∀ q : Nat, q < N → 0 ≤ T q ∧ T q < D0 214 3) :
    ∀ (f : Nat) (D : mmD) (u : Nat) (pre : List Nat) (s : Int × List Nat) (P0 : mmD → Prop), ag D0 D → D 214 44 = N → pre.length + f = N → u < 16 → (∀ q : Nat, q < N → D 239 (q : Int) = T q) → (∀ q : Nat, q < pre.length → pre.getD q 0 < N) → rwk D 240 T pre.length pre → rS D0 D a b T N s →
      (∀ D', ag D0 D' → D' 214 44 = N → (∀ k, D' 239 k = D 239 k) → (∀ k, 0 ≤ k → k < pre.length → D' 240 k = D 240 k) → rS D0 D' a b T N (((exn N f u).map (fun q => pre ++ q)).foldl (bstep (cnt D0 a b T N)) s) → P0 D') →
      Call E (d + 6 + f) 0 0 mX12_orders [vR 214, vI a, vI b, vI (pre.length : Int), vI (u : Int)] G D (retV G P0) := by
  have hG := hI.1
  intro f
  induction f with
  | zero =>
    intro D u pre s P0 ha h44 hpl u16 hT9 hpN hrow hs h
    refine w_X12_orders hG ?_
    rw [h44]
    have epl : pre.length = N := by omega
    refine br_ne (fun g => by omega) (fun _ => c_tries hI ha hN h44 (p := pre) (by rw [← epl]; rw [epl] at hrow ⊢; exact hrow) (fun q hq => hTb _ (hpN q (by omega))) h1 h2 hs (fun D' g' k' r' => rV (h D' g' (by rw [k' _ _ (by omega)]; exact h44) (fun k => k' _ _ (by omega)) (fun k _ _ => k' _ _ (by omega)) ?_)))
    show rS D0 D' a b T N (bstep (cnt D0 a b T N) s (pre ++ []))
    rw [List.append_nil]
    exact r'
  | succ f ih =>
    intro D u pre s P0 ha h44 hpl u16 hT9 hpN hrow hs h
    have loop : ∀ (n : Nat) (D' : mmD) (k : Nat) (s' : Int × List Nat), N - k = n → k ≤ N → ag D0 D' → D' 214 44 = N → (∀ k, D' 239 k = D 239 k) → (∀ k, 0 ≤ k → k < pre.length → D' 240 k = D 240 k) → rS D0 D' a b T N s' →
        (((List.range' k (N - k)).flatMap (fun k => if u.testBit k = true then [] else (exn N f (u ||| 2 ^ k)).map (fun p => k :: p))).map (fun q => pre ++ q)).foldl (bstep (cnt D0 a b T N)) s' = (((exn N (f + 1) u).map (fun q => pre ++ q)).foldl (bstep (cnt D0 a b T N)) s) →
        Go E (d + 6 + (f + 1)) 0 0 mX12_orders 18 [some (vR 214), some (vI a), some (vI b), some (vI (pre.length : Int)), some (vI (u : Int)), some (vI (k : Int))] [] G D' (retV G P0) := by
      intro n
      induction n with
      | zero =>
        intro D' k s' kn k1 ha' h44' f9 f0 hs' e
        have ek : k = N := by omega
        subst ek
        refine w_X12_orders_18 hG ?_
        rw [h44']
        refine br_le (fun _ => rV (h D' ha' h44' f9 f0 ?_)) (fun g => by omega)
        rw [← e, Nat.sub_self]
        exact hs'
      | succ n ihn =>
        intro D' k s' kn k1 ha' h44' f9 f0 hs' e
        rw [kn, List.range'_succ, List.flatMap_cons, List.map_append, List.foldl_append] at e
        have en : N - (k + 1) = n := by omega
        refine w_X12_orders_18 hG ?_
        rw [h44']
        refine br_le (fun g => by omega) (fun _ => ?_)
        by_cases hb : u.testBit k = true
        · rw [tb_1 (by omega) (by omega) (by omega) (by omega) (by unfold bt; rw [Int.toNat_natCast, Int.toNat_natCast]; exact hb)]
          refine n_t ?_
          rw [if_pos hb] at e
          have nx := ihn D' (k + 1) s' en (by omega) ha' h44' f9 f0 hs' (by rw [en]; exact e)
          rw [show ((k + 1 : Nat) : Int) = (k : Int) + 1 by omega] at nx
          exact nx
        · rw [tb_0 (by omega) (by omega) (by omega) (by omega) (by unfold bt; rw [Int.toNat_natCast, Int.toNat_natCast]; exact hb)]
          rw [if_neg hb] at e
          refine n_f ⟨⟨by omega, by omega⟩, ⟨by omega, by omega⟩, fun D1 e1 => ?_⟩
          have k1' : ∀ c j, ¬ (c = 240 ∧ j = (pre.length : Int)) → D1 c j = D' c j := fun c j q => by rw [e1, up2_ne q]
          have p16 : u ||| 2 ^ k < 16 := by
            have : 2 ^ k ≤ 2 ^ 3 := Nat.pow_le_pow_right (by omega) (by omega)
            exact Nat.or_lt_two_pow (n := 4) u16 (by omega)
          have eu : ior (u : Int) (ishl 1 (k : Int)) = ((u ||| 2 ^ k : Nat) : Int) := by
            have p8 : 2 ^ k ≤ 2 ^ 3 := Nat.pow_le_pow_right (by omega) (by omega)
            have p9 : ((2 ^ k : Nat) : Int) < ((16 : Nat) : Int) := Int.ofNat_lt.mpr (by omega)
            rw [ishl_1 (by omega) (by omega), Int.toNat_natCast, ior_n (by omega) (by omega) (Int.natCast_nonneg _) (by omega), Int.toNat_natCast, Int.toNat_natCast]
          rw [eu, show (pre.length : Int) + 1 = ((pre ++ [k]).length : Int) by simp]
          refine ih D1 (u ||| 2 ^ k) (pre ++ [k]) s' _ (ha'.trans (fun c j q => k1' c j (by unfold pers at q; omega))) (by rw [k1' _ _ (by omega)]; exact h44') (by simp; omega) p16 (fun q hq => by rw [k1' _ _ (by omega), f9]; exact hT9 q hq) (fun q hq => ?_) (fun q hq => ?_) ?_ (fun D2 g2 a2 b2 c2 r2 => ?_)
          · rw [List.length_append, List.length_singleton] at hq
            by_cases eq : q = pre.length
            · rw [eq, getD_end']; omega
            · rw [getD_app' (by omega)]; exact hpN q (by omega)
          · rw [List.length_append, List.length_singleton] at hq
            by_cases eq : q = pre.length
            · rw [eq, getD_end', e1, up2_same, f9]; exact hT9 k (by omega)
            · rw [getD_app' (by omega), k1' _ _ (by omega), f0 _ (by omega) (by omega)]; exact hrow q (by omega)
          · obtain ⟨s1, s2, s3, s4⟩ := hs'
            refine ⟨by rw [k1' _ _ (by omega)]; exact s1, s2, s3, fun g0 => ?_⟩
            rw [k1' 214 46 (by omega)]
            exact ⟨(s4 g0).1, fun q hq => by rw [k1' _ _ (by omega)]; exact (s4 g0).2 q hq⟩
          · have em : ((exn N f (u ||| 2 ^ k)).map (fun p => k :: p)).map (fun q => pre ++ q) = (exn N f (u ||| 2 ^ k)).map (fun q => (pre ++ [k]) ++ q) := by
              rw [List.map_map]
              refine List.map_congr_left (fun q _ => ?_)
              show pre ++ (k :: q) = _
              rw [List.append_assoc]; rfl
            rw [em] at e
            have nx := ihn D2 (k + 1) _ en (by omega) g2 a2 (fun j => by rw [b2, k1' _ _ (by omega)]; exact f9 j) (fun j j0 j1 => by rw [c2 j j0 (by simp; omega), k1' _ _ (by omega)]; exact f0 j j0 j1) r2 (by rw [en]; exact e)
            rw [show ((k + 1 : Nat) : Int) = (k : Int) + 1 by omega] at nx
            exact nx
    refine w_X12_orders hG ?_
    rw [h44]
    refine br_ne (fun _ => loop N D 0 s (by omega) (by omega) ha h44 (fun _ => rfl) (fun _ _ _ => rfl) hs ?_) (fun g => by omega)
    rw [Nat.sub_zero]
    rfl
theorem c_count1 (hG : Sh G) (x0 : 0 ≤ x) (x1 : x < 2147483648) (h : P (pcn x 31) D) : Call E d 0 0 mX12_count1 [vI x] G D (retI G P) := by
  have lp : ∀ (n : Nat) (k : Int), 31 - k = n → 0 ≤ k → k ≤ 31 → Go E d 0 0 mX12_count1 4 [some (vI x), some (vI (pcn x k.toNat)), some (vI k)] [] G D (retI G P) := by
    intro n
    induction n with
    | zero =>
      intro k kn k0 k1
      have e : k = 31 := by omega
      subst e
      exact w_X12_count1_4 hG (br_le (fun _ => rI h) (fun g => by omega))
    | succ n ih =>
      intro k kn k0 k1
      have nx := ih (k + 1) (by omega) (by omega) (by omega)
      unfold pcn at nx ⊢
      rw [fsum_s k0] at nx
      refine w_X12_count1_4 hG (br_le (fun g => by omega) (fun _ => ?_))
      by_cases hb : bt x k
      · rw [cif_t hb] at nx
        rw [tb_1 x0 x1 k0 (by omega) hb]
        exact nx
      · rw [cif_f hb] at nx
        rw [tb_0 x0 x1 k0 (by omega) hb]
        exact nx
  exact w_X12_count1 hG (lp 31 0 (by omega) (by omega) (by omega))
end Best2
