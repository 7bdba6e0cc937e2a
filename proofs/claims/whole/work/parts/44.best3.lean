section Best3
variable {E : mmE} {d : Nat} {G : mmG} {D0 D : mmD} {P : Int → mmD → Prop} {T : Nat → Int} {N : Nat} {p : List Nat} {s : Int × List Nat} {a b x1 x2 x3 x4 : Int}
/-- what lasts of the cells that there were -/
def agl (e : Int) (D0 D : mmD) : Prop := ∀ c k, pers c k → c < e → D c k = D0 c k
theorem isEv.pushm {kd : Nat} {n x : Int} {cj : Nat} (h : isEv G cj x) : isEv (mm_push G kd n) cj x := by
  obtain ⟨h1, h2, h3, h4, h5⟩ := h
  refine ⟨h1, by show x + 1 < G.1 + 1; omega, ?_, ?_, ?_⟩
  · show (if x = G.1 then (kd, n) else G.2.1 x) = _
    rw [if_neg (by omega)]; exact h3
  · show (if x + 1 = G.1 then (kd, n) else G.2.1 (x + 1)) = _
    rw [if_neg (by omega)]; exact h4
  · show (if x = G.1 then (0 : Int) else G.2.2 x 5) = _
    rw [if_neg (by omega)]; exact h5
theorem Inv.pushm {kd : Nat} {n : Int} (hI : Inv G D0) (hk : agl G.1 D0 D) : Inv (mm_push G kd n) D := by
  obtain ⟨hG, hs, q3, q4, q5, q6, q7, q8, q9⟩ := hI
  have g1 := hG.1
  have kk : ∀ c k, pers c k → c < 249 → D c k = D0 c k := fun c k p q => hk c k p (by omega)
  have r : ∀ c k, c < G.1 → (mm_push G kd n).2.2 c k = G.2.2 c k := fun c k p => by
    show (if c = G.1 then (0 : Int) else G.2.2 c k) = _
    rw [if_neg (by omega)]
  refine ⟨hG.push, hs.keep (fun k => kk _ _ (by unfold pers; omega) (by omega)) (fun k _ _ => kk _ _ (by unfold pers; omega) (by omega)), q3.keep (fun k => kk _ _ (by unfold pers; omega) (by omega)) (fun k => kk _ _ (by unfold pers; omega) (by omega)), q4.keep (fun c k _ _ => kk _ _ (by unfold pers; omega) (by omega)) (fun c k _ _ => kk _ _ (by unfold pers; omega) (by omega)), q5.keep (kk _ _ (by unfold pers; omega) (by omega)) (fun k => kk _ _ (by unfold pers; omega) (by omega)) (fun k => kk _ _ (by unfold pers; omega) (by omega)) (fun k => kk _ _ (by unfold pers; omega) (by omega)), q6.keep hs.2.2.1.2.2 (kk _ _ (by unfold pers; omega) (by omega)) (fun c k _ _ _ => kk _ _ (by unfold pers; omega) (by omega)) (fun c k _ _ => kk _ _ (by unfold pers; omega) (by omega)), ?_, q8.keep (kk _ _ (by unfold pers; omega) (by omega)) (fun k => kk _ _ (by unfold pers; omega) (by omega)) (fun k => kk _ _ (by unfold pers; omega) (by omega)) (fun k => kk _ _ (by unfold pers; omega) (by omega)), ?_⟩
  · intro i i0 i1
    rw [kk 214 4 (by unfold pers; omega) (by omega)] at i1
    have hh := q7 i i0 i1
    obtain ⟨⟨cj, e1, e2⟩, -⟩ := id hh
    have b1 := e2.1
    have b2 := e2.2.1
    have ke : ∀ k, D (G.2.2 7 i) k = D0 (G.2.2 7 i) k := fun k => hk _ k (by unfold pers; omega) (by omega)
    unfold i_e1 at hh ⊢
    rw [r 7 i (by omega), kk 228 i (by unfold pers; omega) (by omega), kk 229 i (by unfold pers; omega) (by omega), kk 230 i (by unfold pers; omega) (by omega), kk 231 i (by unfold pers; omega) (by omega), kk 232 i (by unfold pers; omega) (by omega), ke, ke, ke, ke, ke]
    exact ⟨⟨cj, e1, e2.pushm⟩, hh.2⟩
  · unfold i_tr at q9 ⊢
    rw [r 2 9 (by omega), kk 214 57 (by unfold pers; omega) (by omega), kk 214 4 (by unfold pers; omega) (by omega)]
    refine ⟨q9.1, ?_⟩
    rcases q9.2 with h | ⟨i, i0, i1, h, h', h''⟩
    · exact Or.inl h
    · obtain ⟨⟨cj, e1, e2⟩, -⟩ := q7 i i0 i1
      have b1 := e2.1
      have b2 := e2.2.1
      refine Or.inr ⟨i, i0, i1, ?_, ?_, fun k k0 k1 => ?_⟩
      · rw [r 7 i (by omega)]; exact h
      · rw [r 7 i (by omega), hk _ 6 (by unfold pers; omega) (by omega)]; exact h'
      · rw [r 7 i (by omega), hk _ k (by unfold pers; omega) (by omega), kk 248 k (by unfold pers; omega) (by omega)]; exact h'' k k0 k1
theorem agl.c (hG : Sh G) (h : agl G.1 D0 D) {c k : Int} (c0 : 215 ≤ c) (c1 : c ≤ 234) : D c k = D0 c k := h c k (by unfold pers; omega) (by have := hG.1; omega)
theorem agl.n (hG : Sh G) (h : agl G.1 D0 D) {k : Int} (c0 : 1 ≤ k) (c1 : k ≤ 9) : D 214 k = D0 214 k := h 214 k (by unfold pers; omega) (by have := hG.1; omega)
theorem lst_agl (hG : Sh G) (h : agl G.1 D0 D) (t m : Int) : lst D t m = lst D0 t m := by
  unfold lst hasW
  rw [h.n hG (k := 1) (by omega) (by omega), h.c hG (c := 216) (by omega) (by omega), h.c hG (c := 220) (by omega) (by omega)]
theorem wl_agl (hG : Sh G) (h : agl G.1 D0 D) (j : Int) : wl D j = wl D0 j := by
  unfold wl
  rw [h.c hG (c := 216) (by omega) (by omega)]
  exact List.map_congr_left (fun q _ => h.c hG (by omega) (by omega))
theorem apl_agl (hG : Sh G) (h : agl G.1 D0 D) (l : Int) (W : List Int) : apl D l W = apl D0 l W := apl_keep (fun c k p q => h.c hG (by omega) (by omega))
theorem outP_agl (hG : Sh G) (h : agl G.1 D0 D) (p : List Nat) : outP D a b T N p = outP D0 a b T N p := by
  funext m
  unfold outP
  rw [lst_agl hG h, lst_agl hG h, wl_agl hG h, wl_agl hG h, aps_keep (apl_agl hG h)]
theorem excP_agl (hG : Sh G) (h : agl G.1 D0 D) (p : List Nat) : excP D a b T N p = excP D0 a b T N p := by
  funext m
  unfold excP
  rw [lst_agl hG h, lst_agl hG h, wl_agl hG h, wl_agl hG h, aps_keep (apl_agl hG h)]
theorem cnt_agl (hG : Sh G) (h : agl G.1 D0 D) : cnt D a b T N = cnt D0 a b T N := by
  funext p
  unfold cnt
  rw [outP_agl hG h]
theorem bst_ge {c : List Nat → Int} : ∀ (L : List (List Nat)) (s : Int × List Nat), s.1 ≤ (L.foldl (bstep c) s).1
  | [], s => Int.le_refl _
  | p :: L, s => by
    rw [List.foldl_cons]
    have := bst_ge (c := c) L (bstep c s p)
    have h2 : s.1 ≤ (bstep c s p).1 := by
      unfold bstep
      by_cases h : s.1 < c p
      · rw [cif_t h]; show s.1 ≤ c p; omega
      · rw [cif_f h]; exact Int.le_refl _
    omega
theorem exn_cons : ∀ N : Fin 4, ∃ p, ∃ L, exn (N.1 + 1) (N.1 + 1) 0 = p :: L := by
  intro ⟨n, h⟩
  have : n = 0 ∨ n = 1 ∨ n = 2 ∨ n = 3 := by omega
  rcases this with rfl | rfl | rfl | rfl <;> exact ⟨_, _, rfl⟩
/-- the best of all orders -/
noncomputable def bstF (D : mmD) (a b : Int) (T : Nat → Int) (N : Nat) : Int × List Nat := (exn N N 0).foldl (bstep (cnt D a b T N)) (-1, [])
theorem bstF_0 (n1 : 1 ≤ N) (n4 : N ≤ 4) : 0 ≤ (bstF D a b T N).1 := by
  obtain ⟨p, L, e⟩ := exn_cons ⟨N - 1, by omega⟩
  simp only [show N - 1 + 1 = N by omega] at e
  unfold bstF
  rw [e, List.foldl_cons]
  have h1 := bst_ge (c := cnt D a b T N) L (bstep (cnt D a b T N) (-1, []) p)
  have h2 := cnt_rg (D0 := D) (a := a) (b := b) (T := T) (N := N) (p := p)
  have h3 : (bstep (cnt D a b T N) (-1, []) p).1 = cnt D a b T N p := by
    unfold bstep
    rw [cif_t (show (-1 : Int) < cnt D a b T N p by omega)]
  omega
theorem r_best (hI : Inv G D0) (h1 : rg x1) (h2 : rg x2) (h3 : rg x3) (h4 : rg x4) (a0 : 0 ≤ x1) (a1 : x1 < D0 214 1) (b0 : 0 ≤ x2) (b1 : x2 < D0 214 1) (i2 : -2 ≤ x4) (ne : x1 ≠ x2) (q0 : 0 ≤ x3) (q1 : x3 < ishl 1 (D0 214 3)) (hN : pcn x3 12 = (N : Int)) (n1 : 1 ≤ N) (n4 : N ≤ 4)
    (h : ∀ v D', ag D0 D' → (x4 = -2 → 0 ≤ v ∧ v < 1024 ∧ bm v 10 (excP D0 x1 x2 (fun q => (bl x3 12).getD q 0) N (bstF D0 x1 x2 (fun q => (bl x3 12).getD q 0) N).2)) → (x4 = -1 → v = (bstF D0 x1 x2 (fun q => (bl x3 12).getD q 0) N).1) → (0 ≤ x4 → x4 < N → v = (bl x3 12).getD ((bstF D0 x1 x2 (fun q => (bl x3 12).getD q 0) N).2.getD x4.toNat 0) 0) → ((N : Int) ≤ x4 → v = -1) → P v D') :
    Call E (d + 11) 0 0 mX12_best [vR 214, vI x1, vI x2, vI x3, vI x4] G D0 (retI G P) := by
  have hG := hI.1
  have s3 := hI.2.1.2.2.1
  have s1 := hI.2.1.1
  have h4' := h4
  unfold rg at h4'
  have sr := sh_rg (j := D0 214 3) (n := 13) s3.2.1 (by omega) (by omega)
  have e13 : ((2 ^ 13 : Nat) : Int) = 8192 := by decide
  rw [e13] at sr
  have p12 : x3 < 4096 := by
    have := ishl_1 (k := D0 214 3) s3.2.1 (by omega)
    have h2 : 2 ^ (D0 214 3).toNat ≤ 2 ^ 12 := Nat.pow_le_pow_right (by omega) (by omega)
    have h3 : ((2 ^ (D0 214 3).toNat : Nat) : Int) ≤ ((2 ^ 12 : Nat) : Int) := Int.ofNat_le.mpr h2
    rw [pw12] at h3
    omega
  have q0' : 1 ≤ x3 := by
    by_cases e : x3 = 0
    · rw [e] at hN
      have : pcn 0 12 = 0 := by
        have : ∀ n : Nat, pcn 0 n = 0 := fun n => by
          induction n with
          | zero => rfl
          | succ n ih => show pcn 0 n + cif (bt 0 n) 1 0 = 0; rw [ih, cif_f bt_0]; rfl
        exact this _
      omega
    · omega
  have hbl : bl x3 12 = bl x3 (D0 214 3).toNat := by
    have := bl_hi (x := x3) (n := (D0 214 3).toNat) (fun k hk => bt_hi (D0 214 3).toNat q0 (by rw [← ishl_1 s3.2.1 (by omega)]; exact q1) hk) (12 - (D0 214 3).toNat)
    rw [show (D0 214 3).toNat + (12 - (D0 214 3).toNat) = 12 by omega] at this
    exact this
  have lN : (bl x3 12).length = N := by
    have := bl_len (x := x3) 12
    omega
  generalize hT : (fun q : Nat => (bl x3 12).getD q 0) = T at *
  have hTq : ∀ q : Nat, (bl x3 12).getD q 0 = T q := fun q => by rw [← hT]
  have hTb : ∀ q : Nat, q < N → 0 ≤ T q ∧ T q < D0 214 3 := fun q hq => by
    have := bl_rg (x := x3) (D0 214 3).toNat q (by rw [← hbl]; omega)
    rw [← hbl, hTq] at this
    exact ⟨this.1, by omega⟩
  have lp : ∀ (n : Nat) (D' : mmD) (k : Int), D0 214 3 - k = n → 0 ≤ k → k ≤ D0 214 3 → (∀ c j, ¬ (c = 214 ∧ j = 44) → c ≠ 239 → D' c j = D0 c j) → D' 214 44 = ((bl x3 k.toNat).length : Int) → (∀ q : Nat, q < (bl x3 k.toNat).length → D' 239 (q : Int) = (bl x3 k.toNat).getD q 0) → Go E (d + 11) 0 0 mX12_best 65 [some (vR 214), some (vI x1), some (vI x2), some (vI x3), some (vI x4), some (vI k)] [] G D' (retI G P) := by
    intro n
    induction n with
    | zero =>
      intro D' k kn k0 k1 fr e44 z
      have ek : k = D0 214 3 := by omega
      subst ek
      rw [← hbl] at e44 z
      have ga : ag D0 D' := fun c j q => fr c j (by unfold pers at q; omega) (by unfold pers at q; omega)
      refine w_X12_best_65 hG ?_
      rw [fr 214 3 (by omega) (by omega)]
      refine br_le (fun _ D1 e1 => ?_) (fun g => by omega)
      have k1 : ∀ c j, ¬ (c = 214 ∧ j = 45) → D1 c j = D' c j := fun c j q => by rw [e1, up2_ne q]
      have hO := c_orders (E := E) (d := d + 4 - N) (T := T) (N := N) (a := x1) (b := x2) hI n4 h1 h2 hTb N D1 0 [] (-1, []) (fun D2 => ((iv 0 ≤ iv x4 → ((iv (D2 214 44) ≤ iv x4 → retI G P (some (vI (-1))) G D2) ∧ (¬ iv (D2 214 44) ≤ iv x4 → ((0 ≤ x4 ∧ x4 < 4) ∧ retI G P (some (vI (D2 241 x4))) G D2)))) ∧ (¬ iv 0 ≤ iv x4 → ((¬ iv x4 = iv (-1) → retI G P (some (vI (D2 214 46))) G D2) ∧ (iv x4 = iv (-1) → retI G P (some (vI (D2 214 45))) G D2))))) (ga.trans (fun c j q => k1 c j (by unfold pers at q; omega))) (by rw [k1 _ _ (by omega), e44, lN]) (by simp) (by omega) (fun q hq => by rw [k1 _ _ (by omega), z q (by omega)]; exact hTq q) (fun q hq => absurd hq (by simp)) (fun q hq => absurd hq (by simp)) ⟨by rw [e1, up2_same], by show (-1 : Int) ≤ -1; omega, by show (-1 : Int) ≤ 10; omega, fun g => absurd g (by show ¬ (0 : Int) ≤ -1; omega)⟩ (fun D2 g2 f44 _ _ r2 => ?_)
      · rw [show d + 4 - N + 6 + N = d + 10 by omega] at hO
        exact hO
      · have em : (exn N N 0).map (fun q => ([] : List Nat) ++ q) = exn N N 0 := by
          have : (fun q : List Nat => ([] : List Nat) ++ q) = id := rfl
          rw [this, List.map_id]
        rw [em] at r2
        obtain ⟨r45, -, r10, rr⟩ := r2
        have hb0 := bstF_0 (D := D0) (a := x1) (b := x2) (T := T) n1 n4
        unfold bstF at hb0 h
        obtain ⟨⟨u1, u2, u3⟩, u4⟩ := rr hb0
        rw [f44, r45]
        refine br_le (fun g => br_le (fun g' => rI (h _ D2 g2 (by omega) (by omega) (by omega) (fun _ => rfl))) (fun g' => ⟨⟨g, by omega⟩, rI (h _ D2 g2 (by omega) (by omega) (fun _ _ => ?_) (by omega))⟩)) (fun g => br_ne (fun g' => rI (h _ D2 g2 (fun _ => ⟨u1, u2, u3⟩) (by omega) (by omega) (by omega))) (fun g' => rI (h _ D2 g2 (by omega) (fun _ => rfl) (by omega) (by omega))))
        have := u4 x4.toNat (by omega)
        rw [Int.toNat_of_nonneg g] at this
        rw [this, hTq]
    | succ n ih =>
      intro D' k kn k0 k1 fr e44 z
      obtain ⟨rest, hr⟩ := bl_pre (x := x3) (n := k.toNat) (12 - k.toNat)
      rw [show k.toNat + (12 - k.toNat) = 12 by omega] at hr
      have lr := congrArg List.length hr
      rw [List.length_append] at lr
      have es := bl_s (x := x3) k0
      refine w_X12_best_65 hG ?_
      rw [fr 214 3 (by omega) (by omega)]
      refine br_le (fun g => by omega) (fun _ => ?_)
      by_cases hb : bt x3 k
      · rw [cif_t hb] at es
        have lt4 : (bl x3 k.toNat).length < 4 := by
          obtain ⟨rest, hr⟩ := bl_pre (x := x3) (n := (k + 1).toNat) (12 - (k + 1).toNat)
          rw [show (k + 1).toNat + (12 - (k + 1).toNat) = 12 by omega, es] at hr
          have lr := congrArg List.length hr
          rw [List.length_append, List.length_append, List.length_singleton] at lr
          omega
        rw [tb_1 q0 (by omega) k0 (by omega) hb, e44]
        refine ⟨fun q => absurd rfl q, fun _ => ⟨⟨by omega, by omega⟩, fun D4 e4 D5 e5 => ?_⟩⟩
        have v44 : D4 214 44 = ((bl x3 k.toNat).length : Int) := by rw [e4, up2_ne (by omega)]; exact e44
        refine ih D5 (k + 1) (by omega) (by omega) (by omega) (fun c j u v => by rw [e5, up2_ne u, e4, up2_ne (fun t => v t.1)]; exact fr c j u v) ?_ (fun q hq => ?_)
        · rw [e5, up2_same, v44, es, List.length_append, List.length_singleton]; omega
        · rw [es] at hq ⊢
          rw [List.length_append, List.length_singleton] at hq
          by_cases e' : q = (bl x3 k.toNat).length
          · rw [e5, up2_ne (by omega), e4, e', up2_same, getD_end]
          · rw [e5, up2_ne (by omega), e4, up2_ne (by omega), getD_app (by omega)]
            exact z q (by omega)
      · rw [cif_f hb] at es
        rw [tb_0 q0 (by omega) k0 (by omega) hb]
        refine ⟨fun _ => ih D' (k + 1) (by omega) (by omega) (by omega) fr (by rw [es]; exact e44) (by rw [es]; exact z), fun q => absurd q (by decide +kernel)⟩
  refine w_X12_best hG (c_rTongue hG hI.ri h1 (fun _ _ => b_t (c_rTongue hG hI.ri h2 (fun _ _ => b_t (br_le (fun _ => br_eq (fun g => absurd g ne) (fun _ => c_in hG h3 (by unfold rg; omega) (by unfold rg; omega) (fun _ _ => b_t (c_count1 hG q0 (by omega) ?_)) (fun g => by omega))) (fun g => by omega))) (fun g => by omega))) (fun g => by omega))
  have e31 : pcn x3 31 = (N : Int) := by rw [← hN]; exact pcn_hi (m := 12) q0 (by rw [pw12]; exact p12) 19
  rw [e31]
  refine br_le (fun _ D9 e9 => ?_) (fun g => by omega)
  exact lp (D0 214 3).toNat D9 0 (by omega) (by omega) (by omega) (fun c j u _ => by rw [e9, up2_ne u]) (by rw [e9, up2_same]; rfl) (fun q hq => absurd hq (by simp [bl]))
end Best3
