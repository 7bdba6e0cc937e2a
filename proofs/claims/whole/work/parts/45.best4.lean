section Best4
variable {E : mmE} {d : Nat} {G : mmG} {D0 D : mmD} {T : Nat → Int} {N : Nat} {p : List Nat} {s : Int × List Nat} {x1 x2 x3 x4 : Int}
theorem agl.up {e : Int} {D' : mmD} (h : agl e D0 D) (h2 : ∀ c k, c < e → pers c k → D' c k = D c k) : agl e D0 D' := fun c k q r => by rw [h2 c k r q]; exact h c k q r
theorem l_best {Q : mmQ} {Gx : mmG} {r6 r7 : Int} (hI : Inv G D0) (hX : ∀ D, agl G.1 D0 D → Inv Gx D) (e6 : r6 = G.1) (e7 : r7 = G.1 + 1) (ha6 : isA4 Gx r6) (ha7 : isA4 Gx r7) (h1 : rg x1) (h2 : rg x2) (hT : tmo T N) (hTb : ∀ q : Nat, q < N → 0 ≤ T q ∧ T q < D0 214 3) (n1 : 1 ≤ N) (n4 : N ≤ 4) (L : List (List Nat))
    (K : ∀ D x8 x9, agl G.1 D0 D → cS D0 D r7 x8 x9 x1 x2 T N (L.foldl (bstep (cnt D0 x1 x2 T N)) (-1, [])) → ((¬ iv x4 = iv (-2) → ((¬ iv x4 = iv (-1) → ((0 ≤ x4 ∧ x4 < 4) ∧ Q (some (vI (D r7 x4))) Gx D)) ∧ (iv x4 = iv (-1) → Q (some (vI x9)) Gx D))) ∧ (iv x4 = iv (-2) → Call E (d + 5) 0 0 mX11_meaningsOfBoth [vR 2, vI x1, vI x2] Gx D (retI Gx (fun z2 D1 => Q (some (vI (iand z2 (ixor x8 (-1))))) Gx D1))))) :
    ∀ (f : Nat) (D : mmD) (p : List Nat) (s : Int × List Nat) (x8 x9 : Int), f ≤ 24 → (∀ q ∈ run N f p, okp N q = true) → agl G.1 D0 D → rwk D r6 T N p → cS D0 D r7 x8 x9 x1 x2 T N s → (run N f p).foldl (bstep (cnt D0 x1 x2 T N)) s = L.foldl (bstep (cnt D0 x1 x2 T N)) (-1, []) →
      Go E (d + 6) 0 19 mX11_best 92 [some (vR 2), some (vI x1), some (vI x2), none, some (vI x4), some (vI (N : Int)), some (vR r6), some (vR r7), some (vI x8), some (vI x9), some (vI 1), some (vI (24 - (f : Int))), none] [] Gx D Q := by
  have g1 := hI.1.1
  intro f
  induction f with
  | zero =>
    intro D p s x8 x9 f24 ok ga w cs e
    have hG := (hX D ga).1
    refine v_X11_best_92 hG ha6 ha7 (br_le (fun _ => K D x8 x9 ga ?_) (fun g => by omega))
    rw [← e]
    exact cs
  | succ f ih =>
    intro D p s x8 x9 f24 ok ga w cs e
    have hI' := hX D ga
    have hG := hI'.1
    have okP : okp N p = true := ok p (by simp [run])
    have pT : ∀ q : Nat, q < N → 0 ≤ T (p.getD q 0) ∧ T (p.getD q 0) < D 214 3 := fun q hq => by
      rw [ga.n hI.1 (by omega) (by omega)]
      exact hTb _ (okp_lt okP hq)
    simp only [run, List.foldl_cons] at e
    -- on to the next row
    have nxc : ∀ (D1 : mmD) (x8 x9 : Int), agl G.1 D0 D1 → rwk D1 r6 T N p → cS D0 D1 r7 x8 x9 x1 x2 T N (bstep (cnt D0 x1 x2 T N) s p) → Call E (d + 5) 0 0 mX11_toNextOrder [vR r6, vI (N : Int)] Gx D1 (retI Gx (fun z10 D9 => Go E (d + 6) 0 19 mX11_best 92 [some (vR 2), some (vI x1), some (vI x2), none, some (vI x4), some (vI (N : Int)), some (vR r6), some (vR r7), some (vI x8), some (vI x9), some (vI z10), some (vI (24 - ((f + 1 : Nat) : Int) + 1)), none] [] Gx D9 Q)) := by
      intro D1 x8 x9 ga1 w1 cs1
      refine c_next hG ha6 hT n4 n1 okP w1 (fun p' D2 hn k2 w2 => ?_) (fun hn => ?_)
      · rw [hn] at e
        have nx := ih D2 p' _ x8 x9 (by omega) (fun q hq => ok q (by simp only [run, hn]; exact List.mem_cons_of_mem _ hq)) (ga1.up (fun c k q _ => k2 c k (by omega))) w2 ?_ e
        · rw [show 24 - ((f + 1 : Nat) : Int) + 1 = 24 - (f : Int) by omega]
          exact nx
        · obtain ⟨c1, c2, c3, c4⟩ := cs1
          exact ⟨c1, c2, c3, fun g => ⟨(c4 g).1, fun q hq => by rw [k2 _ _ (by omega)]; exact (c4 g).2 q hq⟩⟩
      · rw [hn] at e
        have kk := K D1 x8 x9 ga1 (by rw [← e]; exact cs1)
        exact v_X11_best_92 hG ha6 ha7 (br_le (fun _ => kk) (fun _ => b_f kk))
    refine v_X11_best_92 hG ha6 ha7 (br_le (fun g => by omega) (fun _ => b_t ?_))
    refine c_comeOut hI' ha6 n4 w pT h1 h2 (fun x D5 g5 y0 y1 hb => ?_)
    rw [outP_agl hI.1 ga] at hb
    have ec : pcn x 12 = cnt D0 x1 x2 T N p := by
      unfold cnt
      rw [← pcn_bm (n := 10) hb]
      exact pcn_hi (m := 10) y0 (by rw [pw10]; exact y1) 2
    have cr := cnt_rg (D0 := D0) (a := x1) (b := x2) (T := T) (N := N) (p := p)
    refine c_bitCount12 hG y0 (by omega) ?_
    rw [ec]
    obtain ⟨c1, c2, c3, c4⟩ := id cs
    have ga5 : agl G.1 D0 D5 := ga.up (fun c k _ q => g5 c k q)
    have w5 : rwk D5 r6 T N p := fun q hq => by rw [g5 _ _ (by unfold pers; omega)]; exact w q hq
    refine br_le (fun g => nxc D5 x8 x9 ga5 w5 ?_) (fun g => c_bitCount12 hG y0 (by omega) ?_)
    · have eb : bstep (cnt D0 x1 x2 T N) s p = s := by unfold bstep; rw [cif_f (by omega)]
      rw [eb]
      exact ⟨c1, c2, c3, fun g => ⟨(c4 g).1, fun q hq => by rw [g5 _ _ (by unfold pers; omega)]; exact (c4 g).2 q hq⟩⟩
    · have eb : bstep (cnt D0 x1 x2 T N) s p = (cnt D0 x1 x2 T N p, p) := by unfold bstep; rw [cif_t (by omega)]
      rw [ec]
      refine ⟨⟨by omega, by omega, by omega⟩, fun D13 e13 => nxc D13 _ _ (ga5.up (fun c k q _ => ?_)) (fun q hq => ?_) ?_⟩
      · rw [e13]; unfold cp0; rw [if_neg (by omega)]
      · rw [e13]; unfold cp0; rw [if_neg (by omega)]; exact w5 q hq
      · rw [eb]
        refine ⟨rfl, by show -1 ≤ cnt D0 x1 x2 T N p; omega, cr.2, fun _ => ⟨⟨y0, y1, hb⟩, fun q hq => ?_⟩⟩
        rw [e13]; unfold cp0; rw [if_pos ⟨rfl, by omega, by omega⟩]; exact w5 q hq
theorem p_best (hI : Inv G D0) (h1 : rg x1) (h2 : rg x2) (h3 : rg x3) (h4 : rg x4) : PairG E (d + 11) mX11_best mX12_best [vI x1, vI x2, vI x3, vI x4] G D0 := by
  obtain ⟨hG, hs, -⟩ := id hI
  have s1 := hs.1
  have s3 := hs.2.2.1
  have h1' := h1
  have h2' := h2
  have h4' := h4
  unfold rg at h1' h2' h4'
  have g1 := hG.1
  have uz := ushr_z h3 s3.2.1 s3.2.2
  have sr := sh_rg (j := D0 214 3) (n := 13) s3.2.1 (by omega) (by omega)
  have e13 : ((2 ^ 13 : Nat) : Int) = 8192 := by decide
  rw [e13] at sr
  -- refusals of the reference
  have no : ∀ v : Int, ((x1 < 0 ∨ D0 214 1 ≤ x1 ∨ x2 < 0 ∨ D0 214 1 ≤ x2 ∨ x4 < -2) → v = -1) → (0 ≤ x1 → x1 < D0 214 1 → 0 ≤ x2 → x2 < D0 214 1 → -2 ≤ x4 → v = -2 ∧ (x1 = x2 ∨ x3 < 1 ∨ ishl 1 (D0 214 3) ≤ x3 ∨ 4 < pcn x3 31)) → Call E (d + 11) 0 0 mX12_best [vR 214, vI x1, vI x2, vI x3, vI x4] G D0 (retI G (fun y D2 => iv v = iv y ∧ Inv G D2)) := fun v v1 v2 => by
    refine w_X12_best hG (c_rTongue hG hI.ri h1 (fun a0 a1 => b_t (c_rTongue hG hI.ri h2 (fun b0 b1 => b_t (br_le (fun i2 => ?_) (fun g => rI ⟨by rw [v1 (by omega)], hI⟩))) (fun g => b_f (rI ⟨by rw [v1 (by omega)], hI⟩)))) (fun g => b_f (rI ⟨by rw [v1 (by omega)], hI⟩)))
    obtain ⟨v3, v4⟩ := v2 a0 a1 b0 b1 i2
    refine br_eq (fun _ => rI ⟨by rw [v3], hI⟩) (fun ne => c_in hG h3 (by unfold rg; omega) (by unfold rg; omega) (fun y0 y1 => b_t (c_count1 hG (by omega) (by omega) ?_)) (fun g => b_f (rI ⟨by rw [v3], hI⟩)))
    have := pcn_rg x3 31
    refine br_le (fun g D9 e9 => by omega) (fun g => rI ⟨by rw [v3], hI⟩)
  refine w_X11_best (kc := 0) (ks := 19) hG (c_isTongue hI h1 (fun a0 a1 => b_t (c_isTongue hI h2 (fun b0 b1 => b_t (br_le (fun i2 => c_bitCount hG ?_) (fun g => rIG' ⟨hG, no _ (fun _ => rfl) (by omega)⟩))) (fun g => b_f (rIG' ⟨hG, no _ (fun _ => rfl) (by omega)⟩)))) (fun g => b_f (rIG' ⟨hG, no _ (fun _ => rfl) (by omega)⟩)))
  refine br_eq (fun e => rIG' ⟨hG, no _ (by omega) (fun _ _ _ _ _ => ⟨rfl, Or.inl e⟩)⟩) (fun ne => ?_)
  rw [s3.1]
  refine ⟨fun hz => rIG' ⟨hG, no _ (by omega) (fun _ _ _ _ _ => ⟨rfl, ?_⟩)⟩, fun hz => ?_⟩
  · by_cases q0 : 0 ≤ x3
    · right; right; left
      by_cases q1 : x3 < ishl 1 (D0 214 3)
      · exact absurd (uz.mpr ⟨q0, q1⟩) hz
      · omega
    · right; left; omega
  obtain ⟨q0, q1⟩ := uz.mp hz
  have p12 : x3 < 4096 := by
    have := ishl_1 (k := D0 214 3) s3.2.1 (by omega)
    have h2 : 2 ^ (D0 214 3).toNat ≤ 2 ^ 12 := Nat.pow_le_pow_right (by omega) (by omega)
    have h3 : ((2 ^ (D0 214 3).toNat : Nat) : Int) ≤ ((2 ^ 12 : Nat) : Int) := Int.ofNat_le.mpr h2
    rw [pw12] at h3
    omega
  have e31 : pcn x3 31 = pcn x3 12 := pcn_hi (m := 12) q0 (by rw [pw12]; exact p12) 19
  have pr := pcn_rg x3 12
  rw [pcf_pcn q0 p12]
  refine br_lt (fun g => rIG' ⟨hG, no _ (by omega) (fun _ _ _ _ _ => ⟨rfl, ?_⟩)⟩) (fun g1' => br_le (fun g4 => ?_) (fun g => rIG' ⟨hG, no _ (by omega) (fun _ _ _ _ _ => ⟨rfl, by omega⟩)⟩))
  · right; left
    by_cases e : x3 = 0
    · omega
    · exfalso
      have z : pcn x3 12 = ((0 : Nat) : Int) := by omega
      have := bt_ext (x := x3) (y := 0) 12 q0 (by rw [pw12]; exact p12) (by omega) (by rw [pw12]; omega) (fun k k0 k1 => ⟨fun hk => ?_, fun hk => absurd hk bt_0⟩)
      · exact e this
      · exfalso
        have b1 := bl_len (x := x3) 12
        have hb : bl x3 12 = [] := List.eq_nil_of_length_eq_zero (by omega)
        have : ∀ n : Nat, k < n → bt x3 k → bl x3 n ≠ [] := by
          intro n
          induction n with
          | zero => intro q; omega
          | succ n ih =>
            intro q hk
            simp only [bl]
            by_cases e : k = n
            · rw [cif_t (e ▸ hk)]; simp
            · by_cases hn : bt x3 n
              · rw [cif_t hn]; simp
              · rw [cif_f hn]; exact ih (by omega) hk
        exact this 12 (by omega) hk hb
  obtain ⟨N, hN⟩ : ∃ N : Nat, pcn x3 12 = (N : Int) := ⟨(pcn x3 12).toNat, by omega⟩
  have n1 : 1 ≤ N := by omega
  have n4 : N ≤ 4 := by omega
  rw [hN]
  refine br_lt (fun gi => ?_) (fun gi => rIG' ⟨hG, ?_⟩)
  · have lN : (bl x3 12).length = N := by
      have := bl_len (x := x3) 12
      omega
    refine c_first hG q0 p12 (by omega) (fun D7 k7 w7 => ⟨hG.push, ?_, fun G12 e12 D14 e14 => ?_⟩)
    · refine ⟨g1, by show G.1 < G.1 + 1; omega, ?_⟩
      show (if G.1 = G.1 then ((12 : Nat), (4 : Int)) else G.2.1 G.1) = _
      rw [if_pos rfl]
    · have eg : (mm_push G 12 4).1 = G.1 + 1 := rfl
      rw [eg] at e14 ⊢
      have hX : ∀ D, agl G.1 D0 D → Inv G12 D := fun D ga => by
        rw [e12]
        exact (hI.pushm ga).pushm (fun _ _ _ _ => rfl)
      have k14 : ∀ c k, c ≠ G.1 → c ≠ G.1 + 1 → D14 c k = D0 c k := fun c k p q => by
        rw [e14]; unfold mm_zero; rw [if_neg q]; exact k7 c k p
      have ga14 : agl G.1 D0 D14 := fun c k _ q => k14 c k (by omega) (by omega)
      have ha6 : isA4 G12 G.1 := by
        rw [e12]
        refine ⟨g1, by show G.1 < G.1 + 1 + 1; omega, ?_⟩
        show (if G.1 = G.1 + 1 then ((12 : Nat), (4 : Int)) else (if G.1 = G.1 then (12, 4) else G.2.1 G.1)) = _
        rw [if_neg (by omega), if_pos rfl]
      have ha7 : isA4 G12 (G.1 + 1) := by
        rw [e12]
        refine ⟨by omega, by show G.1 + 1 < G.1 + 1 + 1; omega, ?_⟩
        show (if G.1 + 1 = G.1 + 1 then ((12 : Nat), (4 : Int)) else _) = _
        rw [if_pos rfl]
      have hbl : bl x3 12 = bl x3 (D0 214 3).toNat := by
        have := bl_hi (x := x3) (n := (D0 214 3).toNat) (fun k hk => bt_hi (D0 214 3).toNat q0 (by rw [← ishl_1 s3.2.1 (by omega)]; exact q1) hk) (12 - (D0 214 3).toNat)
        rw [show (D0 214 3).toNat + (12 - (D0 214 3).toNat) = 12 by omega] at this
        exact this
      have hTb : ∀ q : Nat, q < N → 0 ≤ (bl x3 12).getD q 0 ∧ (bl x3 12).getD q 0 < D0 214 3 := fun q hq => by
        have := bl_rg (x := x3) (D0 214 3).toNat q (by rw [← hbl]; omega)
        rw [← hbl] at this
        exact ⟨this.1, by omega⟩
      have hT : tmo (fun q : Nat => (bl x3 12).getD q 0) N := ⟨fun q hq => ⟨(hTb q hq).1, by have := (hTb q hq).2; show (bl x3 12).getD q 0 < 12; omega⟩, fun i j hij hj => bl_mono 12 i j hij (by omega)⟩
      obtain ⟨rx1, rx2⟩ := run_exn ⟨N - 1, by omega⟩
      simp only [show N - 1 + 1 = N by omega] at rx1 rx2
      have nx := l_best (E := E) (d := d + 5) (Q := retIG (fun x G1 D1 => Sh G1 ∧ Call E (d + 11) 0 0 mX12_best [vR 214, vI x1, vI x2, vI x3, vI x4] G1 D1 (retI G1 (fun y D2 => iv x = iv y ∧ Inv G1 D2)))) (x4 := x4) hI hX rfl rfl ha6 ha7 h1 h2 hT hTb n1 n4 (exn N N 0) (fun D x8 x9 ga cs => ?_) 24 D14 (List.range N) (-1, []) 0 (-1) (by omega) (fun q hq => ?_) ga14 (fun q hq => ?_) ⟨rfl, by show (-1 : Int) ≤ -1; omega, by show (-1 : Int) ≤ 10; omega, fun g => absurd g (by show ¬ (0 : Int) ≤ -1; omega)⟩ (by rw [rx1])
      · exact nx
      · -- what is answered
        have hID := hX D ga
        obtain ⟨c1, c2, c3, c4⟩ := cs
        have hb0 := bstF_0 (D := D0) (a := x1) (b := x2) (T := fun q : Nat => (bl x3 12).getD q 0) n1 n4
        unfold bstF at hb0
        obtain ⟨⟨u1, u2, u3⟩, u4⟩ := c4 hb0
        have d1 : D 214 1 = D0 214 1 := ga.n hG (by omega) (by omega)
        have d3 : D 214 3 = D0 214 3 := ga.n hG (by omega) (by omega)
        have ref : ∀ (v : Int) (D1 : mmD), agl G.1 D0 D1 → (x4 = -2 → 0 ≤ v ∧ v < 1024 ∧ bm v 10 (excP D0 x1 x2 (fun q => (bl x3 12).getD q 0) N (bstF D0 x1 x2 (fun q => (bl x3 12).getD q 0) N).2)) → (x4 = -1 → v = (bstF D0 x1 x2 (fun q => (bl x3 12).getD q 0) N).1) → (0 ≤ x4 → v = (bl x3 12).getD ((bstF D0 x1 x2 (fun q => (bl x3 12).getD q 0) N).2.getD x4.toNat 0) 0) → Call E (d + 11) 0 0 mX12_best [vR 214, vI x1, vI x2, vI x3, vI x4] G12 D1 (retI G12 (fun y D2 => iv v = iv y ∧ Inv G12 D2)) := fun v D1 ga1 p1 p2 p3 => by
          have d1 : D1 214 1 = D0 214 1 := ga1.n hG (by omega) (by omega)
          have d3 : D1 214 3 = D0 214 3 := ga1.n hG (by omega) (by omega)
          have eb : bstF D1 x1 x2 (fun q : Nat => (bl x3 12).getD q 0) N = bstF D0 x1 x2 (fun q : Nat => (bl x3 12).getD q 0) N := by unfold bstF; rw [cnt_agl hG ga1]
          refine r_best (hX D1 ga1) h1 h2 h3 h4 a0 (by omega) b0 (by omega) i2 ne q0 (by rw [d3]; exact q1) hN n1 n4 (fun y D2 ga2 r1 r2 r3 _ => ⟨?_, (hX D1 ga1).ag ga2⟩)
          rw [eb] at r1 r2 r3
          rw [excP_agl hG ga1] at r1
          by_cases i0 : 0 ≤ x4
          · rw [p3 i0, r3 i0 (by omega)]
          · by_cases i1 : x4 = -1
            · rw [p2 i1, r2 i1]
            · have i2' : x4 = -2 := by omega
              obtain ⟨y0, y1, y2⟩ := r1 i2'
              obtain ⟨z0, z1, z2⟩ := p1 i2'
              rw [bt_ext (x := v) (y := y) 10 z0 (by rw [pw10]; exact z1) y0 (by rw [pw10]; exact y1) (fun k k0 _ => by rw [z2 k k0, y2 k k0])]
        refine br_ne (fun gn => br_ne (fun gn1 => ⟨⟨by omega, by omega⟩, rIG' ⟨hID.1, ref _ D ga (by omega) (by omega) (fun i0 => ?_)⟩⟩) (fun gn1 => rIG' ⟨hID.1, ref _ D ga (by omega) (fun _ => c1) (by omega)⟩)) (fun gn => ?_)
        · have := u4 x4.toNat (by omega)
          rw [Int.toNat_of_nonneg i0] at this
          exact this
        · refine c_mob hID ag.rfl h1 h2 (fun z z0 z1 hz2 => rIG' ⟨hID.1, ref _ D ga (fun _ => ?_) (by omega) (by omega)⟩)
          have ar := andn_rg (x := z) (y := x8) z0 (by omega) u1 (by omega)
          refine ⟨ar.1, by omega, fun k k0 => ?_⟩
          rw [bt_andn z0 (by omega) u1 (by omega), hz2 k k0, u3 k k0]
          unfold l2 excP bstF
          rw [lst_agl hG ga, lst_agl hG ga]
          unfold outP
          constructor
          · rintro ⟨⟨t1, t2⟩, t3⟩
            exact ⟨t1, t2, fun t4 => t3 ⟨t1, t2, t4⟩⟩
          · rintro ⟨t1, t2, t3⟩
            exact ⟨⟨t1, t2⟩, fun t4 => t3 t4.2.2⟩
      · rw [rx1] at hq
        exact List.all_eq_true.mp rx2 q hq
      · rw [e14]
        unfold mm_zero
        rw [if_neg (by omega), w7 q (by omega)]
        show _ = (bl x3 12).getD ((List.range N).getD q 0) 0
        rw [List.getD_eq_getElem?_getD (l := List.range N), List.getElem?_range hq]
        rfl
  · exact r_best hI h1 h2 h3 h4 a0 a1 b0 b1 i2 ne q0 q1 hN n1 n4 (fun v D' ga _ _ _ r4 => ⟨by rw [r4 gi], hI.ag ga⟩)
end Best4
