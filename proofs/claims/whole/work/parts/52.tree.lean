section Tree
variable {E : mmE} {d : Nat} {G : mmG} {D0 D : mmD} {P : Int → mmD → Prop} {P0 : mmD → Prop} {N : Nat} {x m t x1 x2 : Int}
/-- leaves and labels as the reference has them -/
def rfD (D0 D : mmD) (x : Int) (N : Nat) : Prop := D 214 51 = (N : Int) ∧ ∀ (m : Int) (q : Nat), 0 ≤ m → m < 10 → q < N → isLb D0 m ((bl x 6).getD q 0) (D 246 (6 * m + (q : Int)))
theorem r_stepsOf {num : Int} {dg : Nat → Nat} (hI : Inv G D0) (ha : ag D0 D) (hR : rfD D0 D x N) (n3 : 3 ≤ N) (n6 : N ≤ 6) (z0 : 0 ≤ num) (z1 : N = 3 ∧ num < 1 ∨ N = 4 ∧ num < 3 ∨ N = 5 ∧ num < 15 ∨ N = 6 ∧ num < 105) (hdg : ∀ r : Nat, 3 ≤ r → r < N → (dg r : Int) = dgx (r : Int) ((N : Int) - 1 - (r : Int)).toNat num)
    (h : ∀ D', ag D0 D' → rfD D0 D' x N → P (fsum (fch D0 (fun q => (bl x 6).getD q 0) N (pbr dg N)) 10) D') : Call E (d + 2) 0 0 mX12_stepsOf [vR 214, vI num] G D (retI G P) := by
  have hG := hI.1
  have dlt : ∀ r : Nat, 3 ≤ r → r < N → dg r < 2 * r - 3 := fun r r3 rN => by
    have := dgx_rg (r := (r : Int)) (by omega) ((N : Int) - 1 - (r : Int)).toNat num
    rw [← hdg r r3 rN] at this
    omega
  have fa := fac_of n3 n6 dlt
  refine w_X12_stepsOf hG (r_grows hG hR.1 n3 n6 z0 z1 hdg (fun D1 k1 b1 g1 h1 => ?_))
  have t1 : rTr D1 N (pbr dg N) := ⟨by rw [k1 _ _ (by omega) (by omega) (by omega)]; exact hR.1, g1, h1, b1⟩
  have lp : ∀ (n : Nat) (D' : mmD) (m : Int), 10 - m = n → 0 ≤ m → m ≤ 10 → (∀ c k, c ≠ 247 → D' c k = D1 c k) → Go E (d + 2) 0 0 mX12_stepsOf 9 [some (vR 214), none, some (vI (fsum (fch D0 (fun q => (bl x 6).getD q 0) N (pbr dg N)) m.toNat)), some (vI m), none, none, none, none] [] G D' (retI G P) := by
    intro n
    induction n with
    | zero =>
      intro D' m mn m0 m1 fr
      have e : m = 10 := by omega
      subst e
      refine w_X12_stepsOf_9 hG (br_le (fun _ => rI (h D' (ha.trans (fun c k p => ?_)) ⟨?_, fun m' q a b c => ?_⟩)) (fun g => by omega))
      · rw [fr c k (by unfold pers at p; omega), k1 c k (by unfold pers at p; omega) (by unfold pers at p; omega) (by unfold pers at p; omega)]
      · rw [fr _ _ (by omega), k1 _ _ (by omega) (by omega) (by omega)]; exact hR.1
      · rw [fr _ _ (by omega), k1 _ _ (by omega) (by omega) (by omega)]; exact hR.2 m' q a b c
    | succ n ih =>
      intro D' m mn m0 m1 fr
      have nx := fun D2 => ih D2 (m + 1) (by omega) (by omega) (by omega)
      rw [fsum_s m0] at nx
      refine w_X12_stepsOf_9 hG (br_le (fun g => by omega) (fun _ => ?_))
      refine r_mean (d := d + 1) (N := N) (B := pbr dg N) (Lb := Lbf D0 (fun q => (bl x 6).getD q 0) N m) hG n3 n6 fa (t1.keep fr) m0 (by omega) (fun q => ?_) (fun q hq => ?_) (fun D2 k2 => nx D2 (fun c k p => by rw [k2 c k p]; exact fr c k p))
      · unfold Lbf
        split
        · rename_i hq
          have hv := hR.2 m q m0 (by omega) hq
          rw [lbl_eq hv]
          exact hv.rg
        · omega
      · have hv := hR.2 m q m0 (by omega) hq
        unfold Lbf
        rw [if_pos hq, lbl_eq hv, fr _ _ (by omega), k1 _ _ (by omega) (by omega) (by omega)]
  exact lp 10 D1 0 (by omega) (by omega) (by omega) (fun _ _ _ => rfl)
theorem bl_0 : ∀ n : Nat, bl 0 n = []
  | 0 => rfl
  | n + 1 => by simp only [bl]; rw [cif_f bt_0, bl_0 n]
theorem r_refuses (hI : Inv G D0) (ha : ag D0 D) (hx : rg x) (x0 : 0 ≤ x) (xt : x < ishl 1 (D0 214 1)) (hN : (bl x 6).length = N) (n3 : 3 ≤ N) (n6 : N ≤ 6) (h : ∀ D', ag D0 D' → rfD D0 D' x N → P 0 D') : Call E (d + 5) 0 0 mX12_refuses [vR 214, vI x] G D (retI G P) := by
  have hG := hI.1
  have s1 := hI.2.1.1
  have sr := sh_rg (j := D0 214 1) (n := 7) s1.2.1 (by omega) (by omega)
  have e7 : ((2 ^ 7 : Nat) : Int) = 128 := by decide
  rw [e7] at sr
  have x64 : x < 64 := by
    have := ishl_1 (k := D0 214 1) s1.2.1 (by omega)
    have h2 : 2 ^ (D0 214 1).toNat ≤ 2 ^ 6 := Nat.pow_le_pow_right (by omega) (by omega)
    have h3 : ((2 ^ (D0 214 1).toNat : Nat) : Int) ≤ ((2 ^ 6 : Nat) : Int) := Int.ofNat_le.mpr h2
    rw [pw6] at h3
    omega
  have x1 : 1 ≤ x := by
    by_cases e : x = 0
    · rw [e, bl_0] at hN
      simp at hN
      omega
    · omega
  have hhi : ∀ k : Int, D0 214 1 ≤ k → ¬ bt x k := fun k hk => bt_hi (D0 214 1).toNat x0 (by rw [← ishl_1 s1.2.1 (by omega)]; exact xt) (by omega)
  have hbl : bl x 6 = bl x (D0 214 1).toNat := by
    have := bl_hi (x := x) (n := (D0 214 1).toNat) (fun k hk => hhi k (by omega)) (6 - (D0 214 1).toNat)
    rw [show (D0 214 1).toNat + (6 - (D0 214 1).toNat) = 6 by omega] at this
    exact this
  have hT : ∀ q : Nat, q < N → 0 ≤ (bl x 6).getD q 0 ∧ (bl x 6).getD q 0 < 6 ∧ (bl x 6).getD q 0 < D0 214 1 := fun q hq => by
    have := bl_rg (x := x) 6 q (by omega)
    refine ⟨this.1, this.2.1, ?_⟩
    by_cases e : (bl x 6).getD q 0 < D0 214 1
    · exact e
    · exact absurd this.2.2 (hhi _ (by omega))
  have tc : ∀ D', ag D0 D' → D' 214 1 = D0 214 1 := fun D' hd => hd.s (by omega) (by omega)
  -- labels of one MEANING
  let RI : mmD → Int → Nat → Prop := fun D' m k => ag D0 D' ∧ D' 214 51 = (N : Int) ∧ (∀ q : Nat, q < N → D' 243 (q : Int) = (bl x 6).getD q 0) ∧ ∀ (m' : Int) (q : Nat), 0 ≤ m' → m' < 10 → q < N → (m' < m ∨ (m' = m ∧ q < k)) → isLb D0 m' ((bl x 6).getD q 0) (D' 246 (6 * m' + (q : Int)))
  have inner : ∀ (m : Int), 0 ≤ m → m < 10 → (∀ D', RI D' (m + 1) 0 → Go E (d + 5) 0 0 mX12_refuses 79 [some (vR 214), none, some (vI (m + 1)), none, none, none, none] [] G D' (retI G P)) → ∀ (n : Nat) (D' : mmD) (k : Nat), N - k = n → k ≤ N → RI D' m k → Go E (d + 5) 0 0 mX12_refuses 87 [some (vR 214), none, some (vI m), some (vI (k : Int)), none, none, none] [] G D' (retI G P) := by
    intro m m0 m1 Kc n
    induction n with
    | zero =>
      intro D' k kn k1 hr
      obtain ⟨r1, r2, r3, r4⟩ := hr
      refine w_X12_refuses_87 hG ?_
      rw [r2]
      exact br_le (fun _ => Kc D' ⟨r1, r2, r3, fun m' q a b c e => r4 m' q a b c (by omega)⟩) (fun g => by omega)
    | succ n ih =>
      intro D' k kn k1 hr
      obtain ⟨r1, r2, r3, r4⟩ := id hr
      have hTk := hT k (by omega)
      -- a label is put
      have put : ∀ (D2 : mmD) (v : Int), (∀ c j, c ≠ 10 → c ≠ 237 → D2 c j = D' c j) → ag D0 D2 → isLb D0 m ((bl x 6).getD k 0) v → ((0 ≤ 6 * m + (k : Int) ∧ 6 * m + (k : Int) < 60) ∧ (∀ D1 : mmD, D1 = up2 D2 246 (6 * m + (k : Int)) v → Go E (d + 5) 0 0 mX12_refuses 87 [some (vR 214), none, some (vI m), some (vI ((k : Int) + 1)), none, none, none] [] G D1 (retI G P))) := fun D2 v fr2 g2 hv => by
        refine ⟨⟨by omega, by omega⟩, fun D1 e1 => ?_⟩
        have nx := ih D1 (k + 1) (by omega) (by omega) ⟨g2.trans (fun c j p => by rw [e1, up2_ne (by unfold pers at p; omega)]), by rw [e1, up2_ne (by omega), fr2 _ _ (by omega) (by omega)]; exact r2, fun q hq => by rw [e1, up2_ne (by omega), fr2 _ _ (by omega) (by omega)]; exact r3 q hq, fun m' q a b c e => ?_⟩
        · rw [show ((k + 1 : Nat) : Int) = (k : Int) + 1 by omega] at nx
          exact nx
        · by_cases e' : m' = m ∧ q = k
          · obtain ⟨rfl, rfl⟩ := e'
            rw [e1, up2_same]; exact hv
          · rw [e1, up2_ne (by omega), fr2 _ _ (by omega) (by omega)]
            exact r4 m' q a b c (by omega)
      refine w_X12_refuses_87 hG ?_
      rw [r2, r3 k (by omega)]
      refine br_le (fun g => by omega) (fun _ => ⟨⟨by omega, by omega⟩, c_hasA hI r1 (by unfold rg; omega) (by unfold rg; omega) (fun lo => b_t ?_) (fun lo => b_f ?_)⟩)
      · refine c_setOfF (K := D') hI ⟨r1, fun _ _ _ _ => rfl⟩ lo (fun al D3 g3 a0 a1 hal => ?_)
        have apos : 0 < al := by
          have := (hal _ hTk.1).mpr (rch.self lo)
          by_cases e : al = 0
          · rw [e] at this; exact absurd this bt_0
          · omega
        have find : ∀ (n : Nat) (i : Int), 6 - i = n → 0 ≤ i → i ≤ 6 → (∀ j, 0 ≤ j → j < i → ¬ bt al j) → Go E (d + 5) 0 0 mX12_refuses 129 [some (vR 214), none, some (vI m), some (vI (k : Int)), none, some (vI al), some (vI i)] [] G D3 (retI G P) := by
          intro n
          induction n with
          | zero =>
            intro i inn i0 i1 z
            have := (hal _ hTk.1).mpr (rch.self lo)
            exact absurd this (z _ hTk.1 (by omega))
          | succ n ih3 =>
            intro i inn i0 i1 z
            refine w_X12_refuses_129 hG (br_le (fun g => by omega) (fun _ => ?_))
            by_cases hb : bt al i
            · rw [tb_1 a0 (by omega) i0 (by omega) hb]
              refine n_t (br_ne (fun _ => put D3 i g3.2 g3.1 (Or.inr ⟨lo, i0, by omega, (hal i i0).mp hb, fun j j0 j1 q => z j j0 j1 ((hal j j0).mpr q)⟩)) (fun g => by omega))
            · rw [tb_0 a0 (by omega) i0 (by omega) hb]
              refine n_f (ih3 (i + 1) (by omega) (by omega) (by omega) (fun j j0 j1 => ?_))
              by_cases e : j = i
              · rw [e]; exact hb
              · exact z j j0 (by omega)
        exact find 6 0 (by omega) (by omega) (by omega) (fun j j0 j1 => by omega)
      · exact w_X12_refuses_129 hG (br_le (fun _ => br_ne (fun g => absurd rfl g) (fun _ => put D' (-1) (fun _ _ _ _ => rfl) r1 (Or.inl ⟨lo, rfl⟩))) (fun g => by omega))
  have outer : ∀ (n : Nat) (D' : mmD) (m : Int), 10 - m = n → 0 ≤ m → m ≤ 10 → RI D' m 0 → Go E (d + 5) 0 0 mX12_refuses 79 [some (vR 214), none, some (vI m), none, none, none, none] [] G D' (retI G P) := by
    intro n
    induction n with
    | zero =>
      intro D' m mn m0 m1 hr
      obtain ⟨r1, r2, r3, r4⟩ := hr
      exact w_X12_refuses_79 hG (br_le (fun _ => rI (h D' r1 ⟨r2, fun m' q a b c => r4 m' q a b c (by omega)⟩)) (fun g => by omega))
    | succ n ih =>
      intro D' m mn m0 m1 hr
      exact w_X12_refuses_79 hG (br_le (fun g => by omega) (fun _ => inner m m0 (by omega) (fun D2 h2 => ih D2 (m + 1) (by omega) (by omega) (by omega) h2) N D' 0 (by omega) (by omega) hr))
  have lp : ∀ (n : Nat) (D' : mmD) (k : Int), D0 214 1 - k = n → 0 ≤ k → k ≤ D0 214 1 → ag D0 D' → D' 214 51 = ((bl x k.toNat).length : Int) → (∀ q : Nat, q < (bl x k.toNat).length → D' 243 (q : Int) = (bl x k.toNat).getD q 0) → Go E (d + 5) 0 0 mX12_refuses 34 [some (vR 214), some (vI x), some (vI k), none, none, none, none] [] G D' (retI G P) := by
    intro n
    induction n with
    | zero =>
      intro D' k kn k0 k1 hd e51 z
      have ek : k = D0 214 1 := by omega
      subst ek
      rw [← hbl] at e51 z
      refine w_X12_refuses_34 hG ?_
      rw [tc D' hd]
      exact br_le (fun _ => outer 10 D' 0 (by omega) (by omega) (by omega) ⟨hd, by rw [e51, hN], fun q hq => z q (by omega), fun m' q a b c e => by omega⟩) (fun g => by omega)
    | succ n ih =>
      intro D' k kn k0 k1 hd e51 z
      have es := bl_s (x := x) k0
      refine w_X12_refuses_34 hG ?_
      rw [tc D' hd]
      refine br_le (fun g => by omega) (fun _ => ?_)
      by_cases hb : bt x k
      · rw [cif_t hb] at es
        have lt6 := (bl_at (m := 6) k0 (by omega) hb).2
        rw [tb_1 x0 (by omega) k0 (by omega) hb, e51]
        refine ⟨fun q => absurd rfl q, fun _ => ⟨⟨by omega, by omega⟩, fun D4 e4 D5 e5 => ?_⟩⟩
        have v51 : D4 214 51 = ((bl x k.toNat).length : Int) := by rw [e4, up2_ne (by omega)]; exact e51
        refine ih D5 (k + 1) (by omega) (by omega) (by omega) (hd.trans (fun c j p => by rw [e5, up2_ne (by unfold pers at p; omega), e4, up2_ne (by unfold pers at p; omega)])) ?_ (fun q hq => ?_)
        · rw [e5, up2_same, v51, es, List.length_append, List.length_singleton]; omega
        · rw [es] at hq ⊢
          rw [List.length_append, List.length_singleton] at hq
          by_cases e' : q = (bl x k.toNat).length
          · rw [e5, up2_ne (by omega), e4, e', up2_same, getD_end]
          · rw [e5, up2_ne (by omega), e4, up2_ne (by omega), getD_app (by omega)]
            exact z q (by omega)
      · rw [cif_f hb] at es
        rw [tb_0 x0 (by omega) k0 (by omega) hb]
        refine ⟨fun _ => ih D' (k + 1) (by omega) (by omega) (by omega) hd (by rw [es]; exact e51) (by rw [es]; exact z), fun q => absurd q (by decide +kernel)⟩
  refine w_X12_refuses hG ?_
  rw [tc D ha]
  refine c_in hG hx (by unfold rg; omega) (by unfold rg; omega) (fun _ _ => b_t (c_count1 hG x0 (by omega) ?_)) (fun g => by omega)
  have e31 : pcn x 31 = (N : Int) := by
    have := bl_len (x := x) 6
    rw [← hN, this]
    exact pcn_hi (m := 6) x0 (by rw [pw6]; exact x64) 25
  rw [e31]
  refine br_le (fun _ D5 e5 => ?_) (fun g => by omega)
  exact lp (D0 214 1).toNat D5 0 (by omega) (by omega) (by omega) (ha.trans (fun c j p => by rw [e5, up2_ne (by unfold pers at p; omega)])) (by rw [e5, up2_same]; rfl) (fun q hq => absurd hq (by simp [bl]))
theorem r_refusesN (hI : Inv G D0) (hx : rg x) (hn : ¬ ((0 ≤ x ∧ x < ishl 1 (D0 214 1)) ∧ 3 ≤ (bl x 6).length)) (h : P (-2) D0) : Call E (d + 1) 0 0 mX12_refuses [vR 214, vI x] G D0 (retI G P) := by
  have hG := hI.1
  have s1 := hI.2.1.1
  have sr := sh_rg (j := D0 214 1) (n := 7) s1.2.1 (by omega) (by omega)
  have e7 : ((2 ^ 7 : Nat) : Int) = 128 := by decide
  rw [e7] at sr
  refine w_X12_refuses hG (c_in hG hx (by unfold rg; omega) (by unfold rg; omega) (fun y0 y1 => b_t (c_count1 hG (by omega) (by omega) ?_)) (fun g => b_f (rI h)))
  have x64 : x < 64 := by
    have := ishl_1 (k := D0 214 1) s1.2.1 (by omega)
    have h2 : 2 ^ (D0 214 1).toNat ≤ 2 ^ 6 := Nat.pow_le_pow_right (by omega) (by omega)
    have h3 : ((2 ^ (D0 214 1).toNat : Nat) : Int) ≤ ((2 ^ 6 : Nat) : Int) := Int.ofNat_le.mpr h2
    rw [pw6] at h3
    omega
  have e31 : pcn x 31 = ((bl x 6).length : Int) := by
    rw [bl_len (x := x) 6]
    exact pcn_hi (m := 6) (by omega) (by rw [pw6]; exact x64) 25
  have pr := pcn_rg x 31
  rw [e31]
  refine br_le (fun g D5 e5 => ?_) (fun g => rI h)
  exfalso
  exact hn ⟨⟨by omega, by omega⟩, by omega⟩
theorem c_areLeaves (hI : Inv G D0) (hx : rg x) (h1 : 0 ≤ x → x < ishl 1 (D0 214 1) → x < 64 → 3 ≤ (bl x 6).length → P 1 D0) (h0 : ¬ ((0 ≤ x ∧ x < ishl 1 (D0 214 1)) ∧ 3 ≤ (bl x 6).length) → P 0 D0) : Call E (d + 1) 0 0 mX11_areLeaves [vR 2, vI x] G D0 (retI G P) := by
  have hG := hI.1
  have s1 := hI.2.1.1
  have uz := ushr_z hx s1.2.1 (by omega)
  refine w_X11_areLeaves hG ?_
  rw [s1.1]
  refine ⟨fun q => rI (h0 (fun u => q (uz.mpr u.1))), fun q => c_bitCount hG ?_⟩
  obtain ⟨x0, xt⟩ := uz.mp q
  have x64 : x < 64 := by
    have := ishl_1 (k := D0 214 1) s1.2.1 (by omega)
    have h2 : 2 ^ (D0 214 1).toNat ≤ 2 ^ 6 := Nat.pow_le_pow_right (by omega) (by omega)
    have h3 : ((2 ^ (D0 214 1).toNat : Nat) : Int) ≤ ((2 ^ 6 : Nat) : Int) := Int.ofNat_le.mpr h2
    rw [pw6] at h3
    omega
  have e12 : pcf x = ((bl x 6).length : Int) := by
    rw [pcf_pcn x0 (by omega), bl_len (x := x) 6]
    exact pcn_hi (m := 6) x0 (by rw [pw6]; exact x64) 6
  have pr := pcn_rg x 6
  rw [← bl_len] at pr
  rw [e12]
  exact br_lt (fun g => rI (h0 (fun u => by omega))) (fun g => rI (h1 x0 xt x64 (by omega)))
theorem c_treesOf (hG : Sh G) (x0 : 0 ≤ x) (x64 : x < 64) (hN : (bl x 6).length = N) (n3 : 3 ≤ N) (n6 : N ≤ 6) (h : ∀ v : Int, (N = 3 ∧ v = 1 ∨ N = 4 ∧ v = 3 ∨ N = 5 ∧ v = 15 ∨ N = 6 ∧ v = 105) → P v D) : Call E (d + 1 + 1) 0 0 mX11_treesOf [vI x] G D (retI G P) := by
  refine w_X11_treesOf hG (c_bitCount12 hG x0 (by omega) ?_)
  have p12 : pcn x 12 = (N : Int) := by
    have := bl_len (x := x) 6
    rw [← hN, this]
    exact pcn_hi (m := 6) x0 (by rw [pw6]; exact x64) 6
  rw [p12]
  have st : ∀ (y k : Int), 2 ≤ k → k ≤ 6 → ((N : Int) ≤ k → P y D) → (k < (N : Int) → Go E (d + 1 + 1) 0 0 mX11_treesOf 9 [none, some (vI (N : Int)), some (vI (y * (2 * k - 3))), some (vI (k + 1))] [] G D (retI G P)) → Go E (d + 1 + 1) 0 0 mX11_treesOf 9 [none, some (vI (N : Int)), some (vI y), some (vI k)] [] G D (retI G P) := fun y k k0 k1 a b =>
    w_X11_treesOf_9 hG (br_le (fun g => rI (a g)) (fun g => c_whenSet hG (by omega) (by omega) (b g)))
  exact st 1 3 (by omega) (by omega) (fun g => h _ (by omega)) (fun _ => st _ _ (by omega) (by omega) (fun g => h _ (by omega)) (fun _ => st _ _ (by omega) (by omega) (fun g => h _ (by omega)) (fun _ => st _ _ (by omega) (by omega) (fun g => h _ (by omega)) (fun g => by omega))))
/-- the digits of a TREE's number -/
def dgN (N : Nat) (num : Int) : Nat → Nat := fun r => (dgx (r : Int) ((N : Int) - 1 - (r : Int)).toNat num).toNat
theorem dgN_ok (num : Int) (r : Nat) (r3 : 3 ≤ r) (rN : r < N) : (dgN N num r : Int) = dgx (r : Int) ((N : Int) - 1 - (r : Int)).toNat num := by
  have := dgx_rg (r := (r : Int)) (by omega) ((N : Int) - 1 - (r : Int)).toNat num
  unfold dgN
  omega
/-- STEPS of a TREE -/
noncomputable def stF (D : mmD) (x : Int) (N : Nat) (num : Int) : Int := fsum (fch D (fun q => (bl x 6).getD q 0) N (pbr (dgN N num) N)) 10
theorem p_steps (hI : Inv G D0) (h1 : rg x1) (h2 : rg x2) : Pair E (d + 6) mX11_steps mX12_steps [vI x1, vI x2] G D0 := by
  have hG := hI.1
  have h2' := h2
  unfold rg at h2'
  refine w_X11_steps hG (c_areLeaves hI h1 (fun x0 xt x64 n3 => b_t ?_) (fun hn => b_f (rI (w_X12_steps hG (r_refusesN hI h1 hn ⟨fun q => absurd q (by decide +kernel), fun _ => rI ⟨rfl, hI⟩⟩)))))
  generalize hN : (bl x1 6).length = N at *
  have n6 : N ≤ 6 := by
    have := bl_len (x := x1) 6
    have := pcn_rg x1 6
    omega
  have no : ∀ v : Int, (N = 3 ∧ v = 1 ∨ N = 4 ∧ v = 3 ∨ N = 5 ∧ v = 15 ∨ N = 6 ∧ v = 105) → (x2 < 0 ∨ v ≤ x2) → Call E (d + 6) 0 0 mX12_steps [vR 214, vI x1, vI x2] G D0 (retI G (fun y D2 => iv (-2) = iv y ∧ Inv G D2)) := fun v hv hb => by
    refine w_X12_steps hG (r_refuses hI ag.rfl h1 x0 xt hN n3 n6 (fun D1 g1 r1 => b_f (r_trees hG r1.1 n3 n6 (fun v' hv' => c_in hG h2 (by unfold rg; omega) (by unfold rg; omega) (fun a b => by omega) (fun a => b_f (rI ⟨rfl, hI.ag g1⟩))))))
  refine br_lt (fun g => rI (no (if N = 3 then 1 else if N = 4 then 3 else if N = 5 then 15 else 105) (by
    by_cases q3 : N = 3
    · rw [if_pos q3]; omega
    · rw [if_neg q3]
      by_cases q4 : N = 4
      · rw [if_pos q4]; omega
      · rw [if_neg q4]
        by_cases q5 : N = 5
        · rw [if_pos q5]; omega
        · rw [if_neg q5]; omega) (Or.inl g))) (fun g0 => c_treesOf hG x0 x64 hN n3 n6 (fun v hv => ?_))
  refine br_lt (fun g => ?_) (fun g => rI (no v hv (Or.inr g)))
  refine c_hangSets hI ag.rfl (fun D1 g1 h1' => c_stepsOf hI g1 h1' x0 xt hN n3 n6 g0 (by omega) (dgN_ok x2) (fun D2 g2 _ => rI ?_))
  refine w_X12_steps hG (r_refuses hI g2 h1 x0 xt hN n3 n6 (fun D3 g3 r3 => b_f (r_trees hG r3.1 n3 n6 (fun v' hv' => c_in hG h2 (by unfold rg; omega) (by unfold rg; omega) (fun a b => b_t (r_stepsOf hI g3 r3 n3 n6 g0 (by omega) (dgN_ok x2) (fun D4 g4 _ => rI ⟨rfl, hI.ag g4⟩))) (fun a => by omega)))))
end Tree
