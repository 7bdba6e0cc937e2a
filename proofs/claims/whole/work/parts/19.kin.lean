/-! ===== KIN, over memories that differ only where nothing lasts ===== -/
def ag (D D' : mmD) : Prop := ∀ c k, pers c k → D' c k = D c k
theorem ag.rfl {D : mmD} : ag D D := fun _ _ _ => Eq.refl _
theorem ag.trans {D D' D2 : mmD} (h : ag D D') (h2 : ag D' D2) : ag D D2 := fun c k p => (h2 c k p).trans (h c k p)
theorem Inv.ag {G : mmG} {D D' : mmD} (h : Inv G D) (a : ag D D') : Inv G D' := h.keep a
theorem ag.a {D D' : mmD} (a : ag D D') {c k : Int} (h : 215 ≤ c) (h2 : c ≤ 234) : D' c k = D c k := a c k (by unfold pers; omega)
theorem ag.s {D D' : mmD} (a : ag D D') {k : Int} (h : 1 ≤ k) (h2 : k ≤ 9) : D' 214 k = D 214 k := a 214 k (by unfold pers; omega)
theorem lst_ag {D D' : mmD} (a : ag D D') {t m : Int} : lst D' t m ↔ lst D t m := by
  unfold lst hasW
  rw [a.s (k := 1) (by omega) (by omega), a.a (c := 216) (by omega) (by omega), a.a (c := 220) (by omega) (by omega)]
def ecw (D : mmD) (ja jb : Int) : Int := ec (rla D ja) (rla D jb) (D 216 ja) (D 216 jb) 0 0
theorem rla_ag {D D' : mmD} (a : ag D D') (j : Int) : rla D' j = rla D j := funext fun _ => a.a (by omega) (by omega)
theorem ecw_ag {D D' : mmD} (a : ag D D') (ja jb : Int) : ecw D' ja jb = ecw D ja jb := by
  unfold ecw
  rw [rla_ag a, rla_ag a, a.a (c := 216) (by omega) (by omega), a.a (c := 216) (by omega) (by omega)]
theorem ecw_rg {G : mmG} {D : mmD} (h : Inv G D) {ja jb : Int} (a0 : 0 ≤ ja) (a1 : ja < 60) (b0 : 0 ≤ jb) (b1 : jb < 60) : 0 ≤ ecw D ja jb ∧ ecw D ja jb ≤ 32 := by
  have p := (h.w8 a0 a1).1
  have q := (h.w8 b0 b1).1
  exact ec_rg8 (by omega) (by omega) (by omega) (by omega) p.2 q.2
theorem ecw_symm {G : mmG} {D : mmD} (h : Inv G D) {ja jb : Int} (a0 : 0 ≤ ja) (a1 : ja < 60) (b0 : 0 ≤ jb) (b1 : jb < 60) : ecw D ja jb = ecw D jb ja := by
  have p := (h.w8 a0 a1).1
  have q := (h.w8 b0 b1).1
  unfold ecw
  exact ec_symm _ _ _ _ (D 216 ja - 0 + (D 216 jb - 0)).toNat 0 0 (by omega) (by omega) (by omega)
/-- they are KIN -/
def kinP (D : mmD) (ja jb : Int) : Prop := 10 * ecw D ja jb ≤ D 214 8 * max (D 216 ja) (D 216 jb)
theorem kinP_symm {G : mmG} {D : mmD} (h : Inv G D) {ja jb : Int} (a0 : 0 ≤ ja) (a1 : ja < 60) (b0 : 0 ≤ jb) (b1 : jb < 60) : kinP D ja jb ↔ kinP D jb ja := by
  unfold kinP
  rw [ecw_symm h a0 a1 b0 b1, Int.max_comm]
theorem mul480 {a b : Int} (h1 : 0 ≤ a) (h2 : a ≤ 60) (h3 : 0 ≤ b) (h4 : b ≤ 8) : 0 ≤ a * b ∧ a * b ≤ 480 := by
  have := Int.mul_nonneg h1 h3
  have := Int.mul_le_mul h2 h4 h3 (by omega)
  omega
section KinA
variable {E : mmE} {d : Nat} {G : mmG} {D0 D : mmD} {P : Int → mmD → Prop} {t m x1 x2 x3 x4 ja jb : Int}
theorem c_listedA (hI : Inv G D0) (ha : ag D0 D) (ht : rg t) (hm : rg m) (h1 : lst D0 t m → P (22 + 2 * (10 * t + m)) D) (h0 : ¬ lst D0 t m → P 0 D) : Call E (d + 2) 0 0 mX11_listedWord [vR 2, vI t, vI m] G D (retR G P) :=
  c_listed (hI.ag ha) ht hm (fun h => h1 ((lst_ag ha).mp h)) (fun h => h0 (fun q => h ((lst_ag ha).mpr q)))
theorem c_hasA (hI : Inv G D0) (ha : ag D0 D) (ht : rg t) (hm : rg m) (h1 : lst D0 t m → P 1 D) (h0 : ¬ lst D0 t m → P 0 D) : Call E (d + 3) 0 0 mX12_has [vR 214, vI t, vI m] G D (retI G P) :=
  c_has hI.1 (hI.ag ha).ri ht hm (fun h => h1 ((lst_ag ha).mp h)) (fun h => h0 (fun q => h ((lst_ag ha).mpr q)))
theorem lst.j (h : lst D0 t m) (hI : Inv G D0) : 0 ≤ 10 * t + m ∧ 10 * t + m < 60 := by
  have s := hI.2.1.1
  have := h.1
  unfold hasW at this
  omega
theorem c_lw (hI : Inv G D0) (ha : ag D0 D) (a0 : 0 ≤ ja) (a1 : ja < 60) (b0 : 0 ≤ jb) (b1 : jb < 60)
    (h : ∀ D', ag D0 D' → (∀ c k, c ≠ 10 → D' c k = D c k) → (∀ p q, 0 ≤ p → p ≤ D0 216 ja → 0 ≤ q → q ≤ D0 216 jb → D' 10 (9 * p + q) = ec (rla D0 ja) (rla D0 jb) (D0 216 ja) (D0 216 jb) p q) → P (ecw D0 ja jb) D') : Call E (d + 2) 0 0 mX7_leastCost [vR 9, vR (22 + 2 * ja), vR (22 + 2 * jb)] G D (retI G P) := by
  have hI' := hI.ag ha
  obtain ⟨⟨u1, u2, u3⟩, ul, -⟩ := hI'.2.2.2.1 ja a0 a1
  obtain ⟨⟨v1, v2, v3⟩, vl, -⟩ := hI'.2.2.2.1 jb b0 b1
  have ea : ∀ k, 0 ≤ k → k < D 216 ja → cla D (22 + 2 * ja) k = rla D ja k := fun k k0 k1 => (ul k k0 k1).1
  have eb : ∀ k, 0 ≤ k → k < D 216 jb → cla D (22 + 2 * jb) k = rla D jb k := fun k k0 k1 => (vl k k0 k1).1
  have cg : ∀ p q, 0 ≤ p → p ≤ D 216 ja → 0 ≤ q → q ≤ D 216 jb → ec (cla D (22 + 2 * ja)) (cla D (22 + 2 * jb)) (D 216 ja) (D 216 jb) p q = ec (rla D ja) (rla D jb) (D 216 ja) (D 216 jb) p q := fun p q p0 p1 q0 q1 => ec_congr (D 216 ja - p + (D 216 jb - q)).toNat p q p0 q0 p1 q1 (by omega) ea eb
  refine c_least hI'.1 (isW.of a0 a1) (isW.of b0 b1) ⟨u1, u2, u3⟩ ⟨v1, v2, v3⟩ (fun k k0 k1 => by have := ul k k0 k1; omega) (fun k k0 k1 => by have := vl k k0 k1; omega) (fun D' h1 h2 => ?_)
  have r216 : ∀ k, D 216 k = D0 216 k := fun k => ha.a (by omega) (by omega)
  rw [cg 0 0 (by omega) (by omega) (by omega) (by omega), rla_ag ha, rla_ag ha, r216, r216]
  refine h D' (ha.trans (fun c k hp => h1 c k (fun e => by unfold pers at hp; omega))) h1 (fun p q p0 p1 q0 q1 => ?_)
  rw [← r216] at p1 q1
  rw [h2 p q p0 p1 q0 q1 (by omega), cg p q p0 p1 q0 q1, rla_ag ha, rla_ag ha, r216, r216]
theorem c_rcost (hI : Inv G D0) (ha : ag D0 D) (eja : 10 * x1 + x2 = ja) (ejb : 10 * x3 + x4 = jb) (a0 : 0 ≤ ja) (a1 : ja < 60) (b0 : 0 ≤ jb) (b1 : jb < 60)
    (h : ∀ D', ag D0 D' → (∀ c k, c ≠ 237 → D' c k = D c k) → (∀ p q, 0 ≤ p → p ≤ D0 216 ja → 0 ≤ q → q ≤ D0 216 jb → D' 237 (9 * p + q) = ec (rla D0 ja) (rla D0 jb) (D0 216 ja) (D0 216 jb) p q) → P (ecw D0 ja jb) D') : Call E (d + 2) 0 0 mX12_costOf [vR 214, vI x1, vI x2, vI x3, vI x4] G D (retI G P) := by
  have hI' := hI.ag ha
  have r216 : ∀ k, D 216 k = D0 216 k := fun k => ha.a (by omega) (by omega)
  refine c_costOf hI.1 eja ejb ⟨a0, a1⟩ ⟨b0, b1⟩ (hI'.w8 a0 a1) (hI'.w8 b0 b1) rfl rfl (fun D' h1 h2 => ?_)
  rw [rla_ag ha, rla_ag ha, r216, r216]
  refine h D' (ha.trans (fun c k hp => h1 c k (fun e => by unfold pers at hp; omega))) h1 (fun p q p0 p1 q0 q1 => ?_)
  rw [← r216] at p1 q1
  rw [h2 p q p0 p1 q0 q1 (by omega), rla_ag ha, rla_ag ha, r216, r216]
theorem c_kin (hI : Inv G D0) (ha : ag D0 D) (a0 : 0 ≤ ja) (a1 : ja < 60) (b0 : 0 ≤ jb) (b1 : jb < 60) (h1 : kinP D0 ja jb → ∀ D', ag D0 D' → P 1 D') (h0 : ¬ kinP D0 ja jb → ∀ D', ag D0 D' → P 0 D') : Call E (d + 3) 0 0 mX11_areKin [vR 2, vR (22 + 2 * ja), vR (22 + 2 * jb)] G D (retI G P) := by
  have hI' := hI.ag ha
  have w1 := (hI'.2.2.2.1 ja a0 a1).1
  have w2 := (hI'.2.2.2.1 jb b0 b1).1
  have r216 : ∀ k, D 216 k = D0 216 k := fun k => ha.a (by omega) (by omega)
  have e := ecw_rg hI a0 a1 b0 b1
  have l8 := hI.2.1.2.2.2.2.2.2.2.1
  refine w_X11_areKin hI.1 (isW.of a0 a1) (isW.of b0 b1) (c_lw hI ha a0 a1 b0 b1 (fun D' h2 _ _ => ?_))
  have l1 : D' 2 13 = D0 214 8 := (h2 2 13 (by unfold pers; omega)).trans l8.1
  rw [l1, w1.1, w2.1]
  have mx : (if iv (D 216 ja) < iv (D 216 jb) then D 216 jb else D 216 ja) = max (D0 216 ja) (D0 216 jb) := by
    rw [← r216, ← r216]
    have := iv_lt (a := D 216 ja) (b := D 216 jb) (by omega) (by omega) (by omega) (by omega)
    simp only [this]
    split <;> omega
  rw [mx]
  have r := mul480 (a := D0 214 8) (b := max (D0 216 ja) (D0 216 jb)) (by omega) (by omega) (by rw [← r216, ← r216]; omega) (by rw [← r216, ← r216]; omega)
  refine br_lt (fun g => rI (h0 (fun q => ?_) D' h2)) (fun g => rI (h1 ?_ D' h2))
  · unfold kinP at q; omega
  · unfold kinP; omega
theorem c_rkin (hI : Inv G D0) (ha : ag D0 D) (eja : 10 * x1 + x2 = ja) (ejb : 10 * x3 + x4 = jb) (a0 : 0 ≤ ja) (a1 : ja < 60) (b0 : 0 ≤ jb) (b1 : jb < 60) (h1 : kinP D0 ja jb → ∀ D', ag D0 D' → P 1 D') (h0 : ¬ kinP D0 ja jb → ∀ D', ag D0 D' → P 0 D') : Call E (d + 3) 0 0 mX12_areKin [vR 214, vI x1, vI x2, vI x3, vI x4] G D (retI G P) := by
  have hI' := hI.ag ha
  have w1 := (hI'.w8 a0 a1).1
  have w2 := (hI'.w8 b0 b1).1
  have r216 : ∀ k, D 216 k = D0 216 k := fun k => ha.a (by omega) (by omega)
  have e := ecw_rg hI a0 a1 b0 b1
  have l8 := hI.2.1.2.2.2.2.2.2.2.1
  refine w_X12_areKin hI.1 ⟨by omega, by omega, c_rcost hI ha eja ejb a0 a1 b0 b1 (fun D' h2 _ _ => ?_)⟩
  have l1 : D' 214 8 = D0 214 8 := h2.s (by omega) (by omega)
  rw [l1, eja, ejb]
  have r1 := mul480 (a := D0 214 8) (b := D 216 ja) (by omega) (by omega) w1.1 w1.2
  have r2 := mul480 (a := D0 214 8) (b := D 216 jb) (by omega) (by omega) w2.1 w2.2
  refine br_le (fun f => br_lt (fun g => rI (h0 (fun q => ?_) D' h2)) (fun g => rI (h1 ?_ D' h2))) (fun f => br_lt (fun g => rI (h0 (fun q => ?_) D' h2)) (fun g => rI (h1 ?_ D' h2)))
  · unfold kinP at q; rw [← r216, ← r216, show max (D 216 ja) (D 216 jb) = D 216 jb by omega] at q; omega
  · unfold kinP; rw [← r216, ← r216, show max (D 216 ja) (D 216 jb) = D 216 jb by omega]; omega
  · unfold kinP at q; rw [← r216, ← r216, show max (D 216 ja) (D 216 jb) = D 216 ja by omega] at q; omega
  · unfold kinP; rw [← r216, ← r216, show max (D 216 ja) (D 216 jb) = D 216 ja by omega]; omega
/-- cost() of the class: over memories alike -/
theorem c_cost (hI : Inv G D0) (ha : ag D0 D) (h1 : rg x1) (h2 : rg x2) (h3 : rg x3) (hy : lst D0 x2 x1 → lst D0 x3 x1 → ∀ D', ag D0 D' → P (ecw D0 (10 * x2 + x1) (10 * x3 + x1)) D') (hn : ¬ (lst D0 x2 x1 ∧ lst D0 x3 x1) → P (-1) D) : Call E (d + 3) 0 0 mX11_cost [vR 2, vI x1, vI x2, vI x3] G D (retI G P) := by
  refine w_X11_cost hI.1 (c_listedA hI ha h2 h1 (fun a => c_listedA hI ha h3 h1 (fun b => ⟨fun q => ?_, fun _ => ⟨fun _ => ?_, fun q => ?_⟩⟩) (fun b => ⟨fun q => ?_, fun _ => ⟨fun q => absurd rfl q, fun _ => rI (hn (fun q => b q.2))⟩⟩)) (fun a => c_listedA hI ha h3 h1 (fun b => ⟨fun _ => rI (hn (fun q => a q.1)), fun q => absurd rfl q⟩) (fun b => ⟨fun _ => rI (hn (fun q => a q.1)), fun q => absurd rfl q⟩)))
  · have := a.j hI; omega
  · obtain ⟨a0, a1⟩ := a.j hI
    obtain ⟨b0, b1⟩ := b.j hI
    exact c_lw hI ha a0 a1 b0 b1 (fun D' h _ _ => rI (hy a b D' h))
  · have := b.j hI; omega
  · have := a.j hI; omega
theorem c_rcostm (hI : Inv G D0) (ha : ag D0 D) (h1 : rg x1) (h2 : rg x2) (h3 : rg x3) (hy : lst D0 x2 x1 → lst D0 x3 x1 → ∀ D', ag D0 D' → P (ecw D0 (10 * x2 + x1) (10 * x3 + x1)) D') (hn : ¬ (lst D0 x2 x1 ∧ lst D0 x3 x1) → P (-1) D) : Call E (d + 4) 0 0 mX12_cost [vR 214, vI x1, vI x2, vI x3] G D (retI G P) :=
  w_X12_cost hI.1 (c_hasA hI ha h2 h1 (fun a => b_t (c_hasA hI ha h3 h1 (fun b => b_t (c_rcost hI ha rfl rfl (a.j hI).1 (a.j hI).2 (b.j hI).1 (b.j hI).2 (fun D' h _ _ => rI (hy a b D' h)))) (fun b => b_f (rI (hn (fun q => b q.2)))))) (fun a => b_f (rI (hn (fun q => a q.1)))))
theorem p_cost (hI : Inv G D0) (h1 : rg x1) (h2 : rg x2) (h3 : rg x3) : Pair E (d + 4) mX11_cost mX12_cost [vI x1, vI x2, vI x3] G D0 :=
  c_cost hI ag.rfl h1 h2 h3 (fun a b D' hd => c_rcostm hI hd h1 h2 h3 (fun _ _ D2 h2 => ⟨rfl, hI.ag h2⟩) (fun q => absurd ⟨a, b⟩ q)) (fun q => c_rcostm hI ag.rfl h1 h2 h3 (fun a b => absurd ⟨a, b⟩ q) (fun _ => ⟨rfl, hI⟩))
theorem p_kin (hI : Inv G D0) (h1 : rg x1) (h2 : rg x2) (h3 : rg x3) : Pair E (d + 4) mX11_kin mX12_kin [vI x1, vI x2, vI x3] G D0 := by
  have h2' := h2
  have h3' := h3
  unfold rg at h2' h3'
  have no : ¬ (lst D0 x2 x1 ∧ lst D0 x3 x1) → Call E (d + 4) 0 0 mX12_kin [vR 214, vI x1, vI x2, vI x3] G D0 (retI G (fun y D2 => iv (-1) = iv y ∧ Inv G D2)) := fun q =>
    w_X12_kin hI.1 (c_hasA hI ag.rfl h2 h1 (fun a => b_t (c_hasA hI ag.rfl h3 h1 (fun b => absurd ⟨a, b⟩ q) (fun _ => n_f (rI ⟨rfl, hI⟩)))) (fun _ => b_f (rI ⟨rfl, hI⟩)))
  refine w_X11_kin hI.1 (c_listedA hI ag.rfl h2 h1 (fun a => c_listedA hI ag.rfl h3 h1 (fun b => ⟨fun q => ?_, fun _ => ⟨fun _ => br_ne (fun g => ?_) (fun g => rI ?_), fun q => ?_⟩⟩) (fun b => ⟨fun q => ?_, fun _ => ⟨fun q => absurd rfl q, fun _ => rI (no (fun q => b q.2))⟩⟩)) (fun a => c_listedA hI ag.rfl h3 h1 (fun b => ⟨fun _ => rI (no (fun q => a q.1)), fun q => absurd rfl q⟩) (fun b => ⟨fun _ => rI (no (fun q => a q.1)), fun q => absurd rfl q⟩)))
  · have := a.j hI; omega
  · obtain ⟨a0, a1⟩ := a.j hI
    obtain ⟨b0, b1⟩ := b.j hI
    refine c_kin hI ag.rfl a0 a1 b0 b1 (fun k D' hd => c_oneIf hI.1 (Or.inr rfl) (rI ?_)) (fun k D' hd => c_oneIf hI.1 (Or.inl rfl) (rI ?_))
    · exact w_X12_kin hI.1 (c_hasA hI hd h2 h1 (fun _ => b_t (c_hasA hI hd h3 h1 (fun _ => n_t (br_ne (fun _ => c_rkin hI hd rfl rfl a0 a1 b0 b1 (fun _ D2 h2 => b_t (rI ⟨rfl, hI.ag h2⟩)) (fun q => absurd k q)) (fun q => absurd q g))) (fun q => absurd b q))) (fun q => absurd a q))
    · exact w_X12_kin hI.1 (c_hasA hI hd h2 h1 (fun _ => b_t (c_hasA hI hd h3 h1 (fun _ => n_t (br_ne (fun _ => c_rkin hI hd rfl rfl a0 a1 b0 b1 (fun q => absurd q k) (fun _ D2 h2 => b_f (rI ⟨rfl, hI.ag h2⟩))) (fun q => absurd q g))) (fun q => absurd b q))) (fun q => absurd a q))
  · exact w_X12_kin hI.1 (c_hasA hI ag.rfl h2 h1 (fun _ => b_t (c_hasA hI ag.rfl h3 h1 (fun _ => n_t (br_ne (fun q => absurd g q) (fun _ => rI ⟨rfl, hI⟩))) (fun q => absurd b q))) (fun q => absurd a q))
  · have := b.j hI; omega
  · have := a.j hI; omega
end KinA
