section Far
variable {E : mmE} {d : Nat} {G : mmG} {D0 D : mmD} {x1 x2 x3 x4 x5 ja jb : Int}
/-- a mask holds just the first n of a property -/
def bm (x : Int) (n : Int) (f : Int → Prop) : Prop := ∀ k : Int, 0 ≤ k → (bt x k ↔ k < n ∧ f k)
theorem bm_step {x m : Int} {f : Int → Prop} {n : Nat} (hn : n ≤ 30) (m0 : 0 ≤ m) (m1 : m < n) (x0 : 0 ≤ x) (x1 : x < ((2 ^ n : Nat) : Int)) (h : bm x m f) (hf : f m) : bm (ior x (ishl 1 m)) (m + 1) f ∧ 0 ≤ ior x (ishl 1 m) ∧ ior x (ishl 1 m) < ((2 ^ n : Nat) : Int) := by
  have s := sh_rg m0 m1 (by omega)
  have p : 2 ^ n ≤ 2 ^ 30 := Nat.pow_le_pow_right (by omega) hn
  have p' : ((2 ^ n : Nat) : Int) ≤ 1073741824 := Int.ofNat_le.mpr p
  refine ⟨fun k k0 => ?_, or_rg n (by omega) x0 x1 s.1 s.2⟩
  rw [bt_or x0 (by omega) s.1 (by omega), h k k0, bt_1 m0 (by omega) k0]
  constructor
  · rintro (⟨a, b⟩ | rfl)
    · exact ⟨by omega, b⟩
    · exact ⟨by omega, hf⟩
  · rintro ⟨a, b⟩
    by_cases hk : m = k
    · exact Or.inr hk
    · exact Or.inl ⟨by omega, b⟩
theorem bm_skip {x m : Int} {f : Int → Prop} (h : bm x m f) (hf : ¬ f m) : bm x (m + 1) f := fun k k0 => by
  rw [h k k0]
  constructor
  · rintro ⟨a, b⟩; exact ⟨by omega, b⟩
  · rintro ⟨a, b⟩
    by_cases hk : m = k
    · exact absurd (hk ▸ b) hf
    · exact ⟨by omega, b⟩
theorem bm_0 {f : Int → Prop} : bm 0 0 f := fun k k0 => ⟨fun h => absurd h bt_0, fun h => by omega⟩
def l2 (D : mmD) (a b : Int) : Int → Prop := fun m => lst D a m ∧ lst D b m
theorem c_mob {P : Int → mmD → Prop} (hI : Inv G D0) (ha : ag D0 D) (h1 : rg x1) (h2 : rg x2) (h : ∀ x, 0 ≤ x → x < 1024 → bm x 10 (l2 D0 x1 x2) → P x D) : Call E (d + 3) 0 0 mX11_meaningsOfBoth [vR 2, vI x1, vI x2] G D (retI G P) := by
  have hG := hI.1
  have lp : ∀ (n : Nat) (m x : Int), 10 - m = n → 0 ≤ m → m ≤ 10 → 0 ≤ x → x < 1024 → bm x m (l2 D0 x1 x2) → Go E (d + 3) 0 0 mX11_meaningsOfBoth 5 [some (vR 2), some (vI x1), some (vI x2), some (vI x), some (vI m)] [] G D (retI G P) := by
    intro n
    induction n with
    | zero =>
      intro m x mn m0 m1 q0 q1 hb
      have e : m = 10 := by omega
      subst e
      exact w_X11_meaningsOfBoth_5 hG (br_le (fun _ => rI (h x q0 q1 hb)) (fun g => by omega))
    | succ n ih =>
      intro m x mn m0 m1 q0 q1 hb
      refine w_X11_meaningsOfBoth_5 hG (br_le (fun g => by omega) (fun _ => c_listedA hI ha h1 (by unfold rg; omega) (fun a => ⟨fun q => ?_, fun _ => c_listedA hI ha h2 (by unfold rg; omega) (fun b => ⟨fun q => ?_, fun _ => ?_⟩) (fun b => ⟨fun _ => ?_, fun q => absurd rfl q⟩)⟩) (fun a => ⟨fun _ => ?_, fun q => absurd rfl q⟩)))
      · have := a.j hI; omega
      · have := b.j hI; omega
      · obtain ⟨r1, r2, r3⟩ := bm_step (n := 10) (by omega) m0 (by omega) q0 (by rw [pw10]; exact q1) hb ⟨a, b⟩
        rw [pw10] at r3
        exact ih (m + 1) _ (by omega) (by omega) (by omega) r2 r3 r1
      · exact ih (m + 1) x (by omega) (by omega) (by omega) q0 q1 (bm_skip hb (fun q => b q.2))
      · exact ih (m + 1) x (by omega) (by omega) (by omega) q0 q1 (bm_skip hb (fun q => a q.1))
  exact w_X11_meaningsOfBoth hG (lp 10 0 0 (by omega) (by omega) (by omega) (by omega) (by omega) bm_0)
noncomputable def smf (D : mmD) (a b : Int) (p : Int → Prop) : Int → Int := fun m => cif (p m) (ecw D (10 * a + m) (10 * b + m)) 0
noncomputable def ctf (p : Int → Prop) : Int → Int := fun m => cif (p m) 1 0
theorem pcn_bm {x : Int} {p : Int → Prop} {n : Nat} (h : bm x n p) : pcn x n = fsum (ctf p) n := by
  refine fsum_congr n (fun k k0 k1 => ?_)
  unfold ctf
  by_cases g : p k
  · rw [cif_t g, cif_t ((h k k0).mpr ⟨k1, g⟩)]
  · rw [cif_f g, cif_f (fun q => g ((h k k0).mp q).2)]
theorem c_ct {P : Int → mmD → Prop} {p : Int → Prop} (hI : Inv G D0) (ha : ag D0 D) (h1 : rg x1) (h2 : rg x2) (q0 : 0 ≤ x3) (q1 : x3 < 1024) (hb : bm x3 10 p) (hp : ∀ m, p m → lst D0 x1 m ∧ lst D0 x2 m) (h : ∀ D', ag D0 D' → P (fsum (smf D0 x1 x2 p) 10) D') : Call E (d + 4) 0 0 mX11_costsTogether [vR 2, vI x1, vI x2, vI x3] G D (retI G P) := by
  have hG := hI.1
  have lp : ∀ (n : Nat) (D : mmD) (m : Int), ag D0 D → 10 - m = n → 0 ≤ m → m ≤ 10 → Go E (d + 4) 0 0 mX11_costsTogether 6 [some (vR 2), some (vI x1), some (vI x2), some (vI x3), some (vI (fsum (smf D0 x1 x2 p) m.toNat)), some (vI m)] [] G D (retI G P) := by
    intro n
    induction n with
    | zero =>
      intro D m hd mn m0 m1
      have e : m = 10 := by omega
      subst e
      exact w_X11_costsTogether_6 hG (br_le (fun _ => rI (h D hd)) (fun g => by omega))
    | succ n ih =>
      intro D m hd mn m0 m1
      have nx : ∀ D', ag D0 D' → _ := fun D' hd' => ih D' (m + 1) hd' (by omega) (by omega) (by omega)
      rw [fsum_s m0] at nx
      unfold smf at nx
      refine w_X11_costsTogether_6 hG (br_le (fun g => by omega) (fun _ => ?_))
      by_cases g : p m
      · rw [tb_1 q0 (by omega) m0 (by omega) ((hb m m0).mpr ⟨by omega, g⟩)]
        refine b_t (c_cost hI hd (by unfold rg; omega) h1 h2 (fun _ _ D' hd' => ?_) (fun q => absurd (hp m g) q))
        have n2 := nx D' hd'
        rw [cif_t g] at n2
        exact n2
      · rw [tb_0 q0 (by omega) m0 (by omega) (fun q => g ((hb m m0).mp q).2)]
        refine b_f ?_
        have n2 := nx D hd
        rw [cif_f g, Int.add_zero] at n2
        exact n2
  exact w_X11_costsTogether hG (lp 10 D 0 ha (by omega) (by omega) (by omega))
theorem c_sums {P : mmD → Prop} {p : Int → Prop} (hI : Inv G D0) (ha : ag D0 D) (h1 : rg x1) (h2 : rg x2) (h3 : rg x3) (hp : ∀ m, 0 ≤ m → m < 10 → (p m ↔ m ≠ x3 ∧ lst D0 x1 m ∧ lst D0 x2 m)) (h : ∀ D', ag D0 D' → D' 214 39 = fsum (smf D0 x1 x2 p) 10 → D' 214 40 = fsum (ctf p) 10 → P D') : Call E (d + 4) 0 0 mX12_sums [vR 214, vI x1, vI x2, vI x3] G D (retV G P) := by
  have hG := hI.1
  have h3' := h3
  unfold rg at h3'
  have lp : ∀ (n : Nat) (D : mmD) (m : Int), ag D0 D → 10 - m = n → 0 ≤ m → m ≤ 10 → D 214 39 = fsum (smf D0 x1 x2 p) m.toNat → D 214 40 = fsum (ctf p) m.toNat → Go E (d + 4) 0 0 mX12_sums 13 [some (vR 214), some (vI x1), some (vI x2), some (vI x3), some (vI m)] [] G D (retV G P) := by
    intro n
    induction n with
    | zero =>
      intro D m hd mn m0 m1 e1 e2
      have e : m = 10 := by omega
      subst e
      exact w_X12_sums_13 hG (br_le (fun _ => rV (h D hd e1 e2)) (fun g => by omega))
    | succ n ih =>
      intro D m hd mn m0 m1 e1 e2
      have hpm := hp m m0 (by omega)
      have skip : ¬ p m → ∀ D', ag D0 D' → D' 214 39 = D 214 39 → D' 214 40 = D 214 40 → Go E (d + 4) 0 0 mX12_sums 13 [some (vR 214), some (vI x1), some (vI x2), some (vI x3), some (vI (m + 1))] [] G D' (retV G P) := fun hn D' hd' f1 f2 => by
        refine ih D' (m + 1) hd' (by omega) (by omega) (by omega) ?_ ?_
        · rw [f1, e1, fsum_s m0]; unfold smf; rw [cif_f hn, Int.add_zero]
        · rw [f2, e2, fsum_s m0]; unfold ctf; rw [cif_f hn, Int.add_zero]
      refine w_X12_sums_13 hG (br_le (fun g => by omega) (fun _ => br_eq (fun g => skip (fun q => (hpm.mp q).1 g) D hd rfl rfl) (fun g => c_hasA hI hd h1 (by unfold rg; omega) (fun a => b_t (c_hasA hI hd h2 (by unfold rg; omega) (fun b => b_t (c_rcost hI hd rfl rfl (a.j hI).1 (a.j hI).2 (b.j hI).1 (b.j hI).2 (fun D5 hd5 k5 _ D7 e7 D8 e8 => ?_))) (fun b => b_f (skip (fun q => b (hpm.mp q).2.2) D hd rfl rfl)))) (fun a => b_f (skip (fun q => a (hpm.mp q).2.1) D hd rfl rfl)))))
      have g' : p m := hpm.mpr ⟨g, a, b⟩
      have f40 : D7 214 40 = D 214 40 := by rw [e7, up2_ne (by omega), k5 _ _ (by omega)]
      have k8 : ∀ c k, ¬ (c = 214 ∧ (k = 39 ∨ k = 40)) → D8 c k = D5 c k := fun c k q => by rw [e8, up2_ne (by omega), e7, up2_ne (by omega)]
      refine ih D8 (m + 1) (hd5.trans (fun c k pp => k8 c k (fun q => by unfold pers at pp; omega))) (by omega) (by omega) (by omega) ?_ ?_
      · rw [e8, up2_ne (by omega), e7, up2_same, e1, fsum_s m0]; unfold smf; rw [cif_t g']
      · rw [e8, up2_same, f40, e2, fsum_s m0]; unfold ctf; rw [cif_t g']
  refine w_X12_sums hG (fun D1 e1 D2 e2 => ?_)
  have k2 : ∀ c k, ¬ (c = 214 ∧ (k = 39 ∨ k = 40)) → D2 c k = D c k := fun c k q => by rw [e2, up2_ne (by omega), e1, up2_ne (by omega)]
  refine lp 10 D2 0 (ha.trans (fun c k pp => k2 c k (fun q => by unfold pers at pp; omega))) (by omega) (by omega) (by omega) ?_ ?_
  · rw [e2, up2_ne (by omega), e1, up2_same]; rfl
  · rw [e2, up2_same]; rfl
theorem p_far (hI : Inv G D0) (h1 : rg x1) (h2 : rg x2) (h3 : rg x3) : Pair E (d + 5) mX11_far mX12_far [vI x1, vI x2, vI x3] G D0 := by
  have hG := hI.1
  have h1' := h1
  have h2' := h2
  have h3' := h3
  unfold rg at h1' h2' h3'
  have no : ∀ v : Int, (0 ≤ x1 → x1 < D0 214 1 → 0 ≤ x2 → x2 < D0 214 1 → 0 ≤ x3 → x3 ≤ 1 → v = -2 ∧ x1 = x2) → ((x1 < 0 ∨ D0 214 1 ≤ x1 ∨ x2 < 0 ∨ D0 214 1 ≤ x2 ∨ x3 < 0 ∨ 1 < x3) → v = -1) → Call E (d + 5) 0 0 mX12_far [vR 214, vI x1, vI x2, vI x3] G D0 (retI G (fun y D2 => iv v = iv y ∧ Inv G D2)) := fun v v1 v2 =>
    w_X12_far hG (c_rTongue hG hI.ri h1 (fun a b => b_t (c_rTongue hG hI.ri h2 (fun a' b' => b_t (c_in hG h3 (by unfold rg; omega) (by unfold rg; omega) (fun p q => n_t (br_ne (fun g => absurd (v1 a b a' b' p q).2 g) (fun g => rI ⟨by rw [(v1 a b a' b' p q).1], hI⟩))) (fun g => n_f (rI ⟨by rw [v2 (by omega)], hI⟩)))) (fun g => b_f (rI ⟨by rw [v2 (by omega)], hI⟩)))) (fun g => b_f (rI ⟨by rw [v2 (by omega)], hI⟩)))
  have yes : 0 ≤ x1 → x1 < D0 214 1 → 0 ≤ x2 → x2 < D0 214 1 → 0 ≤ x3 → x3 ≤ 1 → x1 ≠ x2 → ∀ (v : Int) (D : mmD), ag D0 D → (x3 = 0 → v = fsum (smf D0 x1 x2 (l2 D0 x1 x2)) 10) → (x3 ≠ 0 → v = fsum (ctf (l2 D0 x1 x2)) 10) → Call E (d + 5) 0 0 mX12_far [vR 214, vI x1, vI x2, vI x3] G D (retI G (fun y D2 => iv v = iv y ∧ Inv G D2)) := fun a b a' b' p q ne v D hd v1 v2 => by
    have st := hd.s (k := 1) (by omega) (by omega)
    exact w_X12_far hG (c_rTongue hG (hI.ag hd).ri h1 (fun _ _ => b_t (c_rTongue hG (hI.ag hd).ri h2 (fun _ _ => b_t (c_in hG h3 (by unfold rg; omega) (by unfold rg; omega) (fun _ _ => n_t (br_ne (fun _ => c_sums (p := l2 D0 x1 x2) hI hd h1 h2 (by unfold rg; omega) (fun m m0 m1 => ⟨fun g => ⟨by omega, g⟩, fun g => g.2⟩) (fun D' hd' f1 f2 => br_ne (fun g => rI ⟨by rw [v2 g, f2], hI.ag hd'⟩) (fun g => rI ⟨by rw [v1 g, f1], hI.ag hd'⟩))) (fun g => absurd g ne))) (fun g => by omega))) (fun g => by omega))) (fun g => by omega))
  refine w_X11_far hG (c_isTongue hI h1 (fun a b => b_t (c_isTongue hI h2 (fun a' b' => b_t (br_lt (fun p => rI (no _ (by omega) (fun _ => rfl))) (fun p => br_le (fun q => br_ne (fun ne => c_mob hI ag.rfl h1 h2 (fun x q0 q1 hb => ?_)) (fun e => rI (no _ (fun _ _ _ _ _ _ => ⟨rfl, e⟩) (by omega)))) (fun q => rI (no _ (by omega) (fun _ => rfl)))))) (fun g => b_f (rI (no _ (by omega) (fun _ => rfl)))))) (fun g => b_f (rI (no _ (by omega) (fun _ => rfl)))))
  refine br_ne (fun g => c_bitCount12 hG q0 (by omega) (rI (yes a b a' b' p q ne _ _ ag.rfl (fun g' => absurd g' g) (fun _ => ?_)))) (fun g => c_ct (p := l2 D0 x1 x2) hI ag.rfl h1 h2 q0 q1 hb (fun _ q => q) (fun D' hd' => rI (yes a b a' b' p q ne _ _ hd' (fun _ => rfl) (fun g' => absurd g g'))))
  rw [← pcn_bm (n := 10) hb]
  exact pcn_hi (m := 10) q0 (by rw [pw10]; exact q1) 2
theorem smf_rg (hI : Inv G D0) {p : Int → Prop} (hp : ∀ m, p m → lst D0 x1 m ∧ lst D0 x2 m) : ∀ n : Nat, 0 ≤ fsum (smf D0 x1 x2 p) n ∧ fsum (smf D0 x1 x2 p) n ≤ 32 * n
  | 0 => by simp [fsum]
  | n + 1 => by
    simp only [fsum]
    have i := smf_rg hI hp n
    have : 0 ≤ smf D0 x1 x2 p n ∧ smf D0 x1 x2 p n ≤ 32 := by
      unfold smf
      by_cases g : p n
      · rw [cif_t g]
        obtain ⟨a, b⟩ := hp _ g
        exact ecw_rg hI (a.j hI).1 (a.j hI).2 (b.j hI).1 (b.j hI).2
      · rw [cif_f g]; omega
    omega
theorem ctf_rg {p : Int → Prop} (n : Nat) : 0 ≤ fsum (ctf p) n ∧ fsum (ctf p) n ≤ n := fsum_rg n (fun k _ _ => by
  unfold ctf
  by_cases h : p k
  · rw [cif_t h]; omega
  · rw [cif_f h]; omega)
theorem p_borrowed (hI : Inv G D0) (h1 : rg x1) (h2 : rg x2) (h3 : rg x3) : Pair E (d + 5) mX11_borrowed mX12_borrowed [vI x1, vI x2, vI x3] G D0 := by
  have hG := hI.1
  have h1' := h1
  have h2' := h2
  have h3' := h3
  unfold rg at h1' h2' h3'
  by_cases hl : lst D0 x2 x1 ∧ lst D0 x3 x1
  · obtain ⟨a, b⟩ := hl
    obtain ⟨a0, a1⟩ := a.j hI
    obtain ⟨b0, b1⟩ := b.j hI
    have m0 : 0 ≤ x1 ∧ x1 < 10 := by have := a.1; unfold hasW at this; omega
    by_cases ne : x2 = x3
    · have no : Call E (d + 5) 0 0 mX12_borrowed [vR 214, vI x1, vI x2, vI x3] G D0 (retI G (fun y D2 => iv (-2) = iv y ∧ Inv G D2)) :=
        w_X12_borrowed hG (c_hasA hI ag.rfl h2 h1 (fun _ => b_t (c_hasA hI ag.rfl h3 h1 (fun _ => n_t (br_ne (fun g => absurd ne g) (fun _ => rI ⟨rfl, hI⟩))) (fun q => absurd b q))) (fun q => absurd a q))
      exact w_X11_borrowed hG (c_listedA hI ag.rfl h2 h1 (fun _ => c_listedA hI ag.rfl h3 h1 (fun _ => ⟨fun q => by omega, fun _ => ⟨fun _ => br_ne (fun g => absurd ne g) (fun _ => rI no), fun q => by omega⟩⟩) (fun q => absurd b q)) (fun q => absurd a q))
    · have pp : ∀ m, (m ≠ x1 ∧ l2 D0 x2 x3 m) → lst D0 x2 m ∧ lst D0 x3 m := fun m q => q.2
      have r1 := smf_rg (x1 := x2) (x2 := x3) hI (p := fun m => m ≠ x1 ∧ l2 D0 x2 x3 m) pp 10
      have r2 := ctf_rg (p := fun m => m ≠ x1 ∧ l2 D0 x2 x3 m) 10
      have r3 := ecw_rg hI a0 a1 b0 b1
      have yes : ∀ (v : Int) (D : mmD), ag D0 D → (ecw D0 (10 * x2 + x1) (10 * x3 + x1) = 0 ∧ 2 ≤ fsum (ctf (fun m => m ≠ x1 ∧ l2 D0 x2 x3 m)) 10 ∧ 2 * fsum (ctf (fun m => m ≠ x1 ∧ l2 D0 x2 x3 m)) 10 < fsum (smf D0 x2 x3 (fun m => m ≠ x1 ∧ l2 D0 x2 x3 m)) 10 → v = 1) → (¬ (ecw D0 (10 * x2 + x1) (10 * x3 + x1) = 0 ∧ 2 ≤ fsum (ctf (fun m => m ≠ x1 ∧ l2 D0 x2 x3 m)) 10 ∧ 2 * fsum (ctf (fun m => m ≠ x1 ∧ l2 D0 x2 x3 m)) 10 < fsum (smf D0 x2 x3 (fun m => m ≠ x1 ∧ l2 D0 x2 x3 m)) 10) → v = 0) → Call E (d + 5) 0 0 mX12_borrowed [vR 214, vI x1, vI x2, vI x3] G D (retI G (fun y D2 => iv v = iv y ∧ Inv G D2)) := fun v D hd v1 v0 => by
        refine w_X12_borrowed hG (c_hasA hI hd h2 h1 (fun _ => b_t (c_hasA hI hd h3 h1 (fun _ => n_t (br_ne (fun _ => c_sums (p := fun m => m ≠ x1 ∧ l2 D0 x2 x3 m) hI hd h2 h3 h1 (fun m _ _ => Iff.rfl) (fun D' hd' f1 f2 => c_rcost hI hd' rfl rfl a0 a1 b0 b1 (fun D2 hd2 k2 _ => ?_))) (fun q => absurd q ne))) (fun q => absurd b q))) (fun q => absurd a q))
        rw [k2 214 39 (by omega), k2 214 40 (by omega), f1, f2]
        exact br_ne (fun e => rI ⟨by rw [v0 (by omega)], hI.ag hd2⟩) (fun e => br_lt (fun e' => rI ⟨by rw [v0 (by omega)], hI.ag hd2⟩) (fun e' => br_le (fun e2 => rI ⟨by rw [v0 (by omega)], hI.ag hd2⟩) (fun e2 => rI ⟨by rw [v1 (by omega)], hI.ag hd2⟩)))
      refine w_X11_borrowed hG (c_listedA hI ag.rfl h2 h1 (fun _ => c_listedA hI ag.rfl h3 h1 (fun _ => ⟨fun q => by omega, fun _ => ⟨fun _ => br_ne (fun _ => c_lw hI ag.rfl a0 a1 b0 b1 (fun D1 hd1 _ _ => br_eq (fun e => c_mob hI hd1 h2 h3 (fun x q0 q1 hb => ?_)) (fun e => rI (yes _ _ hd1 (fun q => absurd q.1 e) (fun _ => rfl))))) (fun g => absurd g ne), fun q => by omega⟩⟩) (fun q => absurd b q)) (fun q => absurd a q))
      have s1 := sh_rg (j := x1) (n := 10) m0.1 m0.2 (by omega)
      rw [pw10] at s1
      have s2 := andn_rg (x := x) (y := ishl 1 x1) q0 (by omega) s1.1 (by omega)
      have hb2 : bm (iand x (ixor (ishl 1 x1) (-1))) 10 (fun m => m ≠ x1 ∧ l2 D0 x2 x3 m) := fun k k0 => by
        rw [bt_andn q0 (by omega) s1.1 (by omega), hb k k0, bt_1 m0.1 (by omega) k0]
        constructor
        · rintro ⟨⟨p1, p2⟩, p3⟩; exact ⟨p1, fun q => p3 q.symm, p2⟩
        · rintro ⟨p1, p2, p3⟩; exact ⟨⟨p1, p3⟩, fun q => p2 q.symm⟩
      have pe : pcn (iand x (ixor (ishl 1 x1) (-1))) 12 = fsum (ctf (fun m => m ≠ x1 ∧ l2 D0 x2 x3 m)) 10 := by
        rw [← pcn_bm (n := 10) hb2]
        exact pcn_hi (m := 10) s2.1 (by rw [pw10]; omega) 2
      refine c_bitCount12 hG s2.1 (by omega) ?_
      rw [pe]
      refine br_lt (fun g => c_oneIf hG (Or.inl rfl) (rI (yes _ _ hd1 (by omega) (fun _ => rfl)))) (fun g => c_ct (p := fun m => m ≠ x1 ∧ l2 D0 x2 x3 m) hI hd1 h2 h3 s2.1 (by omega) hb2 pp (fun D2 hd2 => ?_))
      exact br_le (fun g2 => c_oneIf hG (Or.inl rfl) (rI (yes _ _ hd2 (by omega) (fun _ => rfl)))) (fun g2 => c_oneIf hG (Or.inr rfl) (rI (yes _ _ hd2 (fun _ => rfl) (by omega))))
  · have no : Call E (d + 5) 0 0 mX12_borrowed [vR 214, vI x1, vI x2, vI x3] G D0 (retI G (fun y D2 => iv (-1) = iv y ∧ Inv G D2)) :=
      w_X12_borrowed hG (c_hasA hI ag.rfl h2 h1 (fun a => b_t (c_hasA hI ag.rfl h3 h1 (fun b => absurd ⟨a, b⟩ hl) (fun _ => n_f (rI ⟨rfl, hI⟩)))) (fun _ => b_f (rI ⟨rfl, hI⟩)))
    refine w_X11_borrowed hG (c_listedA hI ag.rfl h2 h1 (fun a => c_listedA hI ag.rfl h3 h1 (fun b => absurd ⟨a, b⟩ hl) (fun b => ⟨fun _ => rI no, fun _ => ⟨fun q => absurd rfl q, fun _ => rI no⟩⟩)) (fun a => c_listedA hI ag.rfl h3 h1 (fun b => ⟨fun _ => rI no, fun q => absurd rfl q⟩) (fun b => ⟨fun _ => rI no, fun q => absurd rfl q⟩)))
end Far
