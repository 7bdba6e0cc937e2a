section Best1
variable {E : mmE} {d : Nat} {G : mmG} {D0 D : mmD} {P : Int → mmD → Prop} {P0 : mmD → Prop} {T : Nat → Int} {N : Nat} {p : List Nat} {r a b x : Int}
/-- a row of LAWS in an array -/
def rwk (D : mmD) (r : Int) (T : Nat → Int) (N : Nat) (p : List Nat) : Prop := ∀ q : Nat, q < N → D r (q : Int) = T (p.getD q 0)
/-- the numbers of the LAWS, in order -/
def tmo (T : Nat → Int) (N : Nat) : Prop := (∀ q : Nat, q < N → 0 ≤ T q ∧ T q < 12) ∧ ∀ i j : Nat, i < j → j < N → T i < T j
theorem tmo.le (h : tmo T N) {i j : Nat} (hi : i < N) (hj : j < N) : T i ≤ T j ↔ i ≤ j := by
  constructor
  · intro g
    by_cases e : i ≤ j
    · exact e
    · have := h.2 j i (by omega) hi; omega
  · intro g
    by_cases e : i = j
    · subst e; omega
    · have := h.2 i j (by omega) hj; omega
theorem c_swap {i j : Nat} (hG : Sh G) (ha : isA4 G r) (hN : N ≤ 4) (hl : p.length = N) (hp : rwk D r T N p) (hi : i < N) (hj : j < N) (h : ∀ D', (∀ c k, c ≠ r → D' c k = D c k) → rwk D' r T N (swp p i j) → P0 D') : Call E d 0 0 mX11_swap [vR r, vI (i : Int), vI (j : Int)] G D (retV G P0) := by
  refine w_X11_swap hG ha ⟨⟨by omega, by omega⟩, ⟨by omega, by omega⟩, ⟨by omega, by omega⟩, fun D1 e1 => ⟨⟨by omega, by omega⟩, fun D2 e2 => rV (h D2 (fun c k q => ?_) (fun q hq => ?_))⟩⟩
  · rw [e2, up2_ne (fun t => q t.1), e1, up2_ne (fun t => q t.1)]
  · rw [swp_get (by omega) (by omega)]
    by_cases h1 : q = j
    · subst h1
      rw [if_pos rfl, e2, up2_same]
      exact hp i hi
    · rw [if_neg h1, e2, up2_ne (by omega), e1]
      by_cases h2 : q = i
      · subst h2
        rw [if_pos rfl, up2_same]
        exact hp j hj
      · rw [if_neg h2, up2_ne (by omega)]
        exact hp q hq
theorem c_next (hG : Sh G) (ha : isA4 G r) (hT : tmo T N) (hN : N ≤ 4) (n1 : 1 ≤ N) (ok : okp N p = true) (hp : rwk D r T N p) (h1 : ∀ p' D', nxt N p = some p' → (∀ c k, c ≠ r → D' c k = D c k) → rwk D' r T N p' → P 1 D') (h0 : nxt N p = none → P 0 D) : Call E (d + 1) 0 0 mX11_toNextOrder [vR r, vI (N : Int)] G D (retI G P) := by
  have hl := okp_len ok
  have vr : ∀ q : Nat, q < N → 0 ≤ T (p.getD q 0) ∧ T (p.getD q 0) < 12 := fun q hq => hT.1 _ (okp_lt ok hq)
  -- turning the rest round
  have rev : ∀ (p' : List Nat), nxt N p = some p' → ∀ (f lo hi : Nat) (p1 : List Nat) (D' : mmD), (∀ c k, c ≠ r → D' c k = D c k) → p1.length = N → rwk D' r T N p1 → hi < N → lo ≤ N → hi < lo + 2 * f → revF f p1 lo hi = p' → Go E (d + 1) 0 0 mX11_toNextOrder 71 [some (vR r), none, none, none, some (vI (lo : Int)), some (vI (hi : Int))] [] G D' (retI G P) := by
    intro p' hp' f
    induction f with
    | zero =>
      intro lo hi p1 D' fr l1 w1 hh hlo hf e
      refine w_X11_toNextOrder_71 hG ha (br_le (fun _ => rI (h1 p' D' hp' fr ?_)) (fun g => by omega))
      simp only [revF] at e
      rw [← e]; exact w1
    | succ f ih =>
      intro lo hi p1 D' fr l1 w1 hh hlo hf e
      simp only [revF] at e
      by_cases g : hi ≤ lo
      · rw [if_pos g] at e
        exact w_X11_toNextOrder_71 hG ha (br_le (fun _ => rI (h1 p' D' hp' fr (by rw [← e]; exact w1))) (fun g => by omega))
      · rw [if_neg g] at e
        refine w_X11_toNextOrder_71 hG ha (br_le (fun g => by omega) (fun _ => c_swap hG ha hN l1 w1 (by omega) hh (fun D2 k2 w2 => ?_)))
        have nx := ih (lo + 1) (hi - 1) _ D2 (fun c k q => by rw [k2 c k q]; exact fr c k q) (by rw [swp_len]; exact l1) w2 (by omega) (by omega) (by omega) e
        rw [show ((lo + 1 : Nat) : Int) = (lo : Int) + 1 by omega, show ((hi - 1 : Nat) : Int) = (hi : Int) + -1 by omega] at nx
        exact nx
  have abv : ∀ (i : Nat), i < N → riseF p (N - 1) = some i → ∀ k : Nat, k < N → aboveF p i k = aboveF p i (N - 1) → Go E (d + 1) 0 0 mX11_toNextOrder 35 [some (vR r), some (vI (N : Int)), some (vI (i : Int)), some (vI (k : Int)), none, none] [] G D (retI G P) := by
    intro i hi hr k
    have fin : ∀ k : Nat, k < N → k = aboveF p i (N - 1) → Call E d 0 0 mX11_swap [vR r, vI (i : Int), vI (k : Int)] G D (retV G (fun D1 => Go E (d + 1) 0 0 mX11_toNextOrder 71 [some (vR r), none, none, none, some (vI ((i : Int) + 1)), some (vI ((N : Int) - 1))] [] G D1 (retI G P))) := fun k hk ek => by
      refine c_swap hG ha hN hl hp hi hk (fun D2 k2 w2 => ?_)
      have hn : nxt N p = some (revF 4 (swp p i k) (i + 1) (N - 1)) := by unfold nxt; rw [hr, ek]
      have nx := rev _ hn 4 (i + 1) (N - 1) _ D2 k2 (by rw [swp_len]; exact hl) w2 (by omega) (by omega) (by omega) rfl
      rw [show ((i + 1 : Nat) : Int) = (i : Int) + 1 by omega, show ((N - 1 : Nat) : Int) = (N : Int) - 1 by omega] at nx
      exact nx
    induction k with
    | zero =>
      intro hk e
      exact w_X11_toNextOrder_35 hG ha (br_le (fun _ => fin 0 hk (by simp only [aboveF] at e; exact e)) (fun g => by omega))
    | succ k ih =>
      intro hk e
      simp only [aboveF] at e
      by_cases g : k + 1 ≤ i
      · rw [if_pos g] at e
        exact w_X11_toNextOrder_35 hG ha (br_le (fun _ => fin (k + 1) hk e) (fun g => by omega))
      · rw [if_neg g] at e
        refine w_X11_toNextOrder_35 hG ha (br_le (fun g => by omega) (fun _ => ⟨⟨by omega, by omega⟩, ⟨by omega, by omega⟩, ?_⟩))
        have v1 := vr i hi
        have v2 := vr (k + 1) hk
        have c := hT.le (okp_lt ok hi) (okp_lt ok hk)
        rw [hp i hi, hp (k + 1) hk]
        refine br_le (fun g2 => fin (k + 1) hk ?_) (fun g2 => ?_)
        · rw [if_pos (c.mp g2)] at e; exact e
        · rw [if_neg (fun q => by have := c.mpr q; omega)] at e
          have nx := ih (by omega) e
          rw [show ((k + 1 : Nat) : Int) + -1 = (k : Int) by omega]
          exact nx
  have ris : ∀ k : Nat, k < N → riseF p k = riseF p (N - 1) → Go E (d + 1) 0 0 mX11_toNextOrder 4 [some (vR r), some (vI (N : Int)), some (vI ((k : Int) - 1)), none, none, none] [] G D (retI G P) := by
    intro k
    induction k with
    | zero =>
      intro hk e
      refine w_X11_toNextOrder_4 hG ha (br_lt (fun _ => br_le (fun g => by omega) (fun _ => rI (h0 ?_))) (fun g => by omega))
      simp only [riseF] at e
      unfold nxt
      rw [← e]
    | succ k ih =>
      intro hk e
      simp only [riseF] at e
      have ek : ((k + 1 : Nat) : Int) - 1 = (k : Int) := by omega
      have ek2 : (k : Int) + 1 = ((k + 1 : Nat) : Int) := by omega
      rw [ek]
      refine w_X11_toNextOrder_4 hG ha (br_lt (fun g => by omega) (fun _ => ⟨⟨by omega, by omega⟩, ⟨by omega, by omega⟩, ?_⟩))
      have v1 := vr k (by omega)
      have v2 := vr (k + 1) hk
      have c := hT.le (okp_lt ok (show k < N by omega)) (okp_lt ok hk)
      rw [ek2, hp k (by omega), hp (k + 1) hk]
      refine br_le (fun g2 => br_le (fun _ => ?_) (fun g => by omega)) (fun g2 => ?_)
      · rw [if_pos (c.mp g2)] at e
        have nx := abv k (by omega) e.symm (N - 1) (by omega) rfl
        rw [show ((N - 1 : Nat) : Int) = (N : Int) - 1 by omega] at nx
        exact nx
      · rw [if_neg (fun q => by have := c.mpr q; omega)] at e
        have nx := ih (by omega) e
        rw [show (k : Int) + -1 = (k : Int) - 1 by omega]
        exact nx
  have nx := ris (N - 1) (by omega) rfl
  rw [show ((N - 1 : Nat) : Int) - 1 = (N : Int) - 2 by omega] at nx
  exact w_X11_toNextOrder hG ha nx
theorem c_comeOut (hI : Inv G D) (ha4 : isA4 G r) (hN : N ≤ 4) (hp : rwk D r T N p) (hT : ∀ q : Nat, q < N → 0 ≤ T (p.getD q 0) ∧ T (p.getD q 0) < D 214 3) (h1 : rg a) (h2 : rg b) (h : ∀ x D', ag D D' → 0 ≤ x → x < 1024 → bm x 10 (outP D a b T N p) → P x D') : Call E (d + 5) 0 0 mX11_comeOut [vR 2, vI a, vI b, vR r, vI (N : Int)] G D (retI G P) := by
  have hG := hI.1
  have r249 := ha4.1
  have lp : ∀ (n : Nat) (D' : mmD) (m x : Int), ag D D' → 10 - m = n → 0 ≤ m → m ≤ 10 → 0 ≤ x → x < 1024 → bm x m (outP D a b T N p) → Go E (d + 5) 0 0 mX11_comeOut 6 [some (vR 2), some (vI a), some (vI b), some (vR r), some (vI (N : Int)), some (vI x), some (vI m), none, none, none] [] G D' (retI G P) := by
    intro n
    induction n with
    | zero =>
      intro D' m x hd mn m0 m1 q0 q1 hb
      have e : m = 10 := by omega
      subst e
      exact w_X11_comeOut_6 hG ha4 (br_le (fun _ => rI (h x D' hd q0 q1 hb)) (fun g => by omega))
    | succ n ih =>
      intro D' m x hd mn m0 m1 q0 q1 hb
      have sk : ¬ outP D a b T N p m → ∀ D2, ag D D2 → Go E (d + 5) 0 0 mX11_comeOut 6 [some (vR 2), some (vI a), some (vI b), some (vR r), some (vI (N : Int)), some (vI x), some (vI (m + 1)), none, none, none] [] G D2 (retI G P) := fun hn D2 hd2 => ih D2 (m + 1) x hd2 (by omega) (by omega) (by omega) q0 q1 (bm_skip hb hn)
      refine w_X11_comeOut_6 hG ha4 (br_le (fun g => by omega) (fun _ => c_listedA hI hd h1 (by unfold rg; omega) (fun la => c_listedA hI hd h2 (by unfold rg; omega) (fun lb => ⟨fun q => ?_, fun _ => ⟨fun q => ?_, fun _ => ?_⟩⟩) (fun lb => ⟨fun q => sk (fun o => lb o.1.2) D' hd, fun _ => ⟨fun _ => sk (fun o => lb o.1.2) D' hd, fun q => absurd rfl q⟩⟩)) (fun la => c_listedA hI hd h2 (by unfold rg; omega) (fun lb => ⟨fun _ => sk (fun o => la o.1.1) D' hd, fun q => absurd rfl q⟩) (fun lb => ⟨fun _ => sk (fun o => la o.1.1) D' hd, fun q => absurd rfl q⟩))))
      · have := la.j hI; omega
      · have := lb.j hI; omega
      · obtain ⟨ja0, ja1⟩ := la.j hI
        obtain ⟨jb0, jb1⟩ := lb.j hI
        have hW := hI.wd ja0 ja1
        have hV := hI.wd jb0 jb1
        refine c_copyA hI hd ja0 ja1 (Or.inl rfl) (fun D1 g1 k1 c1 => ?_)
        have inner : ∀ (n2 : Nat) (D2 : mmD) (k : Nat), N - k = n2 → k ≤ N → ag D D2 → cW D2 18 (aps D T p (wl D (10 * a + m)) k) → Go E (d + 5) 0 0 mX11_comeOut 53 [some (vR 2), some (vI a), some (vI b), some (vR r), some (vI (N : Int)), some (vI x), some (vI m), none, some (vR (22 + 2 * (10 * b + m))), some (vI (k : Int))] [] G D2 (retI G P) := by
          intro n2
          induction n2 with
          | zero =>
            intro D2 k kn k1 hd2 c2
            have e : k = N := by omega
            subst e
            have wz := aps_wd hI hT hW k (Nat.le_refl _)
            have cb := (hI.ag hd2).cw jb0 jb1
            rw [wl_ag hd2] at cb
            refine w_X11_comeOut_53 hG ha4 (br_le (fun _ => ?_) (fun g => by omega))
            refine c_hso hG isW.trial (isW.of jb0 jb1) c2 cb wz hV (fun e => c_oneIf hG (Or.inr rfl) ?_) (fun e => c_oneIf hG (Or.inl rfl) ?_)
            · obtain ⟨r1, r2, r3⟩ := bm_step (n := 10) (by omega) m0 (by omega) q0 (by rw [pw10]; exact q1) hb ⟨⟨la, lb⟩, e⟩
              rw [pw10] at r3
              exact ih D2 (m + 1) _ hd2 (by omega) (by omega) (by omega) r2 r3 r1
            · rw [ishl0 m0 (by omega), ior0 q0 (by omega)]
              exact sk (fun o => e o.2) D2 hd2
          | succ n2 ih2 =>
            intro D2 k kn k1 hd2 c2
            have er : D2 r (k : Int) = T (p.getD k 0) := by rw [hd2 _ _ (by unfold pers; omega)]; exact hp k (by omega)
            obtain ⟨t0, t1⟩ := hT k (by omega)
            have t12 := hI.l12 t1
            refine w_X11_comeOut_53 hG ha4 (br_le (fun g => by omega) (fun _ => ⟨⟨by omega, by omega⟩, ?_⟩))
            rw [er]
            refine ⟨⟨t0, t12⟩, c_coA hI hd2 t0 t1 (Or.inl rfl) (aps_wd hI hT hW k (by omega)) c2 (fun z D3 g3 k3 c3 => ?_)⟩
            have nx := ih2 D3 (k + 1) (by omega) (by omega) g3 c3
            rw [show ((k + 1 : Nat) : Int) = (k : Int) + 1 by omega] at nx
            exact nx
        exact inner N D1 0 (by omega) (by omega) g1 c1
  exact w_X11_comeOut hG ha4 (lp 10 D 0 0 ag.rfl (by omega) (by omega) (by omega) (by omega) (by omega) bm_0)
theorem c_first {R : Int → mmG → mmD → Prop} (hG : Sh G) (x0 : 0 ≤ x) (x1 : x < 4096) (hl : (bl x 12).length ≤ 4) (h : ∀ D', (∀ c k, c ≠ G.1 → D' c k = D c k) → (∀ q : Nat, q < (bl x 12).length → D' G.1 (q : Int) = (bl x 12).getD q 0) → R G.1 (mm_push G 12 4) D') : Call E d 1 4 mX11_firstOrder [vI x] G D (retRG R) := by
  have g1 := hG.1
  refine w_X11_firstOrder (kc := 0) (ks := 0) hG (fun G1 e1 D3 e3 => ?_)
  have h1 : Sh G1 := by rw [e1]; exact hG.push
  have a1 : isA4 G1 G.1 := by
    rw [e1]
    refine ⟨g1, by show G.1 < G.1 + 1; omega, ?_⟩
    show (if G.1 = G.1 then ((12 : Nat), (4 : Int)) else G.2.1 G.1) = _
    rw [if_pos rfl]
  have lp : ∀ (n : Nat) (D' : mmD) (k : Int), 12 - k = n → 0 ≤ k → k ≤ 12 → (∀ c k, c ≠ G.1 → D' c k = D c k) → (∀ q : Nat, q < (bl x k.toNat).length → D' G.1 (q : Int) = (bl x k.toNat).getD q 0) → Go E d 0 0 mX11_firstOrder 8 [some (vI x), some (vR (G.1)), some (vI ((bl x k.toNat).length : Int)), some (vI k)] [] G1 D' (retRG R) := by
    intro n
    induction n with
    | zero =>
      intro D' k kn k0 k1 fr z
      have e : k = 12 := by omega
      subst e
      exact v_X11_firstOrder_8 (kc := 0) (ks := 0) h1 a1 (br_le (fun _ => rRG (e1 ▸ h D' fr z)) (fun g => by omega))
    | succ n ih =>
      intro D' k kn k0 k1 fr z
      obtain ⟨rest, hr⟩ := bl_pre (x := x) (n := k.toNat) (12 - k.toNat)
      rw [show k.toNat + (12 - k.toNat) = 12 by omega] at hr
      have lr := congrArg List.length hr
      rw [List.length_append] at lr
      have nx := fun D2 => ih D2 (k + 1) (by omega) (by omega) (by omega)
      rw [bl_s k0] at nx
      refine v_X11_firstOrder_8 (kc := 0) (ks := 0) h1 a1 (br_le (fun g => by omega) (fun _ => br_le (fun g => rRG (e1 ▸ h D' fr ?_)) (fun g => ?_)))
      · have : rest = [] := List.eq_nil_of_length_eq_zero (by omega)
        rw [hr, this, List.append_nil]
        exact z
      · by_cases hb : bt x k
        · rw [tb_1 x0 (by omega) k0 (by omega) hb]
          refine b_t ⟨⟨by omega, by omega⟩, fun D1 e => ?_⟩
          rw [cif_t hb] at nx
          have n2 := nx D1 (fun c k q => by rw [e, up2_ne (fun t => q t.1)]; exact fr c k q) (fun q hq => ?_)
          · rw [List.length_append, List.length_singleton, show (((bl x k.toNat).length + 1 : Nat) : Int) = ((bl x k.toNat).length : Int) + 1 by omega] at n2
            exact n2
          · rw [List.length_append, List.length_singleton] at hq
            by_cases e' : q = (bl x k.toNat).length
            · rw [e, e', up2_same, getD_end]
            · rw [e, up2_ne (by omega), getD_app (by omega)]
              exact z q (by omega)
        · rw [tb_0 x0 (by omega) k0 (by omega) hb]
          rw [cif_f hb] at nx
          exact b_f (nx D' fr z)
  refine lp 12 D3 0 (by omega) (by omega) (by omega) (fun c k q => ?_) (fun q hq => ?_)
  · rw [e3]; unfold mm_zero; rw [if_neg q]
  · simp [bl] at hq
end Best1
