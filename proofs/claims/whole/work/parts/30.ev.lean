/-! ===== EVENTS come to be ===== -/
/-- the shape behind a new EVENT -/
def evG (G : mmG) (ci : Nat) (n : Int) : mmG := ((mm_push (mm_push G ci 0) 12 20).1, (mm_push (mm_push G ci 0) 12 20).2.1, up2 (up2 (mm_push (mm_push G ci 0) 12 20).2.2 G.1 5 (mm_push G ci 0).1) 7 n G.1)
theorem evG_1 {G : mmG} {ci : Nat} {n : Int} : (evG G ci n).1 = G.1 + 2 := by show G.1 + 1 + 1 = _; omega
theorem evG_k {G : mmG} {ci : Nat} {n a : Int} (h : a < G.1) : (evG G ci n).2.1 a = G.2.1 a := by
  show (if a = G.1 + 1 then ((12 : Nat), (20 : Int)) else (if a = G.1 then (ci, 0) else G.2.1 a)) = _
  rw [if_neg (by omega), if_neg (by omega)]
theorem evG_r {G : mmG} {ci : Nat} {n a j : Int} (h : a < G.1) (h2 : ¬ (a = 7 ∧ j = n)) : (evG G ci n).2.2 a j = G.2.2 a j := by
  show up2 (up2 (mm_push (mm_push G ci 0) 12 20).2.2 G.1 5 (mm_push G ci 0).1) 7 n G.1 a j = _
  rw [up2_ne h2, up2_ne (by omega)]
  show (if a = G.1 + 1 then (0 : Int) else (if a = G.1 then 0 else G.2.2 a j)) = _
  rw [if_neg (by omega), if_neg (by omega)]
theorem evG_n {G : mmG} {ci : Nat} {n : Int} : (evG G ci n).2.2 7 n = G.1 := up2_same
theorem evG_i {G : mmG} {ci : Nat} {n : Int} (hG : 249 ≤ G.1) : isEv (evG G ci n) ci G.1 := by
  refine ⟨hG, by rw [evG_1]; omega, ?_, ?_, ?_⟩
  · show (if G.1 = G.1 + 1 then ((12 : Nat), (20 : Int)) else (if G.1 = G.1 then (ci, 0) else G.2.1 G.1)) = _
    rw [if_neg (by omega), if_pos rfl]
  · show (if G.1 + 1 = G.1 + 1 then ((12 : Nat), (20 : Int)) else _) = _
    rw [if_pos rfl]
  · show up2 (up2 (mm_push (mm_push G ci 0) 12 20).2.2 G.1 5 (mm_push G ci 0).1) 7 n G.1 G.1 5 = _
    rw [up2_ne (by omega), up2_same]
    rfl
theorem isEv.mono {G : mmG} {ci cj : Nat} {n x : Int} (h : isEv G cj x) : isEv (evG G ci n) cj x := by
  obtain ⟨h1, h2, h3, h4, h5⟩ := h
  refine ⟨h1, by rw [evG_1]; omega, ?_, ?_, ?_⟩
  · rw [evG_k (by omega)]; exact h3
  · rw [evG_k (by omega)]; exact h4
  · rw [evG_r (by omega) (by omega)]; exact h5
theorem Sh.evG {G : mmG} {ci : Nat} {n : Int} (h : Sh G) : Sh (evG G ci n) := by
  refine ⟨by rw [evG_1]; have := h.1; omega, fun a x y => ?_, fun a j x y z u => ?_⟩
  · rw [evG_k (by have := h.1; omega)]; exact h.2.1 a x y
  · rw [evG_r (by have := h.1; omega) (by omega)]; exact h.2.2 a j x y z u
theorem Inv.ev {G : mmG} {D0 D' : mmD} {ci : Nat} {kind n e : Int} (hI : Inv G D0) (he : G.1 = e) (hn : D0 214 4 = n) (hk : evk kind ci) (hsc : i_sc D') (h4 : D' 214 4 = n + 1) (htp : i_tp D') (hwd : i_wd D') (hsp : i_sp D')
    (kk : ∀ c k, (c = 8 ∨ (142 ≤ c ∧ c < 214 ∧ (c - 142) % 6 ≠ 5) ∨ (c = 214 ∧ (k = 3 ∨ k = 6 ∨ k = 57)) ∨ (223 ≤ c ∧ c ≤ 227) ∨ (228 ≤ c ∧ c ≤ 232 ∧ k ≠ n) ∨ c = 233 ∨ c = 234 ∨ c = 248 ∨ (249 ≤ c ∧ c < e)) → D' c k = D0 c k)
    (n0 : D' 228 n = kind) (n1 : D' e 0 = n) (n2 : D' e 1 = D' 229 n) (n3 : D' e 2 = D' 230 n) (n4 : D' e 3 = D' 231 n) (n5 : D' e 4 = D' 232 n) (n6 : 0 ≤ D' 229 n ∧ D' 229 n ≤ 9999) : Inv (evG G ci n) D' := by
  obtain ⟨hG, hs, q3, q4, q5, q6, q7, q8, q9⟩ := hI
  have s4 := hs.2.2.2.1
  have g1 := hG.1
  refine ⟨hG.evG, hsc, htp, hwd, hsp, q6.keep hs.2.2.1.2.2 (kk _ _ (by omega)) (fun c k a b d => kk _ _ (by omega)) (fun c k a b => kk _ _ (by omega)), ?_, q8.keep (kk _ _ (by omega)) (fun k => kk _ _ (by omega)) (fun k => kk _ _ (by omega)) (fun k => kk _ _ (by omega)), ?_⟩
  · intro i i0 i1
    rw [h4] at i1
    by_cases hi : i = n
    · subst hi
      unfold i_e1
      rw [evG_n, he, n0, n1, n2, n3, n4, n5]
      exact ⟨⟨ci, hk, he ▸ evG_i g1⟩, rfl, rfl, rfl, rfl, rfl, n6⟩
    · have hh := q7 i i0 (by omega)
      obtain ⟨⟨cj, e1, e2⟩, -⟩ := id hh
      have b1 := e2.1
      have b2 := e2.2.1
      unfold i_e1 at hh ⊢
      rw [evG_r (by omega) (by omega), kk 228 i (by omega), kk 229 i (by omega), kk 230 i (by omega), kk 231 i (by omega), kk 232 i (by omega), kk _ 0 (by omega), kk _ 1 (by omega), kk _ 2 (by omega), kk _ 3 (by omega), kk _ 4 (by omega)]
      exact ⟨⟨cj, e1, e2.mono⟩, hh.2⟩
  · unfold i_tr at q9 ⊢
    rw [evG_r (by omega) (by omega), kk 214 57 (by omega)]
    refine ⟨q9.1, ?_⟩
    rcases q9.2 with h | ⟨i, i0, i1, h, h', h''⟩
    · exact Or.inl h
    · obtain ⟨⟨cj, e1, e2⟩, -⟩ := q7 i i0 i1
      have b1 := e2.1
      have b2 := e2.2.1
      refine Or.inr ⟨i, i0, by omega, ?_, ?_, fun k k0 k1 => ?_⟩
      · rw [evG_r (by omega) (by omega)]; exact h
      · rw [evG_r (by omega) (by omega), kk _ 6 (by omega)]; exact h'
      · rw [evG_r (by omega) (by omega), kk _ k (by omega), kk 248 k (by omega)]; exact h'' k k0 k1
section Mk
variable {E : mmE} {d : Nat} {G : mmG} {D : mmD} {P : mmG → mmD → Prop} {x3 x4 x5 n : Int}
theorem mk_ev1 (hG : Sh G) (hn : D 2 8 = n) (n0 : 0 ≤ n) (n1 : n < 80)
    (K : ∀ D', (∀ c k, c < G.1 → ¬ (c = 2 ∧ k = 8) → D' c k = D c k) → D' 2 8 = n + 1 → D' G.1 0 = n → D' G.1 1 = D 2 11 → D' G.1 2 = x3 → D' G.1 3 = x4 → D' G.1 4 = x5 → P (evG G 1 n) D') :
    ∀ G15 : mmG, G15 = mm_push G 1 0 → ∀ D17 : mmD, D17 = mm_zero D G.1 → Call E (d + 3) 1 20 mX1_init [vR (G.1), vI (D17 2 8), vI (D17 2 11), vI x3, vI x4, vI x5] G15 D17 (retVG (fun G20 D18 => Sh G20 ∧ Call E (d + 3) 0 0 mX11_happen [vR 2, vR (G.1)] G20 D18 (retVG (fun G24 D22 => Sh G24 ∧ P G24 D22)))) := by
  intro G15 e15 D17 e17
  have g1 := hG.1
  have h15 : Sh G15 := by rw [e15]; exact hG.push
  have e0 : isE0 G15 1 G.1 := by
    rw [e15]
    refine ⟨g1, by show G.1 < G.1 + 1; omega, ?_⟩
    show (if G.1 = G.1 then ((1 : Nat), (0 : Int)) else G.2.1 G.1) = _
    rw [if_pos rfl]
  have z17 : ∀ c k, c < G.1 → D17 c k = D c k := fun c k hc => by rw [e17]; unfold mm_zero; rw [if_neg (by omega)]
  rw [z17 2 8 (by omega), z17 2 11 (by omega), hn]
  refine w_X1_init_k1 h15 e0 (w_X5_init_k1 h15 e0 (w_X2_init_k1 h15 e0 (fun G1 r1 D3 r3 G6 r6 D9 r9 D10 r10 D11 r11 D12 r12 D13 r13 => ?_)))
  have g15 : G15.1 = G.1 + 1 := by rw [e15]; rfl
  have k13 : ∀ c k, c < G.1 → D13 c k = D c k := fun c k hc => by
    rw [r13, up2_ne (by omega), r12, up2_ne (by omega), r11, up2_ne (by omega), r10, up2_ne (by omega), r9, up2_ne (by omega), r3]
    unfold mm_zero
    rw [if_neg (by omega)]
    exact z17 c k hc
  have h6 : Sh G6 := by rw [r6, r1]; exact Sh.hi g1 h15.push
  have g6 : (G6.1, G6.2.1, up2 G6.2.2 7 n G.1) = evG G 1 n := by rw [r6, r1, e15]; rfl
  have ev6 : isEv G6 1 G.1 := by
    have := evG_i (G := G) (ci := 1) (n := n) g1
    rw [← g6] at this
    obtain ⟨a1, a2, a3, a4, a5⟩ := this
    refine ⟨a1, a2, a3, a4, ?_⟩
    have a6 : up2 G6.2.2 7 n G.1 G.1 5 = G.1 + 1 := a5
    rw [up2_ne (by omega)] at a6
    exact a6
  have hp : Call E (d + 3) 0 0 mX11_happen [vR 2, vR (G.1)] G6 D13 (retVG (fun G24 D22 => Sh G24 ∧ P G24 D22)) := by
    refine w_X11_happen_k1 h6 ev6 ?_
    rw [k13 2 8 (by omega), hn]
    refine br_le (fun q => by omega) (fun _ => ⟨⟨n0, n1⟩, fun G9 r9' D9' r10' => ?_⟩)
    rw [g6] at r9'
    subst r9'
    refine rVG ⟨hG.evG, K D9' (fun c k hc hne => ?_) ?_ ?_ ?_ ?_ ?_ ?_⟩
    · rw [r10', up2_ne hne]; exact k13 c k hc
    · rw [r10', up2_same]
    · rw [r10', up2_ne (by omega), r13, up2_ne (by omega), r12, up2_ne (by omega), r11, up2_ne (by omega), r10, up2_ne (by omega), r9, up2_same]
    · rw [r10', up2_ne (by omega), r13, up2_ne (by omega), r12, up2_ne (by omega), r11, up2_ne (by omega), r10, up2_same]
    · rw [r10', up2_ne (by omega), r13, up2_ne (by omega), r12, up2_ne (by omega), r11, up2_same]
    · rw [r10', up2_ne (by omega), r13, up2_ne (by omega), r12, up2_same]
    · rw [r10', up2_ne (by omega), r13, up2_same]
  exact rVG ⟨h6, rVG ⟨h6, rVG ⟨h6, hp⟩⟩⟩
theorem mk_ev2 (hG : Sh G) (hn : D 2 8 = n) (n0 : 0 ≤ n) (n1 : n < 80)
    (K : ∀ D', (∀ c k, c < G.1 → ¬ (c = 2 ∧ k = 8) → D' c k = D c k) → D' 2 8 = n + 1 → D' G.1 0 = n → D' G.1 1 = D 2 11 → D' G.1 2 = x3 → D' G.1 3 = x4 → D' G.1 4 = x5 → P (evG G 2 n) D') :
    ∀ G15 : mmG, G15 = mm_push G 2 0 → ∀ D17 : mmD, D17 = mm_zero D G.1 → Call E (d + 3) 1 20 mX3_init [vR (G.1), vI (D17 2 8), vI (D17 2 11), vI x3, vI x4, vI x5] G15 D17 (retVG (fun G20 D18 => Sh G20 ∧ Call E (d + 3) 0 0 mX11_happen [vR 2, vR (G.1)] G20 D18 (retVG (fun G24 D22 => Sh G24 ∧ P G24 D22)))) := by
  intro G15 e15 D17 e17
  have g1 := hG.1
  have h15 : Sh G15 := by rw [e15]; exact hG.push
  have e0 : isE0 G15 2 G.1 := by
    rw [e15]
    refine ⟨g1, by show G.1 < G.1 + 1; omega, ?_⟩
    show (if G.1 = G.1 then ((2 : Nat), (0 : Int)) else G.2.1 G.1) = _
    rw [if_pos rfl]
  have z17 : ∀ c k, c < G.1 → D17 c k = D c k := fun c k hc => by rw [e17]; unfold mm_zero; rw [if_neg (by omega)]
  rw [z17 2 8 (by omega), z17 2 11 (by omega), hn]
  refine w_X3_init_k2 h15 e0 (w_X5_init_k2 h15 e0 (w_X2_init_k2 h15 e0 (fun G1 r1 D3 r3 G6 r6 D9 r9 D10 r10 D11 r11 D12 r12 D13 r13 => ?_)))
  have g15 : G15.1 = G.1 + 1 := by rw [e15]; rfl
  have k13 : ∀ c k, c < G.1 → D13 c k = D c k := fun c k hc => by
    rw [r13, up2_ne (by omega), r12, up2_ne (by omega), r11, up2_ne (by omega), r10, up2_ne (by omega), r9, up2_ne (by omega), r3]
    unfold mm_zero
    rw [if_neg (by omega)]
    exact z17 c k hc
  have h6 : Sh G6 := by rw [r6, r1]; exact Sh.hi g1 h15.push
  have g6 : (G6.1, G6.2.1, up2 G6.2.2 7 n G.1) = evG G 2 n := by rw [r6, r1, e15]; rfl
  have ev6 : isEv G6 2 G.1 := by
    have := evG_i (G := G) (ci := 2) (n := n) g1
    rw [← g6] at this
    obtain ⟨a1, a2, a3, a4, a5⟩ := this
    refine ⟨a1, a2, a3, a4, ?_⟩
    have a6 : up2 G6.2.2 7 n G.1 G.1 5 = G.1 + 1 := a5
    rw [up2_ne (by omega)] at a6
    exact a6
  have hp : Call E (d + 3) 0 0 mX11_happen [vR 2, vR (G.1)] G6 D13 (retVG (fun G24 D22 => Sh G24 ∧ P G24 D22)) := by
    refine w_X11_happen_k2 h6 ev6 ?_
    rw [k13 2 8 (by omega), hn]
    refine br_le (fun q => by omega) (fun _ => ⟨⟨n0, n1⟩, fun G9 r9' D9' r10' => ?_⟩)
    rw [g6] at r9'
    subst r9'
    refine rVG ⟨hG.evG, K D9' (fun c k hc hne => ?_) ?_ ?_ ?_ ?_ ?_ ?_⟩
    · rw [r10', up2_ne hne]; exact k13 c k hc
    · rw [r10', up2_same]
    · rw [r10', up2_ne (by omega), r13, up2_ne (by omega), r12, up2_ne (by omega), r11, up2_ne (by omega), r10, up2_ne (by omega), r9, up2_same]
    · rw [r10', up2_ne (by omega), r13, up2_ne (by omega), r12, up2_ne (by omega), r11, up2_ne (by omega), r10, up2_same]
    · rw [r10', up2_ne (by omega), r13, up2_ne (by omega), r12, up2_ne (by omega), r11, up2_same]
    · rw [r10', up2_ne (by omega), r13, up2_ne (by omega), r12, up2_same]
    · rw [r10', up2_ne (by omega), r13, up2_same]
  exact rVG ⟨h6, rVG ⟨h6, rVG ⟨h6, hp⟩⟩⟩
theorem mk_ev4 (hG : Sh G) (hn : D 2 8 = n) (n0 : 0 ≤ n) (n1 : n < 80)
    (K : ∀ D', (∀ c k, c < G.1 → ¬ (c = 2 ∧ k = 8) → D' c k = D c k) → D' 2 8 = n + 1 → D' G.1 0 = n → D' G.1 1 = D 2 11 → D' G.1 2 = x3 → D' G.1 3 = x4 → D' G.1 4 = x5 → P (evG G 4 n) D') :
    ∀ G15 : mmG, G15 = mm_push G 4 0 → ∀ D17 : mmD, D17 = mm_zero D G.1 → Call E (d + 3) 1 20 mX5_init [vR (G.1), vI (D17 2 8), vI (D17 2 11), vI x3, vI x4, vI x5] G15 D17 (retVG (fun G20 D18 => Sh G20 ∧ Call E (d + 3) 0 0 mX11_happen [vR 2, vR (G.1)] G20 D18 (retVG (fun G24 D22 => Sh G24 ∧ P G24 D22)))) := by
  intro G15 e15 D17 e17
  have g1 := hG.1
  have h15 : Sh G15 := by rw [e15]; exact hG.push
  have e0 : isE0 G15 4 G.1 := by
    rw [e15]
    refine ⟨g1, by show G.1 < G.1 + 1; omega, ?_⟩
    show (if G.1 = G.1 then ((4 : Nat), (0 : Int)) else G.2.1 G.1) = _
    rw [if_pos rfl]
  have z17 : ∀ c k, c < G.1 → D17 c k = D c k := fun c k hc => by rw [e17]; unfold mm_zero; rw [if_neg (by omega)]
  rw [z17 2 8 (by omega), z17 2 11 (by omega), hn]
  refine w_X5_init_k4 h15 e0 (w_X2_init_k4 h15 e0 (fun G1 r1 D3 r3 G6 r6 D9 r9 D10 r10 D11 r11 D12 r12 D13 r13 => ?_))
  have g15 : G15.1 = G.1 + 1 := by rw [e15]; rfl
  have k13 : ∀ c k, c < G.1 → D13 c k = D c k := fun c k hc => by
    rw [r13, up2_ne (by omega), r12, up2_ne (by omega), r11, up2_ne (by omega), r10, up2_ne (by omega), r9, up2_ne (by omega), r3]
    unfold mm_zero
    rw [if_neg (by omega)]
    exact z17 c k hc
  have h6 : Sh G6 := by rw [r6, r1]; exact Sh.hi g1 h15.push
  have g6 : (G6.1, G6.2.1, up2 G6.2.2 7 n G.1) = evG G 4 n := by rw [r6, r1, e15]; rfl
  have ev6 : isEv G6 4 G.1 := by
    have := evG_i (G := G) (ci := 4) (n := n) g1
    rw [← g6] at this
    obtain ⟨a1, a2, a3, a4, a5⟩ := this
    refine ⟨a1, a2, a3, a4, ?_⟩
    have a6 : up2 G6.2.2 7 n G.1 G.1 5 = G.1 + 1 := a5
    rw [up2_ne (by omega)] at a6
    exact a6
  have hp : Call E (d + 3) 0 0 mX11_happen [vR 2, vR (G.1)] G6 D13 (retVG (fun G24 D22 => Sh G24 ∧ P G24 D22)) := by
    refine w_X11_happen_k4 h6 ev6 ?_
    rw [k13 2 8 (by omega), hn]
    refine br_le (fun q => by omega) (fun _ => ⟨⟨n0, n1⟩, fun G9 r9' D9' r10' => ?_⟩)
    rw [g6] at r9'
    subst r9'
    refine rVG ⟨hG.evG, K D9' (fun c k hc hne => ?_) ?_ ?_ ?_ ?_ ?_ ?_⟩
    · rw [r10', up2_ne hne]; exact k13 c k hc
    · rw [r10', up2_same]
    · rw [r10', up2_ne (by omega), r13, up2_ne (by omega), r12, up2_ne (by omega), r11, up2_ne (by omega), r10, up2_ne (by omega), r9, up2_same]
    · rw [r10', up2_ne (by omega), r13, up2_ne (by omega), r12, up2_ne (by omega), r11, up2_ne (by omega), r10, up2_same]
    · rw [r10', up2_ne (by omega), r13, up2_ne (by omega), r12, up2_ne (by omega), r11, up2_same]
    · rw [r10', up2_ne (by omega), r13, up2_ne (by omega), r12, up2_same]
    · rw [r10', up2_ne (by omega), r13, up2_same]
  exact rVG ⟨h6, rVG ⟨h6, hp⟩⟩
theorem mk_ev5 (hG : Sh G) (hn : D 2 8 = n) (n0 : 0 ≤ n) (n1 : n < 80)
    (K : ∀ D', (∀ c k, c < G.1 → ¬ (c = 2 ∧ k = 8) → D' c k = D c k) → D' 2 8 = n + 1 → D' G.1 0 = n → D' G.1 1 = D 2 11 → D' G.1 2 = x3 → D' G.1 3 = x4 → D' G.1 4 = x5 → P (evG G 5 n) D') :
    ∀ G15 : mmG, G15 = mm_push G 5 0 → ∀ D17 : mmD, D17 = mm_zero D G.1 → Call E (d + 3) 1 20 mX6_init [vR (G.1), vI (D17 2 8), vI (D17 2 11), vI x3, vI x4, vI x5] G15 D17 (retVG (fun G20 D18 => Sh G20 ∧ Call E (d + 3) 0 0 mX11_happen [vR 2, vR (G.1)] G20 D18 (retVG (fun G24 D22 => Sh G24 ∧ P G24 D22)))) := by
  intro G15 e15 D17 e17
  have g1 := hG.1
  have h15 : Sh G15 := by rw [e15]; exact hG.push
  have e0 : isE0 G15 5 G.1 := by
    rw [e15]
    refine ⟨g1, by show G.1 < G.1 + 1; omega, ?_⟩
    show (if G.1 = G.1 then ((5 : Nat), (0 : Int)) else G.2.1 G.1) = _
    rw [if_pos rfl]
  have z17 : ∀ c k, c < G.1 → D17 c k = D c k := fun c k hc => by rw [e17]; unfold mm_zero; rw [if_neg (by omega)]
  rw [z17 2 8 (by omega), z17 2 11 (by omega), hn]
  refine w_X6_init_k5 h15 e0 (w_X8_init_k5 h15 e0 (w_X2_init_k5 h15 e0 (fun G1 r1 D3 r3 G6 r6 D9 r9 D10 r10 D11 r11 D12 r12 D13 r13 => ?_)))
  have g15 : G15.1 = G.1 + 1 := by rw [e15]; rfl
  have k13 : ∀ c k, c < G.1 → D13 c k = D c k := fun c k hc => by
    rw [r13, up2_ne (by omega), r12, up2_ne (by omega), r11, up2_ne (by omega), r10, up2_ne (by omega), r9, up2_ne (by omega), r3]
    unfold mm_zero
    rw [if_neg (by omega)]
    exact z17 c k hc
  have h6 : Sh G6 := by rw [r6, r1]; exact Sh.hi g1 h15.push
  have g6 : (G6.1, G6.2.1, up2 G6.2.2 7 n G.1) = evG G 5 n := by rw [r6, r1, e15]; rfl
  have ev6 : isEv G6 5 G.1 := by
    have := evG_i (G := G) (ci := 5) (n := n) g1
    rw [← g6] at this
    obtain ⟨a1, a2, a3, a4, a5⟩ := this
    refine ⟨a1, a2, a3, a4, ?_⟩
    have a6 : up2 G6.2.2 7 n G.1 G.1 5 = G.1 + 1 := a5
    rw [up2_ne (by omega)] at a6
    exact a6
  have hp : Call E (d + 3) 0 0 mX11_happen [vR 2, vR (G.1)] G6 D13 (retVG (fun G24 D22 => Sh G24 ∧ P G24 D22)) := by
    refine w_X11_happen_k5 h6 ev6 ?_
    rw [k13 2 8 (by omega), hn]
    refine br_le (fun q => by omega) (fun _ => ⟨⟨n0, n1⟩, fun G9 r9' D9' r10' => ?_⟩)
    rw [g6] at r9'
    subst r9'
    refine rVG ⟨hG.evG, K D9' (fun c k hc hne => ?_) ?_ ?_ ?_ ?_ ?_ ?_⟩
    · rw [r10', up2_ne hne]; exact k13 c k hc
    · rw [r10', up2_same]
    · rw [r10', up2_ne (by omega), r13, up2_ne (by omega), r12, up2_ne (by omega), r11, up2_ne (by omega), r10, up2_ne (by omega), r9, up2_same]
    · rw [r10', up2_ne (by omega), r13, up2_ne (by omega), r12, up2_ne (by omega), r11, up2_ne (by omega), r10, up2_same]
    · rw [r10', up2_ne (by omega), r13, up2_ne (by omega), r12, up2_ne (by omega), r11, up2_same]
    · rw [r10', up2_ne (by omega), r13, up2_ne (by omega), r12, up2_same]
    · rw [r10', up2_ne (by omega), r13, up2_same]
  exact rVG ⟨h6, rVG ⟨h6, rVG ⟨h6, hp⟩⟩⟩
theorem mk_ev7 (hG : Sh G) (hn : D 2 8 = n) (n0 : 0 ≤ n) (n1 : n < 80)
    (K : ∀ D', (∀ c k, c < G.1 → ¬ (c = 2 ∧ k = 8) → D' c k = D c k) → D' 2 8 = n + 1 → D' G.1 0 = n → D' G.1 1 = D 2 11 → D' G.1 2 = x3 → D' G.1 3 = x4 → D' G.1 4 = x5 → P (evG G 7 n) D') :
    ∀ G15 : mmG, G15 = mm_push G 7 0 → ∀ D17 : mmD, D17 = mm_zero D G.1 → Call E (d + 3) 1 20 mX8_init [vR (G.1), vI (D17 2 8), vI (D17 2 11), vI x3, vI x4, vI x5] G15 D17 (retVG (fun G20 D18 => Sh G20 ∧ Call E (d + 3) 0 0 mX11_happen [vR 2, vR (G.1)] G20 D18 (retVG (fun G24 D22 => Sh G24 ∧ P G24 D22)))) := by
  intro G15 e15 D17 e17
  have g1 := hG.1
  have h15 : Sh G15 := by rw [e15]; exact hG.push
  have e0 : isE0 G15 7 G.1 := by
    rw [e15]
    refine ⟨g1, by show G.1 < G.1 + 1; omega, ?_⟩
    show (if G.1 = G.1 then ((7 : Nat), (0 : Int)) else G.2.1 G.1) = _
    rw [if_pos rfl]
  have z17 : ∀ c k, c < G.1 → D17 c k = D c k := fun c k hc => by rw [e17]; unfold mm_zero; rw [if_neg (by omega)]
  rw [z17 2 8 (by omega), z17 2 11 (by omega), hn]
  refine w_X8_init_k7 h15 e0 (w_X2_init_k7 h15 e0 (fun G1 r1 D3 r3 G6 r6 D9 r9 D10 r10 D11 r11 D12 r12 D13 r13 => ?_))
  have g15 : G15.1 = G.1 + 1 := by rw [e15]; rfl
  have k13 : ∀ c k, c < G.1 → D13 c k = D c k := fun c k hc => by
    rw [r13, up2_ne (by omega), r12, up2_ne (by omega), r11, up2_ne (by omega), r10, up2_ne (by omega), r9, up2_ne (by omega), r3]
    unfold mm_zero
    rw [if_neg (by omega)]
    exact z17 c k hc
  have h6 : Sh G6 := by rw [r6, r1]; exact Sh.hi g1 h15.push
  have g6 : (G6.1, G6.2.1, up2 G6.2.2 7 n G.1) = evG G 7 n := by rw [r6, r1, e15]; rfl
  have ev6 : isEv G6 7 G.1 := by
    have := evG_i (G := G) (ci := 7) (n := n) g1
    rw [← g6] at this
    obtain ⟨a1, a2, a3, a4, a5⟩ := this
    refine ⟨a1, a2, a3, a4, ?_⟩
    have a6 : up2 G6.2.2 7 n G.1 G.1 5 = G.1 + 1 := a5
    rw [up2_ne (by omega)] at a6
    exact a6
  have hp : Call E (d + 3) 0 0 mX11_happen [vR 2, vR (G.1)] G6 D13 (retVG (fun G24 D22 => Sh G24 ∧ P G24 D22)) := by
    refine w_X11_happen_k7 h6 ev6 ?_
    rw [k13 2 8 (by omega), hn]
    refine br_le (fun q => by omega) (fun _ => ⟨⟨n0, n1⟩, fun G9 r9' D9' r10' => ?_⟩)
    rw [g6] at r9'
    subst r9'
    refine rVG ⟨hG.evG, K D9' (fun c k hc hne => ?_) ?_ ?_ ?_ ?_ ?_ ?_⟩
    · rw [r10', up2_ne hne]; exact k13 c k hc
    · rw [r10', up2_same]
    · rw [r10', up2_ne (by omega), r13, up2_ne (by omega), r12, up2_ne (by omega), r11, up2_ne (by omega), r10, up2_ne (by omega), r9, up2_same]
    · rw [r10', up2_ne (by omega), r13, up2_ne (by omega), r12, up2_ne (by omega), r11, up2_ne (by omega), r10, up2_same]
    · rw [r10', up2_ne (by omega), r13, up2_ne (by omega), r12, up2_ne (by omega), r11, up2_same]
    · rw [r10', up2_ne (by omega), r13, up2_ne (by omega), r12, up2_same]
    · rw [r10', up2_ne (by omega), r13, up2_same]
  exact rVG ⟨h6, rVG ⟨h6, hp⟩⟩
theorem mk_ev8 (hG : Sh G) (hn : D 2 8 = n) (n0 : 0 ≤ n) (n1 : n < 80)
    (K : ∀ D', (∀ c k, c < G.1 → ¬ (c = 2 ∧ k = 8) → D' c k = D c k) → D' 2 8 = n + 1 → D' G.1 0 = n → D' G.1 1 = D 2 11 → D' G.1 2 = x3 → D' G.1 3 = x4 → D' G.1 4 = x5 → P (evG G 8 n) D') :
    ∀ G15 : mmG, G15 = mm_push G 8 0 → ∀ D17 : mmD, D17 = mm_zero D G.1 → Call E (d + 3) 1 20 mX9_init [vR (G.1), vI (D17 2 8), vI (D17 2 11), vI x3, vI x4, vI x5] G15 D17 (retVG (fun G20 D18 => Sh G20 ∧ Call E (d + 3) 0 0 mX11_happen [vR 2, vR (G.1)] G20 D18 (retVG (fun G24 D22 => Sh G24 ∧ P G24 D22)))) := by
  intro G15 e15 D17 e17
  have g1 := hG.1
  have h15 : Sh G15 := by rw [e15]; exact hG.push
  have e0 : isE0 G15 8 G.1 := by
    rw [e15]
    refine ⟨g1, by show G.1 < G.1 + 1; omega, ?_⟩
    show (if G.1 = G.1 then ((8 : Nat), (0 : Int)) else G.2.1 G.1) = _
    rw [if_pos rfl]
  have z17 : ∀ c k, c < G.1 → D17 c k = D c k := fun c k hc => by rw [e17]; unfold mm_zero; rw [if_neg (by omega)]
  rw [z17 2 8 (by omega), z17 2 11 (by omega), hn]
  refine w_X9_init_k8 h15 e0 (w_X2_init_k8 h15 e0 (fun G1 r1 D3 r3 G6 r6 D9 r9 D10 r10 D11 r11 D12 r12 D13 r13 => ?_))
  have g15 : G15.1 = G.1 + 1 := by rw [e15]; rfl
  have k13 : ∀ c k, c < G.1 → D13 c k = D c k := fun c k hc => by
    rw [r13, up2_ne (by omega), r12, up2_ne (by omega), r11, up2_ne (by omega), r10, up2_ne (by omega), r9, up2_ne (by omega), r3]
    unfold mm_zero
    rw [if_neg (by omega)]
    exact z17 c k hc
  have h6 : Sh G6 := by rw [r6, r1]; exact Sh.hi g1 h15.push
  have g6 : (G6.1, G6.2.1, up2 G6.2.2 7 n G.1) = evG G 8 n := by rw [r6, r1, e15]; rfl
  have ev6 : isEv G6 8 G.1 := by
    have := evG_i (G := G) (ci := 8) (n := n) g1
    rw [← g6] at this
    obtain ⟨a1, a2, a3, a4, a5⟩ := this
    refine ⟨a1, a2, a3, a4, ?_⟩
    have a6 : up2 G6.2.2 7 n G.1 G.1 5 = G.1 + 1 := a5
    rw [up2_ne (by omega)] at a6
    exact a6
  have hp : Call E (d + 3) 0 0 mX11_happen [vR 2, vR (G.1)] G6 D13 (retVG (fun G24 D22 => Sh G24 ∧ P G24 D22)) := by
    refine w_X11_happen_k8 h6 ev6 ?_
    rw [k13 2 8 (by omega), hn]
    refine br_le (fun q => by omega) (fun _ => ⟨⟨n0, n1⟩, fun G9 r9' D9' r10' => ?_⟩)
    rw [g6] at r9'
    subst r9'
    refine rVG ⟨hG.evG, K D9' (fun c k hc hne => ?_) ?_ ?_ ?_ ?_ ?_ ?_⟩
    · rw [r10', up2_ne hne]; exact k13 c k hc
    · rw [r10', up2_same]
    · rw [r10', up2_ne (by omega), r13, up2_ne (by omega), r12, up2_ne (by omega), r11, up2_ne (by omega), r10, up2_ne (by omega), r9, up2_same]
    · rw [r10', up2_ne (by omega), r13, up2_ne (by omega), r12, up2_ne (by omega), r11, up2_ne (by omega), r10, up2_same]
    · rw [r10', up2_ne (by omega), r13, up2_ne (by omega), r12, up2_ne (by omega), r11, up2_same]
    · rw [r10', up2_ne (by omega), r13, up2_ne (by omega), r12, up2_same]
    · rw [r10', up2_ne (by omega), r13, up2_same]
  exact rVG ⟨h6, rVG ⟨h6, hp⟩⟩
theorem c_happens {P : mmD → Prop} {x1 x2 : Int} (hG : Sh G) (hn : D 214 4 = n) (n0 : 0 ≤ n) (n1 : n < 80)
    (K : ∀ D', (∀ c k, ¬ (c = 214 ∧ k = 4) → ¬ (228 ≤ c ∧ c ≤ 232 ∧ k = n) → D' c k = D c k) → D' 214 4 = n + 1 → D' 228 n = x1 → D' 229 n = D 214 2 → D' 230 n = x2 → D' 231 n = x3 → D' 232 n = x4 → P D') : Call E d 0 0 mX12_happens [vR 214, vI x1, vI x2, vI x3, vI x4] G D (retV G P) := by
  refine w_X12_happens hG ?_
  rw [hn]
  refine ⟨⟨n0, n1⟩, fun D1 e1 => ?_⟩
  have a1 : D1 214 4 = n := by rw [e1, up2_ne (by omega)]; exact hn
  rw [a1]
  refine ⟨⟨n0, n1⟩, fun D2 e2 => ?_⟩
  have a2 : D2 214 4 = n := by rw [e2, up2_ne (by omega)]; exact a1
  rw [a2]
  refine ⟨⟨n0, n1⟩, fun D3 e3 => ?_⟩
  have a3 : D3 214 4 = n := by rw [e3, up2_ne (by omega)]; exact a2
  rw [a3]
  refine ⟨⟨n0, n1⟩, fun D4 e4 => ?_⟩
  have a4 : D4 214 4 = n := by rw [e4, up2_ne (by omega)]; exact a3
  rw [a4]
  refine ⟨⟨n0, n1⟩, fun D5 e5 D6 e6 => rV (K D6 (fun c k p q => ?_) ?_ ?_ ?_ ?_ ?_ ?_)⟩
  · rw [e6, up2_ne p, e5, up2_ne (by omega), e4, up2_ne (by omega), e3, up2_ne (by omega), e2, up2_ne (by omega), e1, up2_ne (by omega)]
  · rw [e6, up2_same, e5, up2_ne (by omega), a4]
  · rw [e6, up2_ne (by omega), e5, up2_ne (by omega), e4, up2_ne (by omega), e3, up2_ne (by omega), e2, up2_ne (by omega), e1, up2_same]
  · rw [e6, up2_ne (by omega), e5, up2_ne (by omega), e4, up2_ne (by omega), e3, up2_ne (by omega), e2, up2_same, e1, up2_ne (by omega)]
  · rw [e6, up2_ne (by omega), e5, up2_ne (by omega), e4, up2_ne (by omega), e3, up2_same]
  · rw [e6, up2_ne (by omega), e5, up2_ne (by omega), e4, up2_same]
  · rw [e6, up2_ne (by omega), e5, up2_same]
end Mk
/-- a call on both sides that may make an EVENT -/
def PairG (E : mmE) (d : Nat) (mc mr : mmM) (as : List mmV) (G : mmG) (D : mmD) : Prop :=
  Call E d 2 27 mc (vR 2 :: as) G D (retIG (fun x G1 D1 => Sh G1 ∧ Call E d 0 0 mr (vR 214 :: as) G1 D1 (retI G1 (fun y D2 => iv x = iv y ∧ Inv G1 D2))))
