section Split
variable {E : mmE} {d : Nat} {G : mmG} {D0 D : mmD} {s t x1 : Int}
def cpC (Db D' : mmD) (i j : Int) : Prop := D' (22 + 2 * j) 1 = Db (22 + 2 * i) 1 ∧ (∀ k, 0 ≤ k → k < 8 → D' (22 + 2 * j + 1) k = Db (22 + 2 * i + 1) k) ∧ D' (22 + 2 * j) 2 = Db (22 + 2 * i) 2 ∧ D' (22 + 2 * j) 3 = Db (22 + 2 * i) 3
def cpR (Db D' : mmD) (i j : Int) : Prop := D' 216 j = Db 216 i ∧ (∀ k, 0 ≤ k → k < Db 216 i → D' 217 (8 * j + k) = Db 217 (8 * i + k)) ∧ D' 218 j = Db 218 i ∧ D' 219 j = Db 219 i
theorem l_splitC {Q : mmQ} (hG : Sh G) (hs : 0 ≤ s ∧ s < t) (ht : t < 6) (h01 : ∀ m, 0 ≤ m → m < 10 → D (22 + 2 * (10 * s + m)) 3 = 0 ∨ D (22 + 2 * (10 * s + m)) 3 = 1)
    (K : ∀ D', (∀ c k, ¬ (22 + 20 * t ≤ c ∧ c < 42 + 20 * t ∧ ¬ (c % 2 = 0 ∧ k = 4)) → D' c k = D c k) → (∀ m, 0 ≤ m → m < 10 → cpC D D' (10 * s + m) (10 * t + m)) → Go E (d + 4) 2 27 mX11_split 43 [some (vR 2), some (vI s), some (vI t), some (vI 10), none, none] [] G D' Q) :
    ∀ (n : Nat) (D' : mmD) (m : Int), 10 - m = n → 0 ≤ m → m ≤ 10 → (∀ c k, ¬ (22 + 20 * t ≤ c ∧ c < 42 + 20 * t ∧ ¬ (c % 2 = 0 ∧ k = 4)) → D' c k = D c k) → (∀ m', 0 ≤ m' → m' < m → cpC D D' (10 * s + m') (10 * t + m')) → Go E (d + 4) 2 27 mX11_split 43 [some (vR 2), some (vI s), some (vI t), some (vI m), none, none] [] G D' Q := by
  intro n
  induction n with
  | zero =>
    intro D' m mn m0 m1 fr cp
    have e : m = 10 := by omega
    subst e
    exact K D' fr cp
  | succ n ih =>
    intro D' m mn m0 m1 fr cp
    refine w_X11_split_43 (kc := 0) (ks := 0) hG (br_le (fun g => by omega) (fun _ => ?_))
    rw [show s * 10 + m = 10 * s + m by omega, show t * 10 + m = 10 * t + m by omega]
    refine ⟨⟨by omega, by omega⟩, ⟨by omega, by omega⟩, c_copy hG (isW.of (by omega) (by omega)) (isW.of (by omega) (by omega)) (fun D16 k16 m16 l16 D18 e18 => ?_)⟩
    have f18 : D18 (22 + 2 * (10 * s + m)) 3 = D (22 + 2 * (10 * s + m)) 3 := by rw [e18, up2_ne (by omega), k16 _ _ (by omega) (by omega), fr _ _ (by omega)]
    rw [f18]
    refine ⟨h01 m m0 (by omega), fun D19 e19 => ih D19 (m + 1) (by omega) (by omega) (by omega) (fun c k q => ?_) (fun m' m0' m1' => ?_)⟩
    · rw [e19, up2_ne (by omega), e18, up2_ne (by omega), k16 c k (by omega) (by omega)]; exact fr c k q
    · by_cases e : m' = m
      · subst e
        refine ⟨?_, fun k k0 k8 => ?_, ?_, ?_⟩
        · rw [e19, up2_ne (by omega), e18, up2_ne (by omega), m16, fr _ _ (by omega)]
        · rw [e19, up2_ne (by omega), e18, up2_ne (by omega), l16 k k0 k8, fr _ _ (by omega)]
        · rw [e19, up2_ne (by omega), e18, up2_same, k16 _ _ (by omega) (by omega), fr _ _ (by omega)]
        · rw [e19, up2_same]
      · obtain ⟨a1, a2, a3, a4⟩ := cp m' m0' (by omega)
        have kx : ∀ c k, c ≠ 22 + 2 * (10 * t + m) → c ≠ 22 + 2 * (10 * t + m) + 1 → D19 c k = D' c k := fun c k p q => by rw [e19, up2_ne (by omega), e18, up2_ne (by omega), k16 c k (by omega) q]
        refine ⟨?_, fun k k0 k8 => ?_, ?_, ?_⟩
        · rw [kx _ _ (by omega) (by omega)]; exact a1
        · rw [kx _ _ (by omega) (by omega)]; exact a2 k k0 k8
        · rw [kx _ _ (by omega) (by omega)]; exact a3
        · rw [kx _ _ (by omega) (by omega)]; exact a4
theorem l_splitR {Q : mmQ} (hG : Sh G) (hs : 0 ≤ s ∧ s < t) (ht : t < 6) (hw : ∀ m, 0 ≤ m → m < 10 → (0 ≤ D 216 (10 * s + m) ∧ D 216 (10 * s + m) ≤ 8) ∧ (D 219 (10 * s + m) = 0 ∨ D 219 (10 * s + m) = 1))
    (K : ∀ D', (∀ c k, ¬ (c = 214 ∧ k = 35) → c ≠ 235 → ¬ (216 ≤ c ∧ c ≤ 219 ∧ c ≠ 217 ∧ 10 * t ≤ k ∧ k < 10 * t + 10) → ¬ (c = 217 ∧ 80 * t ≤ k ∧ k < 80 * t + 80) → D' c k = D c k) → (∀ m, 0 ≤ m → m < 10 → cpR D D' (10 * s + m) (10 * t + m)) → Go E (d + 4) 0 0 mX12_split 38 [some (vR 214), some (vI s), some (vI t), some (vI 10)] [] G D' Q) :
    ∀ (n : Nat) (D' : mmD) (m : Int), 10 - m = n → 0 ≤ m → m ≤ 10 → (∀ c k, ¬ (c = 214 ∧ k = 35) → c ≠ 235 → ¬ (216 ≤ c ∧ c ≤ 219 ∧ c ≠ 217 ∧ 10 * t ≤ k ∧ k < 10 * t + 10) → ¬ (c = 217 ∧ 80 * t ≤ k ∧ k < 80 * t + 80) → D' c k = D c k) → (∀ m', 0 ≤ m' → m' < m → cpR D D' (10 * s + m') (10 * t + m')) → Go E (d + 4) 0 0 mX12_split 38 [some (vR 214), some (vI s), some (vI t), some (vI m)] [] G D' Q := by
  intro n
  induction n with
  | zero =>
    intro D' m mn m0 m1 fr cp
    have e : m = 10 := by omega
    subst e
    exact K D' fr cp
  | succ n ih =>
    intro D' m mn m0 m1 fr cp
    obtain ⟨w1, w2⟩ := hw m m0 (by omega)
    have f216 : D' 216 (10 * s + m) = D 216 (10 * s + m) := fr _ _ (by omega) (by omega) (by omega) (by omega)
    refine w_X12_split_38 hG (br_le (fun g => by omega) (fun _ => c_takes hG rfl (by omega) (by omega) (by rw [f216]; exact w1) (fun D6 k6 m6 l6 => c_puts hG rfl (by omega) (by omega) (m6.trans f216) w1.1 w1.2 (fun D8 k8 m8 l8 => ⟨⟨by omega, by omega⟩, ⟨by omega, by omega⟩, fun D10 e10 => ⟨⟨by omega, by omega⟩, ⟨by omega, by omega⟩, ?_⟩⟩))))
    have f219 : D10 219 (10 * s + m) = D 219 (10 * s + m) := by rw [e10, up2_ne (by omega), k8 _ _ (by omega) (by omega), k6 _ _ (by omega) (by omega)]; exact fr _ _ (by omega) (by omega) (by omega) (by omega)
    rw [f219]
    refine ⟨w2, fun D11 e11 => ih D11 (m + 1) (by omega) (by omega) (by omega) (fun c k p1 p2 p3 p4 => ?_) (fun m' m0' m1' => ?_)⟩
    · rw [e11, up2_ne (by omega), e10, up2_ne (by omega), k8 c k (by omega) (by omega), k6 c k p1 p2]; exact fr c k p1 p2 p3 p4
    · by_cases e : m' = m
      · subst e
        refine ⟨?_, fun k k0 k8' => ?_, ?_, ?_⟩
        · rw [e11, up2_ne (by omega), e10, up2_ne (by omega)]; exact m8
        · rw [e11, up2_ne (by omega), e10, up2_ne (by omega), l8 k k0 k8', l6 k k0 (by omega)]; exact fr _ _ (by omega) (by omega) (by omega) (by omega)
        · rw [e11, up2_ne (by omega), e10, up2_same, k8 _ _ (by omega) (by omega), k6 _ _ (by omega) (by omega)]; exact fr _ _ (by omega) (by omega) (by omega) (by omega)
        · rw [e11, up2_same]
      · obtain ⟨a1, a2, a3, a4⟩ := cp m' m0' (by omega)
        have kx : ∀ c k, c ≠ 214 → c ≠ 235 → ¬ (216 ≤ c ∧ c ≤ 219 ∧ c ≠ 217 ∧ k = 10 * t + m) → ¬ (c = 217 ∧ 8 * (10 * t + m) ≤ k ∧ k < 8 * (10 * t + m) + 8) → D11 c k = D' c k := fun c k p1 p2 p3 p4 => by rw [e11, up2_ne (by omega), e10, up2_ne (by omega), k8 c k (by omega) p4, k6 c k (by omega) p2]
        obtain ⟨w1', -⟩ := hw m' m0' (by omega)
        refine ⟨?_, fun k k0 k8' => ?_, ?_, ?_⟩
        · rw [kx _ _ (by omega) (by omega) (by omega) (by omega)]; exact a1
        · rw [kx _ _ (by omega) (by omega) (by omega) (by omega)]; exact a2 k k0 k8'
        · rw [kx _ _ (by omega) (by omega) (by omega) (by omega)]; exact a3
        · rw [kx _ _ (by omega) (by omega) (by omega) (by omega)]; exact a4
theorem Inv.split {D12 : mmD} {n : Int} (hI : Inv G D0) (ht : D0 214 1 = t) (a : 0 ≤ x1) (b : x1 < t) (t6 : t < 6) (hn : D0 214 4 = n) (n80 : n < 80)
    (kk : ∀ c k, c < G.1 → ¬ (c = 2 ∧ (k = 3 ∨ k = 8)) → ¬ (c = 5 ∧ (k = 2 * t ∨ k = 2 * t + 1)) → ¬ (22 + 20 * t ≤ c ∧ c < 42 + 20 * t ∧ ¬ (c % 2 = 0 ∧ k = 4)) → ¬ (c = 214 ∧ (k = 1 ∨ k = 4 ∨ k = 35)) → c ≠ 235 → ¬ ((c = 221 ∨ c = 222) ∧ k = t) → ¬ (216 ≤ c ∧ c ≤ 219 ∧ c ≠ 217 ∧ 10 * t ≤ k ∧ k < 10 * t + 10) → ¬ (c = 217 ∧ 80 * t ≤ k ∧ k < 80 * t + 80) → ¬ (228 ≤ c ∧ c ≤ 232 ∧ k = n) → D12 c k = D0 c k)
    (y1 : D12 214 1 = t + 1) (y2 : D12 2 3 = t + 1) (y8 : D12 2 8 = n + 1) (m12 : D12 214 4 = n + 1)
    (cC : ∀ m, 0 ≤ m → m < 10 → cpC D0 D12 (10 * x1 + m) (10 * t + m)) (cR : ∀ m, 0 ≤ m → m < 10 → cpR D0 D12 (10 * x1 + m) (10 * t + m))
    (e1' : D12 221 t = x1) (e2' : D12 222 t = D0 214 2) (e3' : D12 5 (2 * t) = x1) (e4' : D12 5 (2 * t + 1) = D0 214 2)
    (n0 : D12 228 n = 3) (n1 : D12 G.1 0 = n) (n2 : D12 G.1 1 = D12 229 n) (n3 : D12 G.1 2 = D12 230 n) (n4 : D12 G.1 3 = D12 231 n) (n5 : D12 G.1 4 = D12 232 n) (n6 : 0 ≤ D12 229 n ∧ D12 229 n ≤ 9999) : Inv (evG G 8 n) D12 := by
  obtain ⟨hG, hs, q3, q4, q5, -⟩ := id hI
  have g1 := hG.1
  have s4 := hs.2.2.2.1
  refine hI.ev rfl hn (Or.inr (Or.inr (Or.inl ⟨rfl, rfl⟩))) ?_ m12 (q3.keep (fun k => kk _ _ (by omega) (by omega) (by omega) (by omega) (by omega) (by omega) (by omega) (by omega) (by omega) (by omega)) (fun k => kk _ _ (by omega) (by omega) (by omega) (by omega) (by omega) (by omega) (by omega) (by omega) (by omega) (by omega))) ?_ ?_ (fun c k hc => kk _ _ (by omega) (by omega) (by omega) (by omega) (by omega) (by omega) (by omega) (by omega) (by omega) (by omega)) n0 n1 n2 n3 n4 n5 n6
  · unfold i_sc at hs ⊢
    have c2 : ∀ k, k ≠ 3 → k ≠ 8 → D12 2 k = D0 2 k := fun k p q => kk _ _ (by omega) (by omega) (by omega) (by omega) (by omega) (by omega) (by omega) (by omega) (by omega) (by omega)
    have c3 : ∀ k, 1 ≤ k → k ≤ 9 → k ≠ 1 → k ≠ 4 → D12 214 k = D0 214 k := fun k p q r u => kk _ _ (by omega) (by omega) (by omega) (by omega) (by omega) (by omega) (by omega) (by omega) (by omega) (by omega)
    rw [y1, y2, y8, m12, c2 11 (by omega) (by omega), c2 6 (by omega) (by omega), c2 10 (by omega) (by omega), c2 15 (by omega) (by omega), c2 1 (by omega) (by omega), c2 13 (by omega) (by omega), c2 12 (by omega) (by omega), c3 2 (by omega) (by omega) (by omega) (by omega), c3 3 (by omega) (by omega) (by omega) (by omega), c3 5 (by omega) (by omega) (by omega) (by omega), c3 6 (by omega) (by omega) (by omega) (by omega), c3 7 (by omega) (by omega) (by omega) (by omega), c3 8 (by omega) (by omega) (by omega) (by omega), c3 9 (by omega) (by omega) (by omega) (by omega)]
    omega
  · intro j j0 j1
    by_cases hj : 10 * t ≤ j ∧ j < 10 * t + 10
    · obtain ⟨a1, a2, a3, a4⟩ := cC (j - 10 * t) (by omega) (by omega)
      obtain ⟨r1, r2, r3, r4⟩ := cR (j - 10 * t) (by omega) (by omega)
      rw [show 10 * t + (j - 10 * t) = j by omega] at a1 a2 a3 a4 r1 r2 r3 r4
      obtain ⟨w1, w4, w5, w6, -⟩ := q4 (10 * x1 + (j - 10 * t)) (by omega) (by omega)
      obtain ⟨-, -, -, -, w7⟩ := q4 j j0 j1
      unfold i_w1
      rw [a1, a3, a4, r1, r3, r4, kk (22 + 2 * j) 4 (by omega) (by omega) (by omega) (by omega) (by omega) (by omega) (by omega) (by omega) (by omega) (by omega), kk 220 j (by omega) (by omega) (by omega) (by omega) (by omega) (by omega) (by omega) (by omega) (by omega) (by omega)]
      refine ⟨w1, fun k k0 k1 => ?_, w5, w6, w7⟩
      rw [a2 k k0 (by omega), r2 k k0 k1]
      exact w4 k k0 k1
    · exact (q4 j j0 j1).keep (fun k => kk _ _ (by omega) (by omega) (by omega) (by omega) (by omega) (by omega) (by omega) (by omega) (by omega) (by omega)) (fun k => kk _ _ (by omega) (by omega) (by omega) (by omega) (by omega) (by omega) (by omega) (by omega) (by omega) (by omega)) (kk _ _ (by omega) (by omega) (by omega) (by omega) (by omega) (by omega) (by omega) (by omega) (by omega) (by omega)) (fun k _ _ => kk _ _ (by omega) (by omega) (by omega) (by omega) (by omega) (by omega) (by omega) (by omega) (by omega) (by omega)) (kk _ _ (by omega) (by omega) (by omega) (by omega) (by omega) (by omega) (by omega) (by omega) (by omega) (by omega)) (kk _ _ (by omega) (by omega) (by omega) (by omega) (by omega) (by omega) (by omega) (by omega) (by omega) (by omega)) (kk _ _ (by omega) (by omega) (by omega) (by omega) (by omega) (by omega) (by omega) (by omega) (by omega) (by omega))
  · intro u u0' u1'
    rw [y1] at u1'
    by_cases hu : u = t
    · subst hu
      right
      rw [e1', e2', e3', e4']
      exact ⟨a, by omega, rfl, rfl⟩
    · rw [kk 221 u (by omega) (by omega) (by omega) (by omega) (by omega) (by omega) (by omega) (by omega) (by omega) (by omega), kk 222 u (by omega) (by omega) (by omega) (by omega) (by omega) (by omega) (by omega) (by omega) (by omega) (by omega), kk 5 _ (by omega) (by omega) (by omega) (by omega) (by omega) (by omega) (by omega) (by omega) (by omega) (by omega), kk 5 _ (by omega) (by omega) (by omega) (by omega) (by omega) (by omega) (by omega) (by omega) (by omega) (by omega)]
      exact q5 u u0' (by omega)
theorem c_split {P : Int → mmG → mmD → Prop} {n : Int} (hI : Inv G D0) (ht : D0 214 1 = t) (hn : D0 214 4 = n) (h1 : rg x1) (a : 0 ≤ x1) (b : x1 < t) (t6 : t < 6) (n80 : n < 80)
    (K : ∀ D5 : mmD, (∀ c k, c < G.1 → ¬ (c = 2 ∧ (k = 3 ∨ k = 8)) → ¬ (c = 5 ∧ (k = 2 * t ∨ k = 2 * t + 1)) → ¬ (22 + 20 * t ≤ c ∧ c < 42 + 20 * t ∧ ¬ (c % 2 = 0 ∧ k = 4)) → D5 c k = D0 c k) → D5 2 3 = t + 1 → D5 2 8 = n + 1 → (∀ m, 0 ≤ m → m < 10 → cpC D0 D5 (10 * x1 + m) (10 * t + m)) → D5 5 (2 * t) = x1 → D5 5 (2 * t + 1) = D0 214 2 → D5 G.1 0 = n → D5 G.1 1 = D0 214 2 → D5 G.1 2 = t → D5 G.1 3 = -5 → D5 G.1 4 = -5 → P t (evG G 8 n) D5) :
    Call E (d + 4) 2 27 mX11_split [vR 2, vI x1] G D0 (retIG P) := by
  obtain ⟨hG, hs, q3, q4, -⟩ := id hI
  have s1 := hs.1
  have s2 := hs.2.1
  have s4 := hs.2.2.2.1
  have g1 := hG.1
  clear q3
  refine w_X11_split (kc := 0) (ks := 0) hG (c_isTongue hI h1 (fun _ _ => n_t ?_) (fun g => by omega))
  rw [s1.1, s4.1, ht, hn]
  refine br_le (fun g => by omega) (fun g => br_lt (fun g' => ?_) (fun g' => by omega))
  refine w_X11_newTongue hG ?_
  rw [s1.1, ht]
  refine br_le (fun b => by omega) (fun _ => ⟨⟨by omega, by omega⟩, fun D1 e1 => ?_⟩)
  have z1 : D1 2 3 = t := by rw [e1, up2_ne (by omega), s1.1]; exact ht
  rw [z1]
  refine ⟨⟨by omega, by omega⟩, fun D2 e2 D3 e3 => rI ?_⟩
  have z2 : D2 2 3 = t := by rw [e2, up2_ne (by omega)]; exact z1
  have z3 : D3 2 3 = t + 1 := by rw [e3, up2_same, z2]
  rw [z3, show t + 1 - 1 = t by omega]
  have k3 : ∀ c k, ¬ (c = 2 ∧ k = 3) → ¬ (c = 5 ∧ (k = 2 * t ∨ k = 2 * t + 1)) → D3 c k = D0 c k := fun c k p q => by rw [e3, up2_ne p, e2, up2_ne (by omega), e1, up2_ne (by omega)]
  have t5a : D3 5 (2 * t) = x1 := by rw [e3, up2_ne (by omega), e2, up2_ne (by omega), e1, up2_same]
  have t5b : D3 5 (2 * t + 1) = D0 214 2 := by rw [e3, up2_ne (by omega), e2, up2_same]; exact s2.1
  clear e3 e2 e1 z1 z2
  refine l_splitC hG ⟨a, b⟩ (by omega) (fun m m0 m1 => ?_) (fun D4 k4 c4 => ?_) 10 D3 0 (by omega) (by omega) (by omega) (fun _ _ _ => rfl) (fun m' m0 m1 => by omega)
  · obtain ⟨-, -, -, w6, -⟩ := q4 (10 * x1 + m) (by omega) (by omega)
    rw [k3 _ _ (by omega) (by omega), w6.1]; exact w6.2
  have kc4 : ∀ c k, ¬ (22 + 20 * t ≤ c ∧ c < 42 + 20 * t ∧ ¬ (c % 2 = 0 ∧ k = 4)) → ¬ (c = 2 ∧ k = 3) → ¬ (c = 5 ∧ (k = 2 * t ∨ k = 2 * t + 1)) → D4 c k = D0 c k := fun c k p q r => by rw [k4 c k p, k3 c k q r]
  refine w_X11_split_43 (kc := 0) (ks := 0) hG (br_le (fun _ => ?_) (fun q => by omega))
  refine mk_ev8 hG (n := n) (by rw [kc4 _ _ (by omega) (by omega) (by omega), s4.1]; exact hn) (by omega) g' (fun D5 k5 m5 v0 v1 v2 v3 v4 => rIG' (K D5 (fun c k p1 p2 p3 p4 => ?_) ?_ m5 (fun m m0 m1 => ?_) ?_ ?_ v0 ?_ v2 v3 v4))
  · rw [k5 c k p1 (by omega), kc4 c k p4 (by omega) p3]
  · rw [k5 _ _ (by omega) (by omega), k4 _ _ (by omega)]; exact z3
  · obtain ⟨a1, a2, a3, a4⟩ := c4 m m0 m1
    refine ⟨?_, fun k k0 k1 => ?_, ?_, ?_⟩
    · rw [k5 _ _ (by omega) (by omega), a1, k3 _ _ (by omega) (by omega)]
    · rw [k5 _ _ (by omega) (by omega), a2 k k0 k1, k3 _ _ (by omega) (by omega)]
    · rw [k5 _ _ (by omega) (by omega), a3, k3 _ _ (by omega) (by omega)]
    · rw [k5 _ _ (by omega) (by omega), a4, k3 _ _ (by omega) (by omega)]
  · rw [k5 _ _ (by omega) (by omega), k4 _ _ (by omega)]; exact t5a
  · rw [k5 _ _ (by omega) (by omega), k4 _ _ (by omega)]; exact t5b
  · rw [v1, kc4 _ _ (by omega) (by omega) (by omega)]; exact s2.1
theorem r_split {P : Int → mmD → Prop} {n : Int} (hG : Sh G) (hr : ri D) (ht : D 214 1 = t) (hn : D 214 4 = n) (h1 : rg x1) (a : 0 ≤ x1) (b : x1 < t) (t6 : t < 6) (n0 : 0 ≤ n) (n80 : n < 80) (h01 : ∀ m, 0 ≤ m → m < 10 → D 219 (10 * x1 + m) = 0 ∨ D 219 (10 * x1 + m) = 1)
    (K : ∀ D12 : mmD, (∀ c k, ¬ (c = 214 ∧ (k = 1 ∨ k = 4 ∨ k = 35)) → c ≠ 235 → ¬ ((c = 221 ∨ c = 222) ∧ k = t) → ¬ (216 ≤ c ∧ c ≤ 219 ∧ c ≠ 217 ∧ 10 * t ≤ k ∧ k < 10 * t + 10) → ¬ (c = 217 ∧ 80 * t ≤ k ∧ k < 80 * t + 80) → ¬ (228 ≤ c ∧ c ≤ 232 ∧ k = n) → D12 c k = D c k) → D12 214 1 = t + 1 → D12 214 4 = n + 1 → (∀ m, 0 ≤ m → m < 10 → cpR D D12 (10 * x1 + m) (10 * t + m)) → D12 221 t = x1 → D12 222 t = D 214 2 → D12 228 n = 3 → D12 229 n = D 214 2 → D12 230 n = t → D12 231 n = -5 → D12 232 n = -5 → P t D12) :
    Call E (d + 4) 0 0 mX12_split [vR 214, vI x1] G D (retI G P) := by
  refine w_X12_split hG (c_rTongue hG hr h1 (fun _ _ => n_t ?_) (fun q => by omega))
  rw [ht, hn]
  refine br_eq (fun q => by omega) (fun _ => br_ne (fun _ => ?_) (fun q => by omega))
  refine l_splitR hG ⟨a, b⟩ (by omega) (fun m m0 m1 => ⟨hr.2.2.1 _ (by omega) (by omega), h01 m m0 m1⟩) (fun D6 k6 c6 => ?_) 10 D 0 (by omega) (by omega) (by omega) (fun _ _ _ _ _ _ => rfl) (fun m' m0 m1 => by omega)
  refine w_X12_split_38 hG (br_le (fun _ => ⟨⟨by omega, by omega⟩, fun F1 f1 => ⟨⟨by omega, by omega⟩, fun F2 f2 F3 f3 => ?_⟩⟩) (fun q => by omega))
  have kF : ∀ c k, ¬ (c = 221 ∧ k = t) → ¬ (c = 222 ∧ k = t) → ¬ (c = 214 ∧ k = 1) → F3 c k = D6 c k := fun c k p q r => by rw [f3, up2_ne r, f2, up2_ne q, f1, up2_ne p]
  have z1 : F3 214 1 = t + 1 := by rw [f3, up2_same, f2, up2_ne (by omega), f1, up2_ne (by omega), k6 _ _ (by omega) (by omega) (by omega) (by omega), ht]
  have z2 : F3 221 t = x1 := by rw [f3, up2_ne (by omega), f2, up2_ne (by omega), f1, up2_same]
  have z3 : F3 222 t = D 214 2 := by rw [f3, up2_ne (by omega), f2, up2_same, f1, up2_ne (by omega)]; exact k6 _ _ (by omega) (by omega) (by omega) (by omega)
  clear f1 f2 f3
  have m214 : ∀ k, k ≠ 1 → k ≠ 35 → F3 214 k = D 214 k := fun k p q => by rw [kF _ _ (by omega) (by omega) (by omega)]; exact k6 _ _ (by omega) (by omega) (by omega) (by omega)
  refine c_happens hG (n := n) (by rw [m214 4 (by omega) (by omega)]; exact hn) n0 n80 (fun D12 k12 m12 u0 u1 u2 u3 u4 => rI (K D12 (fun c k p1 p2 p3 p4 p5 p6 => ?_) ?_ m12 (fun m m0 m1 => ?_) ?_ ?_ u0 ?_ u2 u3 u4))
  · rw [k12 c k (by omega) p6, kF c k (by omega) (by omega) (by omega), k6 c k (by omega) p2 p4 p5]
  · rw [k12 _ _ (by omega) (by omega)]; exact z1
  · obtain ⟨r1, r2, r3, r4⟩ := c6 m m0 m1
    refine ⟨?_, fun k k0 k1 => ?_, ?_, ?_⟩
    · rw [k12 _ _ (by omega) (by omega), kF _ _ (by omega) (by omega) (by omega)]; exact r1
    · rw [k12 _ _ (by omega) (by omega), kF _ _ (by omega) (by omega) (by omega)]; exact r2 k k0 k1
    · rw [k12 _ _ (by omega) (by omega), kF _ _ (by omega) (by omega) (by omega)]; exact r3
    · rw [k12 _ _ (by omega) (by omega), kF _ _ (by omega) (by omega) (by omega)]; exact r4
  · rw [k12 _ _ (by omega) (by omega)]; exact z2
  · rw [k12 _ _ (by omega) (by omega)]; exact z3
  · rw [u1]; exact m214 2 (by omega) (by omega)
theorem p_split (hI : Inv G D0) (h1 : rg x1) : PairG E (d + 4) mX11_split mX12_split [vI x1] G D0 := by
  obtain ⟨hG, hs, -, q4, -⟩ := id hI
  have s1 := hs.1
  have s2 := hs.2.1
  have s4 := hs.2.2.2.1
  have g1 := hG.1
  by_cases hc : 0 ≤ x1 ∧ x1 < D0 214 1 ∧ D0 214 1 < 6 ∧ D0 214 4 < 80
  · obtain ⟨a, b, t6, n80⟩ := hc
    refine c_split hI rfl rfl h1 a b t6 n80 (fun D5 k5 y2 y8 cC e3 e4 v0 v1 v2 v3 v4 => ⟨hG.evG, ?_⟩)
    generalize ht : D0 214 1 = t at *
    generalize hn : D0 214 4 = n at *
    have kc : ∀ c k, 142 ≤ c → c < G.1 → D5 c k = D0 c k := fun c k p q => k5 c k q (by omega) (by omega) (by omega)
    have ri5 : ri D5 := hI.ri.keep (kc _ _ (by omega) (by omega)) (kc _ _ (by omega) (by omega)) (fun k => kc _ _ (by omega) (by omega)) (fun k => kc _ _ (by omega) (by omega))
    refine r_split hG.evG ri5 (by rw [kc _ _ (by omega) (by omega)]; exact ht) (by rw [kc _ _ (by omega) (by omega)]; exact hn) h1 a b t6 (by omega) n80 (fun m m0 m1 => ?_) (fun D12 k12 y1 m12 cR e1 e2 u0 u1 u2 u3 u4 => ⟨rfl, ?_⟩)
    · rw [kc _ _ (by omega) (by omega)]
      exact (q4 (10 * x1 + m) (by omega) (by omega)).2.2.2.1.2
    · have kC : ∀ c k, c < 214 → D12 c k = D5 c k := fun c k p => k12 c k (by omega) (by omega) (by omega) (by omega) (by omega) (by omega)
      have kE : ∀ k, D12 G.1 k = D5 G.1 k := fun k => k12 _ k (by omega) (by omega) (by omega) (by omega) (by omega) (by omega)
      have d2 : D5 214 2 = D0 214 2 := kc _ _ (by omega) (by omega)
      refine Inv.split hI ht a b t6 hn n80 (fun c k p1 p2 p3 p4 p5 p6 p7 p8 p9 p10 => ?_) y1 ?_ ?_ m12 (fun m m0 m1 => ?_) (fun m m0 m1 => ?_) e1 ?_ ?_ ?_ u0 ?_ ?_ ?_ ?_ ?_ ?_
      · rw [k12 c k p5 p6 p7 p8 p9 p10, k5 c k p1 p2 p3 p4]
      · rw [kC _ _ (by omega)]; exact y2
      · rw [kC _ _ (by omega)]; exact y8
      · obtain ⟨a1, a2, a3, a4⟩ := cC m m0 m1
        refine ⟨?_, fun k k0 k1 => ?_, ?_, ?_⟩
        · rw [kC _ _ (by omega)]; exact a1
        · rw [kC _ _ (by omega)]; exact a2 k k0 k1
        · rw [kC _ _ (by omega)]; exact a3
        · rw [kC _ _ (by omega)]; exact a4
      · obtain ⟨r1, r2, r3, r4⟩ := cR m m0 m1
        refine ⟨?_, fun k k0 k1 => ?_, ?_, ?_⟩
        · rw [r1]; exact kc _ _ (by omega) (by omega)
        · rw [r2 k k0 (by rw [kc _ _ (by omega) (by omega)]; exact k1)]; exact kc _ _ (by omega) (by omega)
        · rw [r3]; exact kc _ _ (by omega) (by omega)
        · rw [r4]; exact kc _ _ (by omega) (by omega)
      · rw [e2, d2]
      · rw [kC _ _ (by omega)]; exact e3
      · rw [kC _ _ (by omega)]; exact e4
      · rw [kE]; exact v0
      · rw [kE, v1, u1, d2]
      · rw [kE, v2, u2]
      · rw [kE, v3, u3]
      · rw [kE, v4, u4]
      · rw [u1, d2]; exact s2.2
  · have no : ∀ v : Int, ((x1 < 0 ∨ D0 214 1 ≤ x1) → v = -1) → (0 ≤ x1 → x1 < D0 214 1 → v = -4) → Call E (d + 4) 0 0 mX12_split [vR 214, vI x1] G D0 (retI G (fun y D2 => iv v = iv y ∧ Inv G D2)) := fun v v1 v2 =>
      w_X12_split hG (c_rTongue hG hI.ri h1 (fun a b => n_t (br_eq (fun g => rI ⟨by rw [v2 a b], hI⟩) (fun g => br_ne (fun g' => by omega) (fun g' => rI ⟨by rw [v2 a b], hI⟩)))) (fun q => n_f (rI ⟨by rw [v1 q], hI⟩)))
    refine w_X11_split (kc := 0) (ks := 0) hG (c_isTongue hI h1 (fun a b => n_t ?_) (fun g => n_f (rIG' ⟨hG, no _ (fun _ => rfl) (by omega)⟩)))
    rw [s1.1, s4.1]
    exact br_le (fun g => rIG' ⟨hG, no _ (by omega) (fun _ _ => rfl)⟩) (fun g => br_lt (fun g' => by omega) (fun g' => rIG' ⟨hG, no _ (by omega) (fun _ _ => rfl)⟩))
end Split
