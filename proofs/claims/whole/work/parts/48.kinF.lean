/-! ===== KIN SETS once more: what else stays (printed by mk_frame.py out of parts 19 and 25) ===== -/
/-- memories alike, and alike to K but in the tables of COST -/
def agz (K D0 D : mmD) : Prop := ag D0 D ∧ ∀ c k, c ≠ 10 → c ≠ 237 → D c k = K c k
section KinF
variable {E : mmE} {d : Nat} {G : mmG} {K D0 D : mmD} {P : Int → mmD → Prop} {t m x1 x2 x3 x4 ja jb : Int}
theorem c_kinF (hI : Inv G D0) (ha : agz K D0 D) (a0 : 0 ≤ ja) (a1 : ja < 60) (b0 : 0 ≤ jb) (b1 : jb < 60) (h1 : kinP D0 ja jb → ∀ D', agz K D0 D' → P 1 D') (h0 : ¬ kinP D0 ja jb → ∀ D', agz K D0 D' → P 0 D') : Call E (d + 3) 0 0 mX11_areKin [vR 2, vR (22 + 2 * ja), vR (22 + 2 * jb)] G D (retI G P) := by
  have hI' := hI.ag ha.1
  have w1 := (hI'.2.2.2.1 ja a0 a1).1
  have w2 := (hI'.2.2.2.1 jb b0 b1).1
  have r216 : ∀ k, D 216 k = D0 216 k := fun k => ha.1.a (by omega) (by omega)
  have e := ecw_rg hI a0 a1 b0 b1
  have l8 := hI.2.1.2.2.2.2.2.2.2.1
  refine w_X11_areKin hI.1 (isW.of a0 a1) (isW.of b0 b1) (c_lw hI ha.1 a0 a1 b0 b1 (fun D' h2 fr _ => ?_))
  have l1 : D' 2 13 = D0 214 8 := (h2 2 13 (by unfold pers; omega)).trans l8.1
  rw [l1, w1.1, w2.1]
  have mx : (if iv (D 216 ja) < iv (D 216 jb) then D 216 jb else D 216 ja) = max (D0 216 ja) (D0 216 jb) := by
    rw [← r216, ← r216]
    have := iv_lt (a := D 216 ja) (b := D 216 jb) (by omega) (by omega) (by omega) (by omega)
    simp only [this]
    split <;> omega
  rw [mx]
  have r := mul480 (a := D0 214 8) (b := max (D0 216 ja) (D0 216 jb)) (by omega) (by omega) (by rw [← r216, ← r216]; omega) (by rw [← r216, ← r216]; omega)
  refine br_lt (fun g => rI (h0 (fun q => ?_) D' ⟨h2, fun c k p q => by rw [fr c k p]; exact ha.2 c k p q⟩)) (fun g => rI (h1 ?_ D' ⟨h2, fun c k p q => by rw [fr c k p]; exact ha.2 c k p q⟩))
  · unfold kinP at q; omega
  · unfold kinP; omega
theorem c_rkinF (hI : Inv G D0) (ha : agz K D0 D) (eja : 10 * x1 + x2 = ja) (ejb : 10 * x3 + x4 = jb) (a0 : 0 ≤ ja) (a1 : ja < 60) (b0 : 0 ≤ jb) (b1 : jb < 60) (h1 : kinP D0 ja jb → ∀ D', agz K D0 D' → P 1 D') (h0 : ¬ kinP D0 ja jb → ∀ D', agz K D0 D' → P 0 D') : Call E (d + 3) 0 0 mX12_areKin [vR 214, vI x1, vI x2, vI x3, vI x4] G D (retI G P) := by
  have hI' := hI.ag ha.1
  have w1 := (hI'.w8 a0 a1).1
  have w2 := (hI'.w8 b0 b1).1
  have r216 : ∀ k, D 216 k = D0 216 k := fun k => ha.1.a (by omega) (by omega)
  have e := ecw_rg hI a0 a1 b0 b1
  have l8 := hI.2.1.2.2.2.2.2.2.2.1
  refine w_X12_areKin hI.1 ⟨by omega, by omega, c_rcost hI ha.1 eja ejb a0 a1 b0 b1 (fun D' h2 fr _ => ?_)⟩
  have l1 : D' 214 8 = D0 214 8 := h2.s (by omega) (by omega)
  rw [l1, eja, ejb]
  have r1 := mul480 (a := D0 214 8) (b := D 216 ja) (by omega) (by omega) w1.1 w1.2
  have r2 := mul480 (a := D0 214 8) (b := D 216 jb) (by omega) (by omega) w2.1 w2.2
  refine br_le (fun f => br_lt (fun g => rI (h0 (fun q => ?_) D' ⟨h2, fun c k p q => by rw [fr c k q]; exact ha.2 c k p q⟩)) (fun g => rI (h1 ?_ D' ⟨h2, fun c k p q => by rw [fr c k q]; exact ha.2 c k p q⟩))) (fun f => br_lt (fun g => rI (h0 (fun q => ?_) D' ⟨h2, fun c k p q => by rw [fr c k q]; exact ha.2 c k p q⟩)) (fun g => rI (h1 ?_ D' ⟨h2, fun c k p q => by rw [fr c k q]; exact ha.2 c k p q⟩)))
  · unfold kinP at q; rw [← r216, ← r216, show max (D 216 ja) (D 216 jb) = D 216 jb by omega] at q; omega
  · unfold kinP; rw [← r216, ← r216, show max (D 216 ja) (D 216 jb) = D 216 jb by omega]; omega
  · unfold kinP at q; rw [← r216, ← r216, show max (D 216 ja) (D 216 jb) = D 216 ja by omega] at q; omega
  · unfold kinP; rw [← r216, ← r216, show max (D 216 ja) (D 216 jb) = D 216 ja by omega]; omega
theorem c_kinSetF (hI : Inv G D0) (ha : agz K D0 D) (hl : lst D0 t m) (h : ∀ x D', agz K D0 D' → 0 ≤ x → x < 64 → (∀ k, 0 ≤ k → (bt x k ↔ rch D0 m t k)) → P x D') : Call E (d + 4) 0 0 mX11_kinSet [vR 2, vI m, vI t] G D (retI G P) := by
  have hG := hI.1
  have s1 := hI.2.1.1
  have hl' := hl.1
  unfold hasW at hl'
  have tc : ∀ D', agz K D0 D' → D' 2 3 = D0 214 1 := fun D' hd => (hd.1 2 3 (by unfold pers; omega)).trans s1.1
  -- the inner loop
  have inner : ∀ (r n0 S : Int), 0 ≤ n0 → n0 < D0 214 1 → lst D0 n0 m → rch D0 m t n0 → ∀ (Q : mmQ), (∀ (D' : mmD) (R : Int), agz K D0 D' → 0 ≤ R → R < 64 → (∀ k, 0 ≤ k → bt R k → rch D0 m t k) → (∀ k, 0 ≤ k → bt S k → bt R k) → (∀ a b, 0 ≤ a → bt S a → lst D0 b m → kinP D0 (10 * a + m) (10 * b + m) → bt R b) → bt R t → Go E (d + 4) 0 0 mX11_kinSet 10 [some (vR 2), some (vI m), none, some (vI R), some (vI S), some (vI (r + 1)), none, none, none, none, none] [] G D' Q) →
      ∀ (n : Nat) (D : mmD) (R o : Int), agz K D0 D → D0 214 1 - o = n → 0 ≤ o → o ≤ D0 214 1 → 0 ≤ R → R < 64 → (∀ k, 0 ≤ k → bt R k → rch D0 m t k) → (∀ k, 0 ≤ k → bt S k → bt R k) → (∀ a b, 0 ≤ a → bt S a → a ≠ n0 → lst D0 b m → kinP D0 (10 * a + m) (10 * b + m) → bt R b) → (∀ b, b < o → lst D0 b m → kinP D0 (10 * n0 + m) (10 * b + m) → bt R b) → bt R t →
      Go E (d + 4) 0 0 mX11_kinSet 57 [some (vR 2), some (vI m), none, some (vI R), some (vI S), some (vI r), none, some (vR (22 + 2 * (10 * n0 + m))), some (vI o), none, none] [] G D Q := by
    intro r n0 S n00 n01 nl nr Q Kc n
    have nj := nl.j hI
    induction n with
    | zero =>
      intro D R o hd on o0 o1 R0 R1 q1 q2 q3 q4 q5
      refine w_X11_kinSet_57 hG ?_
      rw [tc D hd]
      refine br_le (fun _ => Kc D R hd R0 R1 q1 q2 (fun a b a0 sa lb kb => ?_) q5) (fun g => by omega)
      by_cases e : a = n0
      · subst e
        refine q4 b ?_ lb kb
        have := lb.1
        unfold hasW at this
        omega
      · exact q3 a b a0 sa e lb kb
    | succ n ih =>
      intro D R o hd on o0 o1 R0 R1 q1 q2 q3 q4 q5
      have skip : (lst D0 o m → kinP D0 (10 * n0 + m) (10 * o + m) → bt R o) → ∀ D', agz K D0 D' → Go E (d + 4) 0 0 mX11_kinSet 57 [some (vR 2), some (vI m), none, some (vI R), some (vI S), some (vI r), none, some (vR (22 + 2 * (10 * n0 + m))), some (vI (o + 1)), none, none] [] G D' Q := fun hs D' hd' =>
        ih D' R (o + 1) hd' (by omega) (by omega) (by omega) R0 R1 q1 q2 q3 (fun b hb lb kb => by
          by_cases e : b = o
          · subst e; exact hs lb kb
          · exact q4 b (by omega) lb kb) q5
      refine w_X11_kinSet_57 hG ?_
      rw [tc D hd]
      refine br_le (fun g => by omega) (fun _ => ?_)
      by_cases hb : bt R o
      · rw [tb_1 R0 (by omega) o0 (by omega) hb]
        exact c_listedA hI hd.1 (by unfold rg; omega) (by unfold rg; omega) (fun lo => n_t (b_f (skip (fun _ _ => hb) D hd))) (fun lo => n_t (b_f (skip (fun _ _ => hb) D hd)))
      · rw [tb_0 R0 (by omega) o0 (by omega) hb]
        refine c_listedA hI hd.1 (by unfold rg; omega) (by unfold rg; omega) (fun lo => n_f (b_t ⟨fun q => by omega, fun _ => ⟨fun q => ?_, fun _ => ?_⟩⟩)) (fun lo => n_f (b_t ⟨fun q => by omega, fun _ => ⟨fun _ => skip (fun q => absurd q lo) D hd, fun q => absurd rfl q⟩⟩))
        · have := lo.j hI; omega
        · have oj := lo.j hI
          refine c_kinF hI hd nj.1 nj.2 oj.1 oj.2 (fun kk D' hd' => b_t ?_) (fun kk D' hd' => b_f (skip (fun _ q => absurd q kk) D' hd'))
          obtain ⟨z1, z2, z3⟩ := or1 R0 R1 o0 (by omega)
          refine ih D' _ (o + 1) hd' (by omega) (by omega) (by omega) z2 z3 (fun k k0 hk => ?_) (fun k k0 hk => (z1 k k0).mpr (Or.inl (q2 k k0 hk))) (fun a b a0 sa e lb kb => (z1 b ?_).mpr (Or.inl (q3 a b a0 sa e lb kb))) (fun b hb' lb kb => ?_) ((z1 t (by omega)).mpr (Or.inl q5))
          · rcases (z1 k k0).mp hk with g | rfl
            · exact q1 k k0 g
            · exact rch.step nr lo kk
          · have := lb.1; unfold hasW at this; omega
          · have b0 : 0 ≤ b := by have := lb.1; unfold hasW at this; omega
            refine (z1 b b0).mpr ?_
            by_cases e : o = b
            · exact Or.inr e
            · exact Or.inl (q4 b (by omega) lb kb)
  have outer : ∀ (n : Nat) (D : mmD) (R S r : Int), agz K D0 D → D0 214 1 - r = n → 0 ≤ r → r ≤ D0 214 1 → 0 ≤ R → R < 64 → 0 ≤ S → S < 64 → (∀ k, 0 ≤ k → bt R k → rch D0 m t k) → (∀ k, 0 ≤ k → bt S k → bt R k) → (∀ a b, 0 ≤ a → bt S a → lst D0 b m → kinP D0 (10 * a + m) (10 * b + m) → bt R b) → bt R t → pcn S (D0 214 1).toNat = r →
      Go E (d + 4) 0 0 mX11_kinSet 10 [some (vR 2), some (vI m), none, some (vI R), some (vI S), some (vI r), none, none, none, none, none] [] G D (retI G P) := by
    intro n
    have done : ∀ (D : mmD) (R S : Int), agz K D0 D → 0 ≤ R → R < 64 → (∀ k, 0 ≤ k → bt R k → rch D0 m t k) → (∀ k, 0 ≤ k → bt R k → bt S k) → (∀ a b, 0 ≤ a → bt S a → lst D0 b m → kinP D0 (10 * a + m) (10 * b + m) → bt R b) → bt R t → P R D := by
      intro D R S hd R0 R1 q1 q2 q3 q5
      refine h R D hd R0 R1 (fun k k0 => ⟨q1 k k0, fun hk => ?_⟩)
      have cl : ∀ j, rch D0 m t j → bt R j := fun j hj => hj.ind (S := fun j => bt R j) q5 (fun a b h1 ih lb kb => q3 a b (h1.b hI).1 (q2 _ (h1.b hI).1 ih) lb kb)
      exact cl k hk
    induction n with
    | zero =>
      intro D R S r hd rn r0 r1 R0 R1 S0 S1 q1 q2 q3 q5 q6
      refine w_X11_kinSet_10 hG ?_
      rw [tc D hd]
      refine br_le (fun _ => rI (done D R S hd R0 R1 q1 (fun k k0 hk => ?_) q3 q5)) (fun g => by omega)
      have b := (q1 k k0 hk).b hI
      exact pcn_all (n := (D0 214 1).toNat) (by omega) k0 (by omega)
    | succ n ih =>
      intro D R S r hd rn r0 r1 R0 R1 S0 S1 q1 q2 q3 q5 q6
      refine w_X11_kinSet_10 hG ?_
      rw [tc D hd]
      refine br_le (fun g => by omega) (fun _ => br_eq (fun e => rI (done D R S hd R0 R1 q1 (fun k k0 hk => e ▸ hk) q3 q5)) (fun ne => ?_))
      have ar := andn_rg (x := R) (y := S) R0 (by omega) S0 (by omega)
      have pos : 0 < iand R (ixor S (-1)) := by
        by_cases z : iand R (ixor S (-1)) = 0
        · exfalso
          apply ne
          refine bt_ext 6 S0 (by rw [pw6]; exact S1) R0 (by rw [pw6]; exact R1) (fun k k0 k1 => ⟨q2 k k0, fun hk => ?_⟩)
          by_cases hs : bt S k
          · exact hs
          · have := (bt_andn (x := R) (y := S) (k := k) R0 (by omega) S0 (by omega)).mpr ⟨hk, hs⟩
            rw [z] at this
            exact absurd this bt_0
        · omega
      refine c_ntz hG pos (by omega) (fun k k0 k1 hk _ => ?_)
      obtain ⟨hk1, hk2⟩ := (bt_andn (x := R) (y := S) (k := k) R0 (by omega) S0 (by omega)).mp hk
      have rk := q1 k k0 hk1
      have kb := rk.b hI
      refine c_listedA hI hd.1 (by unfold rg; omega) (by unfold rg; omega) (fun _ => ?_) (fun q => absurd rk.l q)
      obtain ⟨z1, z2, z3⟩ := or1 S0 S1 k0 k1
      refine inner r k (ior S (ishl 1 k)) k0 kb.2.1 rk.l rk _ (fun D' R' hd' R0' R1' p1 p2 p3 p5 => ?_) (D0 214 1).toNat D R 0 hd (by omega) (by omega) (by omega) R0 R1 q1 (fun j j0 hj => ?_) (fun a b a0 sa e lb kb => ?_) (fun b hb lb => ?_) q5
      · refine ih D' R' _ (r + 1) hd' (by omega) (by omega) (by omega) R0' R1' z2 z3 p1 p2 p3 p5 ?_
        rw [pcn_up hk2 z1 _ k0, q6, cif_t (by omega)]
      · rcases (z1 j j0).mp hj with g | rfl
        · exact q2 j j0 g
        · exact hk1
      · rcases (z1 a a0).mp sa with g | g
        · exact q3 a b a0 g lb kb
        · exact absurd g.symm e
      · have := lb.1; unfold hasW at this; omega
  have s := sh_rg (j := t) (n := 6) (by omega) (by omega) (by omega)
  rw [pw6] at s
  have b1 : ∀ k, 0 ≤ k → (bt (ishl 1 t) k ↔ t = k) := fun k k0 => bt_1 (by omega) (by omega) k0
  refine w_X11_kinSet hG (outer (D0 214 1).toNat D (ishl 1 t) 0 0 ha (by omega) (by omega) (by omega) s.1 s.2 (by omega) (by omega) (fun k k0 hk => ?_) (fun k _ hk => absurd hk bt_0) (fun a b _ sa => absurd sa bt_0) ((b1 t (by omega)).mpr rfl) ?_)
  · have := (b1 k k0).mp hk
    exact this ▸ rch.self hl
  · have : ∀ n : Nat, pcn 0 n = 0 := fun n => by
      induction n with
      | zero => rfl
      | succ n ih => show pcn 0 n + cif (bt 0 n) 1 0 = 0; rw [ih, cif_f bt_0]; rfl
    exact this _
theorem c_setOfF (hI : Inv G D0) (ha : agz K D0 D) (hl : lst D0 t m) (h : ∀ x D', agz K D0 D' → 0 ≤ x → x < 64 → (∀ k, 0 ≤ k → (bt x k ↔ rch D0 m t k)) → P x D') : Call E (d + 4) 0 0 mX12_setOf [vR 214, vI m, vI t] G D (retI G P) := by
  have hG := hI.1
  have s1 := hI.2.1.1
  have hl' := hl.1
  unfold hasW at hl'
  have tc : ∀ D', agz K D0 D' → D' 214 1 = D0 214 1 := fun D' hd => hd.1.s (by omega) (by omega)
  -- what a pass holds, from the set at its beginning
  let ST : Int → Int → Int → Int → Int → Prop := fun R0 R mo a b => 0 ≤ R ∧ R < 64 ∧ (∀ k, 0 ≤ k → bt R k → rch D0 m t k) ∧ bt R t ∧ ((mo = 0 ∧ R = R0 ∧ (∀ a' b', 0 ≤ a' → (a' < a ∨ (a' = a ∧ b' < b)) → bt R a' → lst D0 b' m → kinP D0 (10 * a' + m) (10 * b' + m) → bt R b')) ∨ (mo = 1 ∧ pcn R0 6 < pcn R 6))
  have pass : ∀ (R0 : Int) (Q : mmQ), (∀ (D' : mmD) (R mo : Int), agz K D0 D' → ST R0 R mo (D0 214 1) 0 → Go E (d + 4) 0 0 mX12_setOf 7 [some (vR 214), some (vI m), none, some (vI R), some (vI mo), none, none, none] [] G D' Q) →
      ∀ (n : Nat) (D : mmD) (R mo a : Int), agz K D0 D → D0 214 1 - a = n → 0 ≤ a → a ≤ D0 214 1 → ST R0 R mo a 0 → Go E (d + 4) 0 0 mX12_setOf 18 [some (vR 214), some (vI m), none, some (vI R), some (vI mo), some (vI a), none, none] [] G D Q := by
    intro R0 Q Kc n
    induction n with
    | zero =>
      intro D R mo a hd an a0 a1 st
      refine w_X12_setOf_18 hG ?_
      rw [tc D hd]
      have e : a = D0 214 1 := by omega
      subst e
      exact br_le (fun _ => Kc D R mo hd st) (fun g => by omega)
    | succ n ih =>
      intro D R mo a hd an a0 a1 st
      have row : ∀ (n2 : Nat) (D : mmD) (R mo b : Int), agz K D0 D → D0 214 1 - b = n2 → 0 ≤ b → b ≤ D0 214 1 → ST R0 R mo a b → Go E (d + 4) 0 0 mX12_setOf 30 [some (vR 214), some (vI m), none, some (vI R), some (vI mo), some (vI a), some (vI b), none] [] G D Q := by
        intro n2
        induction n2 with
        | zero =>
          intro D R mo b hd bn b0 b1 st
          refine w_X12_setOf_30 hG ?_
          rw [tc D hd]
          refine br_le (fun _ => ih D R mo (a + 1) hd (by omega) (by omega) (by omega) ?_) (fun g => by omega)
          obtain ⟨r0, r1, r2, r3, r4⟩ := st
          refine ⟨r0, r1, r2, r3, ?_⟩
          rcases r4 with ⟨p1, p2, p3⟩ | p
          · refine Or.inl ⟨p1, p2, fun a' b' a0' hab sa lb kb => p3 a' b' a0' ?_ sa lb kb⟩
            have := lb.1
            unfold hasW at this
            omega
          · exact Or.inr p
        | succ n2 ih2 =>
          intro D R mo b hd bn b0 b1 st
          obtain ⟨r0, r1, r2, r3, r4⟩ := id st
          have skip : (bt R a → lst D0 b m → kinP D0 (10 * a + m) (10 * b + m) → bt R b) → ∀ D', agz K D0 D' → Go E (d + 4) 0 0 mX12_setOf 30 [some (vR 214), some (vI m), none, some (vI R), some (vI mo), some (vI a), some (vI (b + 1)), none] [] G D' Q := fun hs D' hd' => by
            refine ih2 D' R mo (b + 1) hd' (by omega) (by omega) (by omega) ⟨r0, r1, r2, r3, ?_⟩
            rcases r4 with ⟨p1, p2, p3⟩ | p
            · refine Or.inl ⟨p1, p2, fun a' b' a0' hab sa lb kb => ?_⟩
              by_cases e : a' = a ∧ b' = b
              · obtain ⟨rfl, rfl⟩ := e; exact hs sa lb kb
              · exact p3 a' b' a0' (by omega) sa lb kb
            · exact Or.inr p
          refine w_X12_setOf_30 hG ?_
          rw [tc D hd]
          refine br_le (fun g => by omega) (fun _ => ?_)
          by_cases ba : bt R a
          · rw [tb_1 r0 (by omega) a0 (by omega) ba]
            refine br_ne (fun g => absurd rfl g) (fun _ => ?_)
            by_cases bb : bt R b
            · rw [tb_1 r0 (by omega) b0 (by omega) bb]
              exact n_t (w_X12_setOf_73 hG (b_f (skip (fun _ _ _ => bb) D hd)))
            · rw [tb_0 r0 (by omega) b0 (by omega) bb]
              refine n_f (c_hasA hI hd.1 (by unfold rg; omega) (by unfold rg; omega) (fun lb => b_t (w_X12_setOf_73 hG (b_t ?_))) (fun lb => b_f (w_X12_setOf_73 hG (b_f (skip (fun _ q => absurd q lb) D hd)))))
              have la := (r2 a a0 ba).l
              have aj := la.j hI
              have bj := lb.j hI
              obtain ⟨z1, z2, z3⟩ := or1 r0 r1 b0 (by omega)
              have add : kinP D0 (10 * a + m) (10 * b + m) → ∀ D', agz K D0 D' → Go E (d + 4) 0 0 mX12_setOf 30 [some (vR 214), some (vI m), none, some (vI (ior R (ishl 1 b))), some (vI 1), some (vI a), some (vI (b + 1)), none] [] G D' Q := fun kk D' hd' => by
                refine ih2 D' _ 1 (b + 1) hd' (by omega) (by omega) (by omega) ⟨z2, z3, fun k k0 hk => ?_, (z1 t (by omega)).mpr (Or.inl r3), Or.inr ⟨rfl, ?_⟩⟩
                · rcases (z1 k k0).mp hk with g | rfl
                  · exact r2 k k0 g
                  · exact rch.step (r2 a a0 ba) lb kk
                · rw [pcn_up bb z1 6 b0, cif_t (by omega)]
                  rcases r4 with ⟨p1, p2, p3⟩ | ⟨p1, p2⟩
                  · rw [p2]; omega
                  · omega
              refine c_rkinF hI hd rfl rfl aj.1 aj.2 bj.1 bj.2 (fun kk D' hd' => n_t (add kk D' hd')) (fun kk D' hd' => n_f (c_rkinF hI hd' rfl rfl bj.1 bj.2 aj.1 aj.2 (fun k2 D2 hd2 => absurd ((kinP_symm hI bj.1 bj.2 aj.1 aj.2).mp k2) kk) (fun _ D2 hd2 => b_f (skip (fun _ _ q => absurd q kk) D2 hd2))))
          · rw [tb_0 r0 (by omega) a0 (by omega) ba]
            exact br_ne (fun _ => w_X12_setOf_73 hG (b_f (skip (fun q => absurd q ba) D hd))) (fun g => by omega)
      refine w_X12_setOf_18 hG ?_
      rw [tc D hd]
      exact br_le (fun g => by omega) (fun _ => row (D0 214 1).toNat D R mo 0 hd (by omega) (by omega) (by omega) st)
  have outer : ∀ (n : Nat) (D : mmD) (R : Int), agz K D0 D → 6 - pcn R 6 ≤ n → 0 ≤ R → R < 64 → (∀ k, 0 ≤ k → bt R k → rch D0 m t k) → bt R t → Go E (d + 4) 0 0 mX12_setOf 7 [some (vR 214), some (vI m), none, some (vI R), some (vI 1), none, none, none] [] G D (retI G P) := by
    intro n
    induction n with
    | zero =>
      intro D R hd hn R0 R1 q1 q5
      have pr := pcn_rg R 6
      refine w_X12_setOf_7 hG (b_t (pass R _ (fun D' R' mo hd' st => ?_) (D0 214 1).toNat D R 0 0 hd (by omega) (by omega) (by omega) ⟨R0, R1, q1, q5, Or.inl ⟨rfl, rfl, fun a' b' a0' hab _ lb => by have := lb.1; unfold hasW at this; omega⟩⟩))
      obtain ⟨r0, r1, r2, r3, r4⟩ := st
      rcases r4 with ⟨rfl, p2, p3⟩ | ⟨rfl, p2⟩
      · refine w_X12_setOf_7 hG (b_f (rI (h R' D' hd' r0 r1 (fun k k0 => ⟨r2 k k0, fun hk => ?_⟩))))
        have cl : ∀ j, rch D0 m t j → bt R' j := fun j hj => hj.ind (S := fun j => bt R' j) r3 (fun a b h1 ih lb kb => p3 a b (h1.b hI).1 (Or.inl (h1.b hI).2.1) ih lb kb)
        exact cl k hk
      · have := pcn_rg R' 6
        omega
    | succ n ih =>
      intro D R hd hn R0 R1 q1 q5
      refine w_X12_setOf_7 hG (b_t (pass R _ (fun D' R' mo hd' st => ?_) (D0 214 1).toNat D R 0 0 hd (by omega) (by omega) (by omega) ⟨R0, R1, q1, q5, Or.inl ⟨rfl, rfl, fun a' b' a0' hab _ lb => by have := lb.1; unfold hasW at this; omega⟩⟩))
      obtain ⟨r0, r1, r2, r3, r4⟩ := st
      rcases r4 with ⟨rfl, p2, p3⟩ | ⟨rfl, p2⟩
      · refine w_X12_setOf_7 hG (b_f (rI (h R' D' hd' r0 r1 (fun k k0 => ⟨r2 k k0, fun hk => ?_⟩))))
        have cl : ∀ j, rch D0 m t j → bt R' j := fun j hj => hj.ind (S := fun j => bt R' j) r3 (fun a b h1 ih lb kb => p3 a b (h1.b hI).1 (Or.inl (h1.b hI).2.1) ih lb kb)
        exact cl k hk
      · exact ih D' R' hd' (by omega) r0 r1 r2 r3
  have s := sh_rg (j := t) (n := 6) (by omega) (by omega) (by omega)
  rw [pw6] at s
  have b1 : ∀ k, 0 ≤ k → (bt (ishl 1 t) k ↔ t = k) := fun k k0 => bt_1 (by omega) (by omega) k0
  have pr := pcn_rg (ishl 1 t) 6
  exact w_X12_setOf hG (outer 6 D (ishl 1 t) ha (by omega) s.1 s.2 (fun k k0 hk => ((b1 k k0).mp hk) ▸ rch.self hl) ((b1 t (by omega)).mpr rfl))
end KinF
