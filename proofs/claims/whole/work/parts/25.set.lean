/-! ===== KIN SET ===== -/
def rch (D : mmD) (m t k : Int) : Prop := lst D t m ∧ ∀ S : Int → Prop, S t → (∀ a b : Int, S a → lst D b m → kinP D (10 * a + m) (10 * b + m) → S b) → S k
theorem rch.self {D : mmD} {m t : Int} (h : lst D t m) : rch D m t t := ⟨h, fun _ s _ => s⟩
theorem rch.step {D : mmD} {m t a b : Int} (h : rch D m t a) (l : lst D b m) (k : kinP D (10 * a + m) (10 * b + m)) : rch D m t b := ⟨h.1, fun S s c => c a b (h.2 S s c) l k⟩
theorem rch.ind {D : mmD} {m t k : Int} {S : Int → Prop} (h : rch D m t k) (s : S t) (c : ∀ a b : Int, rch D m t a → S a → lst D b m → kinP D (10 * a + m) (10 * b + m) → S b) : S k :=
  (h.2 (fun k => rch D m t k ∧ S k) ⟨rch.self h.1, s⟩ (fun a b p l q => ⟨rch.step p.1 l q, c a b p.1 p.2 l q⟩)).2
theorem rch.l {D : mmD} {m t k : Int} (h : rch D m t k) : lst D k m := h.2 (fun k => lst D k m) h.1 (fun _ _ _ l _ => l)
theorem rch.trans {D : mmD} {m t k j : Int} (h : rch D m t k) (h2 : rch D m k j) : rch D m t j := h2.ind (S := fun j => rch D m t j) h (fun _ _ _ i l q => rch.step i l q)
theorem rch.symm {G : mmG} {D : mmD} {m t k : Int} (hI : Inv G D) (h : rch D m t k) : rch D m k t :=
  h.ind (S := fun k => rch D m k t) (rch.self h.1) (fun a b h1 i l q => (rch.step (rch.self l) h1.l ((kinP_symm hI (h1.l.j hI).1 (h1.l.j hI).2 (l.j hI).1 (l.j hI).2).mp q)).trans i)
theorem rch.b {G : mmG} {D : mmD} {m t k : Int} (hI : Inv G D) (h : rch D m t k) : 0 ≤ k ∧ k < D 214 1 ∧ k < 6 := by
  have := h.l.1
  have s := hI.2.1.1
  unfold hasW at this
  omega
theorem fsum_all {f : Int → Int} : ∀ n : Nat, (∀ k : Int, 0 ≤ k → k < n → 0 ≤ f k ∧ f k ≤ 1) → fsum f n = n → ∀ k : Int, 0 ≤ k → k < n → f k = 1
  | 0, _, _, k, k0, k1 => by omega
  | n + 1, h, e, k, k0, k1 => by
    simp only [fsum] at e
    have r := fsum_rg n (fun k a b => h k a (by omega))
    have q := h n (by omega) (by omega)
    by_cases hk : k = n
    · subst hk; omega
    · exact fsum_all n (fun k a b => h k a (by omega)) (by omega) k k0 (by omega)
theorem pcn_all {x : Int} {n : Nat} (h : pcn x n = n) {k : Int} (k0 : 0 ≤ k) (k1 : k < n) : bt x k := by
  have := fsum_all n (fun k _ _ => by
    by_cases h : bt x k
    · rw [cif_t h]; omega
    · rw [cif_f h]; omega) h k k0 k1
  by_cases g : bt x k
  · exact g
  · rw [cif_f g] at this; omega
theorem pcn_up {x y j : Int} (hj : ¬ bt x j) (hy : ∀ k, 0 ≤ k → (bt y k ↔ bt x k ∨ j = k)) : ∀ n : Nat, 0 ≤ j → pcn y n = pcn x n + cif (j < n) 1 0
  | 0, j0 => by rw [cif_f (by omega)]; rfl
  | n + 1, j0 => by
    have i := pcn_up hj hy n j0
    show pcn y n + cif (bt y n) 1 0 = pcn x n + cif (bt x n) 1 0 + _
    rw [i]
    by_cases h : j = n
    · rw [cif_t ((hy n (by omega)).mpr (Or.inr h)), cif_f (show ¬ j < (n : Int) by omega), cif_t (show j < ((n + 1 : Nat) : Int) by omega), cif_f (show ¬ bt x n from h ▸ hj)]
    · have h4 : cif (j < ((n + 1 : Nat) : Int)) (1 : Int) 0 = cif (j < (n : Int)) 1 0 := by
        by_cases h3 : j < (n : Int)
        · rw [cif_t h3, cif_t (show j < ((n + 1 : Nat) : Int) by omega)]
        · rw [cif_f h3, cif_f (show ¬ j < ((n + 1 : Nat) : Int) by omega)]
      rw [h4]
      by_cases h2 : bt x n
      · rw [cif_t h2, cif_t ((hy n (by omega)).mpr (Or.inl h2))]; omega
      · rw [cif_f h2, cif_f (fun q => ((hy n (by omega)).mp q).elim h2 h)]; omega
theorem or1 {x j : Int} (x0 : 0 ≤ x) (x1 : x < 64) (j0 : 0 ≤ j) (j1 : j < 6) : (∀ k, 0 ≤ k → (bt (ior x (ishl 1 j)) k ↔ bt x k ∨ j = k)) ∧ 0 ≤ ior x (ishl 1 j) ∧ ior x (ishl 1 j) < 64 := by
  have s := sh_rg (n := 6) j0 (by omega) (by omega)
  have r := or_rg 6 (by omega) x0 (by rw [pw6]; exact x1) s.1 s.2
  rw [pw6] at s r
  refine ⟨fun k k0 => ?_, r⟩
  rw [bt_or x0 (by omega) s.1 (by omega), bt_1 j0 (by omega) k0]
section Sets
variable {E : mmE} {d : Nat} {G : mmG} {D0 D : mmD} {m t : Int}
theorem c_kinSet {P : Int → mmD → Prop} (hI : Inv G D0) (ha : ag D0 D) (hl : lst D0 t m) (h : ∀ x D', ag D0 D' → 0 ≤ x → x < 64 → (∀ k, 0 ≤ k → (bt x k ↔ rch D0 m t k)) → P x D') : Call E (d + 4) 0 0 mX11_kinSet [vR 2, vI m, vI t] G D (retI G P) := by
  have hG := hI.1
  have s1 := hI.2.1.1
  have hl' := hl.1
  unfold hasW at hl'
  have tc : ∀ D', ag D0 D' → D' 2 3 = D0 214 1 := fun D' hd => (hd 2 3 (by unfold pers; omega)).trans s1.1
  -- the inner loop
  have inner : ∀ (r n0 S : Int), 0 ≤ n0 → n0 < D0 214 1 → lst D0 n0 m → rch D0 m t n0 → ∀ (Q : mmQ), (∀ (D' : mmD) (R : Int), ag D0 D' → 0 ≤ R → R < 64 → (∀ k, 0 ≤ k → bt R k → rch D0 m t k) → (∀ k, 0 ≤ k → bt S k → bt R k) → (∀ a b, 0 ≤ a → bt S a → lst D0 b m → kinP D0 (10 * a + m) (10 * b + m) → bt R b) → bt R t → Go E (d + 4) 0 0 mX11_kinSet 10 [some (vR 2), some (vI m), none, some (vI R), some (vI S), some (vI (r + 1)), none, none, none, none, none] [] G D' Q) →
      ∀ (n : Nat) (D : mmD) (R o : Int), ag D0 D → D0 214 1 - o = n → 0 ≤ o → o ≤ D0 214 1 → 0 ≤ R → R < 64 → (∀ k, 0 ≤ k → bt R k → rch D0 m t k) → (∀ k, 0 ≤ k → bt S k → bt R k) → (∀ a b, 0 ≤ a → bt S a → a ≠ n0 → lst D0 b m → kinP D0 (10 * a + m) (10 * b + m) → bt R b) → (∀ b, b < o → lst D0 b m → kinP D0 (10 * n0 + m) (10 * b + m) → bt R b) → bt R t →
      Go E (d + 4) 0 0 mX11_kinSet 57 [some (vR 2), some (vI m), none, some (vI R), some (vI S), some (vI r), none, some (vR (22 + 2 * (10 * n0 + m))), some (vI o), none, none] [] G D Q := by
    intro r n0 S n00 n01 nl nr Q K n
    have nj := nl.j hI
    induction n with
    | zero =>
      intro D R o hd on o0 o1 R0 R1 q1 q2 q3 q4 q5
      refine w_X11_kinSet_57 hG ?_
      rw [tc D hd]
      refine br_le (fun _ => K D R hd R0 R1 q1 q2 (fun a b a0 sa lb kb => ?_) q5) (fun g => by omega)
      by_cases e : a = n0
      · subst e
        refine q4 b ?_ lb kb
        have := lb.1
        unfold hasW at this
        omega
      · exact q3 a b a0 sa e lb kb
    | succ n ih =>
      intro D R o hd on o0 o1 R0 R1 q1 q2 q3 q4 q5
      have skip : (lst D0 o m → kinP D0 (10 * n0 + m) (10 * o + m) → bt R o) → ∀ D', ag D0 D' → Go E (d + 4) 0 0 mX11_kinSet 57 [some (vR 2), some (vI m), none, some (vI R), some (vI S), some (vI r), none, some (vR (22 + 2 * (10 * n0 + m))), some (vI (o + 1)), none, none] [] G D' Q := fun hs D' hd' =>
        ih D' R (o + 1) hd' (by omega) (by omega) (by omega) R0 R1 q1 q2 q3 (fun b hb lb kb => by
          by_cases e : b = o
          · subst e; exact hs lb kb
          · exact q4 b (by omega) lb kb) q5
      refine w_X11_kinSet_57 hG ?_
      rw [tc D hd]
      refine br_le (fun g => by omega) (fun _ => ?_)
      by_cases hb : bt R o
      · rw [tb_1 R0 (by omega) o0 (by omega) hb]
        exact c_listedA hI hd (by unfold rg; omega) (by unfold rg; omega) (fun lo => n_t (b_f (skip (fun _ _ => hb) D hd))) (fun lo => n_t (b_f (skip (fun _ _ => hb) D hd)))
      · rw [tb_0 R0 (by omega) o0 (by omega) hb]
        refine c_listedA hI hd (by unfold rg; omega) (by unfold rg; omega) (fun lo => n_f (b_t ⟨fun q => by omega, fun _ => ⟨fun q => ?_, fun _ => ?_⟩⟩)) (fun lo => n_f (b_t ⟨fun q => by omega, fun _ => ⟨fun _ => skip (fun q => absurd q lo) D hd, fun q => absurd rfl q⟩⟩))
        · have := lo.j hI; omega
        · have oj := lo.j hI
          refine c_kin hI hd nj.1 nj.2 oj.1 oj.2 (fun kk D' hd' => b_t ?_) (fun kk D' hd' => b_f (skip (fun _ q => absurd q kk) D' hd'))
          obtain ⟨z1, z2, z3⟩ := or1 R0 R1 o0 (by omega)
          refine ih D' _ (o + 1) hd' (by omega) (by omega) (by omega) z2 z3 (fun k k0 hk => ?_) (fun k k0 hk => (z1 k k0).mpr (Or.inl (q2 k k0 hk))) (fun a b a0 sa e lb kb => (z1 b ?_).mpr (Or.inl (q3 a b a0 sa e lb kb))) (fun b hb' lb kb => ?_) ((z1 t (by omega)).mpr (Or.inl q5))
          · rcases (z1 k k0).mp hk with g | rfl
            · exact q1 k k0 g
            · exact rch.step nr lo kk
          · have := lb.1; unfold hasW at this; omega
          · have b0 : 0 ≤ b := by have := lb.1; unfold hasW at this; omega
            refine (z1 b b0).mpr ?_
            by_cases e : o = b
            · exact Or.inr e
            · exact Or.inl (q4 b (by omega) lb kb)
  have outer : ∀ (n : Nat) (D : mmD) (R S r : Int), ag D0 D → D0 214 1 - r = n → 0 ≤ r → r ≤ D0 214 1 → 0 ≤ R → R < 64 → 0 ≤ S → S < 64 → (∀ k, 0 ≤ k → bt R k → rch D0 m t k) → (∀ k, 0 ≤ k → bt S k → bt R k) → (∀ a b, 0 ≤ a → bt S a → lst D0 b m → kinP D0 (10 * a + m) (10 * b + m) → bt R b) → bt R t → pcn S (D0 214 1).toNat = r →
      Go E (d + 4) 0 0 mX11_kinSet 10 [some (vR 2), some (vI m), none, some (vI R), some (vI S), some (vI r), none, none, none, none, none] [] G D (retI G P) := by
    intro n
    have done : ∀ (D : mmD) (R S : Int), ag D0 D → 0 ≤ R → R < 64 → (∀ k, 0 ≤ k → bt R k → rch D0 m t k) → (∀ k, 0 ≤ k → bt R k → bt S k) → (∀ a b, 0 ≤ a → bt S a → lst D0 b m → kinP D0 (10 * a + m) (10 * b + m) → bt R b) → bt R t → P R D := by
      intro D R S hd R0 R1 q1 q2 q3 q5
      refine h R D hd R0 R1 (fun k k0 => ⟨q1 k k0, fun hk => ?_⟩)
      have cl : ∀ j, rch D0 m t j → bt R j := fun j hj => hj.ind (S := fun j => bt R j) q5 (fun a b h1 ih lb kb => q3 a b (h1.b hI).1 (q2 _ (h1.b hI).1 ih) lb kb)
      exact cl k hk
    induction n with
    | zero =>
      intro D R S r hd rn r0 r1 R0 R1 S0 S1 q1 q2 q3 q5 q6
      refine w_X11_kinSet_10 hG ?_
      rw [tc D hd]
      refine br_le (fun _ => rI (done D R S hd R0 R1 q1 (fun k k0 hk => ?_) q3 q5)) (fun g => by omega)
      have b := (q1 k k0 hk).b hI
      exact pcn_all (n := (D0 214 1).toNat) (by omega) k0 (by omega)
    | succ n ih =>
      intro D R S r hd rn r0 r1 R0 R1 S0 S1 q1 q2 q3 q5 q6
      refine w_X11_kinSet_10 hG ?_
      rw [tc D hd]
      refine br_le (fun g => by omega) (fun _ => br_eq (fun e => rI (done D R S hd R0 R1 q1 (fun k k0 hk => e ▸ hk) q3 q5)) (fun ne => ?_))
      have ar := andn_rg (x := R) (y := S) R0 (by omega) S0 (by omega)
      have pos : 0 < iand R (ixor S (-1)) := by
        by_cases z : iand R (ixor S (-1)) = 0
        · exfalso
          apply ne
          refine bt_ext 6 S0 (by rw [pw6]; exact S1) R0 (by rw [pw6]; exact R1) (fun k k0 k1 => ⟨q2 k k0, fun hk => ?_⟩)
          by_cases hs : bt S k
          · exact hs
          · have := (bt_andn (x := R) (y := S) (k := k) R0 (by omega) S0 (by omega)).mpr ⟨hk, hs⟩
            rw [z] at this
            exact absurd this bt_0
        · omega
      refine c_ntz hG pos (by omega) (fun k k0 k1 hk _ => ?_)
      obtain ⟨hk1, hk2⟩ := (bt_andn (x := R) (y := S) (k := k) R0 (by omega) S0 (by omega)).mp hk
      have rk := q1 k k0 hk1
      have kb := rk.b hI
      refine c_listedA hI hd (by unfold rg; omega) (by unfold rg; omega) (fun _ => ?_) (fun q => absurd rk.l q)
      obtain ⟨z1, z2, z3⟩ := or1 S0 S1 k0 k1
      refine inner r k (ior S (ishl 1 k)) k0 kb.2.1 rk.l rk _ (fun D' R' hd' R0' R1' p1 p2 p3 p5 => ?_) (D0 214 1).toNat D R 0 hd (by omega) (by omega) (by omega) R0 R1 q1 (fun j j0 hj => ?_) (fun a b a0 sa e lb kb => ?_) (fun b hb lb => ?_) q5
      · refine ih D' R' _ (r + 1) hd' (by omega) (by omega) (by omega) R0' R1' z2 z3 p1 p2 p3 p5 ?_
        rw [pcn_up hk2 z1 _ k0, q6, cif_t (by omega)]
      · rcases (z1 j j0).mp hj with g | rfl
        · exact q2 j j0 g
        · exact hk1
      · rcases (z1 a a0).mp sa with g | g
        · exact q3 a b a0 g lb kb
        · exact absurd g.symm e
      · have := lb.1; unfold hasW at this; omega
  have s := sh_rg (j := t) (n := 6) (by omega) (by omega) (by omega)
  rw [pw6] at s
  have b1 : ∀ k, 0 ≤ k → (bt (ishl 1 t) k ↔ t = k) := fun k k0 => bt_1 (by omega) (by omega) k0
  refine w_X11_kinSet hG (outer (D0 214 1).toNat D (ishl 1 t) 0 0 ha (by omega) (by omega) (by omega) s.1 s.2 (by omega) (by omega) (fun k k0 hk => ?_) (fun k _ hk => absurd hk bt_0) (fun a b _ sa => absurd sa bt_0) ((b1 t (by omega)).mpr rfl) ?_)
  · have := (b1 k k0).mp hk
    exact this ▸ rch.self hl
  · have : ∀ n : Nat, pcn 0 n = 0 := fun n => by
      induction n with
      | zero => rfl
      | succ n ih => show pcn 0 n + cif (bt 0 n) 1 0 = 0; rw [ih, cif_f bt_0]; rfl
    exact this _
theorem c_setOf {P : Int → mmD → Prop} (hI : Inv G D0) (ha : ag D0 D) (hl : lst D0 t m) (h : ∀ x D', ag D0 D' → 0 ≤ x → x < 64 → (∀ k, 0 ≤ k → (bt x k ↔ rch D0 m t k)) → P x D') : Call E (d + 4) 0 0 mX12_setOf [vR 214, vI m, vI t] G D (retI G P) := by
  have hG := hI.1
  have s1 := hI.2.1.1
  have hl' := hl.1
  unfold hasW at hl'
  have tc : ∀ D', ag D0 D' → D' 214 1 = D0 214 1 := fun D' hd => hd.s (by omega) (by omega)
  -- what a pass holds, from the set at its beginning
  let ST : Int → Int → Int → Int → Int → Prop := fun R0 R mo a b => 0 ≤ R ∧ R < 64 ∧ (∀ k, 0 ≤ k → bt R k → rch D0 m t k) ∧ bt R t ∧ ((mo = 0 ∧ R = R0 ∧ (∀ a' b', 0 ≤ a' → (a' < a ∨ (a' = a ∧ b' < b)) → bt R a' → lst D0 b' m → kinP D0 (10 * a' + m) (10 * b' + m) → bt R b')) ∨ (mo = 1 ∧ pcn R0 6 < pcn R 6))
  have pass : ∀ (R0 : Int) (Q : mmQ), (∀ (D' : mmD) (R mo : Int), ag D0 D' → ST R0 R mo (D0 214 1) 0 → Go E (d + 4) 0 0 mX12_setOf 7 [some (vR 214), some (vI m), none, some (vI R), some (vI mo), none, none, none] [] G D' Q) →
      ∀ (n : Nat) (D : mmD) (R mo a : Int), ag D0 D → D0 214 1 - a = n → 0 ≤ a → a ≤ D0 214 1 → ST R0 R mo a 0 → Go E (d + 4) 0 0 mX12_setOf 18 [some (vR 214), some (vI m), none, some (vI R), some (vI mo), some (vI a), none, none] [] G D Q := by
    intro R0 Q K n
    induction n with
    | zero =>
      intro D R mo a hd an a0 a1 st
      refine w_X12_setOf_18 hG ?_
      rw [tc D hd]
      have e : a = D0 214 1 := by omega
      subst e
      exact br_le (fun _ => K D R mo hd st) (fun g => by omega)
    | succ n ih =>
      intro D R mo a hd an a0 a1 st
      have row : ∀ (n2 : Nat) (D : mmD) (R mo b : Int), ag D0 D → D0 214 1 - b = n2 → 0 ≤ b → b ≤ D0 214 1 → ST R0 R mo a b → Go E (d + 4) 0 0 mX12_setOf 30 [some (vR 214), some (vI m), none, some (vI R), some (vI mo), some (vI a), some (vI b), none] [] G D Q := by
        intro n2
        induction n2 with
        | zero =>
          intro D R mo b hd bn b0 b1 st
          refine w_X12_setOf_30 hG ?_
          rw [tc D hd]
          refine br_le (fun _ => ih D R mo (a + 1) hd (by omega) (by omega) (by omega) ?_) (fun g => by omega)
          obtain ⟨r0, r1, r2, r3, r4⟩ := st
          refine ⟨r0, r1, r2, r3, ?_⟩
          rcases r4 with ⟨p1, p2, p3⟩ | p
          · refine Or.inl ⟨p1, p2, fun a' b' a0' hab sa lb kb => p3 a' b' a0' ?_ sa lb kb⟩
            have := lb.1
            unfold hasW at this
            omega
          · exact Or.inr p
        | succ n2 ih2 =>
          intro D R mo b hd bn b0 b1 st
          obtain ⟨r0, r1, r2, r3, r4⟩ := id st
          have skip : (bt R a → lst D0 b m → kinP D0 (10 * a + m) (10 * b + m) → bt R b) → ∀ D', ag D0 D' → Go E (d + 4) 0 0 mX12_setOf 30 [some (vR 214), some (vI m), none, some (vI R), some (vI mo), some (vI a), some (vI (b + 1)), none] [] G D' Q := fun hs D' hd' => by
            refine ih2 D' R mo (b + 1) hd' (by omega) (by omega) (by omega) ⟨r0, r1, r2, r3, ?_⟩
            rcases r4 with ⟨p1, p2, p3⟩ | p
            · refine Or.inl ⟨p1, p2, fun a' b' a0' hab sa lb kb => ?_⟩
              by_cases e : a' = a ∧ b' = b
              · obtain ⟨rfl, rfl⟩ := e; exact hs sa lb kb
              · exact p3 a' b' a0' (by omega) sa lb kb
            · exact Or.inr p
          refine w_X12_setOf_30 hG ?_
          rw [tc D hd]
          refine br_le (fun g => by omega) (fun _ => ?_)
          by_cases ba : bt R a
          · rw [tb_1 r0 (by omega) a0 (by omega) ba]
            refine br_ne (fun g => absurd rfl g) (fun _ => ?_)
            by_cases bb : bt R b
            · rw [tb_1 r0 (by omega) b0 (by omega) bb]
              exact n_t (w_X12_setOf_73 hG (b_f (skip (fun _ _ _ => bb) D hd)))
            · rw [tb_0 r0 (by omega) b0 (by omega) bb]
              refine n_f (c_hasA hI hd (by unfold rg; omega) (by unfold rg; omega) (fun lb => b_t (w_X12_setOf_73 hG (b_t ?_))) (fun lb => b_f (w_X12_setOf_73 hG (b_f (skip (fun _ q => absurd q lb) D hd)))))
              have la := (r2 a a0 ba).l
              have aj := la.j hI
              have bj := lb.j hI
              obtain ⟨z1, z2, z3⟩ := or1 r0 r1 b0 (by omega)
              have add : kinP D0 (10 * a + m) (10 * b + m) → ∀ D', ag D0 D' → Go E (d + 4) 0 0 mX12_setOf 30 [some (vR 214), some (vI m), none, some (vI (ior R (ishl 1 b))), some (vI 1), some (vI a), some (vI (b + 1)), none] [] G D' Q := fun kk D' hd' => by
                refine ih2 D' _ 1 (b + 1) hd' (by omega) (by omega) (by omega) ⟨z2, z3, fun k k0 hk => ?_, (z1 t (by omega)).mpr (Or.inl r3), Or.inr ⟨rfl, ?_⟩⟩
                · rcases (z1 k k0).mp hk with g | rfl
                  · exact r2 k k0 g
                  · exact rch.step (r2 a a0 ba) lb kk
                · rw [pcn_up bb z1 6 b0, cif_t (by omega)]
                  rcases r4 with ⟨p1, p2, p3⟩ | ⟨p1, p2⟩
                  · rw [p2]; omega
                  · omega
              refine c_rkin hI hd rfl rfl aj.1 aj.2 bj.1 bj.2 (fun kk D' hd' => n_t (add kk D' hd')) (fun kk D' hd' => n_f (c_rkin hI hd' rfl rfl bj.1 bj.2 aj.1 aj.2 (fun k2 D2 hd2 => absurd ((kinP_symm hI bj.1 bj.2 aj.1 aj.2).mp k2) kk) (fun _ D2 hd2 => b_f (skip (fun _ _ q => absurd q kk) D2 hd2))))
          · rw [tb_0 r0 (by omega) a0 (by omega) ba]
            exact br_ne (fun _ => w_X12_setOf_73 hG (b_f (skip (fun q => absurd q ba) D hd))) (fun g => by omega)
      refine w_X12_setOf_18 hG ?_
      rw [tc D hd]
      exact br_le (fun g => by omega) (fun _ => row (D0 214 1).toNat D R mo 0 hd (by omega) (by omega) (by omega) st)
  have outer : ∀ (n : Nat) (D : mmD) (R : Int), ag D0 D → 6 - pcn R 6 ≤ n → 0 ≤ R → R < 64 → (∀ k, 0 ≤ k → bt R k → rch D0 m t k) → bt R t → Go E (d + 4) 0 0 mX12_setOf 7 [some (vR 214), some (vI m), none, some (vI R), some (vI 1), none, none, none] [] G D (retI G P) := by
    intro n
    induction n with
    | zero =>
      intro D R hd hn R0 R1 q1 q5
      have pr := pcn_rg R 6
      refine w_X12_setOf_7 hG (b_t (pass R _ (fun D' R' mo hd' st => ?_) (D0 214 1).toNat D R 0 0 hd (by omega) (by omega) (by omega) ⟨R0, R1, q1, q5, Or.inl ⟨rfl, rfl, fun a' b' a0' hab _ lb => by have := lb.1; unfold hasW at this; omega⟩⟩))
      obtain ⟨r0, r1, r2, r3, r4⟩ := st
      rcases r4 with ⟨rfl, p2, p3⟩ | ⟨rfl, p2⟩
      · refine w_X12_setOf_7 hG (b_f (rI (h R' D' hd' r0 r1 (fun k k0 => ⟨r2 k k0, fun hk => ?_⟩))))
        have cl : ∀ j, rch D0 m t j → bt R' j := fun j hj => hj.ind (S := fun j => bt R' j) r3 (fun a b h1 ih lb kb => p3 a b (h1.b hI).1 (Or.inl (h1.b hI).2.1) ih lb kb)
        exact cl k hk
      · have := pcn_rg R' 6
        omega
    | succ n ih =>
      intro D R hd hn R0 R1 q1 q5
      refine w_X12_setOf_7 hG (b_t (pass R _ (fun D' R' mo hd' st => ?_) (D0 214 1).toNat D R 0 0 hd (by omega) (by omega) (by omega) ⟨R0, R1, q1, q5, Or.inl ⟨rfl, rfl, fun a' b' a0' hab _ lb => by have := lb.1; unfold hasW at this; omega⟩⟩))
      obtain ⟨r0, r1, r2, r3, r4⟩ := st
      rcases r4 with ⟨rfl, p2, p3⟩ | ⟨rfl, p2⟩
      · refine w_X12_setOf_7 hG (b_f (rI (h R' D' hd' r0 r1 (fun k k0 => ⟨r2 k k0, fun hk => ?_⟩))))
        have cl : ∀ j, rch D0 m t j → bt R' j := fun j hj => hj.ind (S := fun j => bt R' j) r3 (fun a b h1 ih lb kb => p3 a b (h1.b hI).1 (Or.inl (h1.b hI).2.1) ih lb kb)
        exact cl k hk
      · exact ih D' R' hd' (by omega) r0 r1 r2 r3
  have s := sh_rg (j := t) (n := 6) (by omega) (by omega) (by omega)
  rw [pw6] at s
  have b1 : ∀ k, 0 ≤ k → (bt (ishl 1 t) k ↔ t = k) := fun k k0 => bt_1 (by omega) (by omega) k0
  have pr := pcn_rg (ishl 1 t) 6
  exact w_X12_setOf hG (outer 6 D (ishl 1 t) ha (by omega) s.1 s.2 (fun k k0 hk => ((b1 k k0).mp hk) ▸ rch.self hl) ((b1 t (by omega)).mpr rfl))
theorem p_set {x1 x2 : Int} (hI : Inv G D0) (h1 : rg x1) (h2 : rg x2) : Pair E (d + 5) mX11_set mX12_set [vI x1, vI x2] G D0 := by
  have hG := hI.1
  by_cases hl : lst D0 x2 x1
  · refine w_X11_set hG (c_listedA hI ag.rfl h2 h1 (fun _ => ⟨fun _ => c_kinSet hI ag.rfl hl (fun x D' hd x0 x1' hx => rI (w_X12_set hG (c_hasA hI hd h2 h1 (fun _ => b_t (c_setOf hI hd hl (fun y D2 hd2 y0 y1 hy => rI ⟨?_, hI.ag hd2⟩))) (fun q => absurd hl q)))), fun q => ?_⟩) (fun q => absurd hl q))
    · rw [bt_ext 6 x0 (by rw [pw6]; exact x1') y0 (by rw [pw6]; exact y1) (fun k k0 _ => (hx k k0).trans (hy k k0).symm)]
    · have := hl.j hI; omega
  · exact w_X11_set hG (c_listedA hI ag.rfl h2 h1 (fun q => absurd q hl) (fun _ => ⟨fun q => absurd rfl q, fun _ => rI (w_X12_set hG (c_hasA hI ag.rfl h2 h1 (fun q => absurd q hl) (fun _ => b_f (rI ⟨rfl, hI⟩))))⟩))
end Sets
