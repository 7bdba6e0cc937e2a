section Sound
variable {E : mmE} {d : Nat} {G : mmG} {D0 D : mmD} {t l x1 x2 : Int}
/-- whether the WORD becomes another -/
noncomputable def scf (D : mmD) (t l : Int) : Int → Int := fun m => cif (apl D l (wl D (10 * t + m)) = wl D (10 * t + m)) 0 1
theorem l_soundC {Q : mmQ} (hI : Inv G D0) (ht : 0 ≤ t ∧ t < 6) (l0 : 0 ≤ l) (l1 : l < D0 214 3)
    (K : ∀ D', (∀ c k, ¬ (22 + 20 * t ≤ c ∧ c < 42 + 20 * t ∧ (c % 2 = 1 ∨ k = 1)) → c ≠ 142 + 6 * l + 5 → D' c k = D0 c k) → (∀ m, 0 ≤ m → m < 10 → cW D' (22 + 2 * (10 * t + m)) (apl D0 l (wl D0 (10 * t + m)))) → Go E (d + 5) 2 27 mX11_sound 35 [some (vR 2), some (vI t), some (vI l), some (vI (fsum (scf D0 t l) 10)), some (vI 10)] [] G D' Q) :
    ∀ (n : Nat) (D : mmD) (m : Int), 10 - m = n → 0 ≤ m → m ≤ 10 → (∀ c k, ¬ (22 + 20 * t ≤ c ∧ c < 22 + 20 * t + 2 * m ∧ (c % 2 = 1 ∨ k = 1)) → c ≠ 142 + 6 * l + 5 → D c k = D0 c k) → (∀ m', 0 ≤ m' → m' < m → cW D (22 + 2 * (10 * t + m')) (apl D0 l (wl D0 (10 * t + m')))) →
      Go E (d + 5) 2 27 mX11_sound 35 [some (vR 2), some (vI t), some (vI l), some (vI (fsum (scf D0 t l) m.toNat)), some (vI m)] [] G D Q := by
  have hG := hI.1
  have s3 := hI.2.1.2.2.1
  intro n
  induction n with
  | zero =>
    intro D m mn m0 m1 fr z
    have e : m = 10 := by omega
    subst e
    exact K D (fun c k p q => fr c k (by omega) q) z
  | succ n ih =>
    intro D m mn m0 m1 fr z
    have nx : ∀ D', _ := fun D' => ih D' (m + 1) (by omega) (by omega) (by omega)
    rw [fsum_s m0] at nx
    have hl := hI.2.2.2.2.2.1 l l0 l1
    have hl' : i_l1 D l := hl.keep (fr _ _ (by omega) (by omega)) (fun j => fr _ _ (by omega) (by omega)) (fun j => fr _ _ (by omega) (by omega)) (fun j => fr _ _ (by omega) (by omega)) (fun j => fr _ _ (by omega) (by omega)) (fr _ _ (by omega) (by omega)) (fun j _ _ => ⟨fr _ _ (by omega) (by omega), fr _ _ (by omega) (by omega), fr _ _ (by omega) (by omega), fr _ _ (by omega) (by omega)⟩)
    have ka : ∀ W, apl D l W = apl D0 l W := fun W => apl_keep (fun a c p q => fr a c (by omega) (by omega))
    have j0 : 0 ≤ 10 * t + m ∧ 10 * t + m < 60 := by omega
    have hW := hI.wd j0.1 j0.2
    have hc : cW D (22 + 2 * (10 * t + m)) (wl D0 (10 * t + m)) := by
      obtain ⟨c1, c2⟩ := hI.cw j0.1 j0.2
      exact ⟨by rw [fr _ _ (by omega) (by omega)]; exact c1, fun q q0 q1 => by rw [fr _ _ (by omega) (by omega)]; exact c2 q q0 q1⟩
    refine w_X11_sound_35 (kc := 0) (ks := 0) hG (br_le (fun g => by omega) (fun _ => ⟨⟨by omega, by omega⟩, ⟨by omega, by omega⟩, ?_⟩))
    rw [show t * 10 + m = 10 * t + m by omega]
    refine c_comeOver hG l0 (by omega) hl' (isW.of j0.1 j0.2) hW hc (fun D' fr' c' => ?_)
    rw [ka] at c' ⊢
    have f1 : ∀ c k, ¬ (22 + 20 * t ≤ c ∧ c < 22 + 20 * t + 2 * (m + 1) ∧ (c % 2 = 1 ∨ k = 1)) → c ≠ 142 + 6 * l + 5 → D' c k = D0 c k := fun c k p q => by
      rw [fr' c k (by omega) (by omega) q]
      exact fr c k (by omega) q
    have z1 : ∀ m', 0 ≤ m' → m' < m + 1 → cW D' (22 + 2 * (10 * t + m')) (apl D0 l (wl D0 (10 * t + m'))) := fun m' p q => by
      by_cases e : m' = m
      · subst e; exact c'
      · obtain ⟨c1, c2⟩ := z m' p (by omega)
        exact ⟨by rw [fr' _ _ (by omega) (by omega) (by omega)]; exact c1, fun q q0 q1 => by rw [fr' _ _ (by omega) (by omega) (by omega)]; exact c2 q q0 q1⟩
    have n2 := nx D' f1 z1
    unfold scf at n2 ⊢
    by_cases e : apl D0 l (wl D0 (10 * t + m)) = wl D0 (10 * t + m)
    · rw [cif_t e] at n2 ⊢
      rw [Int.add_zero] at n2
      exact b_f n2
    · rw [cif_f e] at n2 ⊢
      exact b_t n2
theorem apl_nil {D : mmD} {l : Int} : apl D l [] = [] := by
  unfold apl
  exact cif_t (show rls (lfn D l []) 0 = [] from rfl)
theorem l_soundR {Q : mmQ} (hI : Inv G D0) (ht : 0 ≤ t ∧ t < D0 214 1) (l0 : 0 ≤ l) (l1 : l < D0 214 3) {G' : mmG} (hG : Sh G')
    (K : ∀ D', (∀ c k, 214 ≤ c → c < 249 → ¬ (c = 214 ∧ k = 35) → c ≠ 235 → c ≠ 236 → ¬ (c = 216 ∧ 10 * t ≤ k ∧ k < 10 * t + 10) → ¬ (c = 217 ∧ 80 * t ≤ k ∧ k < 80 * t + 80) → D' c k = D0 c k) → (∀ c k, c < 214 ∨ 249 ≤ c → D' c k = D c k) → (∀ m, 0 ≤ m → m < 10 → wl D' (10 * t + m) = apl D0 l (wl D0 (10 * t + m)) ∧ 0 ≤ D' 216 (10 * t + m)) → Go E (d + 5) 0 0 mX12_sound 35 [some (vR 214), some (vI t), some (vI l), some (vI (fsum (scf D0 t l) 10)), some (vI 10)] [] G' D' Q)
    (hlC : ∀ D', (∀ c k, c < 214 → D' c k = D c k) → (∀ c k, 223 ≤ c → c ≤ 227 → D' c k = D0 c k) → i_l1 D' l) :
    ∀ (n : Nat) (D1 : mmD) (m : Int), 10 - m = n → 0 ≤ m → m ≤ 10 → (∀ c k, 214 ≤ c → c < 249 → ¬ (c = 214 ∧ k = 35) → c ≠ 235 → c ≠ 236 → ¬ (c = 216 ∧ 10 * t ≤ k ∧ k < 10 * t + m) → ¬ (c = 217 ∧ 80 * t ≤ k ∧ k < 80 * t + 8 * m) → D1 c k = D0 c k) → (∀ c k, c < 214 ∨ 249 ≤ c → D1 c k = D c k) → (∀ m', 0 ≤ m' → m' < m → wl D1 (10 * t + m') = apl D0 l (wl D0 (10 * t + m')) ∧ 0 ≤ D1 216 (10 * t + m')) →
      Go E (d + 5) 0 0 mX12_sound 35 [some (vR 214), some (vI t), some (vI l), some (vI (fsum (scf D0 t l) m.toNat)), some (vI m)] [] G' D1 Q := by
  have s1 := hI.2.1.1
  have s3 := hI.2.1.2.2.1
  have ri0 := hI.ri
  intro n
  induction n with
  | zero =>
    intro D1 m mn m0 m1 fr fo z
    have e : m = 10 := by omega
    subst e
    exact K D1 (fun c k p0 p1 p2 p3 p4 p5 p6 => fr c k p0 p1 p2 p3 p4 (by omega) (by omega)) fo z
  | succ n ih =>
    intro D1 m mn m0 m1 fr fo z
    have nx : ∀ D', _ := fun D' => ih D' (m + 1) (by omega) (by omega) (by omega)
    rw [fsum_s m0] at nx
    have ka : ∀ (D' : mmD) W, (∀ c k, 223 ≤ c → c ≤ 227 → D' c k = D0 c k) → apl D' l W = apl D0 l W := fun D' W hq => apl_keep (fun a c p q => hq a c p q)
    have j0 : 0 ≤ 10 * t + m ∧ 10 * t + m < 60 := by omega
    generalize hj : 10 * t + m = j at *
    have hW := hI.wd j0.1 j0.2
    have w216 := ri0.2.2.1 j j0.1 j0.2
    have g216 : D1 216 j = D0 216 j := fr _ _ (by omega) (by omega) (by omega) (by omega) (by omega) (by omega) (by omega)
    have g217 : ∀ q, 0 ≤ q → q < 8 → D1 217 (8 * j + q) = D0 217 (8 * j + q) := fun q q0 q1 => fr _ _ (by omega) (by omega) (by omega) (by omega) (by omega) (by omega) (by omega)
    have ew : wl D1 j = wl D0 j := wl_keep g216 (fun q q0 q1 => g217 q q0 (by omega))
    have len := wl_len (D := D0) (j := j) w216.1
    have hr1 : ri D1 := by
      refine ⟨by rw [fr 214 1 (by omega) (by omega) (by omega) (by omega) (by omega) (by omega) (by omega)]; exact ri0.1, by rw [fr 214 3 (by omega) (by omega) (by omega) (by omega) (by omega) (by omega) (by omega)]; exact ri0.2.1, fun i i0 i1 => ?_, fun i i0 i1 => by rw [fr 220 i (by omega) (by omega) (by omega) (by omega) (by omega) (by omega) (by omega)]; exact ri0.2.2.2 i i0 i1⟩
      by_cases hi : 10 * t ≤ i ∧ i < 10 * t + m
      · obtain ⟨z1, z2⟩ := z (i - 10 * t) (by omega) (by omega)
        rw [show 10 * t + (i - 10 * t) = i by omega] at z1 z2
        have l1' := wl_len (D := D1) (j := i) z2
        rw [z1] at l1'
        have := (apl_wd (hI.2.2.2.2.2.1 l l0 l1) (hI.wd i0 i1)).1
        omega
      · rw [fr 216 i (by omega) (by omega) (by omega) (by omega) (by omega) (by omega) (by omega)]
        exact ri0.2.2.1 i i0 i1
    have hsk : D0 216 j = 0 → scf D0 t l m = 0 := fun e0 => by
      unfold scf
      rw [hj]
      have : wl D0 j = [] := List.eq_nil_of_length_eq_zero (by omega)
      rw [this, apl_nil, cif_t rfl]
    refine w_X12_sound_35 hG (br_le (fun g => by omega) (fun _ => c_hasWord hG hr1 (by unfold rg; omega) (by unfold rg; omega) (fun a => b_t ?_) (fun a => b_f ?_)))
    · refine c_takes hG hj j0.1 j0.2 (by rw [g216]; exact w216) (fun D2 k2 m2 l2 => ?_)
      have rw2 : rWd D2 (wl D0 j) := by
        refine ⟨by rw [m2, len]; exact g216, fun q q0 q1 => ?_⟩
        rw [l2 q q0 (by omega), g217 q q0 (by omega), wl_get q0 q1]
      have a2 : ∀ c k, 223 ≤ c → c ≤ 227 → D2 c k = D0 c k := fun c k p q => by rw [k2 c k (by omega) (by omega)]; exact fr c k (by omega) (by omega) (by omega) (by omega) (by omega) (by omega) (by omega)
      have hl2 : i_l1 D2 l := hlC D2 (fun c k p => by rw [k2 c k (by omega) (by omega)]; exact fo c k (by omega)) a2
      refine c_applies hG l0 (by omega) hl2 hW rw2 (fun D3 k3 r3 => ?_)
      rw [ka D2 _ a2] at r3
      have w3 := apl_wd (hI.2.2.2.2.2.1 l l0 l1) hW
      have g216' : D3 216 j = D0 216 j := by rw [k3 _ _ (by omega) (by omega) (by omega), k2 _ _ (by omega) (by omega)]; exact g216
      have ew3 : wl D3 j = wl D0 j := wl_keep g216' (fun q q0 q1 => by rw [k3 _ _ (by omega) (by omega) (by omega), k2 _ _ (by omega) (by omega)]; exact g217 q q0 (by omega))
      -- the WORD is put
      have put : ∀ (Q' : mmD → Prop), (∀ D4, (∀ c k, ¬ (c = 216 ∧ k = j) → ¬ (c = 217 ∧ 8 * j ≤ k ∧ k < 8 * j + 8) → D4 c k = D3 c k) → wl D4 j = apl D0 l (wl D0 j) → 0 ≤ D4 216 j → Q' D4) → Call E (d + 4) 0 0 mX12_puts [vR 214, vI t, vI m] G' D3 (retV G' Q') := fun Q' hQ => by
        have l8 := w3.1
        refine c_puts hG hj j0.1 j0.2 r3.1 (by omega) (by omega) (fun D4 k4 m4 l4 => hQ D4 k4 ?_ (by omega))
        have ln := wl_len (D := D4) (j := j) (by omega)
        refine l_ext (by omega) (fun q q0 q1 => ?_)
        rw [wl_get q0 q1, l4 q q0 (by omega)]
        exact r3.2 q q0 (by omega)
      have fin : ∀ D4, (∀ c k, ¬ (c = 216 ∧ k = j) → ¬ (c = 217 ∧ 8 * j ≤ k ∧ k < 8 * j + 8) → D4 c k = D3 c k) → wl D4 j = apl D0 l (wl D0 j) → 0 ≤ D4 216 j → Go E (d + 5) 0 0 mX12_sound 35 [some (vR 214), some (vI t), some (vI l), some (vI (fsum (scf D0 t l) m.toNat + scf D0 t l m)), some (vI (m + 1))] [] G' D4 Q := fun D4 k4 e4 p4 => by
        refine nx D4 (fun c k p0 p1 p2 p3 p4 p5 p6 => ?_) (fun c k p => ?_) (fun m' p q => ?_)
        · rw [k4 c k (by omega) (by omega), k3 c k p2 p3 p4, k2 c k p2 p3]
          exact fr c k p0 p1 p2 p3 p4 (by omega) (by omega)
        · rw [k4 c k (by omega) (by omega), k3 c k (by omega) (by omega) (by omega), k2 c k (by omega) (by omega)]
          exact fo c k p
        · by_cases e : m' = m
          · subst e
            rw [hj]
            exact ⟨e4, p4⟩
          · obtain ⟨z1, z2⟩ := z m' p (by omega)
            have q6 : D4 216 (10 * t + m') = D1 216 (10 * t + m') := by rw [k4 _ _ (by omega) (by omega), k3 _ _ (by omega) (by omega) (by omega), k2 _ _ (by omega) (by omega)]
            refine ⟨?_, by rw [q6]; exact z2⟩
            rw [← z1]
            have u8 := hr1.2.2.1 (10 * t + m') (by omega) (by omega)
            exact wl_keep q6 (fun q q0 q1 => by rw [k4 _ _ (by omega) (by omega), k3 _ _ (by omega) (by omega) (by omega), k2 _ _ (by omega) (by omega)])
      refine c_isWord hG hj j0.1 j0.2 r3 w3 (by rw [ew3]; exact hW) (by omega) (fun e => b_t (put _ (fun D4 k4 e4 p4 => ?_))) (fun e => b_f (put _ (fun D4 k4 e4 p4 => ?_)))
      · have f := fin D4 k4 e4 p4
        have : scf D0 t l m = 0 := by unfold scf; rw [hj, cif_t (by rw [← ew3]; rw [← ew3] at e; exact e)]
        rw [this] at f
        exact f
      · have f := fin D4 k4 e4 p4
        have : scf D0 t l m = 1 := by unfold scf; rw [hj, cif_f (fun q => e (by rw [ew3]; exact q))]
        rw [this] at f
        exact f
    · have e0 : D0 216 j = 0 := by
        unfold hasW at a
        rw [hj, fr 214 1 (by omega) (by omega) (by omega) (by omega) (by omega) (by omega) (by omega), g216] at a
        omega
      have f := nx D1 (fun c k p0 p1 p2 p3 p4 p5 p6 => fr c k p0 p1 p2 p3 p4 (by omega) (by omega)) fo (fun m' p q => by
        by_cases e : m' = m
        · subst e
          rw [hj, ew]
          have : wl D0 j = [] := List.eq_nil_of_length_eq_zero (by omega)
          rw [this, apl_nil]
          exact ⟨rfl, by omega⟩
        · exact z m' p (by omega))
      rw [hsk e0, Int.add_zero] at f
      exact f
theorem p_sound (hI : Inv G D0) (h1 : rg x1) (h2 : rg x2) : PairG E (d + 5) mX11_sound mX12_sound [vI x1, vI x2] G D0 := by
  obtain ⟨hG, hs, q3, q4, q5, q6, -⟩ := id hI
  have s1 := hs.1
  have s2 := hs.2.1
  have s3 := hs.2.2.1
  have s4 := hs.2.2.2.1
  have g1 := hG.1
  have no : ∀ v : Int, ((x1 < 0 ∨ D0 214 1 ≤ x1 ∨ x2 < 0 ∨ D0 214 3 ≤ x2) → v = -1) → (0 ≤ x1 → x1 < D0 214 1 → 0 ≤ x2 → x2 < D0 214 3 → v = -4 ∧ D0 214 4 = 80) → Call E (d + 5) 0 0 mX12_sound [vR 214, vI x1, vI x2] G D0 (retI G (fun y D2 => iv v = iv y ∧ Inv G D2)) := fun v v1 v2 =>
    w_X12_sound hG (c_rTongue hG hI.ri h1 (fun a b => b_t (c_rLaw hG hI.ri h2 (fun a' b' => n_t (br_ne (fun g => absurd (v2 a b a' b').2 g) (fun g => rI ⟨by rw [(v2 a b a' b').1], hI⟩))) (fun q => n_f (rI ⟨by rw [v1 (by omega)], hI⟩)))) (fun q => b_f (rI ⟨by rw [v1 (by omega)], hI⟩)))
  refine w_X11_sound (kc := 0) (ks := 0) hG (c_isTongue hI h1 (fun a b => b_t (c_isLaw hI h2 (fun a' b' => n_t ?_) (fun q => n_f (rIG' ⟨hG, no _ (fun _ => rfl) (by omega)⟩)))) (fun q => b_f (rIG' ⟨hG, no _ (fun _ => rfl) (by omega)⟩)))
  rw [s4.1]
  refine br_lt (fun g => ?_) (fun g => rIG' ⟨hG, no _ (by omega) (fun _ _ _ _ => ⟨rfl, by omega⟩)⟩)
  refine l_soundC hI ⟨a, by omega⟩ a' b' (fun D4 k4 c4 => ?_) 10 D0 0 (by omega) (by omega) (by omega) (fun _ _ _ _ => rfl) (fun m p q => by omega)
  refine w_X11_sound_35 (kc := 0) (ks := 0) hG (br_le (fun _ => ?_) (fun q => by omega))
  refine mk_ev7 hG (n := D0 214 4) (by rw [k4 _ _ (by omega) (by omega)]; exact s4.1) s4.2.1 g (fun D5 k5 m5 v0 v1 v2 v3 v4 => rIG' ⟨hG.evG, ?_⟩)
  generalize hn : D0 214 4 = n at *
  have kc : ∀ c k, c < G.1 → ¬ (c = 2 ∧ k = 8) → ¬ (22 + 20 * x1 ≤ c ∧ c < 42 + 20 * x1 ∧ (c % 2 = 1 ∨ k = 1)) → c ≠ 142 + 6 * x2 + 5 → D5 c k = D0 c k := fun c k p q r u => by rw [k5 c k p q, k4 c k r u]
  have kr : ∀ c k, 214 ≤ c → c < 249 → D5 c k = D0 c k := fun c k p q => kc c k (by omega) (by omega) (by omega) (by omega)
  have ri5 : ri D5 := hI.ri.keep (kr _ _ (by omega) (by omega)) (kr _ _ (by omega) (by omega)) (fun k => kr _ _ (by omega) (by omega)) (fun k => kr _ _ (by omega) (by omega))
  have hG5 : Sh (evG G 7 n) := hG.evG
  refine w_X12_sound hG5 (c_rTongue hG5 ri5 h1 (fun _ _ => b_t (c_rLaw hG5 ri5 h2 (fun _ _ => n_t ?_) (fun q => ?_))) (fun q => ?_))
  · rw [kr 214 4 (by omega) (by omega), hn]
    refine br_ne (fun _ => ?_) (fun q => by omega)
    have hl0 := q6 x2 a' b'
    refine l_soundR (D := D5) hI ⟨a, b⟩ a' b' hG5 (fun D6 k6 o6 c6 => ?_) (fun D' p q => ?_) 10 D5 0 (by omega) (by omega) (by omega) (fun c k p0 p1 _ _ _ _ _ => kr c k p0 p1) (fun _ _ _ => rfl) (fun m p q => by omega)
    · refine w_X12_sound_35 hG5 (br_le (fun _ => ?_) (fun q => by omega))
      refine c_happens hG5 (n := n) (by rw [k6 _ _ (by omega) (by omega) (by omega) (by omega) (by omega) (by omega) (by omega)]; exact hn) (by omega) g (fun D12 k12 m12 u0 u1 u2 u3 u4 => rI ⟨rfl, ?_⟩)
      have kk : ∀ c k, 214 ≤ c → c < 249 → ¬ (c = 214 ∧ (k = 4 ∨ k = 35)) → ¬ (228 ≤ c ∧ c ≤ 232 ∧ k = n) → c ≠ 235 → c ≠ 236 → ¬ (c = 216 ∧ 10 * x1 ≤ k ∧ k < 10 * x1 + 10) → ¬ (c = 217 ∧ 80 * x1 ≤ k ∧ k < 80 * x1 + 80) → D12 c k = D0 c k := fun c k p0 p1 p2 p3 p4 p5 p6 p7 => by
        rw [k12 c k (by omega) p3, k6 c k p0 p1 (by omega) p4 p5 p6 p7]
      have ko : ∀ c k, c < 214 ∨ 249 ≤ c → D12 c k = D5 c k := fun c k p => by rw [k12 c k (by omega) (by omega), o6 c k p]
      have y229 : D12 229 n = D0 214 2 := by rw [u1]; exact k6 _ _ (by omega) (by omega) (by omega) (by omega) (by omega) (by omega) (by omega)
      refine hI.ev rfl hn (Or.inl ⟨rfl, rfl⟩) ?_ m12 (q3.keep (fun k => ?_) (fun k => kk _ _ (by omega) (by omega) (by omega) (by omega) (by omega) (by omega) (by omega) (by omega))) ?_ (q5.keep (kk _ _ (by omega) (by omega) (by omega) (by omega) (by omega) (by omega) (by omega) (by omega)) (fun k => ?_) (fun k => kk _ _ (by omega) (by omega) (by omega) (by omega) (by omega) (by omega) (by omega) (by omega)) (fun k => kk _ _ (by omega) (by omega) (by omega) (by omega) (by omega) (by omega) (by omega) (by omega))) (fun c k hc => ?_) u0 ?_ ?_ ?_ ?_ ?_ ?_
      · unfold i_sc at hs ⊢
        have c2 : ∀ k, k ≠ 8 → D12 2 k = D0 2 k := fun k p => by rw [ko _ _ (by omega)]; exact kc _ _ (by omega) (by omega) (by omega) (by omega)
        have c8 : D12 2 8 = n + 1 := by rw [ko _ _ (by omega)]; exact m5
        have c3 : ∀ k, 1 ≤ k → k ≤ 9 → k ≠ 4 → D12 214 k = D0 214 k := fun k p q r => kk _ _ (by omega) (by omega) (by omega) (by omega) (by omega) (by omega) (by omega) (by omega)
        rw [c8, m12, c2 3 (by omega), c2 11 (by omega), c2 6 (by omega), c2 10 (by omega), c2 15 (by omega), c2 1 (by omega), c2 13 (by omega), c2 12 (by omega), c3 1 (by omega) (by omega) (by omega), c3 2 (by omega) (by omega) (by omega), c3 3 (by omega) (by omega) (by omega), c3 5 (by omega) (by omega) (by omega), c3 6 (by omega) (by omega) (by omega), c3 7 (by omega) (by omega) (by omega), c3 8 (by omega) (by omega) (by omega), c3 9 (by omega) (by omega) (by omega)]
        omega
      · rw [ko _ _ (by omega)]; exact kc _ _ (by omega) (by omega) (by omega) (by omega)
      · intro j j0 j1
        obtain ⟨w1, w4, w5, w6, w7⟩ := q4 j j0 j1
        by_cases hj : 10 * x1 ≤ j ∧ j < 10 * x1 + 10
        · obtain ⟨r1, r2⟩ := c6 (j - 10 * x1) (by omega) (by omega)
          obtain ⟨a1, a2⟩ := c4 (j - 10 * x1) (by omega) (by omega)
          rw [show 10 * x1 + (j - 10 * x1) = j by omega] at r1 r2 a1 a2
          have wdA := apl_wd hl0 (hI.wd j0 j1)
          have ln := wl_len (D := D6) (j := j) r2
          rw [r1] at ln
          have e216 : D12 216 j = D6 216 j := k12 _ _ (by omega) (by omega)
          have eC : ∀ k, D12 (22 + 2 * j) k = D4 (22 + 2 * j) k := fun k => by rw [ko _ _ (by omega), k5 _ _ (by omega) (by omega)]
          have eL : ∀ k, D12 (22 + 2 * j + 1) k = D4 (22 + 2 * j + 1) k := fun k => by rw [ko _ _ (by omega), k5 _ _ (by omega) (by omega)]
          have l8 := wdA.1
          unfold i_w1
          rw [eC, eC, eC, eC, e216, a1, k4 (22 + 2 * j) 2 (by omega) (by omega), k4 (22 + 2 * j) 3 (by omega) (by omega), k4 (22 + 2 * j) 4 (by omega) (by omega), kk 218 j (by omega) (by omega) (by omega) (by omega) (by omega) (by omega) (by omega) (by omega), kk 219 j (by omega) (by omega) (by omega) (by omega) (by omega) (by omega) (by omega) (by omega), kk 220 j (by omega) (by omega) (by omega) (by omega) (by omega) (by omega) (by omega) (by omega)]
          refine ⟨⟨ln, r2, by omega⟩, fun k k0 k1 => ?_, w5, w6, w7⟩
          have gk := wl_get (D := D6) (j := j) (q := k) k0 (by rw [r1]; omega)
          rw [r1] at gk
          have lk := wdA.2 k.toNat (by omega)
          rw [eL, a2 k k0 (by omega), k12 217 _ (by omega) (by omega), ← gk]
          omega
        · exact (q4 j j0 j1).keep (fun k => by rw [ko _ _ (by omega)]; exact kc _ _ (by omega) (by omega) (by omega) (by omega)) (fun k => by rw [ko _ _ (by omega)]; exact kc _ _ (by omega) (by omega) (by omega) (by omega)) (kk _ _ (by omega) (by omega) (by omega) (by omega) (by omega) (by omega) (by omega) (by omega)) (fun k _ _ => kk _ _ (by omega) (by omega) (by omega) (by omega) (by omega) (by omega) (by omega) (by omega)) (kk _ _ (by omega) (by omega) (by omega) (by omega) (by omega) (by omega) (by omega) (by omega)) (kk _ _ (by omega) (by omega) (by omega) (by omega) (by omega) (by omega) (by omega) (by omega)) (kk _ _ (by omega) (by omega) (by omega) (by omega) (by omega) (by omega) (by omega) (by omega))
      · rw [ko _ _ (by omega)]; exact kc _ _ (by omega) (by omega) (by omega) (by omega)
      · by_cases hc' : c < 214 ∨ 249 ≤ c
        · rw [ko _ _ hc']; exact kc _ _ (by omega) (by omega) (by omega) (by omega)
        · exact kk _ _ (by omega) (by omega) (by omega) (by omega) (by omega) (by omega) (by omega) (by omega)
      · rw [ko _ _ (by omega)]; exact v0
      · rw [ko _ _ (by omega), v1, y229, k4 _ _ (by omega) (by omega)]; exact s2.1
      · rw [ko _ _ (by omega), v2, u2]
      · rw [ko _ _ (by omega), v3, u3]
      · rw [ko _ _ (by omega), v4, u4]
      · rw [y229]; exact s2.2
    · have kp : ∀ c k, 142 ≤ c → c < 214 → c ≠ 142 + 6 * x2 + 5 → D' c k = D0 c k := fun c k p1 p2 p3 => by rw [p c k p2]; exact kc _ _ (by omega) (by omega) (by omega) p3
      exact hl0.keep (kp _ _ (by omega) (by omega) (by omega)) (fun j => kp _ _ (by omega) (by omega) (by omega)) (fun j => kp _ _ (by omega) (by omega) (by omega)) (fun j => kp _ _ (by omega) (by omega) (by omega)) (fun j => kp _ _ (by omega) (by omega) (by omega)) (q _ _ (by omega) (by omega)) (fun j _ _ => ⟨q _ _ (by omega) (by omega), q _ _ (by omega) (by omega), q _ _ (by omega) (by omega), q _ _ (by omega) (by omega)⟩)
  · rw [kr 214 3 (by omega) (by omega)] at q; omega
  · rw [kr 214 1 (by omega) (by omega)] at q; omega
end Sound
