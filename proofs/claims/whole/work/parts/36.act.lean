section Act
variable {E : mmE} {d kc ks : Nat} {G : mmG} {D0 D : mmD} {x1 x2 x3 : Int}
def latG (G : mmG) (e : Int) : mmG := (G.1, G.2.1, up2 (up2 G.2.2 2 9 0) 2 9 e)
theorem Sh.latG {e : Int} (h : Sh G) : Sh (latG G e) := (h.lat (x := 0)).lat (x := e)
theorem isEv.latG {ci : Nat} {x e : Int} (h : isEv G ci x) : isEv (latG G e) ci x := by
  obtain ⟨h1, h2, h3, h4, h5⟩ := h
  refine ⟨h1, h2, h3, h4, ?_⟩
  show up2 (up2 G.2.2 2 9 0) 2 9 e x 5 = _
  rw [up2_ne (by omega), up2_ne (by omega)]
  exact h5
theorem Inv.act {D' : mmD} {e : Int} {L : List Int} (hI : Inv G D0) (i0 : 0 ≤ x1) (i1 : x1 < D0 214 4) (he : G.2.2 7 x1 = e) (hC : hl (e + 1) e 6 D' L) (hR : hl 248 214 57 D' L) (hL : L.length ≤ 20) (fr : ∀ c k, c ≠ e + 1 → ¬ (c = e ∧ k = 6) → c ≠ 248 → ¬ (c = 214 ∧ 57 ≤ k ∧ k ≤ 60) → D' c k = D0 c k) : Inv (latG G e) D' := by
  obtain ⟨hG, hs, q3, q4, q5, q6, q7, q8, q9⟩ := id hI
  obtain ⟨⟨ci0, ek0, ev0⟩, -⟩ := q7 x1 i0 i1
  rw [he] at ev0
  have b0 := ev0.1
  have b4 := ev0.2.2.2.1
  have r7 : ∀ i, (latG G e).2.2 7 i = G.2.2 7 i := fun i => by
    show up2 (up2 G.2.2 2 9 0) 2 9 e 7 i = _
    rw [up2_ne (by omega), up2_ne (by omega)]
  have r2 : (latG G e).2.2 2 9 = e := by
    show up2 (up2 G.2.2 2 9 0) 2 9 e 2 9 = _
    exact up2_same
  refine ⟨hG.latG, hs.keep (fun k => fr _ _ (by omega) (by omega) (by omega) (by omega)) (fun k _ _ => fr _ _ (by omega) (by omega) (by omega) (by omega)), q3.keep (fun k => fr _ _ (by omega) (by omega) (by omega) (by omega)) (fun k => fr _ _ (by omega) (by omega) (by omega) (by omega)), q4.keep (fun c k _ _ => fr _ _ (by omega) (by omega) (by omega) (by omega)) (fun c k _ _ => fr _ _ (by omega) (by omega) (by omega) (by omega)), q5.keep (fr _ _ (by omega) (by omega) (by omega) (by omega)) (fun k => fr _ _ (by omega) (by omega) (by omega) (by omega)) (fun k => fr _ _ (by omega) (by omega) (by omega) (by omega)) (fun k => fr _ _ (by omega) (by omega) (by omega) (by omega)), q6.keep hs.2.2.1.2.2 (fr _ _ (by omega) (by omega) (by omega) (by omega)) (fun c k _ _ _ => fr _ _ (by omega) (by omega) (by omega) (by omega)) (fun c k _ _ => fr _ _ (by omega) (by omega) (by omega) (by omega)), ?_, q8.keep (fr _ _ (by omega) (by omega) (by omega) (by omega)) (fun k => fr _ _ (by omega) (by omega) (by omega) (by omega)) (fun k => fr _ _ (by omega) (by omega) (by omega) (by omega)) (fun k => fr _ _ (by omega) (by omega) (by omega) (by omega)), ?_⟩
  · intro i j0 j1
    rw [fr 214 4 (by omega) (by omega) (by omega) (by omega)] at j1
    have hh := q7 i j0 j1
    obtain ⟨⟨cj, e1, e2⟩, -⟩ := id hh
    have c1 := e2.1
    have c3 := e2.2.2.1
    have ne : G.2.2 7 i ≠ e + 1 := fun q => by
      rw [q, b4] at c3
      have : (12 : Nat) = cj := congrArg Prod.fst c3
      unfold evk at e1
      omega
    unfold i_e1 at hh ⊢
    rw [r7, fr 228 i (by omega) (by omega) (by omega) (by omega), fr 229 i (by omega) (by omega) (by omega) (by omega), fr 230 i (by omega) (by omega) (by omega) (by omega), fr 231 i (by omega) (by omega) (by omega) (by omega), fr 232 i (by omega) (by omega) (by omega) (by omega), fr _ 0 ne (by omega) (by omega) (by omega), fr _ 1 ne (by omega) (by omega) (by omega), fr _ 2 ne (by omega) (by omega) (by omega), fr _ 3 ne (by omega) (by omega) (by omega), fr _ 4 ne (by omega) (by omega) (by omega)]
    exact ⟨⟨cj, e1, e2.latG⟩, hh.2⟩
  · refine ⟨by rw [hR.1]; omega, Or.inr ⟨x1, i0, by rw [fr 214 4 (by omega) (by omega) (by omega) (by omega)]; exact i1, by rw [r2, r7, he], by rw [r7, he, hC.1, hR.1], fun k k0 k1 => ?_⟩⟩
    rw [hR.1] at k1
    have a := hC.2 k.toNat (by omega)
    have b := hR.2 k.toNat (by omega)
    rw [show ((k.toNat : Nat) : Int) = k by omega] at a b
    rw [r7, he, a, b]
theorem Inv.noact {D' : mmD} (hI : Inv G D0) (h0 : D' 214 57 = 0) (fr : ∀ c k, ¬ (c = 214 ∧ k = 57) → D' c k = D0 c k) : Inv (G.1, G.2.1, up2 G.2.2 2 9 0) D' := by
  obtain ⟨hG, hs, q3, q4, q5, q6, q7, q8, q9⟩ := id hI
  have r7 : ∀ i, up2 G.2.2 2 9 0 7 i = G.2.2 7 i := fun i => up2_ne (by omega)
  refine ⟨hG.lat, hs.keep (fun k => fr _ _ (by omega)) (fun k _ _ => fr _ _ (by omega)), q3.keep (fun k => fr _ _ (by omega)) (fun k => fr _ _ (by omega)), q4.keep (fun c k _ _ => fr _ _ (by omega)) (fun c k _ _ => fr _ _ (by omega)), q5.keep (fr _ _ (by omega)) (fun k => fr _ _ (by omega)) (fun k => fr _ _ (by omega)) (fun k => fr _ _ (by omega)), q6.keep hs.2.2.1.2.2 (fr _ _ (by omega)) (fun c k _ _ _ => fr _ _ (by omega)) (fun c k _ _ => fr _ _ (by omega)), ?_, q8.keep (fr _ _ (by omega)) (fun k => fr _ _ (by omega)) (fun k => fr _ _ (by omega)) (fun k => fr _ _ (by omega)), ?_⟩
  · intro i j0 j1
    rw [fr 214 4 (by omega)] at j1
    have hh := q7 i j0 j1
    obtain ⟨⟨cj, e1, e2⟩, -⟩ := id hh
    have c1 := e2.1
    unfold i_e1 at hh ⊢
    show (∃ ci : Nat, evk (D' 228 i) ci ∧ isEv (G.1, G.2.1, up2 G.2.2 2 9 0) ci (up2 G.2.2 2 9 0 7 i)) ∧ D' (up2 G.2.2 2 9 0 7 i) 0 = i ∧ D' (up2 G.2.2 2 9 0 7 i) 1 = D' 229 i ∧ D' (up2 G.2.2 2 9 0 7 i) 2 = D' 230 i ∧ D' (up2 G.2.2 2 9 0 7 i) 3 = D' 231 i ∧ D' (up2 G.2.2 2 9 0 7 i) 4 = D' 232 i ∧ 0 ≤ D' 229 i ∧ D' 229 i ≤ 9999
    rw [r7, fr 228 i (by omega), fr 229 i (by omega), fr 230 i (by omega), fr 231 i (by omega), fr 232 i (by omega), fr _ 0 (by omega), fr _ 1 (by omega), fr _ 2 (by omega), fr _ 3 (by omega), fr _ 4 (by omega)]
    refine ⟨⟨cj, e1, e2.1, e2.2.1, e2.2.2.1, e2.2.2.2.1, ?_⟩, hh.2⟩
    show up2 G.2.2 2 9 0 (G.2.2 7 i) 5 = _
    rw [up2_ne (by omega)]
    exact e2.2.2.2.2
  · refine ⟨by rw [h0]; omega, Or.inl ⟨?_, h0⟩⟩
    show up2 G.2.2 2 9 0 2 9 = 0
    exact up2_same
/-- act() of the reference, on an EVENT that there is -/
theorem r_act {P : Int → mmD → Prop} {k Y : Int} (hG : Sh G) (h1 : rg x1) (h2 : rg x2) (i0 : 0 ≤ x1) (i1 : x1 < D 214 4) (n80 : D 214 4 ≤ 80) (a0 : 0 ≤ x2) (a2 : x2 ≤ 2) (hk : D 228 x1 = k) (hY : D 229 x1 = Y)
    (K : ∀ D8 : mmD, (∀ c j, ¬ (c = 214 ∧ 57 ≤ j ∧ j ≤ 60) → D8 c j = D c j) → hl 248 214 57 D8 [] → D8 214 58 = k → D8 214 59 = x1 → D8 214 60 = Y → (x2 = 0 → Call E d 0 0 mX12_tells [vR 214, vI x3] G D8 (retI G P)) ∧ (x2 = 1 → Call E d 0 0 mX12_leads [vR 214, vI x3] G D8 (retI G P)) ∧ (x2 = 2 → Call E d 0 0 mX12_marks [vR 214, vI x3] G D8 (retI G P))) :
    Call E (d + 1) 0 0 mX12_act [vR 214, vI x1, vI x2, vI x3] G D (retI G P) := by
  have h2' := h2
  unfold rg at h2'
  refine w_X12_act hG (fun D1 e1 => ?_)
  have n1 : D1 214 4 = D 214 4 := by rw [e1, up2_ne (by omega)]
  rw [n1]
  refine c_in hG h1 (by unfold rg; omega) (by unfold rg; omega) (fun _ _ => b_t (c_in hG h2 (by unfold rg; omega) (by unfold rg; omega) (fun _ _ => n_t ⟨⟨by omega, by omega⟩, fun D6 e6 D7 e7 => ⟨⟨by omega, by omega⟩, fun D8 e8 => ?_⟩⟩) (fun q => by omega))) (fun q => by omega)
  have fr : ∀ c j, ¬ (c = 214 ∧ 57 ≤ j ∧ j ≤ 60) → D8 c j = D c j := fun c j q => by rw [e8, up2_ne (by omega), e7, up2_ne (by omega), e6, up2_ne (by omega), e1, up2_ne (by omega)]
  obtain ⟨k0, k1, k2⟩ := K D8 fr ⟨by rw [e8, up2_ne (by omega), e7, up2_ne (by omega), e6, up2_ne (by omega), e1, up2_same]; rfl, fun k hk => by simp at hk⟩ (by rw [e8, up2_ne (by omega), e7, up2_ne (by omega), e6, up2_same, e1, up2_ne (by omega)]; exact hk) (by rw [e8, up2_ne (by omega), e7, up2_same]) (by rw [e8, up2_same, e7, up2_ne (by omega), e6, up2_ne (by omega), e1, up2_ne (by omega)]; exact hY)
  have ret : ∀ {M : mmM}, Call E d 0 0 M [vR 214, vI x3] G D8 (retI G P) → Call E d 0 0 M [vR 214, vI x3] G D8 (retI G (fun z D9 => retI G P (some (vI z)) G D9)) := fun h => Go.to (fun r G' D' hq => by
    obtain ⟨e, x, ex, hp⟩ := hq
    subst e
    exact ⟨rfl, x, ex, ⟨rfl, x, rfl, hp⟩⟩) h
  exact br_ne (fun p => br_ne (fun q => ret (k2 (by omega))) (fun q => ret (k1 q))) (fun p => ret (k0 p))
theorem p_act (hI : Inv G D0) (h1 : rg x1) (h2 : rg x2) : Call E (d + 7) kc ks mX11_act [vR 2, vI x1, vI x2, vI x3] G D0 (retIG (fun x G1 D1 => Sh G1 ∧ Call E (d + 7) 0 0 mX12_act [vR 214, vI x1, vI x2, vI x3] G1 D1 (retI G1 (fun y D2 => iv x = iv y ∧ Inv G1 D2)))) := by
  obtain ⟨hG, hs, -, -, -, -, q7, -⟩ := id hI
  have s4 := hs.2.2.2.1
  have t2 := tI h2
  have h1' := h1
  have h2' := h2
  unfold rg at h1' h2'
  have no : (x1 < 0 ∨ D0 214 4 ≤ x1 ∨ x2 < 0 ∨ 2 < x2) → Sh (G.1, G.2.1, up2 G.2.2 2 9 0) ∧ Call E (d + 7) 0 0 mX12_act [vR 214, vI x1, vI x2, vI x3] (G.1, G.2.1, up2 G.2.2 2 9 0) D0 (retI (G.1, G.2.1, up2 G.2.2 2 9 0) (fun y D2 => iv 0 = iv y ∧ Inv (G.1, G.2.1, up2 G.2.2 2 9 0) D2)) := fun hn => by
    refine ⟨hG.lat, w_X12_act hG.lat (fun D1 e1 => ?_)⟩
    have n1 : D1 214 4 = D0 214 4 := by rw [e1, up2_ne (by omega)]
    have iv1 : Inv (G.1, G.2.1, up2 G.2.2 2 9 0) D1 := hI.noact (by rw [e1, up2_same]) (fun c k q => by rw [e1, up2_ne q])
    rw [n1]
    exact c_in hG.lat h1 (by unfold rg; omega) (by unfold rg; omega) (fun _ _ => b_t (c_in hG.lat h2 (by unfold rg; omega) (by unfold rg; omega) (fun _ _ => by omega) (fun _ => n_f (rI ⟨rfl, iv1⟩)))) (fun _ => b_f (rI ⟨rfl, iv1⟩))
  have gl : Sh (G.1, G.2.1, up2 G.2.2 2 9 0) := hG.lat
  by_cases hx : 0 ≤ x1 ∧ x1 < D0 214 4
  · obtain ⟨⟨ci, ek, ev⟩, e0, e1, e2, e3, e4, e5⟩ := q7 x1 hx.1 hx.2
    have r7 : ∀ i, up2 G.2.2 2 9 0 7 i = G.2.2 7 i := fun i => up2_ne (by omega)
    generalize hev : G.2.2 7 x1 = e at *
    have b0 := ev.1
    have evl := ev.latG (e := e)
    have gll : Sh (latG G e) := hG.latG
    -- both sides' ends agree
    have fin : ∀ (D1 D2 : mmD) (D8 : mmD) (L : List Int), L.length ≤ 20 → hl (e + 1) e 6 D1 L → fre e (up2 D0 e 6 0) D1 → (∀ c j, ¬ (c = 214 ∧ 57 ≤ j ∧ j ≤ 60) → D8 c j = D1 c j) → hl 248 214 57 D2 L → frr D8 D2 → Inv (latG G e) D2 := by
      intro D1 D2 D8 L hL hC fC f8 hR fR
      refine hI.act hx.1 hx.2 hev ⟨?_, fun k hk => ?_⟩ hR hL (fun c k p1 p2 p3 p4 => ?_)
      · rw [fR _ _ (by omega) (by omega), f8 _ _ (by omega)]; exact hC.1
      · rw [fR _ _ (by omega) (by omega), f8 _ _ (by omega)]; exact hC.2 k hk
      · rw [fR c k p3 (by omega), f8 c k p4, fC c k p1 p2, up2_ne p2]
    have st : ∀ D1 : mmD, fre e (up2 D0 e 6 0) D1 → D1 214 4 = D0 214 4 ∧ D1 228 x1 = D0 228 x1 ∧ D1 229 x1 = D0 229 x1 := fun D1 f1 => by
      refine ⟨?_, ?_, ?_⟩
      · rw [f1 _ _ (by omega) (by omega), up2_ne (by omega)]
      · rw [f1 _ _ (by omega) (by omega), up2_ne (by omega)]
      · rw [f1 _ _ (by omega) (by omega), up2_ne (by omega)]
    have h8 : hl (e + 1) e 6 (up2 D0 e 6 0) [] := ⟨by rw [up2_same]; rfl, fun k hk => by simp at hk⟩
    have n8 : up2 D0 e 6 0 e 0 = x1 := by rw [up2_ne (by omega)]; exact e0
    have y8 : up2 D0 e 6 0 e 1 = D0 229 x1 := by rw [up2_ne (by omega)]; exact e1
    rcases ek with ⟨ek, rfl⟩ | ⟨ek, rfl⟩ | ⟨ek, rfl⟩ | ⟨ek, rfl⟩ | ⟨ek, rfl⟩ | ⟨ek, rfl⟩
    · refine w_X11_act_k7 hG (fun G1 g1 => ?_)
      subst g1
      refine w_X11_eventAt_k7 gl (br_lt (fun q => by omega) (fun _ => ?_))
      rw [s4.1]
      refine br_le (fun q => by omega) (fun _ => ⟨⟨by omega, by omega⟩, ?_⟩)
      show retR _ _ (some (vR (up2 G.2.2 2 9 0 7 x1))) _ _
      rw [r7, hev]
      refine rR ⟨fun q => by omega, fun _ => br_lt (fun q => rIG' (no (by omega))) (fun p => br_le (fun q G5 g5 => ?_) (fun q => rIG' (no (by omega))))⟩
      have g5' : G5 = latG G e := g5
      subst g5'
      refine ⟨evl, fun D8 e8 => ?_⟩
      subst e8
      rw [t2]
      refine ⟨fun c => ?_, fun c => ?_, fun c c' => ?_⟩
      · exact tl7 (d := d + 4) gll evl h8 n8 y8 (by decide) (fun D1 h1' f1 => rIG' ⟨gll, r_act gll h1 h2 hx.1 (by rw [(st D1 f1).1]; exact hx.2) (by rw [(st D1 f1).1]; exact s4.2.2) p q ((st D1 f1).2.1.trans ek) (st D1 f1).2.2 (fun D8 k8 l8 u1 u2 u3 => ⟨fun _ => rtl1 gll u1 l8 u2 u3 (by decide) (fun D2 h2' f2 => ⟨rfl, fin D1 D2 D8 _ (by decide) h1' f1 k8 h2' f2⟩), fun q => by omega, fun q => by omega⟩)⟩)
      · exact ld7 (d := d + 2) gll evl h8 n8 y8 (by decide) (fun D1 h1' f1 => rIG' ⟨gll, r_act gll h1 h2 hx.1 (by rw [(st D1 f1).1]; exact hx.2) (by rw [(st D1 f1).1]; exact s4.2.2) p q ((st D1 f1).2.1.trans ek) (st D1 f1).2.2 (fun D8 k8 l8 u1 u2 u3 => ⟨fun q => by omega, fun _ => rld1 gll u1 l8 u2 u3 (by decide) (fun D2 h2' f2 => ⟨rfl, fin D1 D2 D8 _ (by decide) h1' f1 k8 h2' f2⟩), fun q => by omega⟩)⟩)
      · exact mk7 gll evl h8 n8 y8 (by decide) (fun D1 h1' f1 => rIG' ⟨gll, r_act gll h1 h2 hx.1 (by rw [(st D1 f1).1]; exact hx.2) (by rw [(st D1 f1).1]; exact s4.2.2) p q ((st D1 f1).2.1.trans ek) (st D1 f1).2.2 (fun D8 k8 l8 u1 u2 u3 => ⟨fun q => by omega, fun q => by omega, fun _ => rmk1 gll u1 l8 u2 u3 (by decide) (fun D2 h2' f2 => ⟨rfl, fin D1 D2 D8 _ (by decide) h1' f1 k8 h2' f2⟩)⟩)⟩)
    · refine w_X11_act_k4 hG (fun G1 g1 => ?_)
      subst g1
      refine w_X11_eventAt_k4 gl (br_lt (fun q => by omega) (fun _ => ?_))
      rw [s4.1]
      refine br_le (fun q => by omega) (fun _ => ⟨⟨by omega, by omega⟩, ?_⟩)
      show retR _ _ (some (vR (up2 G.2.2 2 9 0 7 x1))) _ _
      rw [r7, hev]
      refine rR ⟨fun q => by omega, fun _ => br_lt (fun q => rIG' (no (by omega))) (fun p => br_le (fun q G5 g5 => ?_) (fun q => rIG' (no (by omega))))⟩
      have g5' : G5 = latG G e := g5
      subst g5'
      refine ⟨evl, fun D8 e8 => ?_⟩
      subst e8
      rw [t2]
      refine ⟨fun c => ?_, fun c => ?_, fun c c' => ?_⟩
      · exact tl4 (d := d + 4) gll evl h8 n8 y8 (by decide) (fun D1 h1' f1 => rIG' ⟨gll, r_act gll h1 h2 hx.1 (by rw [(st D1 f1).1]; exact hx.2) (by rw [(st D1 f1).1]; exact s4.2.2) p q ((st D1 f1).2.1.trans ek) (st D1 f1).2.2 (fun D8 k8 l8 u1 u2 u3 => ⟨fun _ => rtl2 gll u1 l8 u2 u3 (by decide) (fun D2 h2' f2 => ⟨rfl, fin D1 D2 D8 _ (by decide) h1' f1 k8 h2' f2⟩), fun q => by omega, fun q => by omega⟩)⟩)
      · exact ld4 (d := d + 2) gll evl h8 n8 y8 (by decide) (fun D1 h1' f1 => rIG' ⟨gll, r_act gll h1 h2 hx.1 (by rw [(st D1 f1).1]; exact hx.2) (by rw [(st D1 f1).1]; exact s4.2.2) p q ((st D1 f1).2.1.trans ek) (st D1 f1).2.2 (fun D8 k8 l8 u1 u2 u3 => ⟨fun q => by omega, fun _ => rld2 gll u1 l8 u2 u3 (by decide) (fun D2 h2' f2 => ⟨rfl, fin D1 D2 D8 _ (by decide) h1' f1 k8 h2' f2⟩), fun q => by omega⟩)⟩)
      · exact mk4 gll evl h8 n8 y8 (by decide) (fun D1 h1' f1 => rIG' ⟨gll, r_act gll h1 h2 hx.1 (by rw [(st D1 f1).1]; exact hx.2) (by rw [(st D1 f1).1]; exact s4.2.2) p q ((st D1 f1).2.1.trans ek) (st D1 f1).2.2 (fun D8 k8 l8 u1 u2 u3 => ⟨fun q => by omega, fun q => by omega, fun _ => rmk2 gll u1 l8 u2 u3 (by decide) (fun D2 h2' f2 => ⟨rfl, fin D1 D2 D8 _ (by decide) h1' f1 k8 h2' f2⟩)⟩)⟩)
    · refine w_X11_act_k8 hG (fun G1 g1 => ?_)
      subst g1
      refine w_X11_eventAt_k8 gl (br_lt (fun q => by omega) (fun _ => ?_))
      rw [s4.1]
      refine br_le (fun q => by omega) (fun _ => ⟨⟨by omega, by omega⟩, ?_⟩)
      show retR _ _ (some (vR (up2 G.2.2 2 9 0 7 x1))) _ _
      rw [r7, hev]
      refine rR ⟨fun q => by omega, fun _ => br_lt (fun q => rIG' (no (by omega))) (fun p => br_le (fun q G5 g5 => ?_) (fun q => rIG' (no (by omega))))⟩
      have g5' : G5 = latG G e := g5
      subst g5'
      refine ⟨evl, fun D8 e8 => ?_⟩
      subst e8
      rw [t2]
      refine ⟨fun c => ?_, fun c => ?_, fun c c' => ?_⟩
      · exact tl8 (d := d + 4) gll evl h8 n8 y8 (by decide) (fun D1 h1' f1 => rIG' ⟨gll, r_act gll h1 h2 hx.1 (by rw [(st D1 f1).1]; exact hx.2) (by rw [(st D1 f1).1]; exact s4.2.2) p q ((st D1 f1).2.1.trans ek) (st D1 f1).2.2 (fun D8 k8 l8 u1 u2 u3 => ⟨fun _ => rtl3 gll u1 l8 u2 u3 (by decide) (fun D2 h2' f2 => ⟨rfl, fin D1 D2 D8 _ (by decide) h1' f1 k8 h2' f2⟩), fun q => by omega, fun q => by omega⟩)⟩)
      · exact ld8 (d := d + 2) gll evl h8 n8 y8 (by decide) (fun D1 h1' f1 => rIG' ⟨gll, r_act gll h1 h2 hx.1 (by rw [(st D1 f1).1]; exact hx.2) (by rw [(st D1 f1).1]; exact s4.2.2) p q ((st D1 f1).2.1.trans ek) (st D1 f1).2.2 (fun D8 k8 l8 u1 u2 u3 => ⟨fun q => by omega, fun _ => rld3 gll u1 l8 u2 u3 (by decide) (fun D2 h2' f2 => ⟨rfl, fin D1 D2 D8 _ (by decide) h1' f1 k8 h2' f2⟩), fun q => by omega⟩)⟩)
      · exact mk8 gll evl h8 n8 y8 (by decide) (fun D1 h1' f1 => rIG' ⟨gll, r_act gll h1 h2 hx.1 (by rw [(st D1 f1).1]; exact hx.2) (by rw [(st D1 f1).1]; exact s4.2.2) p q ((st D1 f1).2.1.trans ek) (st D1 f1).2.2 (fun D8 k8 l8 u1 u2 u3 => ⟨fun q => by omega, fun q => by omega, fun _ => rmk3 gll u1 l8 u2 u3 (by decide) (fun D2 h2' f2 => ⟨rfl, fin D1 D2 D8 _ (by decide) h1' f1 k8 h2' f2⟩)⟩)⟩)
    · refine w_X11_act_k5 hG (fun G1 g1 => ?_)
      subst g1
      refine w_X11_eventAt_k5 gl (br_lt (fun q => by omega) (fun _ => ?_))
      rw [s4.1]
      refine br_le (fun q => by omega) (fun _ => ⟨⟨by omega, by omega⟩, ?_⟩)
      show retR _ _ (some (vR (up2 G.2.2 2 9 0 7 x1))) _ _
      rw [r7, hev]
      refine rR ⟨fun q => by omega, fun _ => br_lt (fun q => rIG' (no (by omega))) (fun p => br_le (fun q G5 g5 => ?_) (fun q => rIG' (no (by omega))))⟩
      have g5' : G5 = latG G e := g5
      subst g5'
      refine ⟨evl, fun D8 e8 => ?_⟩
      subst e8
      rw [t2]
      refine ⟨fun c => ?_, fun c => ?_, fun c c' => ?_⟩
      · exact tl5 (d := d + 4) gll evl h8 n8 y8 (by decide) (fun D1 h1' f1 => rIG' ⟨gll, r_act gll h1 h2 hx.1 (by rw [(st D1 f1).1]; exact hx.2) (by rw [(st D1 f1).1]; exact s4.2.2) p q ((st D1 f1).2.1.trans ek) (st D1 f1).2.2 (fun D8 k8 l8 u1 u2 u3 => ⟨fun _ => rtl4 gll u1 l8 u2 u3 (by decide) (fun D2 h2' f2 => ⟨rfl, fin D1 D2 D8 _ (by decide) h1' f1 k8 h2' f2⟩), fun q => by omega, fun q => by omega⟩)⟩)
      · exact ld5 (d := d + 2) gll evl h8 n8 y8 (by decide) (fun D1 h1' f1 => rIG' ⟨gll, r_act gll h1 h2 hx.1 (by rw [(st D1 f1).1]; exact hx.2) (by rw [(st D1 f1).1]; exact s4.2.2) p q ((st D1 f1).2.1.trans ek) (st D1 f1).2.2 (fun D8 k8 l8 u1 u2 u3 => ⟨fun q => by omega, fun _ => rld4 gll u1 l8 u2 u3 (by decide) (fun D2 h2' f2 => ⟨rfl, fin D1 D2 D8 _ (by decide) h1' f1 k8 h2' f2⟩), fun q => by omega⟩)⟩)
      · exact mk5 gll evl h8 n8 y8 (by decide) (fun D1 h1' f1 => rIG' ⟨gll, r_act gll h1 h2 hx.1 (by rw [(st D1 f1).1]; exact hx.2) (by rw [(st D1 f1).1]; exact s4.2.2) p q ((st D1 f1).2.1.trans ek) (st D1 f1).2.2 (fun D8 k8 l8 u1 u2 u3 => ⟨fun q => by omega, fun q => by omega, fun _ => rmk4 gll u1 l8 u2 u3 (by decide) (fun D2 h2' f2 => ⟨rfl, fin D1 D2 D8 _ (by decide) h1' f1 k8 h2' f2⟩)⟩)⟩)
    · refine w_X11_act_k2 hG (fun G1 g1 => ?_)
      subst g1
      refine w_X11_eventAt_k2 gl (br_lt (fun q => by omega) (fun _ => ?_))
      rw [s4.1]
      refine br_le (fun q => by omega) (fun _ => ⟨⟨by omega, by omega⟩, ?_⟩)
      show retR _ _ (some (vR (up2 G.2.2 2 9 0 7 x1))) _ _
      rw [r7, hev]
      refine rR ⟨fun q => by omega, fun _ => br_lt (fun q => rIG' (no (by omega))) (fun p => br_le (fun q G5 g5 => ?_) (fun q => rIG' (no (by omega))))⟩
      have g5' : G5 = latG G e := g5
      subst g5'
      refine ⟨evl, fun D8 e8 => ?_⟩
      subst e8
      rw [t2]
      refine ⟨fun c => ?_, fun c => ?_, fun c c' => ?_⟩
      · exact tl2 (d := d + 4) gll evl h8 n8 y8 (by decide) (fun D1 h1' f1 => rIG' ⟨gll, r_act gll h1 h2 hx.1 (by rw [(st D1 f1).1]; exact hx.2) (by rw [(st D1 f1).1]; exact s4.2.2) p q ((st D1 f1).2.1.trans ek) (st D1 f1).2.2 (fun D8 k8 l8 u1 u2 u3 => ⟨fun _ => rtl5 gll u1 l8 u2 u3 (by decide) (fun D2 h2' f2 => ⟨rfl, fin D1 D2 D8 _ (by decide) h1' f1 k8 h2' f2⟩), fun q => by omega, fun q => by omega⟩)⟩)
      · exact ld2 (d := d + 2) gll evl h8 n8 y8 (by decide) (fun D1 h1' f1 => rIG' ⟨gll, r_act gll h1 h2 hx.1 (by rw [(st D1 f1).1]; exact hx.2) (by rw [(st D1 f1).1]; exact s4.2.2) p q ((st D1 f1).2.1.trans ek) (st D1 f1).2.2 (fun D8 k8 l8 u1 u2 u3 => ⟨fun q => by omega, fun _ => rld5 gll u1 l8 u2 u3 (by decide) (fun D2 h2' f2 => ⟨rfl, fin D1 D2 D8 _ (by decide) h1' f1 k8 h2' f2⟩), fun q => by omega⟩)⟩)
      · exact mk2 gll evl h8 n8 y8 (by decide) (fun D1 h1' f1 => rIG' ⟨gll, r_act gll h1 h2 hx.1 (by rw [(st D1 f1).1]; exact hx.2) (by rw [(st D1 f1).1]; exact s4.2.2) p q ((st D1 f1).2.1.trans ek) (st D1 f1).2.2 (fun D8 k8 l8 u1 u2 u3 => ⟨fun q => by omega, fun q => by omega, fun _ => rmk5 gll u1 l8 u2 u3 (by decide) (fun D2 h2' f2 => ⟨rfl, fin D1 D2 D8 _ (by decide) h1' f1 k8 h2' f2⟩)⟩)⟩)
    · refine w_X11_act_k1 hG (fun G1 g1 => ?_)
      subst g1
      refine w_X11_eventAt_k1 gl (br_lt (fun q => by omega) (fun _ => ?_))
      rw [s4.1]
      refine br_le (fun q => by omega) (fun _ => ⟨⟨by omega, by omega⟩, ?_⟩)
      show retR _ _ (some (vR (up2 G.2.2 2 9 0 7 x1))) _ _
      rw [r7, hev]
      refine rR ⟨fun q => by omega, fun _ => br_lt (fun q => rIG' (no (by omega))) (fun p => br_le (fun q G5 g5 => ?_) (fun q => rIG' (no (by omega))))⟩
      have g5' : G5 = latG G e := g5
      subst g5'
      refine ⟨evl, fun D8 e8 => ?_⟩
      subst e8
      rw [t2]
      refine ⟨fun c => ?_, fun c => ?_, fun c c' => ?_⟩
      · exact tl1 (d := d + 4) gll evl h8 n8 y8 (by decide) (fun D1 h1' f1 => rIG' ⟨gll, r_act gll h1 h2 hx.1 (by rw [(st D1 f1).1]; exact hx.2) (by rw [(st D1 f1).1]; exact s4.2.2) p q ((st D1 f1).2.1.trans ek) (st D1 f1).2.2 (fun D8 k8 l8 u1 u2 u3 => ⟨fun _ => rtl6 gll u1 l8 u2 u3 (by decide) (fun D2 h2' f2 => ⟨rfl, fin D1 D2 D8 _ (by decide) h1' f1 k8 h2' f2⟩), fun q => by omega, fun q => by omega⟩)⟩)
      · exact ld1 (d := d + 2) gll evl h8 n8 y8 (by decide) (fun D1 h1' f1 => rIG' ⟨gll, r_act gll h1 h2 hx.1 (by rw [(st D1 f1).1]; exact hx.2) (by rw [(st D1 f1).1]; exact s4.2.2) p q ((st D1 f1).2.1.trans ek) (st D1 f1).2.2 (fun D8 k8 l8 u1 u2 u3 => ⟨fun q => by omega, fun _ => rld6 gll u1 l8 u2 u3 (by decide) (fun D2 h2' f2 => ⟨rfl, fin D1 D2 D8 _ (by decide) h1' f1 k8 h2' f2⟩), fun q => by omega⟩)⟩)
      · exact mk1 gll evl h8 n8 y8 (by decide) (fun D1 h1' f1 => rIG' ⟨gll, r_act gll h1 h2 hx.1 (by rw [(st D1 f1).1]; exact hx.2) (by rw [(st D1 f1).1]; exact s4.2.2) p q ((st D1 f1).2.1.trans ek) (st D1 f1).2.2 (fun D8 k8 l8 u1 u2 u3 => ⟨fun q => by omega, fun q => by omega, fun _ => rmk6 gll u1 l8 u2 u3 (by decide) (fun D2 h2' f2 => ⟨rfl, fin D1 D2 D8 _ (by decide) h1' f1 k8 h2' f2⟩)⟩)⟩)
  · refine w_X11_act_k1 hG (fun G1 g1 => ?_)
    subst g1
    refine w_X11_eventAt_k1 gl (br_lt (fun q => rR ⟨fun _ => rIG' (no (by omega)), fun q => absurd rfl q⟩) (fun p => ?_))
    rw [s4.1]
    exact br_le (fun q => rR ⟨fun _ => rIG' (no (by omega)), fun q => absurd rfl q⟩) (fun q => absurd ⟨p, q⟩ hx)
end Act
