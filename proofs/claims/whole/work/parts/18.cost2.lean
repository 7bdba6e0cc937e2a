/-! ===== COST, of the reference ===== -/
/-- letters of a WORD of the reference -/
abbrev rla (D : mmD) (j : Int) : Int → Int := fun i => D 217 (8 * j + i)
/-- a WORD of the reference is one -/
def rw8 (D : mmD) (j : Int) : Prop := (0 ≤ D 216 j ∧ D 216 j ≤ 8) ∧ ∀ k : Int, 0 ≤ k → k < D 216 j → 1 ≤ D 217 (8 * j + k) ∧ D 217 (8 * j + k) ≤ 26
theorem Inv.w8 {G : mmG} {D : mmD} (h : Inv G D) {j : Int} (j0 : 0 ≤ j) (j1 : j < 60) : rw8 D j := ⟨(h.2.2.2.1 j j0 j1).1.2, fun k k0 k1 => ((h.2.2.2.1 j j0 j1).2.1 k k0 k1).2⟩
theorem rw8_keep {D D' : mmD} {j : Int} (h : rw8 D j) (h1 : ∀ k, D' 216 k = D 216 k) (h2 : ∀ k, D' 217 k = D 217 k) : rw8 D' j := by
  refine ⟨by rw [h1]; exact h.1, fun k k0 k1 => ?_⟩
  rw [h1] at k1
  rw [h2]
  exact h.2 k k0 k1
section CostR
variable {E : mmE} {d kc ks : Nat} {G : mmG} {D : mmD} {P : Int → mmD → Prop} {x1 x2 x3 x4 : Int}
theorem l_cost40 {D0 : mmD} {Q : mmQ} {u v ja jb : Int} (hG : Sh G) (eja : 10 * x1 + x2 = ja) (ejb : 10 * x3 + x4 = jb) (ja0 : 0 ≤ ja ∧ ja < 60) (jb0 : 0 ≤ jb ∧ jb < 60) (wa : rw8 D0 ja) (wb : rw8 D0 jb) (hu : D0 216 ja = u) (hv : D0 216 jb = v) {i : Int} (hi : 0 ≤ i ∧ i ≤ u)
    (K : ∀ D' : mmD, (∀ c k, c ≠ 237 → D' c k = D0 c k) → tab 237 D' (rla D0 ja) (rla D0 jb) u v i (-1) → Go E (d + 2) kc ks mX12_costOf 31 [some (vR 214), some (vI x1), some (vI x2), some (vI x3), some (vI x4), some (vI u), some (vI v), some (vI (i + (-1))), none, none] [] G D' Q) :
    ∀ (n : Nat) (D : mmD) (j : Int), j + 1 = n → j ≤ v → (∀ c k, c ≠ 237 → D c k = D0 c k) → tab 237 D (rla D0 ja) (rla D0 jb) u v i j → Go E (d + 2) kc ks mX12_costOf 40 [some (vR 214), some (vI x1), some (vI x2), some (vI x3), some (vI x4), some (vI u), some (vI v), some (vI i), some (vI j), none] [] G D Q := by
  have hu8 : 0 ≤ u ∧ u ≤ 8 := by rw [← hu]; exact wa.1
  have hv8 : 0 ≤ v ∧ v ≤ 8 := by rw [← hv]; exact wb.1
  intro n
  induction n with
  | zero =>
    intro D j hj hjv ha ht
    have e : j = -1 := by omega
    subst e
    exact w_X12_costOf_40 hG (br_lt (fun _ => K D ha ht) (fun h => by omega))
  | succ n ih =>
    intro D j hj hjv ha ht
    have up : ∀ (x : Int) (D' : mmD), D' = up2 D 237 (9 * i + j) x → x = ec (rla D0 ja) (rla D0 jb) u v i j → Go E (d + 2) kc ks mX12_costOf 40 [some (vR 214), some (vI x1), some (vI x2), some (vI x3), some (vI x4), some (vI u), some (vI v), some (vI i), some (vI (j + (-1))), none] [] G D' Q := by
      intro x D' he hx
      refine ih D' (j + (-1)) (by omega) (by omega) (fun c k hc => ?_) (ht.put hv8.2 (by omega) hjv hx he)
      rw [he, up2_ne (by omega)]
      exact ha c k hc
    -- the last comparison
    have s188 : ∀ x : Int, 0 ≤ x → x ≤ 1000000 → (j < v → min x (2 + ec (rla D0 ja) (rla D0 jb) u v i (j + 1)) = ec (rla D0 ja) (rla D0 jb) u v i j) → (j = v → x = ec (rla D0 ja) (rla D0 jb) u v i j) → Go E (d + 2) kc ks mX12_costOf 188 [some (vR 214), some (vI x1), some (vI x2), some (vI x3), some (vI x4), some (vI u), some (vI v), some (vI i), some (vI j), some (vI x)] [] G D Q := by
      intro x hx0 hx1 h1 h2
      refine w_X12_costOf_188 hG (br_le (fun h => ⟨⟨by omega, by omega⟩, fun D1 e1 => up _ D1 e1 (h2 (by omega))⟩) (fun h => ⟨⟨by omega, by omega⟩, ?_⟩))
      have t1 : D 237 (9 * i + j + 1) = ec (rla D0 ja) (rla D0 jb) u v i (j + 1) := by
        have := ht i (j + 1) (by omega) (by omega) (by omega) (by omega) (by omega)
        rw [← this]; congr 1; omega
      have b1 := ec_rg8 (a := rla D0 ja) (b := rla D0 jb) (u := u) (v := v) (i := i) (j := j + 1) (by omega) (by omega) (by omega) (by omega) hu8.2 hv8.2
      have h1' := h1 h
      rw [t1]
      exact br_le (fun g => ⟨⟨by omega, by omega⟩, fun D2 e2 => up _ D2 e2 (by omega)⟩) (fun g => ⟨⟨by omega, by omega⟩, ⟨by omega, by omega⟩, fun D3 e3 => up _ D3 e3 (by omega)⟩)
    have s138 : ∀ x : Int, 0 ≤ x → x ≤ 1000000 → (i < u → ∀ y, y = min x (2 + ec (rla D0 ja) (rla D0 jb) u v (i + 1) j) → ((j < v → min y (2 + ec (rla D0 ja) (rla D0 jb) u v i (j + 1)) = ec (rla D0 ja) (rla D0 jb) u v i j) ∧ (j = v → y = ec (rla D0 ja) (rla D0 jb) u v i j))) → (i = u → (j < v → min x (2 + ec (rla D0 ja) (rla D0 jb) u v i (j + 1)) = ec (rla D0 ja) (rla D0 jb) u v i j) ∧ (j = v → x = ec (rla D0 ja) (rla D0 jb) u v i j)) → Go E (d + 2) kc ks mX12_costOf 138 [some (vR 214), some (vI x1), some (vI x2), some (vI x3), some (vI x4), some (vI u), some (vI v), some (vI i), some (vI j), some (vI x)] [] G D Q := by
      intro x hx0 hx1 h1 h2
      refine w_X12_costOf_138 hG (br_le (fun h => s188 x hx0 hx1 (h2 (by omega)).1 (h2 (by omega)).2) (fun h => ⟨⟨by omega, by omega⟩, ?_⟩))
      have t1 : D 237 (9 * i + j + 9) = ec (rla D0 ja) (rla D0 jb) u v (i + 1) j := by
        have := ht (i + 1) j (by omega) (by omega) (by omega) (by omega) (by omega)
        rw [← this]; congr 1; omega
      have b1 := ec_rg8 (a := rla D0 ja) (b := rla D0 jb) (u := u) (v := v) (i := i + 1) (j := j) (by omega) (by omega) (by omega) (by omega) hu8.2 hv8.2
      rw [t1]
      refine br_le (fun g => ?_) (fun g => ⟨⟨by omega, by omega⟩, ?_⟩)
      · have := h1 h x (by omega)
        exact s188 x hx0 hx1 this.1 this.2
      · have := h1 h (ec (rla D0 ja) (rla D0 jb) u v (i + 1) j + 2) (by omega)
        exact s188 _ (by omega) (by omega) this.1 this.2
    have far : (i < u → j = v) → (i = u → j < v) → Go E (d + 2) kc ks mX12_costOf 65 [some (vR 214), some (vI x1), some (vI x2), some (vI x3), some (vI x4), some (vI u), some (vI v), some (vI i), some (vI j), none] [vI 1000000] G D Q := by
      intro f1 f2
      have go : Go E (d + 2) kc ks mX12_costOf 138 [some (vR 214), some (vI x1), some (vI x2), some (vI x3), some (vI x4), some (vI u), some (vI v), some (vI i), some (vI j), some (vI 1000000)] [] G D Q := by
        refine s138 1000000 (by omega) (by omega) (fun h y hy => ⟨fun g => by have := f1 h; omega, fun g => ?_⟩) (fun h => ⟨fun g => ?_, fun g => by have := f2 h; omega⟩)
        · have e1 : ec (rla D0 ja) (rla D0 jb) u v i j = 2 * (u - i + v - j) := ec_out (by omega) (by omega) (by omega)
          have e2 : ec (rla D0 ja) (rla D0 jb) u v (i + 1) j = 2 * (u - (i + 1) + v - j) := ec_out (by omega) (by omega) (by omega)
          omega
        · have e1 : ec (rla D0 ja) (rla D0 jb) u v i j = 2 * (u - i + v - j) := ec_out (by omega) (by omega) (by omega)
          have e2 : ec (rla D0 ja) (rla D0 jb) u v i (j + 1) = 2 * (u - i + v - (j + 1)) := ec_out (by omega) (by omega) (by omega)
          omega
      exact w_X12_costOf_65 hG (br_le (fun _ => go) (fun h => br_le (fun _ => go) (fun g => by have := f1 h; omega)))
    have both : i < u → j < v → ∀ y0 : Int, Go E (d + 2) kc ks mX12_costOf 65 [some (vR 214), some (vI x1), some (vI x2), some (vI x3), some (vI x4), some (vI u), some (vI v), some (vI i), some (vI j), none] [vI y0] G D Q := by
      intro h h' y0
      have ea : 80 * x1 + 8 * x2 + i = 8 * ja + i := by omega
      have eb : 80 * x3 + 8 * x4 + j = 8 * jb + j := by omega
      have qa : D 217 (8 * ja + i) = D0 217 (8 * ja + i) := ha _ _ (by omega)
      have qb : D 217 (8 * jb + j) = D0 217 (8 * jb + j) := ha _ _ (by omega)
      have ra := wa.2 i (by omega) (by omega)
      have rb := wb.2 j (by omega) (by omega)
      refine w_X12_costOf_65 hG (br_le (fun g => by omega) (fun _ => br_le (fun g => by omega) (fun _ => ⟨⟨by omega, by omega⟩, ⟨by omega, by omega⟩, ?_⟩)))
      rw [ea, eb, qa, qb]
      refine c_apart hG (by unfold rg; omega) (by unfold rg; omega) ⟨⟨by omega, by omega⟩, ?_⟩
      have t3 : D 237 (9 * i + j + 10) = ec (rla D0 ja) (rla D0 jb) u v (i + 1) (j + 1) := by
        have := ht (i + 1) (j + 1) (by omega) (by omega) (by omega) (by omega) (by omega)
        rw [← this]; congr 1; omega
      rw [t3]
      have b1 := ec_rg8 (a := rla D0 ja) (b := rla D0 jb) (u := u) (v := v) (i := i + 1) (j := j + 1) (by omega) (by omega) (by omega) (by omega) hu8.2 hv8.2
      have b2 := apt_rg (D0 217 (8 * ja + i)) (D0 217 (8 * jb + j))
      have e := ec_in (a := rla D0 ja) (b := rla D0 jb) h h'
      have e' : ec (rla D0 ja) (rla D0 jb) u v i j = min (apt (D0 217 (8 * ja + i)) (D0 217 (8 * jb + j)) + ec (rla D0 ja) (rla D0 jb) u v (i + 1) (j + 1)) (min (2 + ec (rla D0 ja) (rla D0 jb) u v (i + 1) j) (2 + ec (rla D0 ja) (rla D0 jb) u v i (j + 1))) := e
      exact s138 _ (by omega) (by omega) (fun _ y hy => ⟨fun _ => by omega, fun g => by omega⟩) (fun g => by omega)
    have bot : i = u → j = v → Go E (d + 2) kc ks mX12_costOf 65 [some (vR 214), some (vI x1), some (vI x2), some (vI x3), some (vI x4), some (vI u), some (vI v), some (vI i), some (vI j), none] [vI 0] G D Q := by
      intro h h'
      have e1 : ec (rla D0 ja) (rla D0 jb) u v i j = 2 * (u - i + v - j) := ec_out (by omega) (by omega) (by omega)
      exact w_X12_costOf_65 hG (br_le (fun _ => s138 0 (by omega) (by omega) (fun g => by omega) (fun _ => ⟨fun g => by omega, fun _ => by omega⟩)) (fun g => by omega))
    refine w_X12_costOf_40 hG (br_lt (fun h => by omega) (fun _ => br_ne (fun a => ?_) (fun a => br_ne (fun b => far (fun g => by omega) (fun _ => by omega)) (fun b => bot a b))))
    by_cases hjv2 : j < v
    · exact both (by omega) hjv2 _
    · exact far (fun _ => by omega) (fun g => absurd g a)
theorem c_costOf {u v ja jb : Int} (hG : Sh G) (eja : 10 * x1 + x2 = ja) (ejb : 10 * x3 + x4 = jb) (ja0 : 0 ≤ ja ∧ ja < 60) (jb0 : 0 ≤ jb ∧ jb < 60) (wa : rw8 D ja) (wb : rw8 D jb) (hu : D 216 ja = u) (hv : D 216 jb = v)
    (h : ∀ D' : mmD, (∀ c k, c ≠ 237 → D' c k = D c k) → tab 237 D' (rla D ja) (rla D jb) u v (-1) v → P (ec (rla D ja) (rla D jb) u v 0 0) D') : Call E (d + 2) kc ks mX12_costOf [vR 214, vI x1, vI x2, vI x3, vI x4] G D (retI G P) := by
  have hu8 : 0 ≤ u ∧ u ≤ 8 := by rw [← hu]; exact wa.1
  have hv8 : 0 ≤ v ∧ v ≤ 8 := by rw [← hv]; exact wb.1
  have outer : ∀ (n : Nat) (D' : mmD) (i : Int), i + 1 = n → i ≤ u → (∀ c k, c ≠ 237 → D' c k = D c k) → tab 237 D' (rla D ja) (rla D jb) u v i v → Go E (d + 2) kc ks mX12_costOf 31 [some (vR 214), some (vI x1), some (vI x2), some (vI x3), some (vI x4), some (vI u), some (vI v), some (vI i), none, none] [] G D' (retI G P) := by
    intro n
    induction n with
    | zero =>
      intro D' i hi hiu ha ht
      have e : i = -1 := by omega
      subst e
      refine w_X12_costOf_31 hG (br_lt (fun _ => ?_) (fun h => by omega))
      have e0 : D' 237 0 = ec (rla D ja) (rla D jb) u v 0 0 := ht 0 0 (by omega) (by omega) (by omega) (by omega) (by omega)
      rw [e0]
      exact rI (h D' ha ht)
    | succ n ih =>
      intro D' i hi hiu ha ht
      exact w_X12_costOf_31 hG (br_lt (fun h => by omega) (fun _ => l_cost40 hG eja ejb ja0 jb0 wa wb hu hv ⟨by omega, hiu⟩ (fun D2 ha2 ht2 => ih D2 (i + (-1)) (by omega) (by omega) ha2 ht2.row) (v + 1).toNat D' v (by omega) (by omega) ha ht))
  refine w_X12_costOf hG ⟨⟨by omega, by omega⟩, ⟨by omega, by omega⟩, ?_⟩
  rw [eja, ejb, hu, hv]
  exact outer (u + 1).toNat D u (by omega) (by omega) (fun _ _ _ => rfl) (fun p q p0 p1 q0 q1 hpq => by omega)
end CostR
