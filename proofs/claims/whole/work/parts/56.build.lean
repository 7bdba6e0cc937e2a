/-! ===== memory while it is made ===== -/
/-- where the reference to a cell lies -/
def ow (n : Int) : Int × Int :=
  if n < 22 then (if n = 3 then (2, 0) else if n = 4 then (2, 2) else if n = 5 then (2, 4) else if n = 6 then (2, 5) else if n = 7 then (2, 7) else if n = 8 then (2, 14) else if n = 9 then (2, 16) else if n = 10 then (9, 0) else if n = 11 then (9, 1) else if n = 12 then (2, 17) else if n = 13 then (12, 0) else if n = 14 then (12, 1) else if n = 15 then (12, 3) else if n = 16 then (12, 4) else if n = 17 then (12, 5) else if n = 18 then (2, 18) else if n = 19 then (18, 0) else if n = 20 then (2, 19) else if n = 21 then (20, 0) else (0, 0))
  else if n < 142 then (if n % 2 = 0 then (4, (n - 22) / 2) else (n - 1, 0))
  else if n < 214 then (if (n - 142) % 6 = 0 then (6, (n - 142) / 6) else (n - (n - 142) % 6, (n - 142) % 6 - 1))
  else if n = 214 then (0, 0)
  else if n < 235 then (214, n - 205)
  else if n < 237 then (214, n - 202)
  else if n < 239 then (214, n - 201)
  else if n < 242 then (214, n - 198)
  else if n < 246 then (214, n - 195)
  else (214, n - 192)
theorem rf_j {a j : Int} (h : ¬ (0 ≤ j ∧ j < 61)) : rf0 a j = 0 := by
  unfold rf0
  repeat' split
  all_goals omega
theorem rf_all : ∀ (a : Fin 249) (j : Fin 61), rf0 ((a.1 : Nat) : Int) ((j.1 : Nat) : Int) = 0 ∨ (ow (rf0 ((a.1 : Nat) : Int) ((j.1 : Nat) : Int)) = (((a.1 : Nat) : Int), ((j.1 : Nat) : Int)) ∧ ((a.1 : Nat) : Int) < rf0 ((a.1 : Nat) : Int) ((j.1 : Nat) : Int)) ∨ a.1 < 2 := by decide +kernel
theorem rf_ow {a j : Int} (a0 : 2 ≤ a) (a1 : a < 249) : rf0 a j = 0 ∨ (ow (rf0 a j) = (a, j) ∧ a < rf0 a j) := by
  by_cases hj : 0 ≤ j ∧ j < 61
  · have h := rf_all ⟨a.toNat, by omega⟩ ⟨j.toNat, by omega⟩
    simp only [show ((a.toNat : Nat) : Int) = a by omega, show ((j.toNat : Nat) : Int) = j by omega] at h
    rcases h with h | h | h
    · exact Or.inl h
    · exact Or.inr h
    · omega
  · exact Or.inl (rf_j hj)
theorem ow_all : ∀ n : Fin 249, ow ((n.1 : Nat) : Int) = (0, 0) ∨ rf0 (ow ((n.1 : Nat) : Int)).1 (ow ((n.1 : Nat) : Int)).2 = ((n.1 : Nat) : Int) := by decide +kernel
theorem ow_rf {n : Int} (n0 : 0 ≤ n) (n1 : n < 249) : ow n = (0, 0) ∨ rf0 (ow n).1 (ow n).2 = n := by
  have h := ow_all ⟨n.toNat, by omega⟩
  simp only [show ((n.toNat : Nat) : Int) = n by omega] at h
  exact h
/-- n cells, but for the references in pd, with W in them -/
def Bd (n : Int) (pd : List (Int × Int)) (W : Int → Int → Int) (G : mmG) (D : mmD) : Prop := G.1 = n ∧ (∀ a, 2 ≤ a → a < n → G.2.1 a = kd0 a) ∧ (∀ a j, 2 ≤ a → a < n → G.2.2 a j = cif (rf0 a j < n ∧ (a, j) ∉ pd) (rf0 a j) 0) ∧ (∀ a j, 2 ≤ a → a < n → D a j = W a j)
section Build
variable {n n' pa pj : Int} {pd : List (Int × Int)} {V : Int → Int → Int} {G : mmG} {D : mmD}
theorem Bd.push {kd : Nat} {len : Int} (h : Bd n pd V G D) (n2 : 2 ≤ n) (n9 : n < 249) (hk : kd0 n = (kd, len)) (ho : ow n = (pa, pj)) (hn : n + 1 = n') (hV : ∀ j, V n j = 0) : Bd n' ((pa, pj) :: pd) V (mm_push G kd len) (mm_zero D n) := by
  obtain ⟨h1, h2, h3, h4⟩ := h
  subst hn
  refine ⟨by show G.1 + 1 = n + 1; omega, fun a a2 a1 => ?_, fun a j a2 a1 => ?_, fun a j a2 a1 => ?_⟩
  · show (if a = G.1 then (kd, len) else G.2.1 a) = _
    by_cases e : a = n
    · rw [if_pos (by omega), e, hk]
    · rw [if_neg (by omega)]; exact h2 a a2 (by omega)
  · show (if a = G.1 then (0 : Int) else G.2.2 a j) = _
    have ro := rf_ow (a := a) (j := j) a2 (by omega)
    by_cases e : a = n
    · rw [if_pos (by omega)]
      by_cases c : rf0 a j < n + 1 ∧ (a, j) ∉ (pa, pj) :: pd
      · rw [cif_t c]
        rcases ro with r | r
        · exact r.symm
        · omega
      · rw [cif_f c]
    · rw [if_neg (by omega), h3 a j a2 (by omega)]
      by_cases er : rf0 a j = n
      · have c2 : ¬ (rf0 a j < n + 1 ∧ (a, j) ∉ (pa, pj) :: pd) := fun q => by
          rcases ro with r | r
          · omega
          · rw [er, ho] at r
            apply q.2
            rw [← r.1]
            exact List.mem_cons_self
        have c1 : ¬ (rf0 a j < n ∧ (a, j) ∉ pd) := fun q => by omega
        rw [cif_f c1, cif_f c2]
      · have ne : (a, j) ≠ (pa, pj) := fun q => by
          have hw := ow_rf (n := n) (by omega) n9
          rw [ho] at hw
          rcases hw with w | w
          · have e1 : a = 0 := by
              have := congrArg Prod.fst (q.trans w)
              exact this
            omega
          · have e1 : pa = a := (congrArg Prod.fst q).symm
            have e2 : pj = j := (congrArg Prod.snd q).symm
            rw [e1, e2] at w
            exact er w
        by_cases c : rf0 a j < n ∧ (a, j) ∉ pd
        · rw [cif_t c, cif_t ⟨by omega, fun q => by
            rcases List.mem_cons.mp q with q | q
            · exact ne q
            · exact c.2 q⟩]
        · rw [cif_f c, cif_f (fun q => c ⟨by omega, fun u => q.2 (List.mem_cons_of_mem _ u)⟩)]
  · show (if a = n then (0 : Int) else D a j) = _
    by_cases e : a = n
    · rw [if_pos e, e, hV]
    · rw [if_neg e]; exact h4 a j a2 (by omega)
theorem Bd.root (h : Bd n ((0, 0) :: pd) V G D) : Bd n pd V G D := by
  obtain ⟨h1, h2, h3, h4⟩ := h
  refine ⟨h1, h2, fun a j a2 a1 => ?_, h4⟩
  rw [h3 a j a2 a1]
  by_cases c : rf0 a j < n ∧ (a, j) ∉ pd
  · rw [cif_t c, cif_t ⟨c.1, fun q => by
      rcases List.mem_cons.mp q with q | q
      · have : a = 0 := congrArg Prod.fst q
        omega
      · exact c.2 q⟩]
  · rw [cif_f c, cif_f (fun q => c ⟨q.1, fun u => q.2 (List.mem_cons_of_mem _ u)⟩)]
theorem Bd.put {x : Int} (h : Bd n ((pa, pj) :: pd) V G D) (hx : rf0 pa pj = x) (hxn : x < n) (hp : (pa, pj) ∉ pd) : Bd n pd V (G.1, G.2.1, up2 G.2.2 pa pj x) D := by
  obtain ⟨h1, h2, h3, h4⟩ := h
  refine ⟨h1, h2, fun a j a2 a1 => ?_, h4⟩
  show up2 G.2.2 pa pj x a j = _
  by_cases e : a = pa ∧ j = pj
  · obtain ⟨rfl, rfl⟩ := e
    rw [up2_same, cif_t ⟨by omega, hp⟩, hx]
  · rw [up2_ne e, h3 a j a2 a1]
    by_cases c : rf0 a j < n ∧ (a, j) ∉ pd
    · rw [cif_t c, cif_t ⟨c.1, fun q => by
        rcases List.mem_cons.mp q with q | q
        · exact e ⟨congrArg Prod.fst q, congrArg Prod.snd q⟩
        · exact c.2 q⟩]
    · rw [cif_f c, cif_f (fun q => c ⟨q.1, fun u => q.2 (List.mem_cons_of_mem _ u)⟩)]
theorem Bd.putI {a j x : Int} (h : Bd n pd V G D) : Bd n pd (up2 V a j x) G (up2 D a j x) := by
  obtain ⟨h1, h2, h3, h4⟩ := h
  refine ⟨h1, h2, h3, fun b k b2 b1 => ?_⟩
  unfold up2
  split
  · rfl
  · exact h4 b k b2 b1
theorem Bd.k {a : Int} {v : Nat × Int} (h : Bd n pd V G D) (a2 : 2 ≤ a) (a1 : a < n) (hk : kd0 a = v) : G.2.1 a = v := by rw [h.2.1 a a2 a1]; exact hk
theorem Bd.lt {a : Int} (h : Bd n pd V G D) (a1 : a < n) : a < G.1 := by rw [h.1]; exact a1
theorem Bd.r {a j v : Int} (h : Bd n pd V G D) (a2 : 2 ≤ a) (a1 : a < n) (hr : rf0 a j = v) (hv : v < n) (hp : (a, j) ∉ pd) : G.2.2 a j = v := by rw [h.2.2.1 a j a2 a1, cif_t ⟨by omega, hp⟩]; exact hr
end Build
