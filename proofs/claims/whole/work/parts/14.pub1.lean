/-- a call on both sides, the shape unchanged: one answer, and what holds between them holds behind it -/
def Pair (E : mmE) (d : Nat) (mc mr : mmM) (as : List mmV) (G : mmG) (D : mmD) : Prop :=
  Call E d 0 0 mc (vR 2 :: as) G D (retI G (fun x D1 => Call E d 0 0 mr (vR 214 :: as) G D1 (retI G (fun y D2 => iv x = iv y ∧ Inv G D2))))
section Pub1
variable {E : mmE} {d : Nat} {G : mmG} {D : mmD} {x1 x2 x3 : Int}
theorem p_open (hI : Inv G D) : Pair E d mX11_open mX12_open [] G D := by
  obtain ⟨hG, hs, h3, h4, h5, h6, h7, h8, h9⟩ := id hI
  have s9 := hs.2.2.2.2.2.2.2.2
  refine w_X11_open hG ?_
  rw [s9.1]
  refine br_eq (fun a D1 e1 => rI (w_X12_open hG ?_)) (fun a => rI (w_X12_open hG (br_eq (fun b => absurd b a) (fun b => rI ⟨rfl, hI⟩))))
  have e2 : D1 214 9 = D 214 9 := by rw [e1]; rfl
  rw [e2]
  refine br_eq (fun _ D2 e3 => rI ⟨?_, ?_⟩) (fun b => absurd a b)
  · have f1 : D1 2 15 = D 2 15 := by rw [e1]; rfl
    have f2 : D2 214 6 = D 214 6 := by rw [e3, e1]; rfl
    rw [f1, f2, hs.2.2.2.2.2.1.1]
  · have k : ∀ c k, ¬ (c = 2 ∧ k = 12) → ¬ (c = 214 ∧ k = 9) → D2 c k = D c k := fun c k a b => by rw [e3, up2_ne b, e1, up2_ne a]
    have k2 : D2 2 12 = 1 := by rw [e3, e1]; rfl
    have k3 : D2 214 9 = 1 := by rw [e3]; rfl
    refine hI.sc ?_ (fun c k' a b _ => k c k' (by omega) (by omega))
    · unfold i_sc at hs ⊢
      rw [k2, k3, k 2 3 (by omega) (by omega), k 2 11 (by omega) (by omega), k 2 6 (by omega) (by omega), k 2 8 (by omega) (by omega), k 2 10 (by omega) (by omega), k 2 15 (by omega) (by omega), k 2 1 (by omega) (by omega), k 2 13 (by omega) (by omega), k 214 1 (by omega) (by omega), k 214 2 (by omega) (by omega), k 214 3 (by omega) (by omega), k 214 4 (by omega) (by omega), k 214 5 (by omega) (by omega), k 214 6 (by omega) (by omega), k 214 7 (by omega) (by omega), k 214 8 (by omega) (by omega)]
      omega
theorem p_years (hI : Inv G D) (hx : rg x1) : Pair E (d + 1) mX11_years mX12_years [vI x1] G D := by
  obtain ⟨hG, hs, -⟩ := id hI
  have s2 := hs.2.1
  have hx' := hx
  unfold rg at hx'
  have no : (x1 < 1 ∨ 500 < x1 ∨ 9999 < D 214 2 + x1) → Call E (d + 1) 0 0 mX12_years [vR 214, vI x1] G D (retI G (fun y D2 => iv (-2) = iv y ∧ Inv G D2)) := fun hn =>
    w_X12_years hG (c_in hG hx (by unfold rg; omega) (by unfold rg; omega) (fun a b => b_t (br_le (fun c => by omega) (fun c => rI ⟨rfl, hI⟩))) (fun a => b_f (rI ⟨rfl, hI⟩)))
  refine w_X11_years hG (br_lt (fun a => rI (no (by omega))) (fun a => br_lt (fun b => rI (no (by omega))) (fun b => ?_)))
  rw [s2.1]
  refine br_le (fun c D1 e1 => rI ?_) (fun c => rI (no (by omega)))
  refine w_X12_years hG (c_in hG hx (by unfold rg; omega) (by unfold rg; omega) (fun _ _ => b_t ?_) (fun h => by omega))
  have f1 : D1 214 2 = D 214 2 := by rw [e1]; rfl
  rw [f1]
  refine br_le (fun _ D2 e2 => rI ⟨?_, ?_⟩) (fun h => by omega)
  · have g1 : D1 2 11 = D 214 2 + x1 := by rw [e1]; rfl
    have g2 : D2 214 2 = D 214 2 + x1 := by rw [e2]; rfl
    rw [g1, g2]
  · have k : ∀ c k, ¬ (c = 2 ∧ k = 11) → ¬ (c = 214 ∧ k = 2) → D2 c k = D c k := fun c k a b => by rw [e2, up2_ne b, e1, up2_ne a]
    have k2 : D2 2 11 = D 214 2 + x1 := by rw [e2, e1]; rfl
    have k3 : D2 214 2 = D 214 2 + x1 := by rw [e2]; rfl
    refine hI.sc ?_ (fun c k' a b _ => k c k' (by omega) (by omega))
    unfold i_sc at hs ⊢
    rw [k2, k3, k 2 3 (by omega) (by omega), k 2 12 (by omega) (by omega), k 2 6 (by omega) (by omega), k 2 8 (by omega) (by omega), k 2 10 (by omega) (by omega), k 2 15 (by omega) (by omega), k 2 1 (by omega) (by omega), k 2 13 (by omega) (by omega), k 214 1 (by omega) (by omega), k 214 9 (by omega) (by omega), k 214 3 (by omega) (by omega), k 214 4 (by omega) (by omega), k 214 5 (by omega) (by omega), k 214 6 (by omega) (by omega), k 214 7 (by omega) (by omega), k 214 8 (by omega) (by omega)]
    omega
theorem p_limit (hI : Inv G D) (hx : rg x1) : Pair E (d + 1) mX11_limit mX12_limit [vI x1] G D := by
  obtain ⟨hG, hs, -⟩ := id hI
  have s8 := hs.2.2.2.2.2.2.2.1
  have hx' := hx
  unfold rg at hx'
  have no : (x1 < 0 ∨ 60 < x1) → Call E (d + 1) 0 0 mX12_limit [vR 214, vI x1] G D (retI G (fun y D2 => iv (-2) = iv y ∧ Inv G D2)) := fun hn =>
    w_X12_limit hG (c_in hG hx (by unfold rg; omega) (by unfold rg; omega) (fun a b => by omega) (fun a => n_f (rI ⟨rfl, hI⟩)))
  refine w_X11_limit hG (br_lt (fun a => rI (no (by omega))) (fun a => br_le (fun b D1 e1 => rI ?_) (fun b => rI (no (by omega)))))
  refine w_X12_limit hG (c_in hG hx (by unfold rg; omega) (by unfold rg; omega) (fun _ _ => n_t (fun D2 e2 => rI ⟨?_, ?_⟩)) (fun h => by omega))
  · have g1 : D1 214 8 = D 214 8 := by rw [e1]; rfl
    rw [g1, s8.1]
  · have k : ∀ c k, ¬ (c = 2 ∧ k = 13) → ¬ (c = 214 ∧ k = 8) → D2 c k = D c k := fun c k a b => by rw [e2, up2_ne b, e1, up2_ne a]
    have k2 : D2 2 13 = x1 := by rw [e2, e1]; rfl
    have k3 : D2 214 8 = x1 := by rw [e2]; rfl
    refine hI.sc ?_ (fun c k' a b _ => k c k' (by omega) (by omega))
    unfold i_sc at hs ⊢
    rw [k2, k3, k 2 3 (by omega) (by omega), k 2 12 (by omega) (by omega), k 2 6 (by omega) (by omega), k 2 8 (by omega) (by omega), k 2 10 (by omega) (by omega), k 2 15 (by omega) (by omega), k 2 1 (by omega) (by omega), k 2 11 (by omega) (by omega), k 214 1 (by omega) (by omega), k 214 9 (by omega) (by omega), k 214 3 (by omega) (by omega), k 214 4 (by omega) (by omega), k 214 5 (by omega) (by omega), k 214 6 (by omega) (by omega), k 214 7 (by omega) (by omega), k 214 2 (by omega) (by omega)]
    omega
end Pub1
