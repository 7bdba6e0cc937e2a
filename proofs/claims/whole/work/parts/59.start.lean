/-! ===== the start: both objects are made, and agree ===== -/
theorem rf_lt {a j : Int} (a1 : a < 249) : rf0 a j < 249 := by
  unfold rf0
  repeat' split
  all_goals omega
section Start
variable {E : mmE} {d : Nat} {G : mmG} {D : mmD} {Q : mmQ}
theorem Bd.inv (hb : Bd 249 [] (up2 (up2 (fun _ _ => 0) 2 13 12) 214 8 12) G D) : Inv G D := by
  obtain ⟨h1, h2, h3, h4⟩ := hb
  have hr : ∀ a j, 2 ≤ a → a < 249 → G.2.2 a j = rf0 a j := fun a j a2 a1 => by
    rw [h3 a j a2 a1, cif_t ⟨rf_lt a1, List.not_mem_nil⟩]
  have z : ∀ c k, 2 ≤ c → c < 249 → ¬ (c = 2 ∧ k = 13) → ¬ (c = 214 ∧ k = 8) → D c k = 0 := fun c k a b p q => by rw [h4 c k a b, up2_ne q, up2_ne p]
  have z1 : D 2 13 = 12 := by rw [h4 2 13 (by omega) (by omega), up2_ne (by omega), up2_same]
  have z2 : D 214 8 = 12 := by rw [h4 214 8 (by omega) (by omega), up2_same]
  have s1 : D 214 1 = 0 := z _ _ (by omega) (by omega) (by omega) (by omega)
  have s3 : D 214 3 = 0 := z _ _ (by omega) (by omega) (by omega) (by omega)
  have s4 : D 214 4 = 0 := z _ _ (by omega) (by omega) (by omega) (by omega)
  have s6 : D 214 6 = 0 := z _ _ (by omega) (by omega) (by omega) (by omega)
  refine ⟨⟨by omega, fun a a2 a1 => h2 a a2 (by omega), fun a j a2 a1 _ _ => hr a j a2 a1⟩, ?_, fun i i0 i1 => ?_, fun j j0 j1 => ?_, fun t t0 t1 => by omega, fun l l0 l1 => by omega, fun i i0 i1 => by omega, fun c c0 c1 => by omega, ?_⟩
  · unfold i_sc
    rw [z1, z2, s1, s3, s4, s6, z 2 3 (by omega) (by omega) (by omega) (by omega), z 2 11 (by omega) (by omega) (by omega) (by omega), z 2 6 (by omega) (by omega) (by omega) (by omega), z 2 8 (by omega) (by omega) (by omega) (by omega), z 2 10 (by omega) (by omega) (by omega) (by omega), z 2 15 (by omega) (by omega) (by omega) (by omega), z 2 1 (by omega) (by omega) (by omega) (by omega), z 2 12 (by omega) (by omega) (by omega) (by omega), z 214 2 (by omega) (by omega) (by omega) (by omega), z 214 5 (by omega) (by omega) (by omega) (by omega), z 214 7 (by omega) (by omega) (by omega) (by omega), z 214 9 (by omega) (by omega) (by omega) (by omega)]
    omega
  · rw [z 3 i (by omega) (by omega) (by omega) (by omega), z 215 i (by omega) (by omega) (by omega) (by omega)]
    omega
  · unfold i_w1
    rw [z (22 + 2 * j) 1 (by omega) (by omega) (by omega) (by omega), z (22 + 2 * j) 2 (by omega) (by omega) (by omega) (by omega), z (22 + 2 * j) 3 (by omega) (by omega) (by omega) (by omega), z (22 + 2 * j) 4 (by omega) (by omega) (by omega) (by omega), z 216 j (by omega) (by omega) (by omega) (by omega), z 218 j (by omega) (by omega) (by omega) (by omega), z 219 j (by omega) (by omega) (by omega) (by omega), z 220 j (by omega) (by omega) (by omega) (by omega)]
    exact ⟨⟨rfl, by omega, by omega⟩, fun i i0 i1 => by omega, rfl, ⟨rfl, Or.inl rfl⟩, ⟨rfl, Or.inl rfl⟩⟩
  · unfold i_tr
    rw [z 214 57 (by omega) (by omega) (by omega) (by omega), hr 2 9 (by omega) (by omega)]
    exact ⟨⟨by omega, by omega⟩, Or.inl ⟨by decide +kernel, rfl⟩⟩
theorem law_start (hL9 : (E.2.2.2.1 : Int) < 2147483648) (hQ : ∀ G D, Q (some (vI 1)) G D) (n : Nat) (hn : (E.2.2.2.1 : Int) < 6 * ((n : Int) + 1)) (hb2 : (E.2.2.2.1 : Int) < 100000) (hb : Bd 2 [] (fun _ _ => 0) G D) :
    Go E (d + 12) (2 * n + 34 + 1 + 211 + 1) (27 * n + 1960 + 61 + 1829 + 20) mL_law 0 [some (vR 1), none, none, none] [] G D Q := by
  refine g_new (kc := 2 * n + 34 + 1 + 211) (ks := 27 * n + 1960 + 61 + 1829) (N := 20) (ci := 10) dL_law_0 (by decide) nk_L_7 ?_
  rw [hb.1]
  replace hb := (hb.push (kd := 10) (len := 0) (n' := 3) (by decide) (by decide) (by decide +kernel) (by decide +kernel : ow 2 = (0, 0)) (by decide) (fun _ => rfl)).root
  generalize mm_push G 10 0 = G1 at hb ⊢
  generalize mm_zero D 2 = D1 at hb ⊢
  refine g_dup dL_law_3 (fun _ h9 => by cases h9) ?_
  refine g_callI (kc := 2 * n + 34 + 1) (kc' := 211) (ks := 27 * n + 1960 + 61) (ks' := 1829) (as := []) (st := [vR 2]) dL_law_4 cB_X11_init rfl lk_L_9 in_X11_init rfl rfl (Nat.le_of_ble_eq_true rfl) (Nat.le_of_ble_eq_true rfl) (by decide) ?_
  refine k_X11_init (d := d + 9) hb (fun _ _ _ => rfl) (fun G2 D2 hb => ?_) (kc := 0) (ks := 0) (by omega) (by omega)
  show Go E (d + 12) (2 * n + 34 + 1) (27 * n + 1960 + 61) mL_law 7 [some (vR 1), none, none, none] [vR 2] G2 D2 Q
  refine h_astore_n (L' := [some (vR 1), some (vR 2), none, none]) dL_law_7 rfl (Nat.le_of_ble_eq_true rfl) rfl rfl ?_
  refine g_new (kc := 2 * n + 34) (ks := 27 * n + 1960) (N := 61) (ci := 11) dL_law_8 (by decide) nk_L_10 ?_
  rw [hb.1]
  replace hb := (hb.push (kd := 11) (len := 0) (n' := 215) (by decide) (by decide) (by decide +kernel) (by decide +kernel : ow 214 = (0, 0)) (by decide) (fun j => by rw [up2_ne (by omega)])).root
  generalize mm_push G2 11 0 = G3 at hb ⊢
  generalize mm_zero D2 214 = D3 at hb ⊢
  refine g_dup dL_law_11 (fun _ h9 => by cases h9) ?_
  refine g_callI (kc := 2 * n) (kc' := 34) (ks := 27 * n) (ks' := 1960) (as := []) (st := [vR 214]) dL_law_12 cB_X12_init rfl lk_L_12 in_X12_init rfl rfl (Nat.le_of_ble_eq_true rfl) (Nat.le_of_ble_eq_true rfl) (by decide) ?_
  refine k_X12_init (d := d + 10) hb (fun c k q => by rw [up2_ne (by omega)]) (fun G4 D4 hb => ?_) (kc := 0) (ks := 0) (by omega) (by omega)
  show Go E (d + 12) (2 * n) (27 * n) mL_law 15 [some (vR 1), some (vR 2), none, none] [vR 214] G4 D4 Q
  refine h_astore_n (L' := [some (vR 1), some (vR 2), some (vR 214), none]) dL_law_15 rfl (Nat.le_of_ble_eq_true rfl) rfl rfl ?_
  refine g_iconst dL_law_16 ?_
  refine h_istore_n (L' := [some (vR 1), some (vR 2), some (vR 214), some (vI 0)]) dL_law_17 rfl (Nat.le_of_ble_eq_true rfl) rfl rfl ?_
  exact l_law hL9 hQ n G4 D4 0 hb.inv (by omega) (by omega) (by omega) hb2
end Start
/-! ===== what the tables say ===== -/
theorem mm_Yc.of {args : Array Value} {s : State} {C T : String} (h : (Cond.castable C T).before args s = true) : mm_Yc C T s := by
  obtain ⟨c, t, h1, h2, h3⟩ := Cond.castable_spec h
  exact ⟨c, t, h1, h2, h3⟩
theorem arr_prim {args : Array Value} {s : State} {ty : FieldType} (h : (Cond.arrayClass ty).before args s = true) (hne : ∀ C, ty ≠ .object C) : ∃ cA : ClassId, ArrOfT s cA ty ∧ va_RA s cA ty := by
  obtain ⟨cA, k, comp, h1, h2, h3⟩ := Cond.arrayClass_spec h
  refine ⟨cA, fun n z => ⟨(fun k h => by cases h), k, h2, comp, h3⟩, ?_⟩
  cases ty with
  | object C => exact absurd rfl (hne C)
  | _ => exact h1
theorem arr_obj {args : Array Value} {s : State} {C : String} (h : (Cond.arrayOver (.object C)).before args s = true) : ∃ cA : ClassId, ArrOfT s cA (.object C) ∧ va_RA s cA (.object C) := by
  obtain ⟨comp, cA, k, h1, h2, h3, h4, h5⟩ := Cond.arrayOver_spec h
  exact ⟨cA, fun n z => ⟨(fun k h => by cases h), k, h3, comp, h4⟩, k, comp, h3, h4, h1, h5⟩
