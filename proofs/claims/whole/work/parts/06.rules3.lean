theorem mm_clw : ∀ (ci : Nat) (r : vw_C), vwCl[ci]? = some r → ∀ w ∈ u_ws r.1 r.2.1 r.2.2, w ∈ mm_tbl := by
  intro ci r h
  match ci, h with
  | 0, h => cases h; decide +kernel
  | 1, h => cases h; decide +kernel
  | 2, h => cases h; decide +kernel
  | 3, h => cases h; decide +kernel
  | 4, h => cases h; decide +kernel
  | 5, h => cases h; decide +kernel
  | 6, h => cases h; decide +kernel
  | 7, h => cases h; decide +kernel
  | 8, h => cases h; decide +kernel
  | 9, h => cases h; decide +kernel
  | 10, h => cases h; decide +kernel
  | 11, h => cases h; decide +kernel
  | n + 12, h => simp at h
theorem mm_clt : ∀ (ci : Nat) (r : vw_C), vwCl[ci]? = some r → ∀ k, k < r.2.2 → parseFieldDescriptor (r.2.1 k).2.2.1 = some (mm_ty ci k) := by
  intro ci r h
  match ci, h with
  | 0, h => cases h; exact tyX0_ok
  | 1, h => cases h; exact tyX1_ok
  | 2, h => cases h; exact tyX3_ok
  | 3, h => cases h; exact tyX4_ok
  | 4, h => cases h; exact tyX5_ok
  | 5, h => cases h; exact tyX6_ok
  | 6, h => cases h; exact tyX7_ok
  | 7, h => cases h; exact tyX8_ok
  | 8, h => cases h; exact tyX9_ok
  | 9, h => cases h; exact tyX10_ok
  | 10, h => cases h; exact tyX11_ok
  | 11, h => cases h; exact tyX12_ok
  | n + 12, h => simp at h
theorem mm_cln : ∀ (ci : Nat) (r : vw_C), vwCl[ci]? = some r → ∀ a, a < r.2.2 → ∀ b, b < r.2.2 → a ≠ b → (r.2.1 a).2.1 ≠ (r.2.1 b).2.1 := by
  intro ci r h
  match ci, h with
  | 0, h => cases h; exact nmX0
  | 1, h => cases h; exact nmX1
  | 2, h => cases h; exact nmX3
  | 3, h => cases h; exact nmX4
  | 4, h => cases h; exact nmX5
  | 5, h => cases h; exact nmX6
  | 6, h => cases h; exact nmX7
  | 7, h => cases h; exact nmX8
  | 8, h => cases h; exact nmX9
  | 9, h => cases h; exact nmX10
  | 10, h => cases h; exact nmX11
  | 11, h => cases h; exact nmX12
  | n + 12, h => simp at h
/-- field number k of kind ci, by the pool's number idx of the code's own file -/
def mm_fok (own : String) (idx ci k : Nat) : Prop := ∃ (r : vw_C) (ref : String), vwCl[ci]? = some r ∧ k < r.2.2 ∧ Cond.fieldLink own idx ref (r.2.1 k).2.1 (r.2.1 k).2.2.1 ∈ mm_tbl ∧ (ref = (r.2.1 k).1 ∨ Cond.sameField ref (r.2.1 k).1 (r.2.1 k).2.1 (r.2.1 k).2.2.1 ∈ mm_tbl)
def mm_fin (ci k : Nat) (b : Bool) : Prop := ∀ r : vw_C, vwCl[ci]? = some r → (r.2.1 k).2.2.2 = b
theorem mm_obj {E : mmE} {s : State} {G : mmG} {D : mmD} {H : Heap} {a : Int} (hh : mm_hold E s G D H) (ha : 2 ≤ a) (ha2 : a < G.1) {ci : Nat} (hk : (G.2.1 a).1 = ci) (hkd : ci < 12) : ∃ r : vw_C, vwCl[ci]? = some r ∧ t_OB (mm_ad E a) (E.2.2.2.2.2.1.1 ci) r.2.2 (E.2.2.2.2.2.1.2 ci) H (mm_val E G D a) := by
  have h := hh.2.2.2.2 a ha ha2
  unfold mm_cell at h
  rw [hk, if_pos hkd] at h
  exact h
section Rules4
variable {E : mmE} {d kc ks : Nat} {Y : mmM} {pc : Nat} {L : List (Option mmV)} {st : List mmV} {G : mmG} {D : mmD} {Q : mmQ}
theorem g_getV {a : Int} {idx ci k : Nat} {v : mmV} (hd : decode Y.2.1 pc = .ok (.getfield idx, 3)) (hk : (G.2.1 a).1 = ci) (hci : ci < 12) (ha : 2 ≤ a) (ha2 : a < G.1) (hf : mm_fok Y.1.cls idx ci k) (hv : (if mm_isR ci k = true then vR (G.2.2 a k) else vI (D a k)) = v) (kk : Go E d kc ks Y (pc + 3) L (v :: st) G D Q) : Go E d kc ks Y pc L (vR a :: st) G D Q := by
  intro p e s m args below meth c H locs cells slots ls R C hh hl hL
  obtain ⟨r, hr, cell, q1, q2, q3, q4⟩ := mm_obj hh ha ha2 hk hci
  obtain ⟨r', ref, hr', hkr, hlink, hsame⟩ := hf
  cases hr.symm.trans hr'
  rw [List.map_cons, mm_sh_ref ha, ← mm_ad_2 ha]
  obtain ⟨hS, hfc, kC, hkC, hkind⟩ := C.2.2.2.2.2.2.2.2.1.1.1 ci _ hr
  obtain ⟨cf, kf, fi, f, hi, hsl⟩ := hS k hkr
  have hts := C.2.2.2.2.2.2.2.1
  refine W.getf (v := mm_sh E v) C.1 C.2.1 C.2.2.2.2.2.1 (hts _ hlink) (cf := cf) (i := fi) (k := kf) (f := f) ?_ (u_facts hfc hkC (u_lays hts (mm_clw ci r hr) hkr) hi).1 q1 (by rw [q3]; exact fun h => by cases h) ?_ rfl rfl hd (kk p e s m args below meth c H locs cells slots ls R C hh hl hL)
  · rcases hsame with h | h
    · rw [h]; exact hi
    · exact u_same (hts _ h) _ hi
  · rw [hsl, q4 k hkr, ← hv]
    unfold mm_val
    rw [hk]
theorem g_getI {a j : Int} {idx ci k : Nat} (hd : decode Y.2.1 pc = .ok (.getfield idx, 3)) (hf : mm_fok Y.1.cls idx ci k) (hR : mm_isR ci k = false) (hj : (k : Int) = j) (hci : ci < 12) (hk : (G.2.1 a).1 = ci) (ha : 2 ≤ a) (ha2 : a < G.1) (kk : Go E d kc ks Y (pc + 3) L (vI (D a j) :: st) G D Q) : Go E d kc ks Y pc L (vR a :: st) G D Q :=
  g_getV hd hk hci ha ha2 hf (by rw [hR, ← hj]; rfl) kk
theorem g_getR {a j : Int} {idx ci k : Nat} (hd : decode Y.2.1 pc = .ok (.getfield idx, 3)) (hf : mm_fok Y.1.cls idx ci k) (hR : mm_isR ci k = true) (hj : (k : Int) = j) (hci : ci < 12) (hk : (G.2.1 a).1 = ci) (ha : 2 ≤ a) (ha2 : a < G.1) (kk : Go E d kc ks Y (pc + 3) L (vR (G.2.2 a j) :: st) G D Q) : Go E d kc ks Y pc L (vR a :: st) G D Q :=
  g_getV hd hk hci ha ha2 hf (by rw [hR, ← hj]; rfl) kk
/-- a field is set: the memory behind it is G', D' -/
theorem g_putV {a : Int} {idx ci k : Nat} {v : mmV} {G' : mmG} {D' : mmD} (hd : decode Y.2.1 pc = .ok (.putfield idx, 3)) (hk : (G.2.1 a).1 = ci) (hci : ci < 12) (ha : 2 ≤ a) (ha2 : a < G.1) (hf : mm_fok Y.1.cls idx ci k) (hfin : mm_fin ci k false ∨ (Y.1.name = "<init>" ∧ mm_fin ci k true ∧ ∀ r : vw_C, vwCl[ci]? = some r → (r.2.1 k).1 = Y.1.cls))
    (hn : narrow (mm_ty ci k) (mm_sh E v) = mm_sh E v) (hfit : fits (mm_ty ci k) (mm_sh E v) = true) (hG1 : G'.1 = G.1) (hG2 : ∀ x, G'.2.1 x = G.2.1 x) (hG3 : ∀ x, x ≠ a → ∀ j, G'.2.2 x j = G.2.2 x j) (hD3 : ∀ x, x ≠ a → ∀ j, D' x j = D x j) (hnew : mm_val E G' D' a k = mm_sh E v) (hold : ∀ j : Nat, j ≠ k → mm_val E G' D' a j = mm_val E G D a j)
    (kk : Go E d kc ks Y (pc + 3) L st G' D' Q) : Go E d kc ks Y pc L (v :: vR a :: st) G D Q := by
  intro p e s m args below meth c H locs cells slots ls R C hh hl hL
  obtain ⟨r, hr, cell, q1, q2, q3, q4⟩ := mm_obj hh ha ha2 hk hci
  obtain ⟨r', ref, hr', hkr, hlink, hsame⟩ := hf
  cases hr.symm.trans hr'
  rw [List.map_cons, List.map_cons, mm_sh_ref ha, ← mm_ad_2 ha]
  obtain ⟨hS, hfc, kC, hkC, hkind⟩ := C.2.2.2.2.2.2.2.2.1.1.1 ci _ hr
  obtain ⟨cf, kf, fi, f, hi, hsl⟩ := hS k hkr
  have hts := C.2.2.2.2.2.2.2.1
  have hin := mm_clw ci r hr
  have hap : ∀ x y, x < r.2.2 → y < r.2.2 → x ≠ y → (E.2.2.2.2.2.1.2 ci) x ≠ (E.2.2.2.2.2.1.2 ci) y := va_apart (own := Y.1.cls) hts hin (mm_ty ci) (mm_clt ci r hr) (mm_cln ci r hr) C.2.2.2.2.2.2.2.2.1.1 hr
  have hst := (u_facts hfc hkC (u_lays hts hin hkr) hi).1
  have hi' : s.fieldFound? ref (r.2.1 k).2.1 (r.2.1 k).2.2.1 = some (cf, kf, fi, f) := by
    rcases hsame with h | h
    · rw [h]; exact hi
    · exact u_same (hts _ h) _ hi
  have h6 := u_fits hfc hkC hkind (u_lays hts hin hkr) hi (mm_clt ci r hr k hkr) hn hfit
  have hfl : hasFlag f.accessFlags Acc.final = false ∨ (m.cls = cf ∧ meth.name = "<init>") := by
    rcases hfin with h | ⟨h1, h3, h2⟩
    · left
      have hlay := hts _ (hin _ (u_in_lay hkr))
      unfold u_lay at hlay
      rw [if_neg (by rw [h r hr]; decide)] at hlay
      exact (u_store hfc hkC hkind hlay hi (mm_clt ci r hr k hkr) hn hfit).1
    · right
      refine ⟨?_, by rw [C.2.2.2.2.2.2.1]; exact h1⟩
      have hlay := hts _ (hin _ (u_in_lay hkr))
      unfold u_lay at hlay
      rw [if_pos (h3 r hr)] at hlay
      obtain ⟨_, _, c', _, _, _, -, -, hf', -, -, -, hown2, -⟩ := Cond.laysFinal_spec hlay
      have e1 : c' = cf := by have := hi.symm.trans hf'; simp at this; exact this.1.symm
      rw [h2 r hr] at hown2
      rw [← e1]; exact Option.some.inj (C.2.2.2.2.2.1.symm.trans hown2)
  have hlt : mm_ad E a < H.size := (Array.getElem?_eq_some_iff.mp q1).1
  refine W.putf C.1 C.2.1 C.2.2.2.2.2.1 (hts _ hlink) hi' hst hfl q1 (by rw [q3]; exact fun h => by cases h) (by rw [hsl]; exact k2_hasslot (q4 k hkr)) h6.1 (by rw [q2, q3]; exact h6.2) rfl rfl hd ?_
  have f1 : (H.setIfInBounds (mm_ad E a) (cell.setSlot f.slot (mm_sh E v)))[mm_ad E a]? = some (cell.setSlot f.slot (mm_sh E v)) := by simp [Array.getElem?_setIfInBounds, hlt]
  refine kk p e s m args below meth c _ _ cells slots ls R C (hh.set ha ha2 hG1 hG2 (fun x hxa => mm_val_k (by rw [hG2]) (hG3 x hxa) (hD3 x hxa)) (by simp) (fun q hq => by simp [Array.getElem?_setIfInBounds, Ne.symm hq]) ?_) ?_ hL
  · unfold mm_cell
    rw [hG2, hk, if_pos hci]
    refine ⟨r, hr, t_OB.to (V := updV (mm_val E G D a) k (mm_sh E v)) ⟨_, f1, q2, q3, ?_⟩ (fun j _ => ?_)⟩
    · rw [hsl]; exact t_set q4 hap hkr _
    · unfold updV
      by_cases hjk : j = k
      · rw [if_pos hjk, hjk, hnew]
      · rw [if_neg hjk, hold j hjk]
  · intro q hq
    rcases List.mem_append.mp hq with h | h
    · exact hl q h
    · rw [List.mem_singleton.mp h]
      show E.2.2.1 ≤ mm_ad E a
      rw [mm_ad_2 ha]; omega
theorem g_putI {a j x : Int} {idx ci k : Nat} (hd : decode Y.2.1 pc = .ok (.putfield idx, 3)) (hf : mm_fok Y.1.cls idx ci k) (hfin : mm_fin ci k false ∨ (Y.1.name = "<init>" ∧ mm_fin ci k true ∧ ∀ r : vw_C, vwCl[ci]? = some r → (r.2.1 k).1 = Y.1.cls)) (hty : mm_ty ci k = .int) (hj : (k : Int) = j) (hci : ci < 12) (hk : (G.2.1 a).1 = ci) (ha : 2 ≤ a) (ha2 : a < G.1)
    (kk : Go E d kc ks Y (pc + 3) L st G (up2 D a j x) Q) : Go E d kc ks Y pc L (vI x :: vR a :: st) G D Q := by
  have hR : mm_isR ci k = false := by simp [mm_isR, hci, hty]
  subst hj
  refine g_putV (G' := G) (D' := up2 D a k x) hd hk hci ha ha2 hf hfin (by rw [hty]; rfl) (by rw [hty]; rfl) rfl (fun _ => rfl) (fun _ _ _ => rfl) (fun y hy j => up2_ne (fun h => hy h.1)) ?_ (fun j hjk => ?_) kk
  · unfold mm_val
    rw [hk, hR]
    simp [up2]
  · unfold mm_val
    have h9 : up2 D a k x a (j : Int) = D a j := up2_ne (fun h => hjk (by omega))
    rw [h9]
theorem g_putZ {a j x : Int} {idx ci k : Nat} (hd : decode Y.2.1 pc = .ok (.putfield idx, 3)) (hf : mm_fok Y.1.cls idx ci k) (hfin : mm_fin ci k false ∨ (Y.1.name = "<init>" ∧ mm_fin ci k true ∧ ∀ r : vw_C, vwCl[ci]? = some r → (r.2.1 k).1 = Y.1.cls)) (hty : mm_ty ci k = .boolean) (hj : (k : Int) = j) (hci : ci < 12) (hk : (G.2.1 a).1 = ci) (ha : 2 ≤ a) (ha2 : a < G.1)
    (kk : (x = 0 ∨ x = 1) ∧ Go E d kc ks Y (pc + 3) L st G (up2 D a j x) Q) : Go E d kc ks Y pc L (vI x :: vR a :: st) G D Q := by
  have hR : mm_isR ci k = false := by simp [mm_isR, hci, hty]
  subst hj
  obtain ⟨hx, kk⟩ := kk
  refine g_putV (G' := G) (D' := up2 D a k x) hd hk hci ha ha2 hf hfin ?_ ?_ rfl (fun _ => rfl) (fun _ _ _ => rfl) (fun y hy j => up2_ne (fun h => hy h.1)) ?_ (fun j hjk => ?_) kk
  · rw [hty]; rcases hx with rfl | rfl <;> rfl
  · rw [hty]; rcases hx with rfl | rfl <;> rfl
  · unfold mm_val
    rw [hk, hR]
    simp [up2]
  · unfold mm_val
    have h9 : up2 D a k x a (j : Int) = D a j := up2_ne (fun h => hjk (by omega))
    rw [h9]
theorem g_putR {a j x : Int} {idx ci k : Nat} (hd : decode Y.2.1 pc = .ok (.putfield idx, 3)) (hf : mm_fok Y.1.cls idx ci k) (hfin : mm_fin ci k false ∨ (Y.1.name = "<init>" ∧ mm_fin ci k true ∧ ∀ r : vw_C, vwCl[ci]? = some r → (r.2.1 k).1 = Y.1.cls)) (hty : (∃ n, mm_ty ci k = .object n) ∨ ∃ t, mm_ty ci k = .array t) (hj : (k : Int) = j) (hci : ci < 12) (hk : (G.2.1 a).1 = ci) (ha : 2 ≤ a) (ha2 : a < G.1)
    (kk : Go E d kc ks Y (pc + 3) L st (G.1, G.2.1, up2 G.2.2 a j x) D Q) : Go E d kc ks Y pc L (vR x :: vR a :: st) G D Q := by
  have hR : mm_isR ci k = true := by rcases hty with ⟨n, h⟩ | ⟨n, h⟩ <;> simp [mm_isR, hci, h]
  subst hj
  refine g_putV (G' := (G.1, G.2.1, up2 G.2.2 a k x)) (D' := D) hd hk hci ha ha2 hf hfin ?_ ?_ rfl (fun _ => rfl) (fun y hy j => up2_ne (fun h => hy h.1)) (fun _ _ _ => rfl) ?_ (fun j hjk => ?_) kk
  · rcases hty with ⟨n, h⟩ | ⟨n, h⟩ <;> rw [h] <;> by_cases hx : x = 0 <;> simp [mm_sh, hx, narrow]
  · rcases hty with ⟨n, h⟩ | ⟨n, h⟩ <;> rw [h] <;> by_cases hx : x = 0 <;> simp [mm_sh, hx, fits]
  · unfold mm_val
    simp only [hk, hR, if_true]
    simp [up2]
  · unfold mm_val
    simp only
    rw [up2_ne (fun h => hjk (by omega))]
end Rules4
