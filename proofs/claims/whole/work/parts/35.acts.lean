/-! ===== acts ===== -/
def fre (r : Int) (D D' : mmD) : Prop := ∀ c k, c ≠ r + 1 → ¬ (c = r ∧ k = 6) → D' c k = D c k
theorem fre.rfl {r : Int} {D : mmD} : fre r D D := fun _ _ _ _ => Eq.refl _
theorem fre.trans {r : Int} {D D1 D2 : mmD} (h : fre r D D1) (h2 : fre r D1 D2) : fre r D D2 := fun c k p q => (h2 c k p q).trans (h c k p q)
def frr (D D' : mmD) : Prop := ∀ c k, c ≠ 248 → ¬ (c = 214 ∧ k = 57) → D' c k = D c k
theorem frr.trans {D D1 D2 : mmD} (h : frr D D1) (h2 : frr D1 D2) : frr D D2 := fun c k p q => (h2 c k p q).trans (h c k p q)
section Acts
variable {E : mmE} {d : Nat} {G : mmG} {D : mmD} {P : Int → mmD → Prop} {P0 : mmD → Prop} {r x N Y b : Int} {l : List Int}
theorem r_runs (hG : Sh G) (h : hl 248 214 57 D l) (hn : l.length < 20) (K : ∀ D', hl 248 214 57 D' (l ++ [b]) → frr D D' → P0 D') : Call E d 0 0 mX12_runs [vR 214, vI b] G D (retV G P0) := by
  have h1 := h.1
  refine w_X12_runs hG (br_le (fun g => by omega) (fun _ => ⟨⟨by omega, by omega⟩, fun D2 e2 D3 e3 => ?_⟩))
  obtain ⟨p, q⟩ := hl_put (by decide) h e2 e3
  exact rV (K D3 p q)
theorem len1 {l : List Int} {b : Int} : (l ++ [b]).length = l.length + 1 := by simp
theorem bg7 (hG : Sh G) (he : isEv G 7 r) (h : hl (r + 1) r 6 D l) (hn : l.length < 20) (K : ∀ D', hl (r + 1) r 6 D' (l ++ [b]) → fre r D D' → P0 D') : Call E d 0 0 mX2_begin [vR r, vI b] G D (retV G P0) := by
  have h1 := h.1
  refine w_X2_begin_k7 hG he (br_lt (fun g => by omega) (fun _ => br_le (fun g => by omega) (fun _ => ⟨⟨by omega, by omega⟩, fun D2 e2 D3 e3 => ?_⟩)))
  obtain ⟨p, q⟩ := hl_put (by omega) h e2 e3
  exact rV (K D3 p q)
theorem bg4 (hG : Sh G) (he : isEv G 4 r) (h : hl (r + 1) r 6 D l) (hn : l.length < 20) (K : ∀ D', hl (r + 1) r 6 D' (l ++ [b]) → fre r D D' → P0 D') : Call E d 0 0 mX2_begin [vR r, vI b] G D (retV G P0) := by
  have h1 := h.1
  refine w_X2_begin_k4 hG he (br_lt (fun g => by omega) (fun _ => br_le (fun g => by omega) (fun _ => ⟨⟨by omega, by omega⟩, fun D2 e2 D3 e3 => ?_⟩)))
  obtain ⟨p, q⟩ := hl_put (by omega) h e2 e3
  exact rV (K D3 p q)
theorem bg8 (hG : Sh G) (he : isEv G 8 r) (h : hl (r + 1) r 6 D l) (hn : l.length < 20) (K : ∀ D', hl (r + 1) r 6 D' (l ++ [b]) → fre r D D' → P0 D') : Call E d 0 0 mX2_begin [vR r, vI b] G D (retV G P0) := by
  have h1 := h.1
  refine w_X2_begin_k8 hG he (br_lt (fun g => by omega) (fun _ => br_le (fun g => by omega) (fun _ => ⟨⟨by omega, by omega⟩, fun D2 e2 D3 e3 => ?_⟩)))
  obtain ⟨p, q⟩ := hl_put (by omega) h e2 e3
  exact rV (K D3 p q)
theorem bg5 (hG : Sh G) (he : isEv G 5 r) (h : hl (r + 1) r 6 D l) (hn : l.length < 20) (K : ∀ D', hl (r + 1) r 6 D' (l ++ [b]) → fre r D D' → P0 D') : Call E d 0 0 mX2_begin [vR r, vI b] G D (retV G P0) := by
  have h1 := h.1
  refine w_X2_begin_k5 hG he (br_lt (fun g => by omega) (fun _ => br_le (fun g => by omega) (fun _ => ⟨⟨by omega, by omega⟩, fun D2 e2 D3 e3 => ?_⟩)))
  obtain ⟨p, q⟩ := hl_put (by omega) h e2 e3
  exact rV (K D3 p q)
theorem bg2 (hG : Sh G) (he : isEv G 2 r) (h : hl (r + 1) r 6 D l) (hn : l.length < 20) (K : ∀ D', hl (r + 1) r 6 D' (l ++ [b]) → fre r D D' → P0 D') : Call E d 0 0 mX2_begin [vR r, vI b] G D (retV G P0) := by
  have h1 := h.1
  refine w_X2_begin_k2 hG he (br_lt (fun g => by omega) (fun _ => br_le (fun g => by omega) (fun _ => ⟨⟨by omega, by omega⟩, fun D2 e2 D3 e3 => ?_⟩)))
  obtain ⟨p, q⟩ := hl_put (by omega) h e2 e3
  exact rV (K D3 p q)
theorem bg1 (hG : Sh G) (he : isEv G 1 r) (h : hl (r + 1) r 6 D l) (hn : l.length < 20) (K : ∀ D', hl (r + 1) r 6 D' (l ++ [b]) → fre r D D' → P0 D') : Call E d 0 0 mX2_begin [vR r, vI b] G D (retV G P0) := by
  have h1 := h.1
  refine w_X2_begin_k1 hG he (br_lt (fun g => by omega) (fun _ => br_le (fun g => by omega) (fun _ => ⟨⟨by omega, by omega⟩, fun D2 e2 D3 e3 => ?_⟩)))
  obtain ⟨p, q⟩ := hl_put (by omega) h e2 e3
  exact rV (K D3 p q)
theorem tl7 (hG : Sh G) (he : isEv G 7 r) (h : hl (r + 1) r 6 D l) (hN : D r 0 = N) (hY : D r 1 = Y) (hn : l.length + 2 ≤ 20) (K : ∀ D', hl (r + 1) r 6 D' (l ++ [11] ++ [1]) → fre r D D' → P (x * 3 + N) D') : Call E (d + 2) 0 0 mX8_tells [vR r, vI x] G D (retI G P) := by
  have pl : ∀ (D : mmD) (l : List Int) (z : Int) (P : Int → mmD → Prop), hl (r + 1) r 6 D l → D r 0 = N → l.length < 20 → (∀ D', hl (r + 1) r 6 D' (l ++ [1]) → fre r D D' → P (z + N) D') → Call E (d + 1) 0 0 mX2_tells [vR r, vI z] G D (retI G P) := by
    intro D l z P h hN hn K
    refine w_X2_tells_k7 hG he (bg7 hG he h hn (fun D1 h1 f1 => rI ?_))
    rw [f1 r 0 (by omega) (by omega), hN]
    exact K D1 h1 f1
  refine w_X8_tells_k7 hG he (bg7 hG he h (by omega) (fun D1 h1 f1 => pl D1 _ _ _ h1 (by rw [f1 r 0 (by omega) (by omega)]; exact hN) (by simp only [len1]; omega) (fun D2 h2 f2 => rI ?_)))
  exact K D2 h2 (f1.trans f2)
theorem ld7 (hG : Sh G) (he : isEv G 7 r) (h : hl (r + 1) r 6 D l) (hN : D r 0 = N) (hY : D r 1 = Y) (hn : l.length + 3 ≤ 20) (K : ∀ D', hl (r + 1) r 6 D' (l ++ [2] ++ [11] ++ [1]) → fre r D D' → P ((x * 3 + N) - Y) D') : Call E (d + 4) 0 0 mX2_leads [vR r, vI x] G D (retI G P) := by
  refine w_X2_leads_k7 hG he (bg7 hG he h (by omega) (fun D1 h1 f1 => tl7 (N := N) (Y := Y) hG he h1 (by rw [f1 r 0 (by omega) (by omega)]; exact hN) (by rw [f1 r 1 (by omega) (by omega)]; exact hY) (by simp only [len1]; omega) (fun D2 h2 f2 => rI ?_)))
  rw [f2 r 1 (by omega) (by omega), f1 r 1 (by omega) (by omega), hY]
  exact K D2 h2 (f1.trans f2)
theorem mk7 (hG : Sh G) (he : isEv G 7 r) (h : hl (r + 1) r 6 D l) (hN : D r 0 = N) (hY : D r 1 = Y) (hn : l.length + 4 ≤ 20) (K : ∀ D', hl (r + 1) r 6 D' (l ++ [3] ++ [2] ++ [11] ++ [1]) → fre r D D' → P (((x * 3 + N) - Y) * 2) D') : Call E (d + 6) 0 0 mX2_marks [vR r, vI x] G D (retI G P) := by
  exact w_X2_marks_k7 hG he (bg7 hG he h (by omega) (fun D1 h1 f1 => ld7 (d := d + 1) (N := N) (Y := Y) hG he h1 (by rw [f1 r 0 (by omega) (by omega)]; exact hN) (by rw [f1 r 1 (by omega) (by omega)]; exact hY) (by simp only [len1]; omega) (fun D2 h2 f2 => rI (K D2 h2 (f1.trans f2)))))
theorem tl4 (hG : Sh G) (he : isEv G 4 r) (h : hl (r + 1) r 6 D l) (hN : D r 0 = N) (hY : D r 1 = Y) (hn : l.length + 1 ≤ 20) (K : ∀ D', hl (r + 1) r 6 D' (l ++ [1]) → fre r D D' → P (x + N) D') : Call E (d + 2) 0 0 mX2_tells [vR r, vI x] G D (retI G P) := by
  refine w_X2_tells_k4 hG he (bg4 hG he h (by omega) (fun D1 h1 f1 => rI ?_))
  rw [f1 r 0 (by omega) (by omega), hN]
  exact K D1 h1 f1
theorem ld4 (hG : Sh G) (he : isEv G 4 r) (h : hl (r + 1) r 6 D l) (hN : D r 0 = N) (hY : D r 1 = Y) (hn : l.length + 3 ≤ 20) (K : ∀ D', hl (r + 1) r 6 D' (l ++ [21] ++ [2] ++ [1]) → fre r D D' → P (ixor ((x + N) - Y) 7) D') : Call E (d + 4) 0 0 mX5_leads [vR r, vI x] G D (retI G P) := by
  have pl : ∀ (D : mmD) (l : List Int) (z : Int) (P : Int → mmD → Prop), hl (r + 1) r 6 D l → D r 0 = N → D r 1 = Y → l.length + 2 ≤ 20 → (∀ D', hl (r + 1) r 6 D' (l ++ [2] ++ [1]) → fre r D D' → P ((z + N) - Y) D') → Call E (d + 3) 0 0 mX2_leads [vR r, vI z] G D (retI G P) := by
    intro D l z P h hN hY hn K
    refine w_X2_leads_k4 hG he (bg4 hG he h (by omega) (fun D1 h1 f1 => tl4 (N := N) (Y := Y) hG he h1 (by rw [f1 r 0 (by omega) (by omega)]; exact hN) (by rw [f1 r 1 (by omega) (by omega)]; exact hY) (by simp only [len1]; omega) (fun D2 h2 f2 => rI ?_)))
    rw [f2 r 1 (by omega) (by omega), f1 r 1 (by omega) (by omega), hY]
    exact K D2 h2 (f1.trans f2)
  exact w_X5_leads_k4 hG he (bg4 hG he h (by omega) (fun D1 h1 f1 => pl D1 _ _ _ h1 (by rw [f1 r 0 (by omega) (by omega)]; exact hN) (by rw [f1 r 1 (by omega) (by omega)]; exact hY) (by simp only [len1]; omega) (fun D2 h2 f2 => rI (K D2 h2 (f1.trans f2)))))
theorem mk4 (hG : Sh G) (he : isEv G 4 r) (h : hl (r + 1) r 6 D l) (hN : D r 0 = N) (hY : D r 1 = Y) (hn : l.length + 4 ≤ 20) (K : ∀ D', hl (r + 1) r 6 D' (l ++ [3] ++ [21] ++ [2] ++ [1]) → fre r D D' → P ((ixor ((x + N) - Y) 7) * 2) D') : Call E (d + 6) 0 0 mX2_marks [vR r, vI x] G D (retI G P) := by
  exact w_X2_marks_k4 hG he (bg4 hG he h (by omega) (fun D1 h1 f1 => ld4 (d := d + 1) (N := N) (Y := Y) hG he h1 (by rw [f1 r 0 (by omega) (by omega)]; exact hN) (by rw [f1 r 1 (by omega) (by omega)]; exact hY) (by simp only [len1]; omega) (fun D2 h2 f2 => rI (K D2 h2 (f1.trans f2)))))
theorem tl8 (hG : Sh G) (he : isEv G 8 r) (h : hl (r + 1) r 6 D l) (hN : D r 0 = N) (hY : D r 1 = Y) (hn : l.length + 1 ≤ 20) (K : ∀ D', hl (r + 1) r 6 D' (l ++ [1]) → fre r D D' → P (x + N) D') : Call E (d + 2) 0 0 mX2_tells [vR r, vI x] G D (retI G P) := by
  refine w_X2_tells_k8 hG he (bg8 hG he h (by omega) (fun D1 h1 f1 => rI ?_))
  rw [f1 r 0 (by omega) (by omega), hN]
  exact K D1 h1 f1
theorem ld8 (hG : Sh G) (he : isEv G 8 r) (h : hl (r + 1) r 6 D l) (hN : D r 0 = N) (hY : D r 1 = Y) (hn : l.length + 2 ≤ 20) (K : ∀ D', hl (r + 1) r 6 D' (l ++ [2] ++ [1]) → fre r D D' → P ((x + N) - Y) D') : Call E (d + 4) 0 0 mX2_leads [vR r, vI x] G D (retI G P) := by
  refine w_X2_leads_k8 hG he (bg8 hG he h (by omega) (fun D1 h1 f1 => tl8 (N := N) (Y := Y) hG he h1 (by rw [f1 r 0 (by omega) (by omega)]; exact hN) (by rw [f1 r 1 (by omega) (by omega)]; exact hY) (by simp only [len1]; omega) (fun D2 h2 f2 => rI ?_)))
  rw [f2 r 1 (by omega) (by omega), f1 r 1 (by omega) (by omega), hY]
  exact K D2 h2 (f1.trans f2)
theorem mk8 (hG : Sh G) (he : isEv G 8 r) (h : hl (r + 1) r 6 D l) (hN : D r 0 = N) (hY : D r 1 = Y) (hn : l.length + 4 ≤ 20) (K : ∀ D', hl (r + 1) r 6 D' (l ++ [31] ++ [3] ++ [2] ++ [1]) → fre r D D' → P (-(((x + N) - Y) * 2)) D') : Call E (d + 6) 0 0 mX9_marks [vR r, vI x] G D (retI G P) := by
  have pl : ∀ (D : mmD) (l : List Int) (z : Int) (P : Int → mmD → Prop), hl (r + 1) r 6 D l → D r 0 = N → D r 1 = Y → l.length + 3 ≤ 20 → (∀ D', hl (r + 1) r 6 D' (l ++ [3] ++ [2] ++ [1]) → fre r D D' → P (((z + N) - Y) * 2) D') → Call E (d + 5) 0 0 mX2_marks [vR r, vI z] G D (retI G P) := by
    intro D l z P h hN hY hn K
    exact w_X2_marks_k8 hG he (bg8 hG he h (by omega) (fun D1 h1 f1 => ld8 (d := d) (N := N) (Y := Y) hG he h1 (by rw [f1 r 0 (by omega) (by omega)]; exact hN) (by rw [f1 r 1 (by omega) (by omega)]; exact hY) (by simp only [len1]; omega) (fun D2 h2 f2 => rI (K D2 h2 (f1.trans f2)))))
  exact w_X9_marks_k8 hG he (bg8 hG he h (by omega) (fun D1 h1 f1 => pl D1 _ _ _ h1 (by rw [f1 r 0 (by omega) (by omega)]; exact hN) (by rw [f1 r 1 (by omega) (by omega)]; exact hY) (by simp only [len1]; omega) (fun D2 h2 f2 => rI (K D2 h2 (f1.trans f2)))))
theorem tl5 (hG : Sh G) (he : isEv G 5 r) (h : hl (r + 1) r 6 D l) (hN : D r 0 = N) (hY : D r 1 = Y) (hn : l.length + 2 ≤ 20) (K : ∀ D', hl (r + 1) r 6 D' (l ++ [11] ++ [1]) → fre r D D' → P (x * 3 + N) D') : Call E (d + 2) 0 0 mX8_tells [vR r, vI x] G D (retI G P) := by
  have pl : ∀ (D : mmD) (l : List Int) (z : Int) (P : Int → mmD → Prop), hl (r + 1) r 6 D l → D r 0 = N → l.length < 20 → (∀ D', hl (r + 1) r 6 D' (l ++ [1]) → fre r D D' → P (z + N) D') → Call E (d + 1) 0 0 mX2_tells [vR r, vI z] G D (retI G P) := by
    intro D l z P h hN hn K
    refine w_X2_tells_k5 hG he (bg5 hG he h hn (fun D1 h1 f1 => rI ?_))
    rw [f1 r 0 (by omega) (by omega), hN]
    exact K D1 h1 f1
  refine w_X8_tells_k5 hG he (bg5 hG he h (by omega) (fun D1 h1 f1 => pl D1 _ _ _ h1 (by rw [f1 r 0 (by omega) (by omega)]; exact hN) (by simp only [len1]; omega) (fun D2 h2 f2 => rI ?_)))
  exact K D2 h2 (f1.trans f2)
theorem ld5 (hG : Sh G) (he : isEv G 5 r) (h : hl (r + 1) r 6 D l) (hN : D r 0 = N) (hY : D r 1 = Y) (hn : l.length + 6 ≤ 20) (K : ∀ D', hl (r + 1) r 6 D' (l ++ [41] ++ [2] ++ [11] ++ [1] ++ [11] ++ [1]) → fre r D D' → P (((x - 1) * 3 + N) - Y + (2 * 3 + N)) D') : Call E (d + 4) 0 0 mX6_leads [vR r, vI x] G D (retI G P) := by
  have pl : ∀ (D : mmD) (l : List Int) (z : Int) (P : Int → mmD → Prop), hl (r + 1) r 6 D l → D r 0 = N → D r 1 = Y → l.length + 3 ≤ 20 → (∀ D', hl (r + 1) r 6 D' (l ++ [2] ++ [11] ++ [1]) → fre r D D' → P ((z * 3 + N) - Y) D') → Call E (d + 3) 0 0 mX2_leads [vR r, vI z] G D (retI G P) := by
    intro D l z P h hN hY hn K
    refine w_X2_leads_k5 hG he (bg5 hG he h (by omega) (fun D1 h1 f1 => tl5 (N := N) (Y := Y) hG he h1 (by rw [f1 r 0 (by omega) (by omega)]; exact hN) (by rw [f1 r 1 (by omega) (by omega)]; exact hY) (by simp only [len1]; omega) (fun D2 h2 f2 => rI ?_)))
    rw [f2 r 1 (by omega) (by omega), f1 r 1 (by omega) (by omega), hY]
    exact K D2 h2 (f1.trans f2)
  exact w_X6_leads_k5 hG he (bg5 hG he h (by omega) (fun D1 h1 f1 => pl D1 _ _ _ h1 (by rw [f1 r 0 (by omega) (by omega)]; exact hN) (by rw [f1 r 1 (by omega) (by omega)]; exact hY) (by simp only [len1]; omega) (fun D2 h2 f2 => tl5 (d := d + 1) (N := N) (Y := Y) hG he h2 (by rw [f2 r 0 (by omega) (by omega), f1 r 0 (by omega) (by omega)]; exact hN) (by rw [f2 r 1 (by omega) (by omega), f1 r 1 (by omega) (by omega)]; exact hY) (by simp only [len1]; omega) (fun D3 h3 f3 => rI (K D3 h3 ((f1.trans f2).trans f3))))))
theorem mk5 (hG : Sh G) (he : isEv G 5 r) (h : hl (r + 1) r 6 D l) (hN : D r 0 = N) (hY : D r 1 = Y) (hn : l.length + 7 ≤ 20) (K : ∀ D', hl (r + 1) r 6 D' (l ++ [3] ++ [41] ++ [2] ++ [11] ++ [1] ++ [11] ++ [1]) → fre r D D' → P ((((x - 1) * 3 + N) - Y + (2 * 3 + N)) * 2) D') : Call E (d + 6) 0 0 mX2_marks [vR r, vI x] G D (retI G P) := by
  exact w_X2_marks_k5 hG he (bg5 hG he h (by omega) (fun D1 h1 f1 => ld5 (d := d + 1) (N := N) (Y := Y) hG he h1 (by rw [f1 r 0 (by omega) (by omega)]; exact hN) (by rw [f1 r 1 (by omega) (by omega)]; exact hY) (by simp only [len1]; omega) (fun D2 h2 f2 => rI (K D2 h2 (f1.trans f2)))))
theorem tl2 (hG : Sh G) (he : isEv G 2 r) (h : hl (r + 1) r 6 D l) (hN : D r 0 = N) (hY : D r 1 = Y) (hn : l.length + 2 ≤ 20) (K : ∀ D', hl (r + 1) r 6 D' (l ++ [51] ++ [1]) → fre r D D' → P (x + N + N) D') : Call E (d + 2) 0 0 mX3_tells [vR r, vI x] G D (retI G P) := by
  have pl : ∀ (D : mmD) (l : List Int) (z : Int) (P : Int → mmD → Prop), hl (r + 1) r 6 D l → D r 0 = N → l.length < 20 → (∀ D', hl (r + 1) r 6 D' (l ++ [1]) → fre r D D' → P (z + N) D') → Call E (d + 1) 0 0 mX2_tells [vR r, vI z] G D (retI G P) := by
    intro D l z P h hN hn K
    refine w_X2_tells_k2 hG he (bg2 hG he h hn (fun D1 h1 f1 => rI ?_))
    rw [f1 r 0 (by omega) (by omega), hN]
    exact K D1 h1 f1
  refine w_X3_tells_k2 hG he (bg2 hG he h (by omega) (fun D1 h1 f1 => pl D1 _ _ _ h1 (by rw [f1 r 0 (by omega) (by omega)]; exact hN) (by simp only [len1]; omega) (fun D2 h2 f2 => rI ?_)))
  rw [f2 r 0 (by omega) (by omega), f1 r 0 (by omega) (by omega), hN]
  exact K D2 h2 (f1.trans f2)
theorem ld2 (hG : Sh G) (he : isEv G 2 r) (h : hl (r + 1) r 6 D l) (hN : D r 0 = N) (hY : D r 1 = Y) (hn : l.length + 4 ≤ 20) (K : ∀ D', hl (r + 1) r 6 D' (l ++ [21] ++ [2] ++ [51] ++ [1]) → fre r D D' → P (ixor ((x + N + N) - Y) 7) D') : Call E (d + 4) 0 0 mX5_leads [vR r, vI x] G D (retI G P) := by
  have pl : ∀ (D : mmD) (l : List Int) (z : Int) (P : Int → mmD → Prop), hl (r + 1) r 6 D l → D r 0 = N → D r 1 = Y → l.length + 3 ≤ 20 → (∀ D', hl (r + 1) r 6 D' (l ++ [2] ++ [51] ++ [1]) → fre r D D' → P ((z + N + N) - Y) D') → Call E (d + 3) 0 0 mX2_leads [vR r, vI z] G D (retI G P) := by
    intro D l z P h hN hY hn K
    refine w_X2_leads_k2 hG he (bg2 hG he h (by omega) (fun D1 h1 f1 => tl2 (N := N) (Y := Y) hG he h1 (by rw [f1 r 0 (by omega) (by omega)]; exact hN) (by rw [f1 r 1 (by omega) (by omega)]; exact hY) (by simp only [len1]; omega) (fun D2 h2 f2 => rI ?_)))
    rw [f2 r 1 (by omega) (by omega), f1 r 1 (by omega) (by omega), hY]
    exact K D2 h2 (f1.trans f2)
  exact w_X5_leads_k2 hG he (bg2 hG he h (by omega) (fun D1 h1 f1 => pl D1 _ _ _ h1 (by rw [f1 r 0 (by omega) (by omega)]; exact hN) (by rw [f1 r 1 (by omega) (by omega)]; exact hY) (by simp only [len1]; omega) (fun D2 h2 f2 => rI (K D2 h2 (f1.trans f2)))))
theorem mk2 (hG : Sh G) (he : isEv G 2 r) (h : hl (r + 1) r 6 D l) (hN : D r 0 = N) (hY : D r 1 = Y) (hn : l.length + 5 ≤ 20) (K : ∀ D', hl (r + 1) r 6 D' (l ++ [3] ++ [21] ++ [2] ++ [51] ++ [1]) → fre r D D' → P ((ixor ((x + N + N) - Y) 7) * 2) D') : Call E (d + 6) 0 0 mX2_marks [vR r, vI x] G D (retI G P) := by
  exact w_X2_marks_k2 hG he (bg2 hG he h (by omega) (fun D1 h1 f1 => ld2 (d := d + 1) (N := N) (Y := Y) hG he h1 (by rw [f1 r 0 (by omega) (by omega)]; exact hN) (by rw [f1 r 1 (by omega) (by omega)]; exact hY) (by simp only [len1]; omega) (fun D2 h2 f2 => rI (K D2 h2 (f1.trans f2)))))
theorem tl1 (hG : Sh G) (he : isEv G 1 r) (h : hl (r + 1) r 6 D l) (hN : D r 0 = N) (hY : D r 1 = Y) (hn : l.length + 1 ≤ 20) (K : ∀ D', hl (r + 1) r 6 D' (l ++ [1]) → fre r D D' → P (x + N) D') : Call E (d + 2) 0 0 mX2_tells [vR r, vI x] G D (retI G P) := by
  refine w_X2_tells_k1 hG he (bg1 hG he h (by omega) (fun D1 h1 f1 => rI ?_))
  rw [f1 r 0 (by omega) (by omega), hN]
  exact K D1 h1 f1
theorem ld1 (hG : Sh G) (he : isEv G 1 r) (h : hl (r + 1) r 6 D l) (hN : D r 0 = N) (hY : D r 1 = Y) (hn : l.length + 3 ≤ 20) (K : ∀ D', hl (r + 1) r 6 D' (l ++ [21] ++ [2] ++ [1]) → fre r D D' → P (ixor ((x + N) - Y) 7) D') : Call E (d + 4) 0 0 mX5_leads [vR r, vI x] G D (retI G P) := by
  have pl : ∀ (D : mmD) (l : List Int) (z : Int) (P : Int → mmD → Prop), hl (r + 1) r 6 D l → D r 0 = N → D r 1 = Y → l.length + 2 ≤ 20 → (∀ D', hl (r + 1) r 6 D' (l ++ [2] ++ [1]) → fre r D D' → P ((z + N) - Y) D') → Call E (d + 3) 0 0 mX2_leads [vR r, vI z] G D (retI G P) := by
    intro D l z P h hN hY hn K
    refine w_X2_leads_k1 hG he (bg1 hG he h (by omega) (fun D1 h1 f1 => tl1 (N := N) (Y := Y) hG he h1 (by rw [f1 r 0 (by omega) (by omega)]; exact hN) (by rw [f1 r 1 (by omega) (by omega)]; exact hY) (by simp only [len1]; omega) (fun D2 h2 f2 => rI ?_)))
    rw [f2 r 1 (by omega) (by omega), f1 r 1 (by omega) (by omega), hY]
    exact K D2 h2 (f1.trans f2)
  exact w_X5_leads_k1 hG he (bg1 hG he h (by omega) (fun D1 h1 f1 => pl D1 _ _ _ h1 (by rw [f1 r 0 (by omega) (by omega)]; exact hN) (by rw [f1 r 1 (by omega) (by omega)]; exact hY) (by simp only [len1]; omega) (fun D2 h2 f2 => rI (K D2 h2 (f1.trans f2)))))
theorem mk1 (hG : Sh G) (he : isEv G 1 r) (h : hl (r + 1) r 6 D l) (hN : D r 0 = N) (hY : D r 1 = Y) (hn : l.length + 5 ≤ 20) (K : ∀ D', hl (r + 1) r 6 D' (l ++ [61] ++ [3] ++ [21] ++ [2] ++ [1]) → fre r D D' → P (ixor ((ixor (((x + 1) + N) - Y) 7) * 2) 3) D') : Call E (d + 6) 0 0 mX1_marks [vR r, vI x] G D (retI G P) := by
  have pl : ∀ (D : mmD) (l : List Int) (z : Int) (P : Int → mmD → Prop), hl (r + 1) r 6 D l → D r 0 = N → D r 1 = Y → l.length + 4 ≤ 20 → (∀ D', hl (r + 1) r 6 D' (l ++ [3] ++ [21] ++ [2] ++ [1]) → fre r D D' → P ((ixor ((z + N) - Y) 7) * 2) D') → Call E (d + 5) 0 0 mX2_marks [vR r, vI z] G D (retI G P) := by
    intro D l z P h hN hY hn K
    exact w_X2_marks_k1 hG he (bg1 hG he h (by omega) (fun D1 h1 f1 => ld1 (d := d) (N := N) (Y := Y) hG he h1 (by rw [f1 r 0 (by omega) (by omega)]; exact hN) (by rw [f1 r 1 (by omega) (by omega)]; exact hY) (by simp only [len1]; omega) (fun D2 h2 f2 => rI (K D2 h2 (f1.trans f2)))))
  exact w_X1_marks_k1 hG he (bg1 hG he h (by omega) (fun D1 h1 f1 => pl D1 _ _ _ h1 (by rw [f1 r 0 (by omega) (by omega)]; exact hN) (by rw [f1 r 1 (by omega) (by omega)]; exact hY) (by simp only [len1]; omega) (fun D2 h2 f2 => rI (K D2 h2 (f1.trans f2)))))
theorem r_plainT (hG : Sh G) (h : hl 248 214 57 D l) (hN : D 214 59 = N) (hn : l.length < 20) (K : ∀ D', hl 248 214 57 D' (l ++ [1]) → frr D D' → P (x + N) D') : Call E (d + 1) 0 0 mX12_plainTells [vR 214, vI x] G D (retI G P) := by
  refine w_X12_plainTells hG (r_runs hG h hn (fun D1 h1 f1 => rI ?_))
  rw [f1 214 59 (by omega) (by omega), hN]
  exact K D1 h1 f1
theorem rtl1 (hG : Sh G) (hk : D 214 58 = 1) (h : hl 248 214 57 D l) (hN : D 214 59 = N) (hY : D 214 60 = Y) (hn : l.length + 2 ≤ 20) (K : ∀ D', hl 248 214 57 D' (l ++ [11] ++ [1]) → frr D D' → P (x * 3 + N) D') : Call E (d + 2) 0 0 mX12_tells [vR 214, vI x] G D (retI G P) := by
  refine w_X12_tells hG ?_
  rw [hk]
  exact br_ne (fun _ => c_under hG (by omega) (by omega) (fun _ => b_t (r_runs hG h (by omega) (fun D1 h1 f1 => r_plainT (N := N) hG h1 (by rw [f1 214 59 (by omega) (by omega)]; exact hN) (by simp only [len1]; omega) (fun D2 h2 f2 => rI (K D2 h2 (f1.trans f2)))))) (fun q => absurd (by unfold undk; omega) q)) (fun q => by omega)
theorem rpl1 (hG : Sh G) (hk : D 214 58 = 1) (h : hl 248 214 57 D l) (hN : D 214 59 = N) (hY : D 214 60 = Y) (hn : l.length + 3 ≤ 20) (K : ∀ D', hl 248 214 57 D' (l ++ [2] ++ [11] ++ [1]) → frr D D' → P ((x * 3 + N) - Y) D') : Call E (d + 3) 0 0 mX12_plainLeads [vR 214, vI x] G D (retI G P) := by
  refine w_X12_plainLeads hG (r_runs hG h (by omega) (fun D1 h1 f1 => rtl1 (N := N) (Y := Y) hG (by rw [f1 214 58 (by omega) (by omega)]; exact hk) h1 (by rw [f1 214 59 (by omega) (by omega)]; exact hN) (by rw [f1 214 60 (by omega) (by omega)]; exact hY) (by simp only [len1]; omega) (fun D2 h2 f2 => rI ?_)))
  rw [f2 214 60 (by omega) (by omega), f1 214 60 (by omega) (by omega), hY]
  exact K D2 h2 (f1.trans f2)
theorem rld1 (hG : Sh G) (hk : D 214 58 = 1) (h : hl 248 214 57 D l) (hN : D 214 59 = N) (hY : D 214 60 = Y) (hn : l.length + 3 ≤ 20) (K : ∀ D', hl 248 214 57 D' (l ++ [2] ++ [11] ++ [1]) → frr D D' → P ((x * 3 + N) - Y) D') : Call E (d + 4) 0 0 mX12_leads [vR 214, vI x] G D (retI G P) := by
  refine w_X12_leads hG ?_
  rw [hk]
  exact br_ne (fun _ => c_under hG (by omega) (by omega) (fun q => by unfold undk at q; omega) (fun _ => b_f (rpl1 (N := N) (Y := Y) hG hk h hN hY (by omega) (fun D2 h2 f2 => rI (K D2 h2 f2))))) (fun q => by omega)
theorem rpm1 (hG : Sh G) (hk : D 214 58 = 1) (h : hl 248 214 57 D l) (hN : D 214 59 = N) (hY : D 214 60 = Y) (hn : l.length + 4 ≤ 20) (K : ∀ D', hl 248 214 57 D' (l ++ [3] ++ [2] ++ [11] ++ [1]) → frr D D' → P (((x * 3 + N) - Y) * 2) D') : Call E (d + 5) 0 0 mX12_plainMarks [vR 214, vI x] G D (retI G P) :=
  w_X12_plainMarks hG (r_runs hG h (by omega) (fun D1 h1 f1 => rld1 (N := N) (Y := Y) hG (by rw [f1 214 58 (by omega) (by omega)]; exact hk) h1 (by rw [f1 214 59 (by omega) (by omega)]; exact hN) (by rw [f1 214 60 (by omega) (by omega)]; exact hY) (by simp only [len1]; omega) (fun D2 h2 f2 => rI (K D2 h2 (f1.trans f2)))))
theorem rmk1 (hG : Sh G) (hk : D 214 58 = 1) (h : hl 248 214 57 D l) (hN : D 214 59 = N) (hY : D 214 60 = Y) (hn : l.length + 4 ≤ 20) (K : ∀ D', hl 248 214 57 D' (l ++ [3] ++ [2] ++ [11] ++ [1]) → frr D D' → P (((x * 3 + N) - Y) * 2) D') : Call E (d + 6) 0 0 mX12_marks [vR 214, vI x] G D (retI G P) := by
  refine w_X12_marks hG ?_
  rw [hk]
  exact br_ne (fun _ => br_ne (fun _ => rpm1 (N := N) (Y := Y) hG hk h hN hY (by omega) (fun D2 h2 f2 => rI (K D2 h2 f2))) (fun q => by omega)) (fun q => by omega)
theorem rtl2 (hG : Sh G) (hk : D 214 58 = 2) (h : hl 248 214 57 D l) (hN : D 214 59 = N) (hY : D 214 60 = Y) (hn : l.length + 1 ≤ 20) (K : ∀ D', hl 248 214 57 D' (l ++ [1]) → frr D D' → P (x + N) D') : Call E (d + 2) 0 0 mX12_tells [vR 214, vI x] G D (retI G P) := by
  refine w_X12_tells hG ?_
  rw [hk]
  exact br_ne (fun _ => c_under hG (by omega) (by omega) (fun q => by unfold undk at q; omega) (fun _ => b_f (r_plainT hG h hN (by omega) (fun D2 h2 f2 => rI (K D2 h2 f2))))) (fun q => by omega)
theorem rpl2 (hG : Sh G) (hk : D 214 58 = 2) (h : hl 248 214 57 D l) (hN : D 214 59 = N) (hY : D 214 60 = Y) (hn : l.length + 2 ≤ 20) (K : ∀ D', hl 248 214 57 D' (l ++ [2] ++ [1]) → frr D D' → P ((x + N) - Y) D') : Call E (d + 3) 0 0 mX12_plainLeads [vR 214, vI x] G D (retI G P) := by
  refine w_X12_plainLeads hG (r_runs hG h (by omega) (fun D1 h1 f1 => rtl2 (N := N) (Y := Y) hG (by rw [f1 214 58 (by omega) (by omega)]; exact hk) h1 (by rw [f1 214 59 (by omega) (by omega)]; exact hN) (by rw [f1 214 60 (by omega) (by omega)]; exact hY) (by simp only [len1]; omega) (fun D2 h2 f2 => rI ?_)))
  rw [f2 214 60 (by omega) (by omega), f1 214 60 (by omega) (by omega), hY]
  exact K D2 h2 (f1.trans f2)
theorem rld2 (hG : Sh G) (hk : D 214 58 = 2) (h : hl 248 214 57 D l) (hN : D 214 59 = N) (hY : D 214 60 = Y) (hn : l.length + 3 ≤ 20) (K : ∀ D', hl 248 214 57 D' (l ++ [21] ++ [2] ++ [1]) → frr D D' → P (ixor ((x + N) - Y) 7) D') : Call E (d + 4) 0 0 mX12_leads [vR 214, vI x] G D (retI G P) := by
  refine w_X12_leads hG ?_
  rw [hk]
  exact br_ne (fun _ => c_under hG (by omega) (by omega) (fun _ => b_t (r_runs hG h (by omega) (fun D1 h1 f1 => rpl2 (N := N) (Y := Y) hG (by rw [f1 214 58 (by omega) (by omega)]; exact hk) h1 (by rw [f1 214 59 (by omega) (by omega)]; exact hN) (by rw [f1 214 60 (by omega) (by omega)]; exact hY) (by simp only [len1]; omega) (fun D2 h2 f2 => rI (K D2 h2 (f1.trans f2)))))) (fun q => absurd (by unfold undk; omega) q)) (fun q => by omega)
theorem rpm2 (hG : Sh G) (hk : D 214 58 = 2) (h : hl 248 214 57 D l) (hN : D 214 59 = N) (hY : D 214 60 = Y) (hn : l.length + 4 ≤ 20) (K : ∀ D', hl 248 214 57 D' (l ++ [3] ++ [21] ++ [2] ++ [1]) → frr D D' → P ((ixor ((x + N) - Y) 7) * 2) D') : Call E (d + 5) 0 0 mX12_plainMarks [vR 214, vI x] G D (retI G P) :=
  w_X12_plainMarks hG (r_runs hG h (by omega) (fun D1 h1 f1 => rld2 (N := N) (Y := Y) hG (by rw [f1 214 58 (by omega) (by omega)]; exact hk) h1 (by rw [f1 214 59 (by omega) (by omega)]; exact hN) (by rw [f1 214 60 (by omega) (by omega)]; exact hY) (by simp only [len1]; omega) (fun D2 h2 f2 => rI (K D2 h2 (f1.trans f2)))))
theorem rmk2 (hG : Sh G) (hk : D 214 58 = 2) (h : hl 248 214 57 D l) (hN : D 214 59 = N) (hY : D 214 60 = Y) (hn : l.length + 4 ≤ 20) (K : ∀ D', hl 248 214 57 D' (l ++ [3] ++ [21] ++ [2] ++ [1]) → frr D D' → P ((ixor ((x + N) - Y) 7) * 2) D') : Call E (d + 6) 0 0 mX12_marks [vR 214, vI x] G D (retI G P) := by
  refine w_X12_marks hG ?_
  rw [hk]
  exact br_ne (fun _ => br_ne (fun _ => rpm2 (N := N) (Y := Y) hG hk h hN hY (by omega) (fun D2 h2 f2 => rI (K D2 h2 f2))) (fun q => by omega)) (fun q => by omega)
theorem rtl3 (hG : Sh G) (hk : D 214 58 = 3) (h : hl 248 214 57 D l) (hN : D 214 59 = N) (hY : D 214 60 = Y) (hn : l.length + 1 ≤ 20) (K : ∀ D', hl 248 214 57 D' (l ++ [1]) → frr D D' → P (x + N) D') : Call E (d + 2) 0 0 mX12_tells [vR 214, vI x] G D (retI G P) := by
  refine w_X12_tells hG ?_
  rw [hk]
  exact br_ne (fun _ => c_under hG (by omega) (by omega) (fun q => by unfold undk at q; omega) (fun _ => b_f (r_plainT hG h hN (by omega) (fun D2 h2 f2 => rI (K D2 h2 f2))))) (fun q => by omega)
theorem rpl3 (hG : Sh G) (hk : D 214 58 = 3) (h : hl 248 214 57 D l) (hN : D 214 59 = N) (hY : D 214 60 = Y) (hn : l.length + 2 ≤ 20) (K : ∀ D', hl 248 214 57 D' (l ++ [2] ++ [1]) → frr D D' → P ((x + N) - Y) D') : Call E (d + 3) 0 0 mX12_plainLeads [vR 214, vI x] G D (retI G P) := by
  refine w_X12_plainLeads hG (r_runs hG h (by omega) (fun D1 h1 f1 => rtl3 (N := N) (Y := Y) hG (by rw [f1 214 58 (by omega) (by omega)]; exact hk) h1 (by rw [f1 214 59 (by omega) (by omega)]; exact hN) (by rw [f1 214 60 (by omega) (by omega)]; exact hY) (by simp only [len1]; omega) (fun D2 h2 f2 => rI ?_)))
  rw [f2 214 60 (by omega) (by omega), f1 214 60 (by omega) (by omega), hY]
  exact K D2 h2 (f1.trans f2)
theorem rld3 (hG : Sh G) (hk : D 214 58 = 3) (h : hl 248 214 57 D l) (hN : D 214 59 = N) (hY : D 214 60 = Y) (hn : l.length + 2 ≤ 20) (K : ∀ D', hl 248 214 57 D' (l ++ [2] ++ [1]) → frr D D' → P ((x + N) - Y) D') : Call E (d + 4) 0 0 mX12_leads [vR 214, vI x] G D (retI G P) := by
  refine w_X12_leads hG ?_
  rw [hk]
  exact br_ne (fun _ => c_under hG (by omega) (by omega) (fun q => by unfold undk at q; omega) (fun _ => b_f (rpl3 (N := N) (Y := Y) hG hk h hN hY (by omega) (fun D2 h2 f2 => rI (K D2 h2 f2))))) (fun q => by omega)
theorem rpm3 (hG : Sh G) (hk : D 214 58 = 3) (h : hl 248 214 57 D l) (hN : D 214 59 = N) (hY : D 214 60 = Y) (hn : l.length + 3 ≤ 20) (K : ∀ D', hl 248 214 57 D' (l ++ [3] ++ [2] ++ [1]) → frr D D' → P (((x + N) - Y) * 2) D') : Call E (d + 5) 0 0 mX12_plainMarks [vR 214, vI x] G D (retI G P) :=
  w_X12_plainMarks hG (r_runs hG h (by omega) (fun D1 h1 f1 => rld3 (N := N) (Y := Y) hG (by rw [f1 214 58 (by omega) (by omega)]; exact hk) h1 (by rw [f1 214 59 (by omega) (by omega)]; exact hN) (by rw [f1 214 60 (by omega) (by omega)]; exact hY) (by simp only [len1]; omega) (fun D2 h2 f2 => rI (K D2 h2 (f1.trans f2)))))
theorem rmk3 (hG : Sh G) (hk : D 214 58 = 3) (h : hl 248 214 57 D l) (hN : D 214 59 = N) (hY : D 214 60 = Y) (hn : l.length + 4 ≤ 20) (K : ∀ D', hl 248 214 57 D' (l ++ [31] ++ [3] ++ [2] ++ [1]) → frr D D' → P (-(((x + N) - Y) * 2)) D') : Call E (d + 6) 0 0 mX12_marks [vR 214, vI x] G D (retI G P) := by
  refine w_X12_marks hG ?_
  rw [hk]
  exact br_ne (fun q => absurd rfl q) (fun _ => r_runs hG h (by omega) (fun D1 h1 f1 => rpm3 (N := N) (Y := Y) hG (by rw [f1 214 58 (by omega) (by omega)]; exact hk) h1 (by rw [f1 214 59 (by omega) (by omega)]; exact hN) (by rw [f1 214 60 (by omega) (by omega)]; exact hY) (by simp only [len1]; omega) (fun D2 h2 f2 => rI (K D2 h2 (f1.trans f2)))))
theorem rtl4 (hG : Sh G) (hk : D 214 58 = 4) (h : hl 248 214 57 D l) (hN : D 214 59 = N) (hY : D 214 60 = Y) (hn : l.length + 2 ≤ 20) (K : ∀ D', hl 248 214 57 D' (l ++ [11] ++ [1]) → frr D D' → P (x * 3 + N) D') : Call E (d + 2) 0 0 mX12_tells [vR 214, vI x] G D (retI G P) := by
  refine w_X12_tells hG ?_
  rw [hk]
  exact br_ne (fun _ => c_under hG (by omega) (by omega) (fun _ => b_t (r_runs hG h (by omega) (fun D1 h1 f1 => r_plainT (N := N) hG h1 (by rw [f1 214 59 (by omega) (by omega)]; exact hN) (by simp only [len1]; omega) (fun D2 h2 f2 => rI (K D2 h2 (f1.trans f2)))))) (fun q => absurd (by unfold undk; omega) q)) (fun q => by omega)
theorem rpl4 (hG : Sh G) (hk : D 214 58 = 4) (h : hl 248 214 57 D l) (hN : D 214 59 = N) (hY : D 214 60 = Y) (hn : l.length + 3 ≤ 20) (K : ∀ D', hl 248 214 57 D' (l ++ [2] ++ [11] ++ [1]) → frr D D' → P ((x * 3 + N) - Y) D') : Call E (d + 3) 0 0 mX12_plainLeads [vR 214, vI x] G D (retI G P) := by
  refine w_X12_plainLeads hG (r_runs hG h (by omega) (fun D1 h1 f1 => rtl4 (N := N) (Y := Y) hG (by rw [f1 214 58 (by omega) (by omega)]; exact hk) h1 (by rw [f1 214 59 (by omega) (by omega)]; exact hN) (by rw [f1 214 60 (by omega) (by omega)]; exact hY) (by simp only [len1]; omega) (fun D2 h2 f2 => rI ?_)))
  rw [f2 214 60 (by omega) (by omega), f1 214 60 (by omega) (by omega), hY]
  exact K D2 h2 (f1.trans f2)
theorem rld4 (hG : Sh G) (hk : D 214 58 = 4) (h : hl 248 214 57 D l) (hN : D 214 59 = N) (hY : D 214 60 = Y) (hn : l.length + 6 ≤ 20) (K : ∀ D', hl 248 214 57 D' (l ++ [41] ++ [2] ++ [11] ++ [1] ++ [11] ++ [1]) → frr D D' → P (((x - 1) * 3 + N) - Y + (2 * 3 + N)) D') : Call E (d + 4) 0 0 mX12_leads [vR 214, vI x] G D (retI G P) := by
  refine w_X12_leads hG ?_
  rw [hk]
  exact br_ne (fun q => absurd rfl q) (fun _ => r_runs hG h (by omega) (fun D1 h1 f1 => rpl4 (N := N) (Y := Y) hG (by rw [f1 214 58 (by omega) (by omega)]; exact hk) h1 (by rw [f1 214 59 (by omega) (by omega)]; exact hN) (by rw [f1 214 60 (by omega) (by omega)]; exact hY) (by simp only [len1]; omega) (fun D2 h2 f2 => rtl4 (d := d + 1) (N := N) (Y := Y) hG (by rw [f2 214 58 (by omega) (by omega), f1 214 58 (by omega) (by omega)]; exact hk) h2 (by rw [f2 214 59 (by omega) (by omega), f1 214 59 (by omega) (by omega)]; exact hN) (by rw [f2 214 60 (by omega) (by omega), f1 214 60 (by omega) (by omega)]; exact hY) (by simp only [len1]; omega) (fun D3 h3 f3 => rI (K D3 h3 ((f1.trans f2).trans f3))))))
theorem rpm4 (hG : Sh G) (hk : D 214 58 = 4) (h : hl 248 214 57 D l) (hN : D 214 59 = N) (hY : D 214 60 = Y) (hn : l.length + 7 ≤ 20) (K : ∀ D', hl 248 214 57 D' (l ++ [3] ++ [41] ++ [2] ++ [11] ++ [1] ++ [11] ++ [1]) → frr D D' → P ((((x - 1) * 3 + N) - Y + (2 * 3 + N)) * 2) D') : Call E (d + 5) 0 0 mX12_plainMarks [vR 214, vI x] G D (retI G P) :=
  w_X12_plainMarks hG (r_runs hG h (by omega) (fun D1 h1 f1 => rld4 (N := N) (Y := Y) hG (by rw [f1 214 58 (by omega) (by omega)]; exact hk) h1 (by rw [f1 214 59 (by omega) (by omega)]; exact hN) (by rw [f1 214 60 (by omega) (by omega)]; exact hY) (by simp only [len1]; omega) (fun D2 h2 f2 => rI (K D2 h2 (f1.trans f2)))))
theorem rmk4 (hG : Sh G) (hk : D 214 58 = 4) (h : hl 248 214 57 D l) (hN : D 214 59 = N) (hY : D 214 60 = Y) (hn : l.length + 7 ≤ 20) (K : ∀ D', hl 248 214 57 D' (l ++ [3] ++ [41] ++ [2] ++ [11] ++ [1] ++ [11] ++ [1]) → frr D D' → P ((((x - 1) * 3 + N) - Y + (2 * 3 + N)) * 2) D') : Call E (d + 6) 0 0 mX12_marks [vR 214, vI x] G D (retI G P) := by
  refine w_X12_marks hG ?_
  rw [hk]
  exact br_ne (fun _ => br_ne (fun _ => rpm4 (N := N) (Y := Y) hG hk h hN hY (by omega) (fun D2 h2 f2 => rI (K D2 h2 f2))) (fun q => by omega)) (fun q => by omega)
theorem rtl5 (hG : Sh G) (hk : D 214 58 = 5) (h : hl 248 214 57 D l) (hN : D 214 59 = N) (hY : D 214 60 = Y) (hn : l.length + 2 ≤ 20) (K : ∀ D', hl 248 214 57 D' (l ++ [51] ++ [1]) → frr D D' → P (x + N + N) D') : Call E (d + 2) 0 0 mX12_tells [vR 214, vI x] G D (retI G P) := by
  refine w_X12_tells hG ?_
  rw [hk]
  refine br_ne (fun q => absurd rfl q) (fun _ => r_runs hG h (by omega) (fun D1 h1 f1 => r_plainT (N := N) hG h1 (by rw [f1 214 59 (by omega) (by omega)]; exact hN) (by simp only [len1]; omega) (fun D2 h2 f2 => rI ?_)))
  rw [f2 214 59 (by omega) (by omega), f1 214 59 (by omega) (by omega), hN]
  exact K D2 h2 (f1.trans f2)
theorem rpl5 (hG : Sh G) (hk : D 214 58 = 5) (h : hl 248 214 57 D l) (hN : D 214 59 = N) (hY : D 214 60 = Y) (hn : l.length + 3 ≤ 20) (K : ∀ D', hl 248 214 57 D' (l ++ [2] ++ [51] ++ [1]) → frr D D' → P ((x + N + N) - Y) D') : Call E (d + 3) 0 0 mX12_plainLeads [vR 214, vI x] G D (retI G P) := by
  refine w_X12_plainLeads hG (r_runs hG h (by omega) (fun D1 h1 f1 => rtl5 (N := N) (Y := Y) hG (by rw [f1 214 58 (by omega) (by omega)]; exact hk) h1 (by rw [f1 214 59 (by omega) (by omega)]; exact hN) (by rw [f1 214 60 (by omega) (by omega)]; exact hY) (by simp only [len1]; omega) (fun D2 h2 f2 => rI ?_)))
  rw [f2 214 60 (by omega) (by omega), f1 214 60 (by omega) (by omega), hY]
  exact K D2 h2 (f1.trans f2)
theorem rld5 (hG : Sh G) (hk : D 214 58 = 5) (h : hl 248 214 57 D l) (hN : D 214 59 = N) (hY : D 214 60 = Y) (hn : l.length + 4 ≤ 20) (K : ∀ D', hl 248 214 57 D' (l ++ [21] ++ [2] ++ [51] ++ [1]) → frr D D' → P (ixor ((x + N + N) - Y) 7) D') : Call E (d + 4) 0 0 mX12_leads [vR 214, vI x] G D (retI G P) := by
  refine w_X12_leads hG ?_
  rw [hk]
  exact br_ne (fun _ => c_under hG (by omega) (by omega) (fun _ => b_t (r_runs hG h (by omega) (fun D1 h1 f1 => rpl5 (N := N) (Y := Y) hG (by rw [f1 214 58 (by omega) (by omega)]; exact hk) h1 (by rw [f1 214 59 (by omega) (by omega)]; exact hN) (by rw [f1 214 60 (by omega) (by omega)]; exact hY) (by simp only [len1]; omega) (fun D2 h2 f2 => rI (K D2 h2 (f1.trans f2)))))) (fun q => absurd (by unfold undk; omega) q)) (fun q => by omega)
theorem rpm5 (hG : Sh G) (hk : D 214 58 = 5) (h : hl 248 214 57 D l) (hN : D 214 59 = N) (hY : D 214 60 = Y) (hn : l.length + 5 ≤ 20) (K : ∀ D', hl 248 214 57 D' (l ++ [3] ++ [21] ++ [2] ++ [51] ++ [1]) → frr D D' → P ((ixor ((x + N + N) - Y) 7) * 2) D') : Call E (d + 5) 0 0 mX12_plainMarks [vR 214, vI x] G D (retI G P) :=
  w_X12_plainMarks hG (r_runs hG h (by omega) (fun D1 h1 f1 => rld5 (N := N) (Y := Y) hG (by rw [f1 214 58 (by omega) (by omega)]; exact hk) h1 (by rw [f1 214 59 (by omega) (by omega)]; exact hN) (by rw [f1 214 60 (by omega) (by omega)]; exact hY) (by simp only [len1]; omega) (fun D2 h2 f2 => rI (K D2 h2 (f1.trans f2)))))
theorem rmk5 (hG : Sh G) (hk : D 214 58 = 5) (h : hl 248 214 57 D l) (hN : D 214 59 = N) (hY : D 214 60 = Y) (hn : l.length + 5 ≤ 20) (K : ∀ D', hl 248 214 57 D' (l ++ [3] ++ [21] ++ [2] ++ [51] ++ [1]) → frr D D' → P ((ixor ((x + N + N) - Y) 7) * 2) D') : Call E (d + 6) 0 0 mX12_marks [vR 214, vI x] G D (retI G P) := by
  refine w_X12_marks hG ?_
  rw [hk]
  exact br_ne (fun _ => br_ne (fun _ => rpm5 (N := N) (Y := Y) hG hk h hN hY (by omega) (fun D2 h2 f2 => rI (K D2 h2 f2))) (fun q => by omega)) (fun q => by omega)
theorem rtl6 (hG : Sh G) (hk : D 214 58 = 6) (h : hl 248 214 57 D l) (hN : D 214 59 = N) (hY : D 214 60 = Y) (hn : l.length + 1 ≤ 20) (K : ∀ D', hl 248 214 57 D' (l ++ [1]) → frr D D' → P (x + N) D') : Call E (d + 2) 0 0 mX12_tells [vR 214, vI x] G D (retI G P) := by
  refine w_X12_tells hG ?_
  rw [hk]
  exact br_ne (fun _ => c_under hG (by omega) (by omega) (fun q => by unfold undk at q; omega) (fun _ => b_f (r_plainT hG h hN (by omega) (fun D2 h2 f2 => rI (K D2 h2 f2))))) (fun q => by omega)
theorem rpl6 (hG : Sh G) (hk : D 214 58 = 6) (h : hl 248 214 57 D l) (hN : D 214 59 = N) (hY : D 214 60 = Y) (hn : l.length + 2 ≤ 20) (K : ∀ D', hl 248 214 57 D' (l ++ [2] ++ [1]) → frr D D' → P ((x + N) - Y) D') : Call E (d + 3) 0 0 mX12_plainLeads [vR 214, vI x] G D (retI G P) := by
  refine w_X12_plainLeads hG (r_runs hG h (by omega) (fun D1 h1 f1 => rtl6 (N := N) (Y := Y) hG (by rw [f1 214 58 (by omega) (by omega)]; exact hk) h1 (by rw [f1 214 59 (by omega) (by omega)]; exact hN) (by rw [f1 214 60 (by omega) (by omega)]; exact hY) (by simp only [len1]; omega) (fun D2 h2 f2 => rI ?_)))
  rw [f2 214 60 (by omega) (by omega), f1 214 60 (by omega) (by omega), hY]
  exact K D2 h2 (f1.trans f2)
theorem rld6 (hG : Sh G) (hk : D 214 58 = 6) (h : hl 248 214 57 D l) (hN : D 214 59 = N) (hY : D 214 60 = Y) (hn : l.length + 3 ≤ 20) (K : ∀ D', hl 248 214 57 D' (l ++ [21] ++ [2] ++ [1]) → frr D D' → P (ixor ((x + N) - Y) 7) D') : Call E (d + 4) 0 0 mX12_leads [vR 214, vI x] G D (retI G P) := by
  refine w_X12_leads hG ?_
  rw [hk]
  exact br_ne (fun _ => c_under hG (by omega) (by omega) (fun _ => b_t (r_runs hG h (by omega) (fun D1 h1 f1 => rpl6 (N := N) (Y := Y) hG (by rw [f1 214 58 (by omega) (by omega)]; exact hk) h1 (by rw [f1 214 59 (by omega) (by omega)]; exact hN) (by rw [f1 214 60 (by omega) (by omega)]; exact hY) (by simp only [len1]; omega) (fun D2 h2 f2 => rI (K D2 h2 (f1.trans f2)))))) (fun q => absurd (by unfold undk; omega) q)) (fun q => by omega)
theorem rpm6 (hG : Sh G) (hk : D 214 58 = 6) (h : hl 248 214 57 D l) (hN : D 214 59 = N) (hY : D 214 60 = Y) (hn : l.length + 4 ≤ 20) (K : ∀ D', hl 248 214 57 D' (l ++ [3] ++ [21] ++ [2] ++ [1]) → frr D D' → P ((ixor ((x + N) - Y) 7) * 2) D') : Call E (d + 5) 0 0 mX12_plainMarks [vR 214, vI x] G D (retI G P) :=
  w_X12_plainMarks hG (r_runs hG h (by omega) (fun D1 h1 f1 => rld6 (N := N) (Y := Y) hG (by rw [f1 214 58 (by omega) (by omega)]; exact hk) h1 (by rw [f1 214 59 (by omega) (by omega)]; exact hN) (by rw [f1 214 60 (by omega) (by omega)]; exact hY) (by simp only [len1]; omega) (fun D2 h2 f2 => rI (K D2 h2 (f1.trans f2)))))
theorem rmk6 (hG : Sh G) (hk : D 214 58 = 6) (h : hl 248 214 57 D l) (hN : D 214 59 = N) (hY : D 214 60 = Y) (hn : l.length + 5 ≤ 20) (K : ∀ D', hl 248 214 57 D' (l ++ [61] ++ [3] ++ [21] ++ [2] ++ [1]) → frr D D' → P (ixor ((ixor (((x + 1) + N) - Y) 7) * 2) 3) D') : Call E (d + 6) 0 0 mX12_marks [vR 214, vI x] G D (retI G P) := by
  refine w_X12_marks hG ?_
  rw [hk]
  exact br_ne (fun _ => br_ne (fun q => absurd rfl q) (fun _ => r_runs hG h (by omega) (fun D1 h1 f1 => rpm6 (N := N) (Y := Y) hG (by rw [f1 214 58 (by omega) (by omega)]; exact hk) h1 (by rw [f1 214 59 (by omega) (by omega)]; exact hN) (by rw [f1 214 60 (by omega) (by omega)]; exact hY) (by simp only [len1]; omega) (fun D2 h2 f2 => rI (K D2 h2 (f1.trans f2)))))) (fun q => by omega)
end Acts
