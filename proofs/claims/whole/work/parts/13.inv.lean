/-! ===== branches over whole numbers, answers ===== -/
def rg (x : Int) : Prop := -2147483648 ≤ x ∧ x < 2147483648
theorem br_lt {a b : Int} {A B : Prop} (f : a < b → A) (g : b ≤ a → B) (h1 : -2147483648 ≤ a := by omega) (h2 : a < 2147483648 := by omega) (h3 : -2147483648 ≤ b := by omega) (h4 : b < 2147483648 := by omega) : (iv a < iv b → A) ∧ (¬ iv a < iv b → B) := by
  have e := iv_lt h1 h2 h3 h4
  exact ⟨fun h => f (e.mp h), fun h => g (by have := mt e.mpr h; omega)⟩
theorem br_le {a b : Int} {A B : Prop} (f : a ≤ b → A) (g : b < a → B) (h1 : -2147483648 ≤ a := by omega) (h2 : a < 2147483648 := by omega) (h3 : -2147483648 ≤ b := by omega) (h4 : b < 2147483648 := by omega) : (iv a ≤ iv b → A) ∧ (¬ iv a ≤ iv b → B) := by
  have e := iv_le h1 h2 h3 h4
  exact ⟨fun h => f (e.mp h), fun h => g (by have := mt e.mpr h; omega)⟩
theorem br_eq {a b : Int} {A B : Prop} (f : a = b → A) (g : a ≠ b → B) (h1 : -2147483648 ≤ a := by omega) (h2 : a < 2147483648 := by omega) (h3 : -2147483648 ≤ b := by omega) (h4 : b < 2147483648 := by omega) : (iv a = iv b → A) ∧ (¬ iv a = iv b → B) := by
  have e := iv_eq h1 h2 h3 h4
  exact ⟨fun h => f (e.mp h), fun h => g (mt e.mpr h)⟩
theorem br_ne {a b : Int} {A B : Prop} (f : a ≠ b → A) (g : a = b → B) (h1 : -2147483648 ≤ a := by omega) (h2 : a < 2147483648 := by omega) (h3 : -2147483648 ≤ b := by omega) (h4 : b < 2147483648 := by omega) : (¬ iv a = iv b → A) ∧ (iv a = iv b → B) := by
  have e := iv_eq h1 h2 h3 h4
  exact ⟨fun h => f (mt e.mpr h), fun h => g (e.mp h)⟩
theorem b_t {A B : Prop} (b : B) : (iv 1 = iv 0 → A) ∧ (¬ iv 1 = iv 0 → B) := ⟨fun h => absurd h (by decide +kernel), fun _ => b⟩
theorem b_f {A B : Prop} (a : A) : (iv 0 = iv 0 → A) ∧ (¬ iv 0 = iv 0 → B) := ⟨fun _ => a, fun h => absurd rfl h⟩
theorem n_t {A B : Prop} (a : A) : (¬ iv 1 = iv 0 → A) ∧ (iv 1 = iv 0 → B) := ⟨fun _ => a, fun h => absurd h (by decide +kernel)⟩
theorem n_f {A B : Prop} (b : B) : (¬ iv 0 = iv 0 → A) ∧ (iv 0 = iv 0 → B) := ⟨fun h => absurd rfl h, fun _ => b⟩
theorem rI {G : mmG} {D : mmD} {P : Int → mmD → Prop} {x : Int} (h : P x D) : retI G P (some (vI x)) G D := ⟨rfl, x, rfl, h⟩
theorem rR {G : mmG} {D : mmD} {P : Int → mmD → Prop} {x : Int} (h : P x D) : retR G P (some (vR x)) G D := ⟨rfl, x, rfl, h⟩
theorem rV {G : mmG} {D : mmD} {P : mmD → Prop} (h : P D) : retV G P none G D := ⟨rfl, rfl, h⟩
theorem rIG {G : mmG} {D : mmD} {P : Int → mmG → mmD → Prop} {x : Int} (h : P x G D) : retIG P (some (vI x)) G D := ⟨x, rfl, h⟩
theorem rRG {G : mmG} {D : mmD} {P : Int → mmG → mmD → Prop} {x : Int} (h : P x G D) : retRG P (some (vR x)) G D := ⟨x, rfl, h⟩
theorem rVG {G : mmG} {D : mmD} {P : mmG → mmD → Prop} (h : P G D) : retVG P none G D := ⟨rfl, h⟩
/-! ===== what holds between the class's cells and the reference's, call by call ===== -/
def i_sc (D : mmD) : Prop := (D 2 3 = D 214 1 ∧ 0 ≤ D 214 1 ∧ D 214 1 ≤ 6) ∧ (D 2 11 = D 214 2 ∧ 0 ≤ D 214 2 ∧ D 214 2 ≤ 9999) ∧ (D 2 6 = D 214 3 ∧ 0 ≤ D 214 3 ∧ D 214 3 ≤ 12) ∧ (D 2 8 = D 214 4 ∧ 0 ≤ D 214 4 ∧ D 214 4 ≤ 80) ∧ (D 2 10 = D 214 5 ∧ 0 ≤ D 214 5 ∧ D 214 5 ≤ D 214 4) ∧ (D 2 15 = D 214 6 ∧ 0 ≤ D 214 6 ∧ D 214 6 ≤ 60) ∧ (D 2 1 = D 214 7 ∧ 0 ≤ D 214 7 ∧ D 214 7 ≤ 80) ∧ (D 2 13 = D 214 8 ∧ 0 ≤ D 214 8 ∧ D 214 8 ≤ 60) ∧ (D 2 12 = D 214 9 ∧ (D 214 9 = 0 ∨ D 214 9 = 1))
def i_tp (D : mmD) : Prop := ∀ i : Int, 0 ≤ i → i < 80 → D 3 i = D 215 i ∧ 0 ≤ D 215 i ∧ D 215 i < 256
/-- one place of a WORD on both sides -/
def i_w1 (D : mmD) (j : Int) : Prop := (D (22 + 2 * j) 1 = D 216 j ∧ 0 ≤ D 216 j ∧ D 216 j ≤ 8) ∧ (∀ i : Int, 0 ≤ i → i < D 216 j → D (22 + 2 * j + 1) i + 1 = D 217 (8 * j + i) ∧ 1 ≤ D 217 (8 * j + i) ∧ D 217 (8 * j + i) ≤ 26) ∧ D (22 + 2 * j) 2 = D 218 j ∧ (D (22 + 2 * j) 3 = D 219 j ∧ (D 219 j = 0 ∨ D 219 j = 1)) ∧ (D (22 + 2 * j) 4 = D 220 j ∧ (D 220 j = 0 ∨ D 220 j = 1))
def i_wd (D : mmD) : Prop := ∀ j : Int, 0 ≤ j → j < 60 → i_w1 D j
def i_sp (D : mmD) : Prop := ∀ t : Int, 0 ≤ t → t < D 214 1 → (D 221 t = -1 ∧ D 5 (2 * t) = -5 ∧ D 5 (2 * t + 1) = -5) ∨ (0 ≤ D 221 t ∧ D 221 t < 6 ∧ D 5 (2 * t) = D 221 t ∧ D 5 (2 * t + 1) = D 222 t)
def l_sig (a b : Int) : Prop := (1 ≤ b ∧ b ≤ 26 ∧ a = 96 + b) ∨ (b = 27 ∧ a = 86) ∨ (b = 28 ∧ a = 67)
def l_bec (a b : Int) : Prop := (1 ≤ b ∧ b ≤ 26 ∧ a = 96 + b) ∨ (b = 0 ∧ a = 48)
def l_sid (a b : Int) : Prop := (b = 0 ∧ a = 0) ∨ l_sig a b ∨ (b = 29 ∧ a = 35)
def i_l1 (D : mmD) (l : Int) : Prop := (D (142 + 6 * l) 5 = D 223 l ∧ 1 ≤ D 223 l ∧ D 223 l ≤ 6) ∧ ∀ c : Int, 0 ≤ c → c < D 223 l → l_sig (D (142 + 6 * l + 1) c) (D 224 (6 * l + c)) ∧ l_bec (D (142 + 6 * l + 2) c) (D 225 (6 * l + c)) ∧ l_sid (D (142 + 6 * l + 3) c) (D 226 (6 * l + c)) ∧ l_sid (D (142 + 6 * l + 4) c) (D 227 (6 * l + c))
def i_lw (D : mmD) : Prop := ∀ l : Int, 0 ≤ l → l < D 214 3 → i_l1 D l
def evk (k : Int) (ci : Nat) : Prop := (k = 1 ∧ ci = 7) ∨ (k = 2 ∧ ci = 4) ∨ (k = 3 ∧ ci = 8) ∨ (k = 4 ∧ ci = 5) ∨ (k = 5 ∧ ci = 2) ∨ (k = 6 ∧ ci = 1)
def i_e1 (G : mmG) (D : mmD) (i : Int) : Prop := (∃ ci : Nat, evk (D 228 i) ci ∧ isEv G ci (G.2.2 7 i)) ∧ D (G.2.2 7 i) 0 = i ∧ D (G.2.2 7 i) 1 = D 229 i ∧ D (G.2.2 7 i) 2 = D 230 i ∧ D (G.2.2 7 i) 3 = D 231 i ∧ D (G.2.2 7 i) 4 = D 232 i ∧ (0 ≤ D 229 i ∧ D 229 i ≤ 9999)
def i_ev (G : mmG) (D : mmD) : Prop := ∀ i : Int, 0 ≤ i → i < D 214 4 → i_e1 G D i
def i_cl (D : mmD) : Prop := ∀ c : Int, 0 ≤ c → c < D 214 6 → D 8 (2 * c) = D 233 c ∧ 0 ≤ D 233 c ∧ D 233 c ≤ 10 ∧ D 8 (2 * c + 1) = D 234 c ∧ (D 234 c = 0 ∨ D 234 c = 1)
def i_tr (G : mmG) (D : mmD) : Prop := (0 ≤ D 214 57 ∧ D 214 57 ≤ 20) ∧ ((G.2.2 2 9 = 0 ∧ D 214 57 = 0) ∨ ∃ i : Int, 0 ≤ i ∧ i < D 214 4 ∧ G.2.2 2 9 = G.2.2 7 i ∧ D (G.2.2 7 i) 6 = D 214 57 ∧ ∀ k : Int, 0 ≤ k → k < D 214 57 → D (G.2.2 7 i + 1) k = D 248 k)
def Inv (G : mmG) (D : mmD) : Prop := Sh G ∧ i_sc D ∧ i_tp D ∧ i_wd D ∧ i_sp D ∧ i_lw D ∧ i_ev G D ∧ i_cl D ∧ i_tr G D
/-- the places that it speaks of -/
def pers (c k : Int) : Prop := c = 2 ∨ c = 3 ∨ c = 5 ∨ c = 8 ∨ (22 ≤ c ∧ c < 142) ∨ (142 ≤ c ∧ c < 214 ∧ (c - 142) % 6 ≠ 5) ∨ (c = 214 ∧ ((1 ≤ k ∧ k ≤ 9) ∨ k = 57)) ∨ (215 ≤ c ∧ c ≤ 234) ∨ 248 ≤ c
theorem i_w1.keep {D D' : mmD} {j : Int} (h : i_w1 D j) (h1 : ∀ k, D' (22 + 2 * j) k = D (22 + 2 * j) k) (h2 : ∀ k, D' (22 + 2 * j + 1) k = D (22 + 2 * j + 1) k) (h3 : D' 216 j = D 216 j) (h4 : ∀ i, 0 ≤ i → i < 8 → D' 217 (8 * j + i) = D 217 (8 * j + i)) (h5 : D' 218 j = D 218 j) (h6 : D' 219 j = D 219 j) (h7 : D' 220 j = D 220 j) : i_w1 D' j := by
  unfold i_w1 at h ⊢
  rw [h1, h1, h1, h1, h3, h5, h6, h7]
  refine ⟨h.1, fun i i0 i1 => ?_, h.2.2⟩
  rw [h2, h4 i i0 (by have := h.1.2.2; omega)]
  exact h.2.1 i i0 i1
theorem i_l1.keep {D D' : mmD} {l : Int} (h : i_l1 D l) (h1 : D' (142 + 6 * l) 5 = D (142 + 6 * l) 5) (h2 : ∀ k, D' (142 + 6 * l + 1) k = D (142 + 6 * l + 1) k) (h3 : ∀ k, D' (142 + 6 * l + 2) k = D (142 + 6 * l + 2) k) (h4 : ∀ k, D' (142 + 6 * l + 3) k = D (142 + 6 * l + 3) k) (h5 : ∀ k, D' (142 + 6 * l + 4) k = D (142 + 6 * l + 4) k)
    (h6 : D' 223 l = D 223 l) (h7 : ∀ c, 0 ≤ c → c < 6 → D' 224 (6 * l + c) = D 224 (6 * l + c) ∧ D' 225 (6 * l + c) = D 225 (6 * l + c) ∧ D' 226 (6 * l + c) = D 226 (6 * l + c) ∧ D' 227 (6 * l + c) = D 227 (6 * l + c)) : i_l1 D' l := by
  unfold i_l1 at h ⊢
  rw [h1, h6]
  refine ⟨h.1, fun c c0 c1 => ?_⟩
  obtain ⟨g1, g2, g3, g4⟩ := h7 c c0 (by have := h.1.2.2; omega)
  rw [h2, h3, h4, h5, g1, g2, g3, g4]
  exact h.2 c c0 c1
theorem i_tp.keep {D D' : mmD} (h : i_tp D) (h1 : ∀ k, D' 3 k = D 3 k) (h2 : ∀ k, D' 215 k = D 215 k) : i_tp D' := fun i i0 i1 => by
  rw [h1, h2]
  exact h i i0 i1
theorem i_wd.keep {D D' : mmD} (h : i_wd D) (h1 : ∀ c k, 22 ≤ c → c < 142 → D' c k = D c k) (h2 : ∀ c k, 216 ≤ c → c ≤ 220 → D' c k = D c k) : i_wd D' := fun j j0 j1 =>
  (h j j0 j1).keep (fun k => h1 _ k (by omega) (by omega)) (fun k => h1 _ k (by omega) (by omega)) (h2 _ _ (by omega) (by omega)) (fun i _ _ => h2 _ _ (by omega) (by omega)) (h2 _ _ (by omega) (by omega)) (h2 _ _ (by omega) (by omega)) (h2 _ _ (by omega) (by omega))
theorem i_sp.keep {D D' : mmD} (h : i_sp D) (h0 : D' 214 1 = D 214 1) (h1 : ∀ k, D' 5 k = D 5 k) (h2 : ∀ k, D' 221 k = D 221 k) (h3 : ∀ k, D' 222 k = D 222 k) : i_sp D' := fun t t0 t1 => by
  rw [h0] at t1
  rw [h1, h1, h2, h3]
  exact h t t0 t1
theorem i_lw.keep {D D' : mmD} (h : i_lw D) (hn : D 214 3 ≤ 12) (h0 : D' 214 3 = D 214 3) (h1 : ∀ c k, 142 ≤ c → c < 214 → (c - 142) % 6 ≠ 5 → D' c k = D c k) (h2 : ∀ c k, 223 ≤ c → c ≤ 227 → D' c k = D c k) : i_lw D' := fun l l0 l1 => by
  rw [h0] at l1
  exact (h l l0 l1).keep (h1 _ _ (by omega) (by omega) (by omega)) (fun k => h1 _ k (by omega) (by omega) (by omega)) (fun k => h1 _ k (by omega) (by omega) (by omega)) (fun k => h1 _ k (by omega) (by omega) (by omega)) (fun k => h1 _ k (by omega) (by omega) (by omega)) (h2 _ _ (by omega) (by omega)) (fun c _ _ => ⟨h2 _ _ (by omega) (by omega), h2 _ _ (by omega) (by omega), h2 _ _ (by omega) (by omega), h2 _ _ (by omega) (by omega)⟩)
theorem i_ev.keep {G : mmG} {D D' : mmD} (h : i_ev G D) (h0 : D' 214 4 = D 214 4) (h1 : ∀ c k, 228 ≤ c → c ≤ 232 → D' c k = D c k) (h2 : ∀ c k, 249 ≤ c → 0 ≤ k → k ≤ 4 → D' c k = D c k) : i_ev G D' := fun i i0 i1 => by
  rw [h0] at i1
  have hh := h i i0 i1
  obtain ⟨⟨ci, e1, e2⟩, -⟩ := id hh
  have e3 := e2.1
  unfold i_e1 at hh ⊢
  rw [h1 228 i (by omega) (by omega), h1 229 i (by omega) (by omega), h1 230 i (by omega) (by omega), h1 231 i (by omega) (by omega), h1 232 i (by omega) (by omega)]
  rw [h2 _ 0 e3 (by omega) (by omega), h2 _ 1 e3 (by omega) (by omega), h2 _ 2 e3 (by omega) (by omega), h2 _ 3 e3 (by omega) (by omega), h2 _ 4 e3 (by omega) (by omega)]
  exact hh
theorem i_cl.keep {D D' : mmD} (h : i_cl D) (h0 : D' 214 6 = D 214 6) (h1 : ∀ k, D' 8 k = D 8 k) (h2 : ∀ k, D' 233 k = D 233 k) (h3 : ∀ k, D' 234 k = D 234 k) : i_cl D' := fun c c0 c1 => by
  rw [h0] at c1
  rw [h1, h1, h2, h3]
  exact h c c0 c1
theorem i_tr.keep {G : mmG} {D D' : mmD} (h : i_tr G D) (he : i_ev G D) (h0 : D' 214 4 = D 214 4) (h1 : D' 214 57 = D 214 57) (h2 : ∀ k, D' 248 k = D 248 k) (h3 : ∀ c k, 249 ≤ c → D' c k = D c k) : i_tr G D' := by
  unfold i_tr at h ⊢
  rw [h0, h1]
  refine ⟨h.1, ?_⟩
  rcases h.2 with h | ⟨i, i0, i1, h, h', h''⟩
  · exact Or.inl h
  · obtain ⟨⟨ci, e1, e2⟩, -⟩ := he i i0 i1
    have e3 := e2.1
    refine Or.inr ⟨i, i0, i1, h, ?_, fun k k0 k1 => ?_⟩
    · rw [h3 _ 6 e3]; exact h'
    · rw [h3 _ k (by omega), h2]; exact h'' k k0 k1
theorem i_sc.keep {D D' : mmD} (h : i_sc D) (h1 : ∀ k, D' 2 k = D 2 k) (h2 : ∀ k, 1 ≤ k → k ≤ 9 → D' 214 k = D 214 k) : i_sc D' := by
  unfold i_sc at h ⊢
  rw [h1, h1, h1, h1, h1, h1, h1, h1, h1, h2 1 (by omega) (by omega), h2 2 (by omega) (by omega), h2 3 (by omega) (by omega), h2 4 (by omega) (by omega), h2 5 (by omega) (by omega), h2 6 (by omega) (by omega), h2 7 (by omega) (by omega), h2 8 (by omega) (by omega), h2 9 (by omega) (by omega)]
  exact h
/-- all but the single numbers stays -/
theorem Inv.sc {G : mmG} {D D' : mmD} (h : Inv G D) (hs : i_sc D') (hk : ∀ c k, c ≠ 2 → (c = 214 → k = 1 ∨ k = 3 ∨ k = 4 ∨ k = 6 ∨ k = 57) → pers c k → D' c k = D c k) : Inv G D' := by
  obtain ⟨h1, h2, h3, h4, h5, h6, h7, h8, h9⟩ := h
  refine ⟨h1, hs, h3.keep (fun k => hk _ _ (by omega) (by omega) (by unfold pers; omega)) (fun k => hk _ _ (by omega) (by omega) (by unfold pers; omega)), h4.keep (fun c k _ _ => hk _ _ (by omega) (by omega) (by unfold pers; omega)) (fun c k _ _ => hk _ _ (by omega) (by omega) (by unfold pers; omega)), h5.keep (hk _ _ (by omega) (by omega) (by unfold pers; omega)) (fun k => hk _ _ (by omega) (by omega) (by unfold pers; omega)) (fun k => hk _ _ (by omega) (by omega) (by unfold pers; omega)) (fun k => hk _ _ (by omega) (by omega) (by unfold pers; omega)), h6.keep h2.2.2.1.2.2 (hk _ _ (by omega) (by omega) (by unfold pers; omega)) (fun c k _ _ _ => hk _ _ (by omega) (by omega) (by unfold pers; omega)) (fun c k _ _ => hk _ _ (by omega) (by omega) (by unfold pers; omega)), ?_, ?_, ?_⟩
  · exact h7.keep (hk _ _ (by omega) (by omega) (by unfold pers; omega)) (fun c k _ _ => hk _ _ (by omega) (by omega) (by unfold pers; omega)) (fun c k _ _ _ => hk _ _ (by omega) (by omega) (by unfold pers; omega))
  · exact h8.keep (hk _ _ (by omega) (by omega) (by unfold pers; omega)) (fun k => hk _ _ (by omega) (by omega) (by unfold pers; omega)) (fun k => hk _ _ (by omega) (by omega) (by unfold pers; omega)) (fun k => hk _ _ (by omega) (by omega) (by unfold pers; omega))
  · exact h9.keep h7 (hk _ _ (by omega) (by omega) (by unfold pers; omega)) (hk _ _ (by omega) (by omega) (by unfold pers; omega)) (fun k => hk _ _ (by omega) (by omega) (by unfold pers; omega)) (fun c k _ => hk _ _ (by omega) (by omega) (by unfold pers; omega))
theorem Inv.keep {G : mmG} {D D' : mmD} (h : Inv G D) (hk : ∀ c k, pers c k → D' c k = D c k) : Inv G D' :=
  h.sc (h.2.1.keep (fun k => hk _ _ (by unfold pers; omega)) (fun k _ _ => hk _ _ (by unfold pers; omega))) (fun c k _ _ hp => hk c k hp)
/-- there is a WORD -/
def hasW (D : mmD) (t m : Int) : Prop := 0 ≤ t ∧ t < D 214 1 ∧ 0 ≤ m ∧ m < 10 ∧ 0 < D 216 (10 * t + m)
/-- the LIST has it -/
def lst (D : mmD) (t m : Int) : Prop := hasW D t m ∧ D 220 (10 * t + m) = 0
/-- ranges of the reference's own numbers -/
def ri (D : mmD) : Prop := (0 ≤ D 214 1 ∧ D 214 1 ≤ 6) ∧ (0 ≤ D 214 3 ∧ D 214 3 ≤ 12) ∧ (∀ j : Int, 0 ≤ j → j < 60 → 0 ≤ D 216 j ∧ D 216 j ≤ 8) ∧ (∀ j : Int, 0 ≤ j → j < 60 → D 220 j = 0 ∨ D 220 j = 1)
theorem Inv.ri {G : mmG} {D : mmD} (h : Inv G D) : ri D := ⟨h.2.1.1.2, h.2.1.2.2.1.2, fun j a b => (h.2.2.2.1 j a b).1.2, fun j a b => (h.2.2.2.1 j a b).2.2.2.2.2⟩
theorem ri.keep {D D' : mmD} (h : ri D) (h1 : D' 214 1 = D 214 1) (h2 : D' 214 3 = D 214 3) (h3 : ∀ k, D' 216 k = D 216 k) (h4 : ∀ k, D' 220 k = D 220 k) : ri D' := by
  unfold ri
  simp only [h1, h2, h3, h4]
  exact h
section Preds
variable {E : mmE} {d kc ks : Nat} {G : mmG} {D : mmD} {P : Int → mmD → Prop} {t m x y z : Int}
theorem c_isTongue (hI : Inv G D) (hx : rg t) (h1 : 0 ≤ t → t < D 214 1 → P 1 D) (h0 : (t < 0 ∨ D 214 1 ≤ t) → P 0 D) : Call E d kc ks mX11_isTongue [vR 2, vI t] G D (retI G P) := by
  obtain ⟨hG, ⟨⟨s1, s2, s3⟩, -⟩, -⟩ := hI
  unfold rg at hx
  refine w_X11_isTongue hG (br_lt (fun h => rI (h0 (Or.inl h))) (fun h => ?_))
  rw [s1]
  exact br_le (fun h' => rI (h0 (Or.inr h'))) (fun h' => rI (h1 h h'))
theorem c_isMeaning (hG : Sh G) (hx : rg m) (h1 : 0 ≤ m → m < 10 → P 1 D) (h0 : (m < 0 ∨ 10 ≤ m) → P 0 D) : Call E d kc ks mX11_isMeaning [vI m] G D (retI G P) := by
  unfold rg at hx
  exact w_X11_isMeaning hG (br_lt (fun h => rI (h0 (Or.inl h))) (fun h => br_le (fun h' => rI (h0 (Or.inr h'))) (fun h' => rI (h1 h h'))))
theorem c_isLaw (hI : Inv G D) (hx : rg t) (h1 : 0 ≤ t → t < D 214 3 → P 1 D) (h0 : (t < 0 ∨ D 214 3 ≤ t) → P 0 D) : Call E d kc ks mX11_isLaw [vR 2, vI t] G D (retI G P) := by
  obtain ⟨hG, ⟨-, -, ⟨s1, s2, s3⟩, -⟩, -⟩ := hI
  unfold rg at hx
  refine w_X11_isLaw hG (br_lt (fun h => rI (h0 (Or.inl h))) (fun h => ?_))
  rw [s1]
  exact br_le (fun h' => rI (h0 (Or.inr h'))) (fun h' => rI (h1 h h'))
theorem c_in (hG : Sh G) (hx : rg x) (hy : rg y) (hz : rg z) (h1 : y ≤ x → x ≤ z → P 1 D) (h0 : (x < y ∨ z < x) → P 0 D) : Call E d kc ks mX12_in [vI x, vI y, vI z] G D (retI G P) := by
  unfold rg at hx hy hz
  exact w_X12_in hG (br_lt (fun h => rI (h0 (Or.inl h))) (fun h => br_lt (fun h' => rI (h0 (Or.inr h'))) (fun h' => rI (h1 h h'))))
theorem c_rTongue (hG : Sh G) (hr : ri D) (hx : rg t) (h1 : 0 ≤ t → t < D 214 1 → P 1 D) (h0 : (t < 0 ∨ D 214 1 ≤ t) → P 0 D) : Call E (d + 1) kc ks mX12_isTongue [vR 214, vI t] G D (retI G P) := by
  obtain ⟨⟨s2, s3⟩, -⟩ := hr
  exact w_X12_isTongue hG (c_in hG hx (by unfold rg; omega) (by unfold rg; omega) (fun a b => ⟨Or.inr rfl, rI (h1 a (by omega))⟩) (fun a => ⟨Or.inl rfl, rI (h0 (by omega))⟩))
theorem c_rMeaning (hG : Sh G) (hx : rg m) (h1 : 0 ≤ m → m < 10 → P 1 D) (h0 : (m < 0 ∨ 10 ≤ m) → P 0 D) : Call E (d + 1) kc ks mX12_isMeaning [vI m] G D (retI G P) :=
  w_X12_isMeaning hG (c_in hG hx (by unfold rg; omega) (by unfold rg; omega) (fun a b => ⟨Or.inr rfl, rI (h1 a (by omega))⟩) (fun a => ⟨Or.inl rfl, rI (h0 (by omega))⟩))
theorem c_rLaw (hG : Sh G) (hr : ri D) (hx : rg t) (h1 : 0 ≤ t → t < D 214 3 → P 1 D) (h0 : (t < 0 ∨ D 214 3 ≤ t) → P 0 D) : Call E (d + 1) kc ks mX12_isLaw [vR 214, vI t] G D (retI G P) := by
  obtain ⟨-, ⟨s2, s3⟩, -⟩ := hr
  exact w_X12_isLaw hG (c_in hG hx (by unfold rg; omega) (by unfold rg; omega) (fun a b => ⟨Or.inr rfl, rI (h1 a (by omega))⟩) (fun a => ⟨Or.inl rfl, rI (h0 (by omega))⟩))
theorem c_oneIf (hG : Sh G) (hx : x = 0 ∨ x = 1) (h : P x D) : Call E d kc ks mX11_oneIf [vI x] G D (retI G P) := by
  rcases hx with rfl | rfl
  · exact w_X11_oneIf hG (b_f (rI h))
  · exact w_X11_oneIf hG (b_t (rI h))
theorem c_spoken (hI : Inv G D) (ht : rg t) (hm : rg m) (h1 : hasW D t m → P (22 + 2 * (10 * t + m)) D) (h0 : ¬ hasW D t m → P 0 D) : Call E (d + 1) kc ks mX11_spokenWord [vR 2, vI t, vI m] G D (retR G P) := by
  have s := hI.2.1.1
  refine w_X11_spokenWord hI.1 (c_isTongue hI ht (fun a b => b_t ?_) (fun a => b_f (rR (h0 (fun q => by unfold hasW at q; omega)))))
  refine c_isMeaning hI.1 hm (fun a' b' => n_t ⟨⟨by omega, by omega⟩, ?_⟩) (fun a' => n_f (rR (h0 (fun q => by unfold hasW at q; omega))))
  have e : t * 10 + m = 10 * t + m := by omega
  rw [e]
  obtain ⟨⟨w1, w2, w3⟩, -⟩ := hI.2.2.2.1 (10 * t + m) (by omega) (by omega)
  rw [w1]
  exact br_le (fun c => rR (h0 (fun q => by unfold hasW at q; omega))) (fun c => rR (h1 ⟨a, b, a', b', c⟩))
theorem hasW.w (h : hasW D t m) (hI : Inv G D) : isW (22 + 2 * (10 * t + m)) ∧ 0 ≤ 10 * t + m ∧ 10 * t + m < 60 := by
  have s := hI.2.1.1
  unfold hasW at h
  unfold isW
  omega
theorem c_listed (hI : Inv G D) (ht : rg t) (hm : rg m) (h1 : lst D t m → P (22 + 2 * (10 * t + m)) D) (h0 : ¬ lst D t m → P 0 D) : Call E (d + 2) kc ks mX11_listedWord [vR 2, vI t, vI m] G D (retR G P) := by
  refine w_X11_listedWord hI.1 (c_spoken hI ht hm (fun h => ?_) (fun h => ⟨fun _ => rR (h0 (fun q => h q.1)), fun c => absurd rfl c⟩))
  obtain ⟨a, b, c⟩ := h.w hI
  obtain ⟨-, -, -, -, ⟨w1, w2⟩⟩ := hI.2.2.2.1 (10 * t + m) b c
  refine ⟨fun q => by unfold isW at a; omega, fun _ => ⟨a, ?_⟩⟩
  rw [w1]
  exact br_eq (fun q => rR (h1 ⟨h, q⟩)) (fun q => rR (h0 (fun q' => q q'.2)))
theorem c_hasWord (hG : Sh G) (hr : ri D) (ht : rg t) (hm : rg m) (h1 : hasW D t m → P 1 D) (h0 : ¬ hasW D t m → P 0 D) : Call E (d + 2) kc ks mX12_hasWord [vR 214, vI t, vI m] G D (retI G P) := by
  have s := hr.1
  refine w_X12_hasWord hG (c_rTongue hG hr ht (fun a b => b_t ?_) (fun a => b_f (rI (h0 (fun q => by unfold hasW at q; omega)))))
  refine c_rMeaning hG hm (fun a' b' => b_t ⟨⟨by omega, by omega⟩, ?_⟩) (fun a' => b_f (rI (h0 (fun q => by unfold hasW at q; omega))))
  obtain ⟨w2, w3⟩ := hr.2.2.1 (10 * t + m) (by omega) (by omega)
  exact br_le (fun c => rI (h0 (fun q => by unfold hasW at q; omega))) (fun c => rI (h1 ⟨a, b, a', b', c⟩))
theorem c_has (hG : Sh G) (hr : ri D) (ht : rg t) (hm : rg m) (h1 : lst D t m → P 1 D) (h0 : ¬ lst D t m → P 0 D) : Call E (d + 3) kc ks mX12_has [vR 214, vI t, vI m] G D (retI G P) := by
  refine w_X12_has hG (c_hasWord hG hr ht hm (fun h => b_t ?_) (fun h => b_f (rI (h0 (fun q => h q.1)))))
  have s := hr.1
  have h' := h
  unfold hasW at h'
  have w2 := hr.2.2.2 (10 * t + m) (by omega) (by omega)
  exact ⟨⟨by omega, by omega⟩, br_ne (fun q => rI (h0 (fun q' => q q'.2))) (fun q => rI (h1 ⟨h, q⟩))⟩
end Preds
