/-! ===== rows of LAWS ===== -/
def exn (N : Nat) : Nat → Nat → List (List Nat)
  | 0, _ => [[]]
  | f + 1, u => (List.range' 0 N).flatMap (fun k => if u.testBit k = true then [] else (exn N f (u ||| 2 ^ k)).map (fun p => k :: p))
def swp (p : List Nat) (i j : Nat) : List Nat := (p.set i (p.getD j 0)).set j (p.getD i 0)
def riseF (p : List Nat) : Nat → Option Nat
  | 0 => none
  | k + 1 => if p.getD k 0 ≤ p.getD (k + 1) 0 then some k else riseF p k
def aboveF (p : List Nat) (i : Nat) : Nat → Nat
  | 0 => 0
  | k + 1 => if k + 1 ≤ i then k + 1 else if p.getD i 0 ≤ p.getD (k + 1) 0 then k + 1 else aboveF p i k
def revF : Nat → List Nat → Nat → Nat → List Nat
  | 0, p, _, _ => p
  | f + 1, p, lo, hi => if hi ≤ lo then p else revF f (swp p lo hi) (lo + 1) (hi - 1)
def nxt (N : Nat) (p : List Nat) : Option (List Nat) :=
  match riseF p (N - 1) with
  | none => none
  | some i => some (revF 4 (swp p i (aboveF p i (N - 1))) (i + 1) (N - 1))
def run (N : Nat) : Nat → List Nat → List (List Nat)
  | 0, _ => []
  | f + 1, p => p :: (match nxt N p with | none => [] | some q => run N f q)
def okp (N : Nat) (p : List Nat) : Bool := p.length == N && p.all (fun k => decide (k < N))
theorem run_exn : ∀ N : Fin 4, run (N.1 + 1) 24 (List.range (N.1 + 1)) = exn (N.1 + 1) (N.1 + 1) 0 ∧ (exn (N.1 + 1) (N.1 + 1) 0).all (okp (N.1 + 1)) = true := by decide +kernel
theorem okp_len {N : Nat} {p : List Nat} (h : okp N p = true) : p.length = N := by
  unfold okp at h
  simp at h
  exact h.1
theorem okp_lt {N : Nat} {p : List Nat} (h : okp N p = true) {q : Nat} (hq : q < N) : p.getD q 0 < N := by
  have hl := okp_len h
  unfold okp at h
  simp at h
  rw [List.getD_eq_getElem?_getD, List.getElem?_eq_getElem (by omega)]
  exact h.2 _ (List.getElem_mem _)
theorem swp_len {p : List Nat} {i j : Nat} : (swp p i j).length = p.length := by simp [swp]
theorem swp_get {p : List Nat} {i j q : Nat} (hi : i < p.length) (hj : j < p.length) : (swp p i j).getD q 0 = if q = j then p.getD i 0 else if q = i then p.getD j 0 else p.getD q 0 := by
  unfold swp
  rw [List.getD_eq_getElem?_getD, List.getElem?_set]
  by_cases h : j = q
  · subst h
    rw [if_pos rfl, if_pos (by simp; exact hj), if_pos rfl]
    rfl
  · rw [if_neg h, if_neg (fun e => h e.symm), List.getElem?_set]
    by_cases h2 : i = q
    · subst h2
      rw [if_pos rfl, if_pos hi, if_pos rfl]
      rfl
    · rw [if_neg h2, if_neg (fun e => h2 e.symm), List.getD_eq_getElem?_getD]
/-- places of a mask's bits -/
noncomputable def bl (x : Int) : Nat → List Int
  | 0 => []
  | n + 1 => cif (bt x n) (bl x n ++ [(n : Int)]) (bl x n)
theorem bl_len {x : Int} : ∀ n : Nat, ((bl x n).length : Int) = pcn x n
  | 0 => rfl
  | n + 1 => by
    have i := bl_len (x := x) n
    show _ = pcn x n + cif (bt x n) 1 0
    simp only [bl]
    by_cases h : bt x n
    · rw [cif_t h, cif_t h, List.length_append, List.length_singleton]; omega
    · rw [cif_f h, cif_f h]; omega
theorem bl_rg {x : Int} : ∀ (n q : Nat), q < (bl x n).length → 0 ≤ (bl x n).getD q 0 ∧ (bl x n).getD q 0 < n ∧ bt x ((bl x n).getD q 0)
  | 0, q, h => by simp [bl] at h
  | n + 1, q, h => by
    simp only [bl] at h ⊢
    by_cases e : bt x n
    · rw [cif_t e] at h ⊢
      rw [List.length_append, List.length_singleton] at h
      by_cases hq : q < (bl x n).length
      · rw [getD_app hq]
        have := bl_rg n q hq
        exact ⟨this.1, by omega, this.2.2⟩
      · have : q = (bl x n).length := by omega
        subst this
        rw [getD_end]
        exact ⟨by omega, by omega, e⟩
    · rw [cif_f e] at h ⊢
      have := bl_rg n q h
      exact ⟨this.1, by omega, this.2.2⟩
theorem bl_mono {x : Int} : ∀ (n p q : Nat), p < q → q < (bl x n).length → (bl x n).getD p 0 < (bl x n).getD q 0
  | 0, p, q, _, h => by simp [bl] at h
  | n + 1, p, q, hpq, h => by
    simp only [bl] at h ⊢
    by_cases e : bt x n
    · rw [cif_t e] at h ⊢
      rw [List.length_append, List.length_singleton] at h
      by_cases hq : q < (bl x n).length
      · rw [getD_app hq, getD_app (by omega)]
        exact bl_mono n p q hpq hq
      · have : q = (bl x n).length := by omega
        subst this
        rw [getD_end, getD_app hpq]
        exact (bl_rg n p hpq).2.1
    · rw [cif_f e] at h ⊢
      exact bl_mono n p q hpq h
theorem bl_hi {x : Int} {n : Nat} (h : ∀ k : Int, (n : Int) ≤ k → ¬ bt x k) : ∀ k : Nat, bl x (n + k) = bl x n
  | 0 => rfl
  | k + 1 => by
    show bl x ((n + k) + 1) = _
    simp only [bl]
    rw [cif_f (h _ (by omega)), bl_hi h k]
theorem bl_pre {x : Int} {n : Nat} : ∀ k : Nat, ∃ l, bl x (n + k) = bl x n ++ l
  | 0 => ⟨[], by simp⟩
  | k + 1 => by
    obtain ⟨l, h⟩ := bl_pre (x := x) (n := n) k
    show ∃ l, bl x ((n + k) + 1) = _
    simp only [bl]
    by_cases e : bt x ((n + k : Nat) : Int)
    · rw [cif_t e, h]; exact ⟨l ++ [((n + k : Nat) : Int)], by rw [List.append_assoc]⟩
    · rw [cif_f e, h]; exact ⟨l, rfl⟩
theorem bl_s {x k : Int} (h : 0 ≤ k) : bl x (k + 1).toNat = cif (bt x k) (bl x k.toNat ++ [k]) (bl x k.toNat) := by
  rw [show (k + 1).toNat = k.toNat + 1 by omega]
  simp only [bl]
  rw [Int.toNat_of_nonneg h]
/-- all LAWS of a row, one behind the other -/
noncomputable def aps (D : mmD) (T : Nat → Int) (p : List Nat) (W : List Int) : Nat → List Int
  | 0 => W
  | k + 1 => apl D (T (p.getD k 0)) (aps D T p W k)
/-- the MEANING comes out -/
def outP (D : mmD) (a b : Int) (T : Nat → Int) (N : Nat) (p : List Nat) : Int → Prop := fun m => (lst D a m ∧ lst D b m) ∧ aps D T p (wl D (10 * a + m)) N = wl D (10 * b + m)
def excP (D : mmD) (a b : Int) (T : Nat → Int) (N : Nat) (p : List Nat) : Int → Prop := fun m => (lst D a m ∧ lst D b m) ∧ aps D T p (wl D (10 * a + m)) N ≠ wl D (10 * b + m)
noncomputable def cnt (D : mmD) (a b : Int) (T : Nat → Int) (N : Nat) (p : List Nat) : Int := fsum (ctf (outP D a b T N p)) 10
noncomputable def bstep (c : List Nat → Int) (s : Int × List Nat) (p : List Nat) : Int × List Nat := cif (s.1 < c p) (c p, p) s
theorem aps_wd {G : mmG} {D : mmD} {T : Nat → Int} {p : List Nat} {W : List Int} {N : Nat} (hI : Inv G D) (hT : ∀ q : Nat, q < N → 0 ≤ T (p.getD q 0) ∧ T (p.getD q 0) < D 214 3) (hW : wdL W) : ∀ k : Nat, k ≤ N → wdL (aps D T p W k)
  | 0, _ => hW
  | k + 1, h => apl_wd (hI.2.2.2.2.2.1 _ (hT k (by omega)).1 (hT k (by omega)).2) (aps_wd hI hT hW k (by omega))
theorem aps_keep {D D' : mmD} {T : Nat → Int} {p : List Nat} (h : ∀ l W, apl D' l W = apl D l W) (W : List Int) : ∀ k : Nat, aps D' T p W k = aps D T p W k
  | 0 => rfl
  | k + 1 => by simp only [aps]; rw [aps_keep h W k, h]
theorem ishl0 {k : Int} (k0 : 0 ≤ k) (k1 : k < 31) : ishl 0 k = 0 := by
  obtain ⟨n, hn, rfl⟩ := k31 k0 k1
  have : ∀ n : Fin 31, ishl 0 ((n.1 : Nat) : Int) = 0 := by decide +kernel
  exact this ⟨n, hn⟩
theorem ior0 {x : Int} (x0 : 0 ≤ x) (x1 : x < 2147483648) : ior x 0 = x := by
  rw [ior_n x0 x1 (by omega) (by omega)]
  show ((x.toNat ||| 0 : Nat) : Int) = x
  rw [Nat.or_zero]
  omega
/-- no bit beyond -/
theorem ushr_z {x k : Int} (hx : rg x) (k0 : 0 ≤ k) (k1 : k ≤ 12) : (iv (iushr x k) = iv 0 ↔ 0 ≤ x ∧ x < ishl 1 k) := by
  unfold rg at hx
  by_cases x0 : 0 ≤ x
  · rw [iushr_n x0 (by omega) k0 (by omega), ishl_1 k0 (by omega)]
    have l : x.toNat >>> k.toNat ≤ x.toNat := Nat.shiftRight_le _ _
    obtain ⟨w, hw⟩ : ∃ w : Nat, w = x.toNat >>> k.toNat := ⟨_, rfl⟩
    rw [← hw] at l ⊢
    rw [iv_eq (by omega) (by omega) (by omega) (by omega)]
    rw [Nat.shiftRight_eq_div_pow] at hw
    have p : 0 < 2 ^ k.toNat := Nat.pow_pos (by omega)
    constructor
    · intro h
      have h' : x.toNat / 2 ^ k.toNat = 0 := by rw [← hw]; omega
      have := (Nat.div_eq_zero_iff_lt p).mp h'
      omega
    · rintro ⟨-, h⟩
      have : x.toNat / 2 ^ k.toNat = 0 := Nat.div_eq_of_lt (by omega)
      rw [hw, this]; rfl
  · constructor
    · intro h
      exfalso
      have hb : (iv x).toBitVec.toNat = (4294967296 + x).toNat := by
        show (Int32.ofInt x).toBitVec.toNat = _
        rw [Int32.toBitVec_ofInt, BitVec.toNat_ofInt]
        omega
      have e : (iv (iushr x k)) = ((iv x).toUInt32 >>> ((iv k).toUInt32 &&& Int32.toUInt32 31)).toInt32 := by
        show Int32.ofInt (iushr x k) = _
        unfold iushr
        exact Int32.ofInt_toInt _
      have e2 : ((iv x).toUInt32 >>> ((iv k).toUInt32 &&& Int32.toUInt32 31)).toInt32.toBitVec.toNat = (4294967296 + x).toNat >>> k.toNat := by
        show ((iv x).toUInt32 >>> ((iv k).toUInt32 &&& Int32.toUInt32 31)).toBitVec.toNat = _
        rw [UInt32.toBitVec_shiftRight]
        show ((iv x).toBitVec >>> (((iv k).toUInt32 &&& Int32.toUInt32 31).toBitVec % 32)).toNat = _
        obtain ⟨n, hn, rfl⟩ := k31 k0 (by omega)
        have : ∀ n : Fin 31, (((iv ((n.1 : Nat) : Int)).toUInt32 &&& Int32.toUInt32 31).toBitVec % 32).toNat = n.1 := by decide +kernel
        have t := this ⟨n, hn⟩
        rw [BitVec.ushiftRight_eq', BitVec.toNat_ushiftRight, hb]
        exact congrArg ((4294967296 + x).toNat >>> ·) t
      rw [e] at h
      rw [h] at e2
      have z : (iv 0).toBitVec.toNat = 0 := by decide +kernel
      rw [z, Nat.shiftRight_eq_div_pow] at e2
      have p : 0 < 2 ^ k.toNat := Nat.pow_pos (by omega)
      have q : 2 ^ k.toNat ≤ 2 ^ 12 := Nat.pow_le_pow_right (by omega) (by omega)
      have := (Nat.div_eq_zero_iff_lt p).mp e2.symm
      omega
    · intro h; omega
