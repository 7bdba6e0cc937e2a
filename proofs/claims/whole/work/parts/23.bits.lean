/-! ===== bits ===== -/
theorem bv_n {x : Int} (h0 : 0 ≤ x) (h1 : x < 2147483648) : (iv x).toBitVec.toNat = x.toNat := by
  show (Int32.ofInt x).toBitVec.toNat = _
  rw [Int32.toBitVec_ofInt, BitVec.toNat_ofInt]
  omega
theorem bv_t {z : Int32} (h : z.toBitVec.toNat < 2147483648) : z.toInt = (z.toBitVec.toNat : Int) := by
  rw [← Int32.toInt_toBitVec]
  exact BitVec.toInt_eq_toNat_of_lt (by omega)
theorem iand_n {x y : Int} (x0 : 0 ≤ x) (x1 : x < 2147483648) (y0 : 0 ≤ y) (y1 : y < 2147483648) : iand x y = ((x.toNat &&& y.toNat : Nat) : Int) := by
  have e : (iv x &&& iv y).toBitVec.toNat = x.toNat &&& y.toNat := by rw [Int32.toBitVec_and, BitVec.toNat_and, bv_n x0 x1, bv_n y0 y1]
  have l : x.toNat &&& y.toNat < 2147483648 := Nat.lt_of_le_of_lt Nat.and_le_left (by omega)
  unfold iand
  rw [bv_t (by rw [e]; exact l), e]
theorem ior_n {x y : Int} (x0 : 0 ≤ x) (x1 : x < 2147483648) (y0 : 0 ≤ y) (y1 : y < 2147483648) : ior x y = ((x.toNat ||| y.toNat : Nat) : Int) := by
  have e : (iv x ||| iv y).toBitVec.toNat = x.toNat ||| y.toNat := by rw [Int32.toBitVec_or, BitVec.toNat_or, bv_n x0 x1, bv_n y0 y1]
  have l : x.toNat ||| y.toNat < 2 ^ 31 := Nat.or_lt_two_pow (by omega) (by omega)
  unfold ior
  rw [bv_t (by rw [e]; omega), e]
theorem k31 {k : Int} (k0 : 0 ≤ k) (k1 : k < 31) : ∃ n : Nat, n < 31 ∧ k = (n : Int) := ⟨k.toNat, by omega, by omega⟩
theorem sh_k {k : Int} (k0 : 0 ≤ k) (k1 : k < 31) : ((iv k &&& 31).toBitVec.smod 32) = BitVec.ofNat 32 k.toNat := by
  obtain ⟨n, hn, rfl⟩ := k31 k0 k1
  have : ∀ n : Fin 31, ((iv ((n.1 : Nat) : Int) &&& 31).toBitVec.smod 32) = BitVec.ofNat 32 ((n.1 : Nat) : Int).toNat := by decide +kernel
  exact this ⟨n, hn⟩
theorem ishr_n {x k : Int} (x0 : 0 ≤ x) (x1 : x < 2147483648) (k0 : 0 ≤ k) (k1 : k < 31) : ishr x k = ((x.toNat >>> k.toNat : Nat) : Int) := by
  have e : (iv x >>> (iv k &&& 31)).toBitVec.toNat = x.toNat >>> k.toNat := by
    rw [Int32.toBitVec_shiftRight, sh_k k0 k1]
    have hm : (iv x).toBitVec.msb = false := by
      rw [BitVec.msb_eq_decide, bv_n x0 x1]
      simp; omega
    rw [BitVec.sshiftRight', BitVec.sshiftRight_eq_of_msb_false hm, BitVec.toNat_ushiftRight, bv_n x0 x1, BitVec.toNat_ofNat]
    congr 1; omega
  have l : x.toNat >>> k.toNat < 2147483648 := Nat.lt_of_le_of_lt (Nat.shiftRight_le _ _) (by omega)
  unfold ishr
  rw [bv_t (by rw [e]; exact l), e]
theorem iushr_n {x k : Int} (x0 : 0 ≤ x) (x1 : x < 2147483648) (k0 : 0 ≤ k) (k1 : k < 31) : iushr x k = ((x.toNat >>> k.toNat : Nat) : Int) := by
  have e : ((iv x).toUInt32 >>> ((iv k).toUInt32 &&& Int32.toUInt32 31)).toInt32.toBitVec.toNat = x.toNat >>> k.toNat := by
    show ((iv x).toUInt32 >>> ((iv k).toUInt32 &&& Int32.toUInt32 31)).toBitVec.toNat = _
    rw [UInt32.toBitVec_shiftRight]
    show ((iv x).toBitVec >>> (((iv k).toUInt32 &&& Int32.toUInt32 31).toBitVec % 32)).toNat = _
    obtain ⟨n, hn, rfl⟩ := k31 k0 k1
    have : ∀ n : Fin 31, (((iv ((n.1 : Nat) : Int)).toUInt32 &&& Int32.toUInt32 31).toBitVec % 32).toNat = n.1 := by decide +kernel
    have t := this ⟨n, hn⟩
    rw [BitVec.ushiftRight_eq', BitVec.toNat_ushiftRight, bv_n x0 x1]
    exact congrArg (x.toNat >>> ·) t
  have l : x.toNat >>> k.toNat < 2147483648 := Nat.lt_of_le_of_lt (Nat.shiftRight_le _ _) (by omega)
  unfold iushr
  rw [bv_t (by rw [e]; exact l), e]
theorem ishl_1 {k : Int} (k0 : 0 ≤ k) (k1 : k < 31) : ishl 1 k = ((2 ^ k.toNat : Nat) : Int) := by
  obtain ⟨n, hn, rfl⟩ := k31 k0 k1
  have : ∀ n : Fin 31, ishl 1 ((n.1 : Nat) : Int) = ((2 ^ ((n.1 : Nat) : Int).toNat : Nat) : Int) := by decide +kernel
  exact this ⟨n, hn⟩
/-- iand with the complement -/
theorem iandn_n {x y : Int} (x0 : 0 ≤ x) (x1 : x < 2147483648) (y0 : 0 ≤ y) (y1 : y < 2147483648) : ∃ n : Nat, iand x (ixor y (-1)) = (n : Int) ∧ n ≤ x.toNat ∧ ∀ i : Nat, n.testBit i = (x.toNat.testBit i && !(y.toNat.testBit i)) := by
  have e0 : iv (ixor y (-1)) = iv y ^^^ iv (-1) := by
    show Int32.ofInt (iv y ^^^ iv (-1)).toInt = _
    exact Int32.ofInt_toInt _
  have e : (iv x &&& iv (ixor y (-1))).toBitVec = (iv x).toBitVec &&& ((iv y).toBitVec ^^^ BitVec.allOnes 32) := by
    rw [e0, Int32.toBitVec_and, Int32.toBitVec_xor]
    rfl
  have l : (iv x &&& iv (ixor y (-1))).toBitVec.toNat ≤ x.toNat := by
    rw [e, BitVec.toNat_and, bv_n x0 x1]
    exact Nat.and_le_left
  refine ⟨(iv x &&& iv (ixor y (-1))).toBitVec.toNat, ?_, l, fun i => ?_⟩
  · unfold iand
    rw [bv_t (by omega)]
  · rw [e, BitVec.testBit_toNat, BitVec.getLsbD_and, BitVec.getLsbD_xor, ← BitVec.testBit_toNat, ← BitVec.testBit_toNat, bv_n x0 x1, bv_n y0 y1, BitVec.getLsbD_allOnes]
    by_cases hi : i < 32
    · simp [hi]
    · have : x.toNat.testBit i = false := Nat.testBit_lt_two_pow (Nat.lt_of_lt_of_le (show x.toNat < 2 ^ 31 by omega) (Nat.pow_le_pow_right (by omega) (by omega)))
      simp [this]
/-- bit k is set -/
def bt (x k : Int) : Prop := x.toNat.testBit k.toNat = true
theorem bt_and {x y k : Int} (x0 : 0 ≤ x) (x1 : x < 2147483648) (y0 : 0 ≤ y) (y1 : y < 2147483648) : bt (iand x y) k ↔ bt x k ∧ bt y k := by
  unfold bt
  rw [iand_n x0 x1 y0 y1, Int.toNat_natCast, Nat.testBit_and, Bool.and_eq_true]
theorem bt_or {x y k : Int} (x0 : 0 ≤ x) (x1 : x < 2147483648) (y0 : 0 ≤ y) (y1 : y < 2147483648) : bt (ior x y) k ↔ bt x k ∨ bt y k := by
  unfold bt
  rw [ior_n x0 x1 y0 y1, Int.toNat_natCast, Nat.testBit_or, Bool.or_eq_true]
theorem bt_1 {j k : Int} (j0 : 0 ≤ j) (j1 : j < 31) (k0 : 0 ≤ k) : bt (ishl 1 j) k ↔ j = k := by
  unfold bt
  rw [ishl_1 j0 j1, Int.toNat_natCast, Nat.testBit_two_pow]
  simp; omega
theorem bt_0 {k : Int} : ¬ bt 0 k := by unfold bt; simp
theorem bt_andn {x y k : Int} (x0 : 0 ≤ x) (x1 : x < 2147483648) (y0 : 0 ≤ y) (y1 : y < 2147483648) : bt (iand x (ixor y (-1))) k ↔ bt x k ∧ ¬ bt y k := by
  obtain ⟨n, e, -, h⟩ := iandn_n x0 x1 y0 y1
  unfold bt
  rw [e, Int.toNat_natCast, h]
  simp
theorem andn_rg {x y : Int} (x0 : 0 ≤ x) (x1 : x < 2147483648) (y0 : 0 ≤ y) (y1 : y < 2147483648) : 0 ≤ iand x (ixor y (-1)) ∧ iand x (ixor y (-1)) ≤ x := by
  obtain ⟨n, e, h, -⟩ := iandn_n x0 x1 y0 y1
  omega
theorem and_rg {x y : Int} (x0 : 0 ≤ x) (x1 : x < 2147483648) (y0 : 0 ≤ y) (y1 : y < 2147483648) : 0 ≤ iand x y ∧ iand x y ≤ x := by
  rw [iand_n x0 x1 y0 y1]
  have := Nat.and_le_left (n := x.toNat) (m := y.toNat)
  omega
theorem or_rg {x y : Int} (n : Nat) (hn : n ≤ 31) (x0 : 0 ≤ x) (x1 : x < ((2 ^ n : Nat) : Int)) (y0 : 0 ≤ y) (y1 : y < ((2 ^ n : Nat) : Int)) : 0 ≤ ior x y ∧ ior x y < ((2 ^ n : Nat) : Int) := by
  have : 2 ^ n ≤ 2 ^ 31 := Nat.pow_le_pow_right (by omega) hn
  rw [ior_n x0 (by omega) y0 (by omega)]
  have l : x.toNat ||| y.toNat < 2 ^ n := Nat.or_lt_two_pow (by omega) (by omega)
  omega
theorem sh_rg {j : Int} {n : Nat} (j0 : 0 ≤ j) (jn : j < n) (hn : n ≤ 31) : 0 ≤ ishl 1 j ∧ ishl 1 j < ((2 ^ n : Nat) : Int) := by
  rw [ishl_1 j0 (by omega)]
  have : 2 ^ j.toNat < 2 ^ n := Nat.pow_lt_pow_right (by omega) (by omega)
  exact ⟨Int.natCast_nonneg _, Int.ofNat_lt.mpr this⟩
theorem tb_1 {x k : Int} (x0 : 0 ≤ x) (x1 : x < 2147483648) (k0 : 0 ≤ k) (k1 : k < 31) (h : bt x k) : iand (ishr x k) 1 = 1 := by
  have l : x.toNat >>> k.toNat < 2147483648 := Nat.lt_of_le_of_lt (Nat.shiftRight_le _ _) (by omega)
  rw [ishr_n x0 x1 k0 k1, iand_n (Int.natCast_nonneg _) (Int.ofNat_lt.mpr l) (by omega) (by omega), Int.toNat_natCast]
  unfold bt at h
  rw [Nat.testBit] at h
  have : x.toNat >>> k.toNat &&& 1 = 1 := by
    have h2 : (x.toNat >>> k.toNat) % 2 = 1 := by
      rw [Nat.and_comm, Nat.and_one_is_mod] at h
      simp at h; exact h
    rw [Nat.and_one_is_mod]; exact h2
  show ((x.toNat >>> k.toNat &&& 1 : Nat) : Int) = 1
  rw [this]; rfl
theorem tb_0 {x k : Int} (x0 : 0 ≤ x) (x1 : x < 2147483648) (k0 : 0 ≤ k) (k1 : k < 31) (h : ¬ bt x k) : iand (ishr x k) 1 = 0 := by
  have l : x.toNat >>> k.toNat < 2147483648 := Nat.lt_of_le_of_lt (Nat.shiftRight_le _ _) (by omega)
  rw [ishr_n x0 x1 k0 k1, iand_n (Int.natCast_nonneg _) (Int.ofNat_lt.mpr l) (by omega) (by omega), Int.toNat_natCast]
  unfold bt at h
  rw [Nat.testBit] at h
  have : x.toNat >>> k.toNat &&& 1 = 0 := by
    have h2 : ¬ (x.toNat >>> k.toNat) % 2 = 1 := by
      rw [Nat.and_comm, Nat.and_one_is_mod] at h
      simp at h; omega
    rw [Nat.and_one_is_mod]; omega
  show ((x.toNat >>> k.toNat &&& 1 : Nat) : Int) = 0
  rw [this]; rfl
theorem bt_ext {x y : Int} (n : Nat) (x0 : 0 ≤ x) (x1 : x < ((2 ^ n : Nat) : Int)) (y0 : 0 ≤ y) (y1 : y < ((2 ^ n : Nat) : Int)) (h : ∀ k : Int, 0 ≤ k → k < n → (bt x k ↔ bt y k)) : x = y := by
  have : x.toNat = y.toNat := by
    apply Nat.eq_of_testBit_eq
    intro i
    by_cases hi : i < n
    · have := h i (by omega) (by omega)
      unfold bt at this
      rw [Int.toNat_natCast] at this
      exact Bool.eq_iff_iff.mpr this
    · have p : 2 ^ n ≤ 2 ^ i := Nat.pow_le_pow_right (by omega) (by omega)
      rw [Nat.testBit_lt_two_pow (by omega), Nat.testBit_lt_two_pow (by omega)]
  omega
theorem bt_hi {x k : Int} (n : Nat) (x0 : 0 ≤ x) (x1 : x < ((2 ^ n : Nat) : Int)) (hk : (n : Int) ≤ k) : ¬ bt x k := by
  unfold bt
  have p : 2 ^ n ≤ 2 ^ k.toNat := Nat.pow_le_pow_right (by omega) (by omega)
  rw [Nat.testBit_lt_two_pow (by omega)]
  simp
/-- popcount, as it is computed -/
def pcf (x0 : Int) : Int := (iand (((iand (((iand (x0 - (iand (iushr x0 1) 1431655765)) 858993459) + (iand (iushr (x0 - (iand (iushr x0 1) 1431655765)) 2) 858993459)) + (iushr ((iand (x0 - (iand (iushr x0 1) 1431655765)) 858993459) + (iand (iushr (x0 - (iand (iushr x0 1) 1431655765)) 2) 858993459)) 4)) 252645135) + (iushr (iand (((iand (x0 - (iand (iushr x0 1) 1431655765)) 858993459) + (iand (iushr (x0 - (iand (iushr x0 1) 1431655765)) 2) 858993459)) + (iushr ((iand (x0 - (iand (iushr x0 1) 1431655765)) 858993459) + (iand (iushr (x0 - (iand (iushr x0 1) 1431655765)) 2) 858993459)) 4)) 252645135) 8)) + (iushr ((iand (((iand (x0 - (iand (iushr x0 1) 1431655765)) 858993459) + (iand (iushr (x0 - (iand (iushr x0 1) 1431655765)) 2) 858993459)) + (iushr ((iand (x0 - (iand (iushr x0 1) 1431655765)) 858993459) + (iand (iushr (x0 - (iand (iushr x0 1) 1431655765)) 2) 858993459)) 4)) 252645135) + (iushr (iand (((iand (x0 - (iand (iushr x0 1) 1431655765)) 858993459) + (iand (iushr (x0 - (iand (iushr x0 1) 1431655765)) 2) 858993459)) + (iushr ((iand (x0 - (iand (iushr x0 1) 1431655765)) 858993459) + (iand (iushr (x0 - (iand (iushr x0 1) 1431655765)) 2) 858993459)) 4)) 252645135) 8)) 16)) 63)
def bit01 (x : Int) (k : Nat) : Int := if x.toNat.testBit k then 1 else 0
def bsum (x : Int) : Nat → Int
  | 0 => 0
  | n + 1 => bsum x n + bit01 x n
theorem pcf_n : ∀ a b : Fin 64, pcf ((64 * a.1 + b.1 : Nat) : Int) = bsum ((64 * a.1 + b.1 : Nat) : Int) 12 := by decide +kernel

theorem bsum_fsum (x : Int) : ∀ n : Nat, bsum x n = fsum (fun k => cif (bt x k) 1 0) n
  | 0 => rfl
  | n + 1 => by
    simp only [bsum, fsum]
    rw [bsum_fsum x n]
    congr 1
    unfold bit01
    by_cases h : x.toNat.testBit n = true
    · rw [if_pos h, cif_t (by unfold bt; rw [Int.toNat_natCast]; exact h)]
    · rw [if_neg h, cif_f (by unfold bt; rw [Int.toNat_natCast]; exact h)]
/-- how many bits are set -/
noncomputable def pcn (x : Int) (n : Nat) : Int := fsum (fun k => cif (bt x k) 1 0) n
theorem pcn_rg (x : Int) (n : Nat) : 0 ≤ pcn x n ∧ pcn x n ≤ n := fsum_rg n (fun k _ _ => by
  by_cases h : bt x k
  · rw [cif_t h]; omega
  · rw [cif_f h]; omega)
theorem pcn_hi {x : Int} {m : Nat} (x0 : 0 ≤ x) (x1 : x < ((2 ^ m : Nat) : Int)) : ∀ k : Nat, pcn x (m + k) = pcn x m
  | 0 => rfl
  | k + 1 => by
    have := pcn_hi (m := m) x0 x1 k
    show fsum _ (m + k) + _ = _
    have e : fsum (fun k => cif (bt x k) 1 0) (m + k) = pcn x m := this
    rw [e]
    show _ + cif (bt x ((m + k : Nat) : Int)) 1 0 = _
    rw [cif_f (bt_hi m x0 x1 (by omega)), Int.add_zero]
theorem pcf_pcn {x : Int} (x0 : 0 ≤ x) (x1 : x < 4096) : pcf x = pcn x 12 := by
  have h := pcf_n ⟨(x / 64).toNat, by omega⟩ ⟨(x % 64).toNat, by omega⟩
  have e : ((64 * (x / 64).toNat + (x % 64).toNat : Nat) : Int) = x := by omega
  simp only [e] at h
  rw [h, bsum_fsum]
  rfl
theorem ntz_n : ∀ n : Fin 63, ∃ k : Fin 6, iand (ixor ((n.1 + 1 : Nat) : Int) (-1)) (((n.1 + 1 : Nat) : Int) - 1) = ((2 ^ k.1 - 1 : Nat) : Int) ∧ (n.1 + 1).testBit k.1 = true ∧ ∀ j : Fin 6, j.1 < k.1 → (n.1 + 1).testBit j.1 = false := by decide +kernel
section BitCalls
variable {E : mmE} {d kc ks : Nat} {G : mmG} {D : mmD} {P : Int → mmD → Prop} {x : Int}
theorem c_bitCount (hG : Sh G) (h : P (pcf x) D) : Call E d kc ks mJ6_bitCount_0f7a4 [vI x] G D (retI G P) := w_J6_bitCount_0f7a4 hG (rI h)
theorem c_bitCount12 (hG : Sh G) (x0 : 0 ≤ x) (x1 : x < 4096) (h : P (pcn x 12) D) : Call E d kc ks mJ6_bitCount_0f7a4 [vI x] G D (retI G P) := c_bitCount hG (by rw [pcf_pcn x0 x1]; exact h)
theorem c_ntz (hG : Sh G) (x0 : 0 < x) (x1 : x < 64) (h : ∀ k : Int, 0 ≤ k → k < 6 → bt x k → (∀ j, 0 ≤ j → j < k → ¬ bt x j) → P k D) : Call E d kc ks mJ6_numberOfTrailingZeros_0f7a4 [vI x] G D (retI G P) := by
  obtain ⟨⟨k, hk⟩, h1, h2, h3⟩ := ntz_n ⟨(x - 1).toNat, by omega⟩
  have e : (((x - 1).toNat + 1 : Nat) : Int) = x := by omega
  have e' : (x - 1).toNat + 1 = x.toNat := by omega
  simp only [e'] at h1 h2 h3
  rw [show ((x.toNat : Nat) : Int) = x by omega] at h1
  have hh := h k (by omega) (by omega) (by unfold bt; rw [Int.toNat_natCast]; exact h2) (fun j j0 j1 => by
    unfold bt
    rw [h3 ⟨j.toNat, by omega⟩ (by show j.toNat < k; omega)]
    simp)
  refine w_J6_numberOfTrailingZeros_0f7a4 hG ?_
  rw [h1]
  have hk' : k = 0 ∨ k = 1 ∨ k = 2 ∨ k = 3 ∨ k = 4 ∨ k = 5 := by omega
  have t : ∀ {a b : Int} {A B : Prop}, iv a < iv b → A → (iv a < iv b → A) ∧ (¬ iv a < iv b → B) := fun p q => ⟨fun _ => q, fun r => absurd p r⟩
  have f : ∀ {a b : Int} {A B : Prop}, ¬ iv a < iv b → B → (iv a < iv b → A) ∧ (¬ iv a < iv b → B) := fun p q => ⟨fun r => absurd r p, fun _ => q⟩
  have t' : ∀ {a b : Int} {A B : Prop}, iv a ≤ iv b → A → (iv a ≤ iv b → A) ∧ (¬ iv a ≤ iv b → B) := fun p q => ⟨fun _ => q, fun r => absurd p r⟩
  have f' : ∀ {a b : Int} {A B : Prop}, ¬ iv a ≤ iv b → B → (iv a ≤ iv b → A) ∧ (¬ iv a ≤ iv b → B) := fun p q => ⟨fun r => absurd r p, fun _ => q⟩
  rcases hk' with rfl | rfl | rfl | rfl | rfl | rfl
  · refine f (by decide +kernel) ?_
    rw [show iand ((2 ^ 0 - 1 : Nat) : Int) 32 = ((0 : Nat) : Int) by decide +kernel]
    exact rI hh
  · refine t (by decide +kernel) (t' (by decide +kernel) (t' (by decide +kernel) (w_J6_numberOfTrailingZeros_0f7a4_49 hG (t' (by decide +kernel) (t' (by decide +kernel) ?_)))))
    rw [show 1 + iushr ((2 ^ 1 - 1 : Nat) : Int) 1 = ((1 : Nat) : Int) by decide +kernel]
    exact rI hh
  · refine t (by decide +kernel) (t' (by decide +kernel) (t' (by decide +kernel) (w_J6_numberOfTrailingZeros_0f7a4_49 hG (t' (by decide +kernel) (t' (by decide +kernel) ?_)))))
    rw [show 1 + iushr ((2 ^ 2 - 1 : Nat) : Int) 1 = ((2 : Nat) : Int) by decide +kernel]
    exact rI hh
  · refine t (by decide +kernel) (t' (by decide +kernel) (t' (by decide +kernel) (w_J6_numberOfTrailingZeros_0f7a4_49 hG (t' (by decide +kernel) (f' (by decide +kernel) ?_)))))
    rw [show 1 + 2 + iushr (iushr ((2 ^ 3 - 1 : Nat) : Int) 2) 1 = ((3 : Nat) : Int) by decide +kernel]
    exact rI hh
  · refine t (by decide +kernel) (t' (by decide +kernel) (t' (by decide +kernel) (w_J6_numberOfTrailingZeros_0f7a4_49 hG (t' (by decide +kernel) (f' (by decide +kernel) ?_)))))
    rw [show 1 + 2 + iushr (iushr ((2 ^ 4 - 1 : Nat) : Int) 2) 1 = ((4 : Nat) : Int) by decide +kernel]
    exact rI hh
  · refine t (by decide +kernel) (t' (by decide +kernel) (t' (by decide +kernel) (w_J6_numberOfTrailingZeros_0f7a4_49 hG (f' (by decide +kernel) (t' (by decide +kernel) ?_)))))
    rw [show 1 + 4 + iushr (iushr ((2 ^ 5 - 1 : Nat) : Int) 4) 1 = ((5 : Nat) : Int) by decide +kernel]
    exact rI hh
theorem pw10 : ((2 ^ 10 : Nat) : Int) = 1024 := by decide
theorem pw6 : ((2 ^ 6 : Nat) : Int) = 64 := by decide
theorem pw12 : ((2 ^ 12 : Nat) : Int) = 4096 := by decide
end BitCalls
