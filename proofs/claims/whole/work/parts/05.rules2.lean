section Rules2
variable {E : mmE} {d kc ks : Nat} {Y : mmM} {pc : Nat} {L : List (Option mmV)} {st : List mmV} {G : mmG} {D : mmD} {Q : mmQ}
theorem iv_0 : (0 : Int32) = iv 0 := by decide +kernel
theorem g_icmp_eq {x y off : Int} (tgt : Nat) (hd : decode Y.2.1 pc = .ok (.if_icmp .eq off, 3)) (ht : (pc : Int) + off = (tgt : Int)) (k : (iv x = iv y → Go E d kc ks Y tgt L st G D Q) ∧ (¬ iv x = iv y → Go E d kc ks Y (pc + 3) L st G D Q)) : Go E d kc ks Y pc L (vI y :: vI x :: st) G D Q := by
  intro p e s m args below meth c H locs cells slots ls R C hh hl hL
  exact lv_icmp_eq C.1 C.2.1 hd ht (fun h => k.1 h p e s m args below meth c H locs cells slots ls R C hh hl hL) (fun h => k.2 h p e s m args below meth c H locs cells slots ls R C hh hl hL)
theorem g_if_eq {x off : Int} (tgt : Nat) (hd : decode Y.2.1 pc = .ok (.ifCond .eq off, 3)) (ht : (pc : Int) + off = (tgt : Int)) (k : (iv x = iv 0 → Go E d kc ks Y tgt L st G D Q) ∧ (¬ iv x = iv 0 → Go E d kc ks Y (pc + 3) L st G D Q)) : Go E d kc ks Y pc L (vI x :: st) G D Q := by
  intro p e s m args below meth c H locs cells slots ls R C hh hl hL
  exact lv_if_eq C.1 C.2.1 hd ht (fun h => k.1 h p e s m args below meth c H locs cells slots ls R C hh hl hL) (fun h => k.2 h p e s m args below meth c H locs cells slots ls R C hh hl hL)
theorem g_icmp_ne {x y off : Int} (tgt : Nat) (hd : decode Y.2.1 pc = .ok (.if_icmp .ne off, 3)) (ht : (pc : Int) + off = (tgt : Int)) (k : (¬ iv x = iv y → Go E d kc ks Y tgt L st G D Q) ∧ (iv x = iv y → Go E d kc ks Y (pc + 3) L st G D Q)) : Go E d kc ks Y pc L (vI y :: vI x :: st) G D Q := by
  intro p e s m args below meth c H locs cells slots ls R C hh hl hL
  exact lv_icmp_ne C.1 C.2.1 hd ht (fun h => k.1 h p e s m args below meth c H locs cells slots ls R C hh hl hL) (fun h => k.2 h p e s m args below meth c H locs cells slots ls R C hh hl hL)
theorem g_if_ne {x off : Int} (tgt : Nat) (hd : decode Y.2.1 pc = .ok (.ifCond .ne off, 3)) (ht : (pc : Int) + off = (tgt : Int)) (k : (¬ iv x = iv 0 → Go E d kc ks Y tgt L st G D Q) ∧ (iv x = iv 0 → Go E d kc ks Y (pc + 3) L st G D Q)) : Go E d kc ks Y pc L (vI x :: st) G D Q := by
  intro p e s m args below meth c H locs cells slots ls R C hh hl hL
  exact lv_if_ne C.1 C.2.1 hd ht (fun h => k.1 h p e s m args below meth c H locs cells slots ls R C hh hl hL) (fun h => k.2 h p e s m args below meth c H locs cells slots ls R C hh hl hL)
theorem g_icmp_lt {x y off : Int} (tgt : Nat) (hd : decode Y.2.1 pc = .ok (.if_icmp .lt off, 3)) (ht : (pc : Int) + off = (tgt : Int)) (k : (iv x < iv y → Go E d kc ks Y tgt L st G D Q) ∧ (¬ iv x < iv y → Go E d kc ks Y (pc + 3) L st G D Q)) : Go E d kc ks Y pc L (vI y :: vI x :: st) G D Q := by
  intro p e s m args below meth c H locs cells slots ls R C hh hl hL
  exact lv_icmp_lt C.1 C.2.1 hd ht (fun h => k.1 h p e s m args below meth c H locs cells slots ls R C hh hl hL) (fun h => k.2 h p e s m args below meth c H locs cells slots ls R C hh hl hL)
theorem g_if_lt {x off : Int} (tgt : Nat) (hd : decode Y.2.1 pc = .ok (.ifCond .lt off, 3)) (ht : (pc : Int) + off = (tgt : Int)) (k : (iv x < iv 0 → Go E d kc ks Y tgt L st G D Q) ∧ (¬ iv x < iv 0 → Go E d kc ks Y (pc + 3) L st G D Q)) : Go E d kc ks Y pc L (vI x :: st) G D Q := by
  intro p e s m args below meth c H locs cells slots ls R C hh hl hL
  exact lv_if_lt C.1 C.2.1 hd ht (fun h => k.1 h p e s m args below meth c H locs cells slots ls R C hh hl hL) (fun h => k.2 h p e s m args below meth c H locs cells slots ls R C hh hl hL)
theorem g_icmp_ge {x y off : Int} (tgt : Nat) (hd : decode Y.2.1 pc = .ok (.if_icmp .ge off, 3)) (ht : (pc : Int) + off = (tgt : Int)) (k : (iv y ≤ iv x → Go E d kc ks Y tgt L st G D Q) ∧ (¬ iv y ≤ iv x → Go E d kc ks Y (pc + 3) L st G D Q)) : Go E d kc ks Y pc L (vI y :: vI x :: st) G D Q := by
  intro p e s m args below meth c H locs cells slots ls R C hh hl hL
  exact lv_icmp_ge C.1 C.2.1 hd ht (fun h => k.1 h p e s m args below meth c H locs cells slots ls R C hh hl hL) (fun h => k.2 h p e s m args below meth c H locs cells slots ls R C hh hl hL)
theorem g_if_ge {x off : Int} (tgt : Nat) (hd : decode Y.2.1 pc = .ok (.ifCond .ge off, 3)) (ht : (pc : Int) + off = (tgt : Int)) (k : (iv 0 ≤ iv x → Go E d kc ks Y tgt L st G D Q) ∧ (¬ iv 0 ≤ iv x → Go E d kc ks Y (pc + 3) L st G D Q)) : Go E d kc ks Y pc L (vI x :: st) G D Q := by
  intro p e s m args below meth c H locs cells slots ls R C hh hl hL
  exact lv_if_ge C.1 C.2.1 hd ht (fun h => k.1 h p e s m args below meth c H locs cells slots ls R C hh hl hL) (fun h => k.2 h p e s m args below meth c H locs cells slots ls R C hh hl hL)
theorem g_icmp_gt {x y off : Int} (tgt : Nat) (hd : decode Y.2.1 pc = .ok (.if_icmp .gt off, 3)) (ht : (pc : Int) + off = (tgt : Int)) (k : (iv y < iv x → Go E d kc ks Y tgt L st G D Q) ∧ (¬ iv y < iv x → Go E d kc ks Y (pc + 3) L st G D Q)) : Go E d kc ks Y pc L (vI y :: vI x :: st) G D Q := by
  intro p e s m args below meth c H locs cells slots ls R C hh hl hL
  exact lv_icmp_gt C.1 C.2.1 hd ht (fun h => k.1 h p e s m args below meth c H locs cells slots ls R C hh hl hL) (fun h => k.2 h p e s m args below meth c H locs cells slots ls R C hh hl hL)
theorem g_if_gt {x off : Int} (tgt : Nat) (hd : decode Y.2.1 pc = .ok (.ifCond .gt off, 3)) (ht : (pc : Int) + off = (tgt : Int)) (k : (iv 0 < iv x → Go E d kc ks Y tgt L st G D Q) ∧ (¬ iv 0 < iv x → Go E d kc ks Y (pc + 3) L st G D Q)) : Go E d kc ks Y pc L (vI x :: st) G D Q := by
  intro p e s m args below meth c H locs cells slots ls R C hh hl hL
  exact lv_if_gt C.1 C.2.1 hd ht (fun h => k.1 h p e s m args below meth c H locs cells slots ls R C hh hl hL) (fun h => k.2 h p e s m args below meth c H locs cells slots ls R C hh hl hL)
theorem g_icmp_le {x y off : Int} (tgt : Nat) (hd : decode Y.2.1 pc = .ok (.if_icmp .le off, 3)) (ht : (pc : Int) + off = (tgt : Int)) (k : (iv x ≤ iv y → Go E d kc ks Y tgt L st G D Q) ∧ (¬ iv x ≤ iv y → Go E d kc ks Y (pc + 3) L st G D Q)) : Go E d kc ks Y pc L (vI y :: vI x :: st) G D Q := by
  intro p e s m args below meth c H locs cells slots ls R C hh hl hL
  exact lv_icmp_le C.1 C.2.1 hd ht (fun h => k.1 h p e s m args below meth c H locs cells slots ls R C hh hl hL) (fun h => k.2 h p e s m args below meth c H locs cells slots ls R C hh hl hL)
theorem g_if_le {x off : Int} (tgt : Nat) (hd : decode Y.2.1 pc = .ok (.ifCond .le off, 3)) (ht : (pc : Int) + off = (tgt : Int)) (k : (iv x ≤ iv 0 → Go E d kc ks Y tgt L st G D Q) ∧ (¬ iv x ≤ iv 0 → Go E d kc ks Y (pc + 3) L st G D Q)) : Go E d kc ks Y pc L (vI x :: st) G D Q := by
  intro p e s m args below meth c H locs cells slots ls R C hh hl hL
  exact lv_if_le C.1 C.2.1 hd ht (fun h => k.1 h p e s m args below meth c H locs cells slots ls R C hh hl hL) (fun h => k.2 h p e s m args below meth c H locs cells slots ls R C hh hl hL)
theorem g_ifnull {x off : Int} (tgt : Nat) (hd : decode Y.2.1 pc = .ok (.ifnull off, 3)) (ht : (pc : Int) + off = (tgt : Int)) (k : (x = 0 → Go E d kc ks Y tgt L st G D Q) ∧ (¬ x = 0 → Go E d kc ks Y (pc + 3) L st G D Q)) : Go E d kc ks Y pc L (vR x :: st) G D Q := by
  intro p e s m args below meth c H locs cells slots ls R C hh hl hL
  by_cases hx : x = 0
  · rw [List.map_cons, show mm_sh E (vR x) = .null by simp [mm_sh, hx]]
    exact lv_ifnullN C.1 C.2.1 hd ht (k.1 hx p e s m args below meth c H locs cells slots ls R C hh hl hL)
  · rw [List.map_cons, show mm_sh E (vR x) = .ref (mm_ad E x) by simp [mm_sh, hx]]
    exact lv_ifnull C.1 C.2.1 hd (k.2 hx p e s m args below meth c H locs cells slots ls R C hh hl hL)
theorem g_ifnonnull {x off : Int} (tgt : Nat) (hd : decode Y.2.1 pc = .ok (.ifnonnull off, 3)) (ht : (pc : Int) + off = (tgt : Int)) (k : (¬ x = 0 → Go E d kc ks Y tgt L st G D Q) ∧ (x = 0 → Go E d kc ks Y (pc + 3) L st G D Q)) : Go E d kc ks Y pc L (vR x :: st) G D Q := by
  intro p e s m args below meth c H locs cells slots ls R C hh hl hL
  by_cases hx : x = 0
  · rw [List.map_cons, show mm_sh E (vR x) = .null by simp [mm_sh, hx]]
    exact lv_ifnonnullN C.1 C.2.1 hd (k.2 hx p e s m args below meth c H locs cells slots ls R C hh hl hL)
  · rw [List.map_cons, show mm_sh E (vR x) = .ref (mm_ad E x) by simp [mm_sh, hx]]
    exact lv_ifnonnull C.1 C.2.1 hd ht (k.1 hx p e s m args below meth c H locs cells slots ls R C hh hl hL)
/-- a switch over lo .. hi: by the place in the row of targets, or the default -/
theorem g_tswitch {x dflt lo hi : Int} {offs : Array Int} {len : Nat} (dt : Nat) (tgts : List Nat) (hd : decode Y.2.1 pc = .ok (.tableswitch dflt lo hi offs, len)) (hdt : (pc : Int) + dflt = (dt : Int)) (hts : offs.toList.map (fun o => (pc : Int) + o) = tgts.map (fun t : Nat => (t : Int))) (hlen : (tgts.length : Int) = hi - lo + 1)
    (k1 : ∀ j : Nat, (iv x).toInt = lo + j → ∀ t, tgts[j]? = some t → Go E d kc ks Y t L st G D Q) (k2 : ((iv x).toInt < lo ∨ hi < (iv x).toInt) → Go E d kc ks Y dt L st G D Q) : Go E d kc ks Y pc L (vI x :: st) G D Q := by
  intro p e s m args below meth c H locs cells slots ls R C hh hl hL
  by_cases h : (iv x).toInt < lo ∨ hi < (iv x).toInt
  · exact lv_tableOut C.1 C.2.1 hd h hdt (k2 h p e s m args below meth c H locs cells slots ls R C hh hl hL)
  · have h1 : ¬ (iv x).toInt < lo := fun q => h (Or.inl q)
    have h2 : ¬ hi < (iv x).toInt := fun q => h (Or.inr q)
    generalize hj : ((iv x).toInt - lo).toNat = j
    have hjl : j < tgts.length := by omega
    have e1 : (offs.toList.map (fun o => (pc : Int) + o))[j]? = some ((tgts[j] : Nat) : Int) := by rw [hts]; simp [hjl]
    rw [List.getElem?_map] at e1
    cases ho : offs.toList[j]? with
    | none => rw [ho] at e1; cases e1
    | some o =>
      rw [ho] at e1
      have e2 : (pc : Int) + o = ((tgts[j] : Nat) : Int) := by simpa using e1
      exact lv_tableIn C.1 C.2.1 hd h1 h2 (off := o) (tgt := tgts[j]) (by rw [hj, ← Array.getElem?_toList]; exact ho) e2 (k1 j (by omega) _ (by simp [hjl]) p e s m args below meth c H locs cells slots ls R C hh hl hL)
/-- a switch over two keys -/
theorem g_lswitch2 {x dflt k1 o1 k2 o2 : Int} {len : Nat} (dt t1 t2 : Nat) (hd : decode Y.2.1 pc = .ok (.lookupswitch dflt #[(k1, o1), (k2, o2)], len)) (hdt : (pc : Int) + dflt = (dt : Int)) (h1 : (pc : Int) + o1 = (t1 : Int)) (h2 : (pc : Int) + o2 = (t2 : Int)) (hlt : k1 < k2)
    (g1 : (iv x).toInt = k1 → Go E d kc ks Y t1 L st G D Q) (g2 : (iv x).toInt = k2 → Go E d kc ks Y t2 L st G D Q) (g3 : ¬ (iv x).toInt = k1 → ¬ (iv x).toInt = k2 → Go E d kc ks Y dt L st G D Q) : Go E d kc ks Y pc L (vI x :: st) G D Q := by
  intro p e s m args below meth c H locs cells slots ls R C hh hl hL
  have hp : (([(k1, o1), (k2, o2)] : List (Int × Int)).zip (([(k1, o1), (k2, o2)] : List (Int × Int)).drop 1)).all (fun (a, next) => a.1 < next.1) = true := by simp [hlt]
  by_cases c1 : (iv x).toInt = k1
  · exact lv_lookup (off := o1) (tgt := t1) C.1 C.2.1 hd hp (by rw [Op.lookupswitch.offset_cons, if_pos c1.symm]) h1 (g1 c1 p e s m args below meth c H locs cells slots ls R C hh hl hL)
  · by_cases c2 : (iv x).toInt = k2
    · exact lv_lookup (off := o2) (tgt := t2) C.1 C.2.1 hd hp (by rw [Op.lookupswitch.offset_cons, if_neg (Ne.symm c1), Op.lookupswitch.offset_cons, if_pos c2.symm]) h2 (g2 c2 p e s m args below meth c H locs cells slots ls R C hh hl hL)
    · exact lv_lookup (off := dflt) (tgt := dt) C.1 C.2.1 hd hp (by rw [Op.lookupswitch.offset_cons, if_neg (Ne.symm c1), Op.lookupswitch.offset_cons, if_neg (Ne.symm c2)]; rfl) hdt (g3 c1 c2 p e s m args below meth c H locs cells slots ls R C hh hl hL)
end Rules2
def up2 (D : mmD) (c k v : Int) : mmD := fun c' k' => if c' = c ∧ k' = k then v else D c' k'
theorem up2_same {D : mmD} {c k v : Int} : up2 D c k v c k = v := by simp [up2]
theorem up2_ne {D : mmD} {c k v c' k' : Int} (h : ¬ (c' = c ∧ k' = k)) : up2 D c k v c' k' = D c' k' := by simp [up2, h]
theorem mm_ad_2 {E : mmE} {k : Int} (h : 2 ≤ k) : mm_ad E k = E.2.2.1 + (k - 2).toNat := by
  unfold mm_ad
  rw [if_neg (by omega)]
theorem mm_sh_ref {E : mmE} {k : Int} (h : 2 ≤ k) : mm_sh E (vR k) = .ref (E.2.2.1 + (k - 2).toNat) := by
  simp only [mm_sh]
  rw [if_neg (by omega), mm_ad_2 h]
theorem mm_cell.kept {E : mmE} {G G' : mmG} {D D' : mmD} {H H' : Heap} {k : Int} (h : mm_cell E G D H k) (hk : G'.2.1 k = G.2.1 k) (hv : ∀ j : Nat, mm_val E G' D' k j = mm_val E G D k j) (ho : H'[mm_ad E k]? = H[mm_ad E k]?) : mm_cell E G' D' H' k := by
  unfold mm_cell at h ⊢
  rw [hk, show mm_val E G' D' k = mm_val E G D k from funext hv]
  split at h
  · rename_i hlt
    rw [if_pos hlt]
    obtain ⟨r, h1, h2⟩ := h
    exact ⟨r, h1, h2.kept ho⟩
  · rename_i hlt
    rw [if_neg hlt, ho]
    exact h
theorem mm_hold.set {E : mmE} {s : State} {G G' : mmG} {D D' : mmD} {H H' : Heap} {a : Int} (hh : mm_hold E s G D H) (ha : 2 ≤ a) (ha2 : a < G.1) (hn : G'.1 = G.1) (hkd : ∀ k, G'.2.1 k = G.2.1 k) (hv : ∀ k, k ≠ a → ∀ j : Nat, mm_val E G' D' k j = mm_val E G D k j) (z : H'.size = H.size)
    (o : ∀ q, q ≠ mm_ad E a → H'[q]? = H[q]?) (hc : mm_cell E G' D' H' a) : mm_hold E s G' D' H' := by
  obtain ⟨h1, h2, h3, h4, h5⟩ := hh
  refine ⟨h1.kept (o _ ?_), h2, by rw [hn]; exact h3, by rw [hn, z]; exact h4, fun k k2 kn => ?_⟩
  · rw [mm_ad_2 ha]; omega
  · by_cases hka : k = a
    · rw [hka]; exact hc
    · refine (h5 k k2 (by rw [hn] at kn; exact kn)).kept (hkd k) (hv k hka) (o _ ?_)
      rw [mm_ad_2 k2, mm_ad_2 ha]
      omega
theorem mm_val_k {E : mmE} {G G' : mmG} {D D' : mmD} {k : Int} (hk : (G'.2.1 k).1 = (G.2.1 k).1) (h1 : ∀ j : Int, G'.2.2 k j = G.2.2 k j) (h2 : ∀ j : Int, D' k j = D k j) (j : Nat) : mm_val E G' D' k j = mm_val E G D k j := by
  unfold mm_val
  rw [hk, h1, h2]
theorem mm_arr {E : mmE} {s : State} {G : mmG} {D : mmD} {H : Heap} {a n : Int} {kd : Nat} (hh : mm_hold E s G D H) (ha : 2 ≤ a) (ha2 : a < G.1) (hk : G.2.1 a = (kd, n)) (hkd : 12 ≤ kd) : H[mm_ad E a]? = some (arrV (E.2.2.2.2.2.2 kd) n.toNat (mm_val E G D a)) := by
  have h := hh.2.2.2.2 a ha ha2
  unfold mm_cell at h
  rw [hk] at h
  rw [if_neg (by simp; omega)] at h
  exact h
theorem mm_in {i n : Int} (hi : 0 ≤ i) (hin : i < n) (hn : n < 2147483648) : (iv i).toNatClampNeg = i.toNat ∧ ¬ (iv i < 0 ∨ n.toNat ≤ (iv i).toNatClampNeg) := by
  have e : (iv i).toInt = i := iv_toInt (by omega) (by omega)
  have hc : (iv i).toNatClampNeg = i.toNat := by
    show (iv i).toInt.toNat = i.toNat
    rw [e]
  refine ⟨hc, fun h => ?_⟩
  rcases h with h | h
  · rw [Int32.lt_iff_toInt_lt, e] at h
    have h0 : (0 : Int32).toInt = 0 := by decide
    omega
  · rw [hc] at h; omega
section Rules3
variable {E : mmE} {d kc ks : Nat} {Y : mmM} {pc : Nat} {L : List (Option mmV)} {st : List mmV} {G : mmG} {D : mmD} {Q : mmQ}
theorem g_iald {a i n : Int} (hd : decode Y.2.1 pc = .ok (.iaload, 1)) (hk : G.2.1 a = (12, n)) (ha : 2 ≤ a) (ha2 : a < G.1) (hn : n < 2147483648) (k : (0 ≤ i ∧ i < n) ∧ Go E d kc ks Y (pc + 1) L (vI (D a i) :: st) G D Q) : Go E d kc ks Y pc L (vI i :: vR a :: st) G D Q := by
  intro p e s m args below meth c H locs cells slots ls R C hh hl hL
  obtain ⟨⟨hi, hin⟩, k⟩ := k
  have hcell := mm_arr hh ha ha2 hk (by omega)
  obtain ⟨e1, e2⟩ := mm_in hi hin hn
  rw [List.map_cons, List.map_cons, mm_sh_ref ha, ← mm_ad_2 ha]
  refine W.iald (v := .int (iv (D a i))) C.1 C.2.1 hcell ((C.2.2.2.2.2.2.2.2.1.2.1 12 (by omega) (by omega)).1 _ _) (fun q => by cases q) (by rw [arrV_size]; exact e2) ?_ rfl rfl hd (k p e s m args below meth c H locs cells slots ls R C hh hl hL)
  rw [e1, arrV_read _ _ (by omega)]
  have e3 : ((i.toNat : Nat) : Int) = i := Int.toNat_of_nonneg hi
  simp only [mm_val, hk, mm_isR, e3]
  rfl
theorem g_bald {a i n : Int} (hd : decode Y.2.1 pc = .ok (.baload, 1)) (hk : G.2.1 a = (13, n)) (ha : 2 ≤ a) (ha2 : a < G.1) (hn : n < 2147483648) (k : (0 ≤ i ∧ i < n) ∧ Go E d kc ks Y (pc + 1) L (vI (D a i) :: st) G D Q) : Go E d kc ks Y pc L (vI i :: vR a :: st) G D Q := by
  intro p e s m args below meth c H locs cells slots ls R C hh hl hL
  obtain ⟨⟨hi, hin⟩, k⟩ := k
  have hcell := mm_arr hh ha ha2 hk (by omega)
  obtain ⟨e1, e2⟩ := mm_in hi hin hn
  rw [List.map_cons, List.map_cons, mm_sh_ref ha, ← mm_ad_2 ha]
  refine W.zald (v := .int (iv (D a i))) C.1 C.2.1 hcell ((C.2.2.2.2.2.2.2.2.1.2.1 13 (by omega) (by omega)).1 _ _) (fun q => by cases q) (by rw [arrV_size]; exact e2) ?_ rfl rfl hd (k p e s m args below meth c H locs cells slots ls R C hh hl hL)
  rw [e1, arrV_read _ _ (by omega)]
  have e3 : ((i.toNat : Nat) : Int) = i := Int.toNat_of_nonneg hi
  simp only [mm_val, hk, mm_isR, e3]
  rfl
theorem g_aald {a i n : Int} {kd : Nat} (hd : decode Y.2.1 pc = .ok (.aaload, 1)) (hkd : 14 ≤ kd) (hkd2 : kd ≤ 16) (hk : G.2.1 a = (kd, n)) (ha : 2 ≤ a) (ha2 : a < G.1) (hn : n < 2147483648) (k : (0 ≤ i ∧ i < n) ∧ Go E d kc ks Y (pc + 1) L (vR (G.2.2 a i) :: st) G D Q) : Go E d kc ks Y pc L (vI i :: vR a :: st) G D Q := by
  intro p e s m args below meth c H locs cells slots ls R C hh hl hL
  obtain ⟨⟨hi, hin⟩, k⟩ := k
  have hcell := mm_arr hh ha ha2 hk (by omega)
  obtain ⟨e1, e2⟩ := mm_in hi hin hn
  rw [List.map_cons, List.map_cons, mm_sh_ref ha, ← mm_ad_2 ha]
  refine W.aald (v := mm_sh E (vR (G.2.2 a i))) C.1 C.2.1 hcell ((C.2.2.2.2.2.2.2.2.1.2.1 kd (by omega) (by omega)).1 _ _) (by rcases (show kd = 14 ∨ kd = 15 ∨ kd = 16 by omega) with rfl | rfl | rfl <;> rfl) (fun q => by cases q) (by rw [arrV_size]; exact e2) ?_ rfl rfl hd (k p e s m args below meth c H locs cells slots ls R C hh hl hL)
  rw [e1, arrV_read _ _ (by omega)]
  have e3 : ((i.toNat : Nat) : Int) = i := Int.toNat_of_nonneg hi
  have e4 : mm_isR kd i.toNat = true := by rcases (show kd = 14 ∨ kd = 15 ∨ kd = 16 by omega) with rfl | rfl | rfl <;> rfl
  simp only [mm_val, hk, e3, e4, if_true]
theorem g_alen {a n : Int} {kd : Nat} (hd : decode Y.2.1 pc = .ok (.arraylength, 1)) (hkd : 12 ≤ kd) (hkd2 : kd ≤ 16) (hk : G.2.1 a = (kd, n)) (ha : 2 ≤ a) (ha2 : a < G.1) (hn : n < 2147483648) (hn0 : 0 ≤ n) (k : Go E d kc ks Y (pc + 1) L (vI n :: st) G D Q) : Go E d kc ks Y pc L (vR a :: st) G D Q := by
  intro p e s m args below meth c H locs cells slots ls R C hh hl hL
  have hcell := mm_arr hh ha ha2 hk (by omega)
  rw [List.map_cons, mm_sh_ref ha, ← mm_ad_2 ha]
  refine W.alen (n := iv n) C.1 C.2.1 hcell ((C.2.2.2.2.2.2.2.2.1.2.1 kd (by omega) (by omega)).1 _ _) ?_ rfl rfl hd (k p e s m args below meth c H locs cells slots ls R C hh hl hL)
  rw [arrV_size]
  show Int32.ofNat n.toNat = iv n
  rw [show iv n = iv ((n.toNat : Nat) : Int) by rw [Int.toNat_of_nonneg hn0]]
  exact (Int32.ofInt_eq_ofNat).symm
theorem g_slen (hd : decode Y.2.1 pc = .ok (.arraylength, 1)) (k : Go E d kc ks Y (pc + 1) L (vI E.2.2.2.1 :: st) G D Q) : Go E d kc ks Y pc L (vR 1 :: st) G D Q := by
  intro p e s m args below meth c H locs cells slots ls R C hh hl hL
  obtain ⟨scr, h1, h2, h3, h4, h5⟩ := hh.1
  refine W.alen (n := iv E.2.2.2.1) C.1 C.2.1 h1 h2 ?_ rfl rfl hd (k p e s m args below meth c H locs cells slots ls R C hh hl hL)
  rw [h4]
  exact (Int32.ofInt_eq_ofNat).symm
theorem g_sald {i : Int} (hd : decode Y.2.1 pc = .ok (.iaload, 1)) (hL2 : (E.2.2.2.1 : Int) < 2147483648) (k : (0 ≤ i ∧ i < (E.2.2.2.1 : Int)) ∧ Go E d kc ks Y (pc + 1) L (vI (E.2.2.2.2.1 i.toNat).toInt :: st) G D Q) : Go E d kc ks Y pc L (vI i :: vR 1 :: st) G D Q := by
  intro p e s m args below meth c H locs cells slots ls R C hh hl hL
  obtain ⟨⟨hi, hin⟩, k⟩ := k
  obtain ⟨scr, h1, h2, h3, h4, h5⟩ := hh.1
  obtain ⟨e1, e2⟩ := mm_in hi hin hL2
  refine W.iald (v := .int (E.2.2.2.2.1 i.toNat)) C.1 C.2.1 h1 h2 h3 (by rw [h4]; exact e2) (by rw [e1]; exact h5 _ (by omega)) rfl rfl hd ?_
  have := k p e s m args below meth c H locs cells slots ls R C hh hl hL
  rw [List.map_cons] at this
  simp only [mm_sh, Int32.ofInt_toInt] at this
  exact this
theorem g_iast {a i x n : Int} (hd : decode Y.2.1 pc = .ok (.iastore, 1)) (hk : G.2.1 a = (12, n)) (ha : 2 ≤ a) (ha2 : a < G.1) (hn : n < 2147483648) (k : (0 ≤ i ∧ i < n) ∧ Go E d kc ks Y (pc + 1) L st G (up2 D a i x) Q) : Go E d kc ks Y pc L (vI x :: vI i :: vR a :: st) G D Q := by
  intro p e s m args below meth c H locs cells slots ls R C hh hl hL
  obtain ⟨⟨hi, hin⟩, k⟩ := k
  have hcell := mm_arr hh ha ha2 hk (by omega)
  obtain ⟨e1, e2⟩ := mm_in hi hin hn
  rw [List.map_cons, List.map_cons, List.map_cons, mm_sh_ref ha, ← mm_ad_2 ha]
  refine W.iast (x := iv x) C.1 C.2.1 hcell ((C.2.2.2.2.2.2.2.2.1.2.1 12 (by omega) (by omega)).1 _ _) (fun q => by cases q) (by rw [arrV_size]; exact e2) rfl rfl hd (fun H1 f1 f2 f3 => ?_)
  refine k p e s m args below meth c H1 _ cells slots ls R C (hh.set ha ha2 rfl (fun _ => rfl) (fun k hka => mm_val_k rfl (fun _ => rfl) (fun j => up2_ne (fun h => hka h.1))) f2 f3 ?_) ?_ hL
  · unfold mm_cell
    rw [hk, if_neg (by simp), f1, e1, arrV_store]
    congr 2
    funext j
    unfold updV
    by_cases hj : j = i.toNat
    · rw [if_pos hj]
      have e3 : ((j : Nat) : Int) = i := by omega
      simp only [mm_val, hk, mm_isR, e3]
      simp [up2, mm_sh]
    · rw [if_neg hj]
      exact (mm_val_k (G' := G) rfl (fun _ => rfl) (fun _ => rfl) j).trans (by unfold mm_val; rw [up2_ne (fun h => hj (by omega))])
  · intro q hq
    rcases List.mem_append.mp hq with h | h
    · exact hl q h
    · rw [List.mem_singleton.mp h]
      show E.2.2.1 ≤ mm_ad E a
      rw [mm_ad_2 ha]; omega
theorem g_bast {a i x n : Int} (hd : decode Y.2.1 pc = .ok (.bastore, 1)) (hk : G.2.1 a = (13, n)) (ha : 2 ≤ a) (ha2 : a < G.1) (hn : n < 2147483648) (k : (0 ≤ i ∧ i < n) ∧ (x = 0 ∨ x = 1) ∧ Go E d kc ks Y (pc + 1) L st G (up2 D a i x) Q) : Go E d kc ks Y pc L (vI x :: vI i :: vR a :: st) G D Q := by
  intro p e s m args below meth c H locs cells slots ls R C hh hl hL
  obtain ⟨⟨hi, hin⟩, hx, k⟩ := k
  have hcell := mm_arr hh ha ha2 hk (by omega)
  obtain ⟨e1, e2⟩ := mm_in hi hin hn
  rw [List.map_cons, List.map_cons, List.map_cons, mm_sh_ref ha, ← mm_ad_2 ha]
  refine W.zast (x := iv x) C.1 C.2.1 hcell ((C.2.2.2.2.2.2.2.2.1.2.1 13 (by omega) (by omega)).1 _ _) (fun q => by cases q) (by rw [arrV_size]; exact e2) rfl rfl hd (fun H1 f1 f2 f3 => ?_)
  have hnx : narrow .boolean (.int (iv x)) = .int (iv x) := by rcases hx with rfl | rfl <;> decide +kernel
  rw [hnx] at f1
  refine k p e s m args below meth c H1 _ cells slots ls R C (hh.set ha ha2 rfl (fun _ => rfl) (fun k hka => mm_val_k rfl (fun _ => rfl) (fun j => up2_ne (fun h => hka h.1))) f2 f3 ?_) ?_ hL
  · unfold mm_cell
    rw [hk, if_neg (by simp), f1, e1, arrV_store]
    congr 2
    funext j
    unfold updV
    by_cases hj : j = i.toNat
    · rw [if_pos hj]
      have e3 : ((j : Nat) : Int) = i := by omega
      simp only [mm_val, hk, mm_isR, e3]
      simp [up2, mm_sh]
    · rw [if_neg hj]
      exact (mm_val_k (G' := G) rfl (fun _ => rfl) (fun _ => rfl) j).trans (by unfold mm_val; rw [up2_ne (fun h => hj (by omega))])
  · intro q hq
    rcases List.mem_append.mp hq with h | h
    · exact hl q h
    · rw [List.mem_singleton.mp h]
      show E.2.2.1 ≤ mm_ad E a
      rw [mm_ad_2 ha]; omega
end Rules3
