set_option maxRecDepth 20000 in
theorem v_X11_firstOrder_8 {E : mmE} {d kc ks : Nat} {G : mmG} {D : mmD} {Q : mmQ} {x0 r1 x2 x3 : Int} (hG : Sh G) (ha1 : isA4 G r1) (h : ((iv 12 ≤ iv x3 → Q (some (vR r1)) G D) ∧ (¬ iv 12 ≤ iv x3 → ((iv 4 ≤ iv x2 → Q (some (vR r1)) G D) ∧ (¬ iv 4 ≤ iv x2 → ((iv (iand (ishr x0 x3) 1) = iv 0 → Go E d kc ks mX11_firstOrder 8 [some (vI x0), some (vR r1), some (vI x2), some (vI (x3 + 1))] [] G D Q) ∧ (¬ iv (iand (ishr x0 x3) 1) = iv 0 → ((0 ≤ x2 ∧ x2 < 4) ∧ (∀ D1 : mmD, D1 = up2 D r1 x2 x3 → Go E d kc ks mX11_firstOrder 8 [some (vI x0), some (vR r1), some (vI (x2 + 1)), some (vI (x3 + 1))] [] G D1 Q))))))))) : Go E d kc ks mX11_firstOrder 8 [some (vI x0), some (vR r1), some (vI x2), some (vI x3)] [] G D Q := by
  refine g_iload_n dX11_firstOrder_8 rfl rfl ?_
  refine g_bipush dX11_firstOrder_9 bp_12 ?_
  refine g_icmp_ge 40 dX11_firstOrder_11 (by decide) ⟨fun hc => ?_, fun hc => ?_⟩
  · replace h := h.1 hc
    refine g_aload_n dX11_firstOrder_40 rfl rfl ?_
    exact g_aret dX11_firstOrder_41 rfl (Or.inr ⟨_, rfl⟩) h
  · replace h := h.2 hc
    refine g_iload_n dX11_firstOrder_14 rfl rfl ?_
    refine g_iconst dX11_firstOrder_15 ?_
    refine g_icmp_ge 40 dX11_firstOrder_16 (by decide) ⟨fun hc => ?_, fun hc => ?_⟩
    · replace h := h.1 hc
      refine g_aload_n dX11_firstOrder_40 rfl rfl ?_
      exact g_aret dX11_firstOrder_41 rfl (Or.inr ⟨_, rfl⟩) h
    · replace h := h.2 hc
      refine g_iload_n dX11_firstOrder_19 rfl rfl ?_
      refine g_iload_n dX11_firstOrder_20 rfl rfl ?_
      refine g_ishr dX11_firstOrder_21 ?_
      refine g_iconst dX11_firstOrder_22 ?_
      refine g_iand dX11_firstOrder_23 ?_
      refine g_if_eq 34 dX11_firstOrder_24 (by decide) ⟨fun hc => ?_, fun hc => ?_⟩
      · replace h := h.1 hc
        refine h_iinc (L' := [some (vI x0), some (vR r1), some (vI x2), some (vI (x3 + 1))]) dX11_firstOrder_34 (Nat.le_of_ble_eq_true rfl) rfl rfl rfl ?_
        refine g_goto 8 dX11_firstOrder_37 (by decide) ?_
        exact Go.drop (by simp only [mm_sub, and_self]) h
      · replace h := h.2 hc
        refine g_aload_n dX11_firstOrder_27 rfl rfl ?_
        refine g_iload_n dX11_firstOrder_28 rfl rfl ?_
        refine g_iload_n dX11_firstOrder_29 rfl rfl ?_
        refine g_iast dX11_firstOrder_30 ha1.2.2 ha1.ge ha1.2.1 (by decide) ⟨h.1, ?_⟩
        generalize hD_D1 : up2 D r1 x2 x3 = D1
        replace h := h.2 _ hD_D1.symm
        refine h_iinc (L' := [some (vI x0), some (vR r1), some (vI (x2 + 1)), some (vI x3)]) dX11_firstOrder_31 (Nat.le_of_ble_eq_true rfl) rfl rfl rfl ?_
        refine h_iinc (L' := [some (vI x0), some (vR r1), some (vI (x2 + 1)), some (vI (x3 + 1))]) dX11_firstOrder_34 (Nat.le_of_ble_eq_true rfl) rfl rfl rfl ?_
        refine g_goto 8 dX11_firstOrder_37 (by decide) ?_
        exact Go.drop (by simp only [mm_sub, and_self]) h

set_option maxRecDepth 20000 in
theorem v_X11_best_92 {E : mmE} {d kc ks : Nat} {G : mmG} {D : mmD} {Q : mmQ} {x1 x2 x4 x5 r6 r7 x8 x9 x10 x11 : Int} (hG : Sh G) (ha6 : isA4 G r6) (ha7 : isA4 G r7) (h : ((iv 24 ≤ iv x11 → ((¬ iv x4 = iv (-2) → ((¬ iv x4 = iv (-1) → ((0 ≤ x4 ∧ x4 < 4) ∧ Q (some (vI (D r7 x4))) G D)) ∧ (iv x4 = iv (-1) → Q (some (vI x9)) G D))) ∧ (iv x4 = iv (-2) → Call E d 0 0 mX11_meaningsOfBoth [vR 2, vI x1, vI x2] G D (retI G (fun z2 D1 => Q (some (vI (iand z2 (ixor x8 (-1))))) G D1))))) ∧ (¬ iv 24 ≤ iv x11 → ((iv x10 = iv 0 → ((¬ iv x4 = iv (-2) → ((¬ iv x4 = iv (-1) → ((0 ≤ x4 ∧ x4 < 4) ∧ Q (some (vI (D r7 x4))) G D)) ∧ (iv x4 = iv (-1) → Q (some (vI x9)) G D))) ∧ (iv x4 = iv (-2) → Call E d 0 0 mX11_meaningsOfBoth [vR 2, vI x1, vI x2] G D (retI G (fun z4 D3 => Q (some (vI (iand z4 (ixor x8 (-1))))) G D3))))) ∧ (¬ iv x10 = iv 0 → Call E d 0 0 mX11_comeOut [vR 2, vI x1, vI x2, vR r6, vI x5] G D (retI G (fun z6 D5 => Call E d 0 0 mJ6_bitCount_0f7a4 [vI z6] G D5 (retI G (fun z8 D7 => ((iv z8 ≤ iv x9 → Call E d 0 0 mX11_toNextOrder [vR r6, vI x5] G D7 (retI G (fun z10 D9 => Go E (d + 1) kc ks mX11_best 92 [some (vR 2), some (vI x1), some (vI x2), none, some (vI x4), some (vI x5), some (vR r6), some (vR r7), some (vI x8), some (vI x9), some (vI z10), some (vI (x11 + 1)), none] [] G D9 Q))) ∧ (¬ iv z8 ≤ iv x9 → Call E d 0 0 mJ6_bitCount_0f7a4 [vI z6] G D7 (retI G (fun z12 D11 => ((0 ≤ x5 ∧ x5 ≤ 4 ∧ x5 ≤ 4) ∧ (∀ D13 : mmD, D13 = cp0 D11 r6 r7 x5 → Call E d 0 0 mX11_toNextOrder [vR r6, vI x5] G D13 (retI G (fun z15 D14 => Go E (d + 1) kc ks mX11_best 92 [some (vR 2), some (vI x1), some (vI x2), none, some (vI x4), some (vI x5), some (vR r6), some (vR r7), some (vI z6), some (vI z12), some (vI z15), some (vI (x11 + 1)), none] [] G D14 Q))))))))))))))))) : Go E (d + 1) kc ks mX11_best 92 [some (vR 2), some (vI x1), some (vI x2), none, some (vI x4), some (vI x5), some (vR r6), some (vR r7), some (vI x8), some (vI x9), some (vI x10), some (vI x11), none] [] G D Q := by
  refine g_iload dX11_best_92 rfl ?_
  refine g_bipush dX11_best_94 bp_24 ?_
  refine g_icmp_ge 163 dX11_best_96 (by decide) ⟨fun hc => ?_, fun hc => ?_⟩
  · replace h := h.1 hc
    refine g_iload dX11_best_163 rfl ?_
    refine g_bipush dX11_best_165 bp_m2 ?_
    refine g_icmp_ne 182 dX11_best_167 (by decide) ⟨fun hc => ?_, fun hc => ?_⟩
    · replace h := h.1 hc
      refine g_iload dX11_best_182 rfl ?_
      refine g_iconst dX11_best_184 ?_
      refine g_icmp_ne 193 dX11_best_185 (by decide) ⟨fun hc => ?_, fun hc => ?_⟩
      · replace h := h.1 hc
        refine g_aload dX11_best_193 rfl ?_
        refine g_iload dX11_best_195 rfl ?_
        refine g_iald dX11_best_197 ha7.2.2 ha7.ge ha7.2.1 (by decide) ⟨h.1, ?_⟩
        replace h := h.2
        exact g_iret dX11_best_198 rfl h
      · replace h := h.2 hc
        refine g_iload dX11_best_188 rfl ?_
        refine g_goto 198 dX11_best_190 (by decide) ?_
        exact g_iret dX11_best_198 rfl h
    · replace h := h.2 hc
      refine g_aload_n dX11_best_170 rfl rfl ?_
      refine g_iload_n dX11_best_171 rfl rfl ?_
      refine g_iload_n dX11_best_172 rfl rfl ?_
      refine g_callV (kc := kc) (kc' := 0) (ks := ks) (ks' := 0) (as := [vI x1, vI x2]) (st := []) (ci := 10) dX11_best_173 cB_X11_meaningsOfBoth lk_X11_220 in_X11_meaningsOfBoth se_X11_meaningsOfBoth (by decide) rfl rfl (Nat.le_of_ble_eq_true rfl) (Nat.le_of_ble_eq_true rfl) (by decide) (hG.lt (by decide)) (congrArg Prod.fst hG.k2) ?_
      refine Go.to (fun r G' D1 hr => ?_) h
      obtain ⟨rfl, z2, rfl, h⟩ := hr
      show Go E (d + 1) kc ks mX11_best 176 [some (vR 2), some (vI x1), some (vI x2), none, some (vI x4), some (vI x5), some (vR r6), some (vR r7), some (vI x8), some (vI x9), some (vI x10), some (vI x11), none] [vI z2] G D1 Q
      refine g_iload dX11_best_176 rfl ?_
      refine g_iconst dX11_best_178 ?_
      refine g_ixor dX11_best_179 ?_
      refine g_iand dX11_best_180 ?_
      exact g_iret dX11_best_181 rfl h
  · replace h := h.2 hc
    refine g_iload dX11_best_99 rfl ?_
    refine g_if_eq 163 dX11_best_101 (by decide) ⟨fun hc => ?_, fun hc => ?_⟩
    · replace h := h.1 hc
      refine g_iload dX11_best_163 rfl ?_
      refine g_bipush dX11_best_165 bp_m2 ?_
      refine g_icmp_ne 182 dX11_best_167 (by decide) ⟨fun hc => ?_, fun hc => ?_⟩
      · replace h := h.1 hc
        refine g_iload dX11_best_182 rfl ?_
        refine g_iconst dX11_best_184 ?_
        refine g_icmp_ne 193 dX11_best_185 (by decide) ⟨fun hc => ?_, fun hc => ?_⟩
        · replace h := h.1 hc
          refine g_aload dX11_best_193 rfl ?_
          refine g_iload dX11_best_195 rfl ?_
          refine g_iald dX11_best_197 ha7.2.2 ha7.ge ha7.2.1 (by decide) ⟨h.1, ?_⟩
          replace h := h.2
          exact g_iret dX11_best_198 rfl h
        · replace h := h.2 hc
          refine g_iload dX11_best_188 rfl ?_
          refine g_goto 198 dX11_best_190 (by decide) ?_
          exact g_iret dX11_best_198 rfl h
      · replace h := h.2 hc
        refine g_aload_n dX11_best_170 rfl rfl ?_
        refine g_iload_n dX11_best_171 rfl rfl ?_
        refine g_iload_n dX11_best_172 rfl rfl ?_
        refine g_callV (kc := kc) (kc' := 0) (ks := ks) (ks' := 0) (as := [vI x1, vI x2]) (st := []) (ci := 10) dX11_best_173 cB_X11_meaningsOfBoth lk_X11_220 in_X11_meaningsOfBoth se_X11_meaningsOfBoth (by decide) rfl rfl (Nat.le_of_ble_eq_true rfl) (Nat.le_of_ble_eq_true rfl) (by decide) (hG.lt (by decide)) (congrArg Prod.fst hG.k2) ?_
        refine Go.to (fun r G' D3 hr => ?_) h
        obtain ⟨rfl, z4, rfl, h⟩ := hr
        show Go E (d + 1) kc ks mX11_best 176 [some (vR 2), some (vI x1), some (vI x2), none, some (vI x4), some (vI x5), some (vR r6), some (vR r7), some (vI x8), some (vI x9), some (vI x10), some (vI x11), none] [vI z4] G D3 Q
        refine g_iload dX11_best_176 rfl ?_
        refine g_iconst dX11_best_178 ?_
        refine g_ixor dX11_best_179 ?_
        refine g_iand dX11_best_180 ?_
        exact g_iret dX11_best_181 rfl h
    · replace h := h.2 hc
      refine g_aload_n dX11_best_104 rfl rfl ?_
      refine g_iload_n dX11_best_105 rfl rfl ?_
      refine g_iload_n dX11_best_106 rfl rfl ?_
      refine g_aload dX11_best_107 rfl ?_
      refine g_iload dX11_best_109 rfl ?_
      refine g_callV (kc := kc) (kc' := 0) (ks := ks) (ks' := 0) (as := [vI x1, vI x2, vR r6, vI x5]) (st := []) (ci := 10) dX11_best_111 cB_X11_comeOut lk_X11_239 in_X11_comeOut se_X11_comeOut (by decide) rfl rfl (Nat.le_of_ble_eq_true rfl) (Nat.le_of_ble_eq_true rfl) (by decide) (hG.lt (by decide)) (congrArg Prod.fst hG.k2) ?_
      refine Go.to (fun r G' D5 hr => ?_) h
      obtain ⟨rfl, z6, rfl, h⟩ := hr
      show Go E (d + 1) kc ks mX11_best 114 [some (vR 2), some (vI x1), some (vI x2), none, some (vI x4), some (vI x5), some (vR r6), some (vR r7), some (vI x8), some (vI x9), some (vI x10), some (vI x11), none] [vI z6] G D5 Q
      refine h_istore (L' := [some (vR 2), some (vI x1), some (vI x2), none, some (vI x4), some (vI x5), some (vR r6), some (vR r7), some (vI x8), some (vI x9), some (vI x10), some (vI x11), some (vI z6)]) dX11_best_114 (Nat.le_of_ble_eq_true rfl) rfl rfl ?_
      refine g_iload dX11_best_116 rfl ?_
      refine g_callS (kc := kc) (kc' := 0) (ks := ks) (ks' := 0) (as := [vI z6]) (st := []) dX11_best_118 cB_J6_bitCount_0f7a4 lk_X11_227 st_J6_bitCount_0f7a4 rfl (Nat.le_of_ble_eq_true rfl) (Nat.le_of_ble_eq_true rfl) ?_
      refine Go.to (fun r G' D7 hr => ?_) h
      obtain ⟨rfl, z8, rfl, h⟩ := hr
      show Go E (d + 1) kc ks mX11_best 121 [some (vR 2), some (vI x1), some (vI x2), none, some (vI x4), some (vI x5), some (vR r6), some (vR r7), some (vI x8), some (vI x9), some (vI x10), some (vI x11), some (vI z6)] [vI z8] G D7 Q
      refine g_iload dX11_best_121 rfl ?_
      refine g_icmp_le 148 dX11_best_123 (by decide) ⟨fun hc => ?_, fun hc => ?_⟩
      · replace h := h.1 hc
        refine g_aload dX11_best_148 rfl ?_
        refine g_iload dX11_best_150 rfl ?_
        refine g_callS (kc := kc) (kc' := 0) (ks := ks) (ks' := 0) (as := [vR r6, vI x5]) (st := []) dX11_best_152 cB_X11_toNextOrder lk_X11_249 st_X11_toNextOrder rfl (Nat.le_of_ble_eq_true rfl) (Nat.le_of_ble_eq_true rfl) ?_
        refine Go.to (fun r G' D9 hr => ?_) h
        obtain ⟨rfl, z10, rfl, h⟩ := hr
        show Go E (d + 1) kc ks mX11_best 155 [some (vR 2), some (vI x1), some (vI x2), none, some (vI x4), some (vI x5), some (vR r6), some (vR r7), some (vI x8), some (vI x9), some (vI x10), some (vI x11), some (vI z6)] [vI z10] G D9 Q
        refine h_istore (L' := [some (vR 2), some (vI x1), some (vI x2), none, some (vI x4), some (vI x5), some (vR r6), some (vR r7), some (vI x8), some (vI x9), some (vI z10), some (vI x11), some (vI z6)]) dX11_best_155 (Nat.le_of_ble_eq_true rfl) rfl rfl ?_
        refine h_iinc (L' := [some (vR 2), some (vI x1), some (vI x2), none, some (vI x4), some (vI x5), some (vR r6), some (vR r7), some (vI x8), some (vI x9), some (vI z10), some (vI (x11 + 1)), some (vI z6)]) dX11_best_157 (Nat.le_of_ble_eq_true rfl) rfl rfl rfl ?_
        refine g_goto 92 dX11_best_160 (by decide) ?_
        exact Go.drop (by simp only [mm_sub, and_self]) h
      · replace h := h.2 hc
        refine g_iload dX11_best_126 rfl ?_
        refine g_callS (kc := kc) (kc' := 0) (ks := ks) (ks' := 0) (as := [vI z6]) (st := []) dX11_best_128 cB_J6_bitCount_0f7a4 lk_X11_227 st_J6_bitCount_0f7a4 rfl (Nat.le_of_ble_eq_true rfl) (Nat.le_of_ble_eq_true rfl) ?_
        refine Go.to (fun r G' D11 hr => ?_) h
        obtain ⟨rfl, z12, rfl, h⟩ := hr
        show Go E (d + 1) kc ks mX11_best 131 [some (vR 2), some (vI x1), some (vI x2), none, some (vI x4), some (vI x5), some (vR r6), some (vR r7), some (vI x8), some (vI x9), some (vI x10), some (vI x11), some (vI z6)] [vI z12] G D11 Q
        refine h_istore (L' := [some (vR 2), some (vI x1), some (vI x2), none, some (vI x4), some (vI x5), some (vR r6), some (vR r7), some (vI x8), some (vI z12), some (vI x10), some (vI x11), some (vI z6)]) dX11_best_131 (Nat.le_of_ble_eq_true rfl) rfl rfl ?_
        refine g_iload dX11_best_133 rfl ?_
        refine h_istore (L' := [some (vR 2), some (vI x1), some (vI x2), none, some (vI x4), some (vI x5), some (vR r6), some (vR r7), some (vI z6), some (vI z12), some (vI x10), some (vI x11), some (vI z6)]) dX11_best_135 (Nat.le_of_ble_eq_true rfl) rfl rfl ?_
        refine g_aload dX11_best_137 rfl ?_
        refine g_iconst dX11_best_139 ?_
        refine g_aload dX11_best_140 rfl ?_
        refine g_iconst dX11_best_142 ?_
        refine g_iload dX11_best_143 rfl ?_
        refine g_acopy dX11_best_145 ac_X11_243 (Nat.le_of_ble_eq_true rfl) ha6.2.2 ha7.2.2 ha6.ge ha6.2.1 ha7.ge ha7.2.1 (by decide) (by decide) ⟨h.1, ?_⟩
        generalize hD_D13 : cp0 D11 r6 r7 x5 = D13
        replace h := h.2 _ hD_D13.symm
        refine g_aload dX11_best_148 rfl ?_
        refine g_iload dX11_best_150 rfl ?_
        refine g_callS (kc := kc) (kc' := 0) (ks := ks) (ks' := 0) (as := [vR r6, vI x5]) (st := []) dX11_best_152 cB_X11_toNextOrder lk_X11_249 st_X11_toNextOrder rfl (Nat.le_of_ble_eq_true rfl) (Nat.le_of_ble_eq_true rfl) ?_
        refine Go.to (fun r G' D14 hr => ?_) h
        obtain ⟨rfl, z15, rfl, h⟩ := hr
        show Go E (d + 1) kc ks mX11_best 155 [some (vR 2), some (vI x1), some (vI x2), none, some (vI x4), some (vI x5), some (vR r6), some (vR r7), some (vI z6), some (vI z12), some (vI x10), some (vI x11), some (vI z6)] [vI z15] G D14 Q
        refine h_istore (L' := [some (vR 2), some (vI x1), some (vI x2), none, some (vI x4), some (vI x5), some (vR r6), some (vR r7), some (vI z6), some (vI z12), some (vI z15), some (vI x11), some (vI z6)]) dX11_best_155 (Nat.le_of_ble_eq_true rfl) rfl rfl ?_
        refine h_iinc (L' := [some (vR 2), some (vI x1), some (vI x2), none, some (vI x4), some (vI x5), some (vR r6), some (vR r7), some (vI z6), some (vI z12), some (vI z15), some (vI (x11 + 1)), some (vI z6)]) dX11_best_157 (Nat.le_of_ble_eq_true rfl) rfl rfl rfl ?_
        refine g_goto 92 dX11_best_160 (by decide) ?_
        exact Go.drop (by simp only [mm_sub, and_self]) h
