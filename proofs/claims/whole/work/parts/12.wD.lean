set_option maxRecDepth 20000 in
theorem w_X11_coin {E : mmE} {d kc ks : Nat} {G : mmG} {D : mmD} {Q : mmQ} {x1 x2 : Int} (hG : Sh G)  (h : Call E d 0 0 mX11_isTongue [vR 2, vI x1] G D (retI G (fun z2 D1 => ((iv z2 = iv 0 → Q (some (vI (-1))) G D1) ∧ (¬ iv z2 = iv 0 → Call E d 0 0 mX11_isMeaning [vI x2] G D1 (retI G (fun z4 D3 => ((¬ iv z4 = iv 0 → ((iv (D3 2 8) < iv 80 → (∀ D5 : mmD, D5 = up2 D3 2 1 0 → Call E d 0 0 mX11_faultOfWord [vR 2, vI (D3 2 1)] G D5 (retI G (fun z7 D6 => ((iv z7 < iv 0 → ((0 ≤ ((x1 * 10) + x2) ∧ ((x1 * 10) + x2) < 60) ∧ Call E d 0 0 mX10_readSounds [vR (22 + 2 * ((x1 * 10) + x2)), vR 3, vI (D3 2 1)] G D6 (retV G (fun D10 => (∀ D12 : mmD, D12 = up2 D10 (22 + 2 * ((x1 * 10) + x2)) 2 (D10 2 10) → (∀ D13 : mmD, D13 = up2 D12 (22 + 2 * ((x1 * 10) + x2)) 3 0 → (∀ D14 : mmD, D14 = up2 D13 2 10 ((D13 2 10) + 1) → (∀ G15 : mmG, G15 = mm_push G 1 0 → ∀ D17 : mmD, D17 = mm_zero D14 G.1 → Call E d 1 20 mX1_init [vR (G.1), vI (D17 2 8), vI (D17 2 11), vI x1, vI (-5), vI x2] G15 D17 (retVG (fun G20 D18 => (Sh G20 ∧ Call E d 0 0 mX11_happen [vR 2, vR (G.1)] G20 D18 (retVG (fun G24 D22 => (Sh G24 ∧ Q (some (vI (D22 (22 + 2 * ((x1 * 10) + x2)) 2))) G24 D22)))))))))))))) ∧ (¬ iv z7 < iv 0 → Q (some (vI ((-10) - z7))) G D6)))))) ∧ (¬ iv (D3 2 8) < iv 80 → Q (some (vI (-4))) G D3))) ∧ (iv z4 = iv 0 → Q (some (vI (-1))) G D3))))))))) : Call E (d + 1) (kc + 2) (ks + 27) mX11_coin [vR 2, vI x1, vI x2] G D Q := by
  show Go E (d + 1) (kc + 2) (ks + 27) mX11_coin 0 [some (vR 2), some (vI x1), some (vI x2), none, none, none] [] G D Q
  refine g_aload_n dX11_coin_0 rfl rfl ?_
  refine g_iload_n dX11_coin_1 rfl rfl ?_
  refine g_callV (kc := (kc + 2)) (kc' := 0) (ks := (ks + 27)) (ks' := 0) (as := [vI x1]) (st := []) (ci := 10) dX11_coin_2 cB_X11_isTongue lk_X11_84 in_X11_isTongue se_X11_isTongue (by decide) rfl rfl (Nat.le_of_ble_eq_true rfl) (Nat.le_of_ble_eq_true rfl) (by decide) (hG.lt (by decide)) (congrArg Prod.fst hG.k2) ?_
  refine Go.to (fun r G' D1 hr => ?_) h
  obtain ⟨rfl, z2, rfl, h⟩ := hr
  show Go E (d + 1) (kc + 2) (ks + 27) mX11_coin 5 [some (vR 2), some (vI x1), some (vI x2), none, none, none] [vI z2] G D1 Q
  refine g_if_eq 15 dX11_coin_5 (by decide) ⟨fun hc => ?_, fun hc => ?_⟩
  · replace h := h.1 hc
    refine g_iconst dX11_coin_15 ?_
    exact g_iret dX11_coin_16 rfl h
  · replace h := h.2 hc
    refine g_iload_n dX11_coin_8 rfl rfl ?_
    refine g_callS (kc := (kc + 2)) (kc' := 0) (ks := (ks + 27)) (ks' := 0) (as := [vI x2]) (st := []) dX11_coin_9 cB_X11_isMeaning lk_X11_88 st_X11_isMeaning rfl (Nat.le_of_ble_eq_true rfl) (Nat.le_of_ble_eq_true rfl) ?_
    refine Go.to (fun r G' D3 hr => ?_) h
    obtain ⟨rfl, z4, rfl, h⟩ := hr
    show Go E (d + 1) (kc + 2) (ks + 27) mX11_coin 12 [some (vR 2), some (vI x1), some (vI x2), none, none, none] [vI z4] G D3 Q
    refine g_if_ne 17 dX11_coin_12 (by decide) ⟨fun hc => ?_, fun hc => ?_⟩
    · replace h := h.1 hc
      refine g_aload_n dX11_coin_17 rfl rfl ?_
      refine h_getI (j := 8) dX11_coin_18 f_X11_91_10 rfl rfl (by decide) hG.k2 (by decide) (hG.lt (by decide)) ?_
      refine g_bipush dX11_coin_21 bp_80 ?_
      refine g_icmp_lt 29 dX11_coin_23 (by decide) ⟨fun hc => ?_, fun hc => ?_⟩
      · replace h := h.1 hc
        refine g_aload_n dX11_coin_29 rfl rfl ?_
        refine h_getI (j := 1) dX11_coin_30 f_X11_74_10 rfl rfl (by decide) hG.k2 (by decide) (hG.lt (by decide)) ?_
        refine h_istore_n (L' := [some (vR 2), some (vI x1), some (vI x2), some (vI (D3 2 1)), none, none]) dX11_coin_33 rfl (Nat.le_of_ble_eq_true rfl) rfl rfl ?_
        refine g_aload_n dX11_coin_34 rfl rfl ?_
        refine g_iconst dX11_coin_35 ?_
        refine h_putI (j := 1) dX11_coin_36 f_X11_74_10 (Or.inl (mm_finI (by decide +kernel))) rfl rfl (by decide) hG.k2 (by decide) (hG.lt (by decide)) ?_
        generalize hD_D5 : up2 D3 2 1 0 = D5
        replace h := h _ hD_D5.symm
        refine g_aload_n dX11_coin_39 rfl rfl ?_
        refine g_iload_n dX11_coin_40 rfl rfl ?_
        refine g_callV (kc := (kc + 2)) (kc' := 0) (ks := (ks + 27)) (ks' := 0) (as := [vI (D3 2 1)]) (st := []) (ci := 10) dX11_coin_41 cB_X11_faultOfWord lk_X11_94 in_X11_faultOfWord se_X11_faultOfWord (by decide) rfl rfl (Nat.le_of_ble_eq_true rfl) (Nat.le_of_ble_eq_true rfl) (by decide) (hG.lt (by decide)) (congrArg Prod.fst hG.k2) ?_
        refine Go.to (fun r G' D6 hr => ?_) h
        obtain ⟨rfl, z7, rfl, h⟩ := hr
        show Go E (d + 1) (kc + 2) (ks + 27) mX11_coin 44 [some (vR 2), some (vI x1), some (vI x2), some (vI (D3 2 1)), none, none] [vI z7] G D6 Q
        refine h_istore (L' := [some (vR 2), some (vI x1), some (vI x2), some (vI (D3 2 1)), some (vI z7), none]) dX11_coin_44 (Nat.le_of_ble_eq_true rfl) rfl rfl ?_
        refine g_iload dX11_coin_46 rfl ?_
        refine g_if_lt 57 dX11_coin_48 (by decide) ⟨fun hc => ?_, fun hc => ?_⟩
        · replace h := h.1 hc
          refine g_aload_n dX11_coin_57 rfl rfl ?_
          refine h_getR (j := 2) dX11_coin_58 f_X11_15_10 rfl rfl (by decide) hG.k2 (by decide) (hG.lt (by decide)) hG.r2_2 ?_
          refine g_iload_n dX11_coin_61 rfl rfl ?_
          refine g_bipush dX11_coin_62 bp_10 ?_
          refine g_imul dX11_coin_64 ?_
          refine g_iload_n dX11_coin_65 rfl rfl ?_
          refine g_iadd dX11_coin_66 ?_
          refine h_aaldw hG dX11_coin_67 ⟨h.1, ?_⟩
          have hw9 := isW.of h.1.1 h.1.2
          replace h := h.2
          refine h_astore (L' := [some (vR 2), some (vI x1), some (vI x2), some (vI (D3 2 1)), some (vI z7), some (vR (22 + 2 * ((x1 * 10) + x2)))]) dX11_coin_68 (Nat.le_of_ble_eq_true rfl) rfl rfl ?_
          refine g_aload dX11_coin_70 rfl ?_
          refine g_aload_n dX11_coin_72 rfl rfl ?_
          refine h_getR (j := 0) dX11_coin_73 f_X11_9_10 rfl rfl (by decide) hG.k2 (by decide) (hG.lt (by decide)) hG.r2_0 ?_
          refine g_iload_n dX11_coin_76 rfl rfl ?_
          refine g_callV (kc := (kc + 2)) (kc' := 0) (ks := (ks + 27)) (ks' := 0) (as := [vR 3, vI (D3 2 1)]) (st := []) (ci := 9) dX11_coin_77 cB_X10_readSounds lk_X11_98 in_X10_readSounds se_X10_readSounds (by decide) rfl rfl (Nat.le_of_ble_eq_true rfl) (Nat.le_of_ble_eq_true rfl) hw9.ge (hw9.lt hG) (congrArg Prod.fst (hw9.k hG)) ?_
          refine Go.to (fun r G' D10 hr => ?_) h
          obtain ⟨rfl, rfl, h⟩ := hr
          show Go E (d + 1) (kc + 2) (ks + 27) mX11_coin 80 [some (vR 2), some (vI x1), some (vI x2), some (vI (D3 2 1)), some (vI z7), some (vR (22 + 2 * ((x1 * 10) + x2)))] [] G D10 Q
          refine g_aload dX11_coin_80 rfl ?_
          refine g_aload_n dX11_coin_82 rfl rfl ?_
          refine h_getI (j := 10) dX11_coin_83 f_X11_102_10 rfl rfl (by decide) hG.k2 (by decide) (hG.lt (by decide)) ?_
          refine h_putI (j := 2) dX11_coin_86 f_X11_105_9 (Or.inl (mm_finI (by decide +kernel))) rfl rfl (by decide) (hw9.k hG) hw9.ge (hw9.lt hG) ?_
          generalize hD_D12 : up2 D10 (22 + 2 * ((x1 * 10) + x2)) 2 (D10 2 10) = D12
          replace h := h _ hD_D12.symm
          refine g_aload dX11_coin_89 rfl ?_
          refine g_iconst dX11_coin_91 ?_
          refine h_putZ (j := 3) dX11_coin_92 f_X11_108_9 (Or.inl (mm_finI (by decide +kernel))) rfl rfl (by decide) (hw9.k hG) hw9.ge (hw9.lt hG) ⟨Or.inl rfl, ?_⟩
          generalize hD_D13 : up2 D12 (22 + 2 * ((x1 * 10) + x2)) 3 0 = D13
          replace h := h _ hD_D13.symm
          refine g_aload_n dX11_coin_95 rfl rfl ?_
          refine g_dup dX11_coin_96 (fun _ h9 => by cases h9) ?_
          refine h_getI (j := 10) dX11_coin_97 f_X11_102_10 rfl rfl (by decide) hG.k2 (by decide) (hG.lt (by decide)) ?_
          refine g_iconst dX11_coin_100 ?_
          refine g_iadd dX11_coin_101 ?_
          refine h_putI (j := 10) dX11_coin_102 f_X11_102_10 (Or.inl (mm_finI (by decide +kernel))) rfl rfl (by decide) hG.k2 (by decide) (hG.lt (by decide)) ?_
          generalize hD_D14 : up2 D13 2 10 ((D13 2 10) + 1) = D14
          replace h := h _ hD_D14.symm
          refine g_aload_n dX11_coin_105 rfl rfl ?_
          refine g_new (Y := mX11_coin) (idx := 112) (ci := 1) (N := 7) (C := RX1) (kc := (kc + 1)) (ks := (ks + 20)) dX11_coin_106 (by decide) nk_X11_112 ?_
          have hG16 := hG.push (kd := 1) (n := 0)
          generalize hG_G15 : mm_push G 1 0 = G15 at hG16 ⊢
          generalize hD_D17 : mm_zero D14 G.1 = D17
          replace h := h _ hG_G15.symm _ hD_D17.symm
          refine g_dup dX11_coin_109 (fun _ h9 => by cases h9) ?_
          refine g_aload_n dX11_coin_110 rfl rfl ?_
          refine h_getI (j := 8) dX11_coin_111 f_X11_91_10 rfl rfl (by decide) hG16.k2 (by decide) (hG16.lt (by decide)) ?_
          refine g_aload_n dX11_coin_114 rfl rfl ?_
          refine h_getI (j := 11) dX11_coin_115 f_X11_71_10 rfl rfl (by decide) hG16.k2 (by decide) (hG16.lt (by decide)) ?_
          refine g_iload_n dX11_coin_118 rfl rfl ?_
          refine g_bipush dX11_coin_119 bp_m5 ?_
          refine g_iload_n dX11_coin_121 rfl rfl ?_
          refine g_callI (kc := kc) (kc' := 1) (ks := ks) (ks' := 20) (as := [vI (D17 2 8), vI (D17 2 11), vI x1, vI (-5), vI x2]) (st := [vR (G.1), vR 2]) dX11_coin_122 cB_X1_init rfl lk_X11_114 in_X1_init rfl rfl (Nat.le_of_ble_eq_true rfl) (Nat.le_of_ble_eq_true rfl) (by have := hG.1; omega) ?_
          refine Go.to (fun r G20 D18 hr => ?_) h
          obtain ⟨rfl, hG21, h⟩ := hr
          show Go E (d + 1) kc ks mX11_coin 125 [some (vR 2), some (vI x1), some (vI x2), some (vI (D3 2 1)), some (vI z7), some (vR (22 + 2 * ((x1 * 10) + x2)))] [vR (G.1), vR 2] G20 D18 Q
          refine g_callV (kc := kc) (kc' := 0) (ks := ks) (ks' := 0) (as := [vR (G.1)]) (st := []) (ci := 10) dX11_coin_125 cB_X11_happen lk_X11_117 in_X11_happen se_X11_happen (by decide) rfl rfl (Nat.le_of_ble_eq_true rfl) (Nat.le_of_ble_eq_true rfl) (by decide) (hG21.lt (by decide)) (congrArg Prod.fst hG21.k2) ?_
          refine Go.to (fun r G24 D22 hr => ?_) h
          obtain ⟨rfl, hG25, h⟩ := hr
          show Go E (d + 1) kc ks mX11_coin 128 [some (vR 2), some (vI x1), some (vI x2), some (vI (D3 2 1)), some (vI z7), some (vR (22 + 2 * ((x1 * 10) + x2)))] [] G24 D22 Q
          refine g_aload dX11_coin_128 rfl ?_
          refine h_getI (j := 2) dX11_coin_130 f_X11_105_9 rfl rfl (by decide) (hw9.k hG25) hw9.ge (hw9.lt hG25) ?_
          exact g_iret dX11_coin_133 rfl h
        · replace h := h.2 hc
          refine g_bipush dX11_coin_51 bp_m10 ?_
          refine g_iload dX11_coin_53 rfl ?_
          refine g_isub dX11_coin_55 ?_
          exact g_iret dX11_coin_56 rfl h
      · replace h := h.2 hc
        refine g_bipush dX11_coin_26 bp_m4 ?_
        exact g_iret dX11_coin_28 rfl h
    · replace h := h.2 hc
      refine g_iconst dX11_coin_15 ?_
      exact g_iret dX11_coin_16 rfl h
set_option maxRecDepth 20000 in
theorem w_X11_sound {E : mmE} {d kc ks : Nat} {G : mmG} {D : mmD} {Q : mmQ} {x1 x2 : Int} (hG : Sh G)  (h : Call E d 0 0 mX11_isTongue [vR 2, vI x1] G D (retI G (fun z2 D1 => ((iv z2 = iv 0 → Q (some (vI (-1))) G D1) ∧ (¬ iv z2 = iv 0 → Call E d 0 0 mX11_isLaw [vR 2, vI x2] G D1 (retI G (fun z4 D3 => ((¬ iv z4 = iv 0 → ((iv (D3 2 8) < iv 80 → Go E (d + 1) (kc + 2) (ks + 27) mX11_sound 35 [some (vR 2), some (vI x1), some (vI x2), some (vI 0), some (vI 0)] [] G D3 Q) ∧ (¬ iv (D3 2 8) < iv 80 → Q (some (vI (-4))) G D3))) ∧ (iv z4 = iv 0 → Q (some (vI (-1))) G D3))))))))) : Call E (d + 1) (kc + 2) (ks + 27) mX11_sound [vR 2, vI x1, vI x2] G D Q := by
  show Go E (d + 1) (kc + 2) (ks + 27) mX11_sound 0 [some (vR 2), some (vI x1), some (vI x2), none, none] [] G D Q
  refine g_aload_n dX11_sound_0 rfl rfl ?_
  refine g_iload_n dX11_sound_1 rfl rfl ?_
  refine g_callV (kc := (kc + 2)) (kc' := 0) (ks := (ks + 27)) (ks' := 0) (as := [vI x1]) (st := []) (ci := 10) dX11_sound_2 cB_X11_isTongue lk_X11_84 in_X11_isTongue se_X11_isTongue (by decide) rfl rfl (Nat.le_of_ble_eq_true rfl) (Nat.le_of_ble_eq_true rfl) (by decide) (hG.lt (by decide)) (congrArg Prod.fst hG.k2) ?_
  refine Go.to (fun r G' D1 hr => ?_) h
  obtain ⟨rfl, z2, rfl, h⟩ := hr
  show Go E (d + 1) (kc + 2) (ks + 27) mX11_sound 5 [some (vR 2), some (vI x1), some (vI x2), none, none] [vI z2] G D1 Q
  refine g_if_eq 16 dX11_sound_5 (by decide) ⟨fun hc => ?_, fun hc => ?_⟩
  · replace h := h.1 hc
    refine g_iconst dX11_sound_16 ?_
    exact g_iret dX11_sound_17 rfl h
  · replace h := h.2 hc
    refine g_aload_n dX11_sound_8 rfl rfl ?_
    refine g_iload_n dX11_sound_9 rfl rfl ?_
    refine g_callV (kc := (kc + 2)) (kc' := 0) (ks := (ks + 27)) (ks' := 0) (as := [vI x2]) (st := []) (ci := 10) dX11_sound_10 cB_X11_isLaw lk_X11_121 in_X11_isLaw se_X11_isLaw (by decide) rfl rfl (Nat.le_of_ble_eq_true rfl) (Nat.le_of_ble_eq_true rfl) (by decide) (hG.lt (by decide)) (congrArg Prod.fst hG.k2) ?_
    refine Go.to (fun r G' D3 hr => ?_) h
    obtain ⟨rfl, z4, rfl, h⟩ := hr
    show Go E (d + 1) (kc + 2) (ks + 27) mX11_sound 13 [some (vR 2), some (vI x1), some (vI x2), none, none] [vI z4] G D3 Q
    refine g_if_ne 18 dX11_sound_13 (by decide) ⟨fun hc => ?_, fun hc => ?_⟩
    · replace h := h.1 hc
      refine g_aload_n dX11_sound_18 rfl rfl ?_
      refine h_getI (j := 8) dX11_sound_19 f_X11_91_10 rfl rfl (by decide) hG.k2 (by decide) (hG.lt (by decide)) ?_
      refine g_bipush dX11_sound_22 bp_80 ?_
      refine g_icmp_lt 30 dX11_sound_24 (by decide) ⟨fun hc => ?_, fun hc => ?_⟩
      · replace h := h.1 hc
        refine g_iconst dX11_sound_30 ?_
        refine h_istore_n (L' := [some (vR 2), some (vI x1), some (vI x2), some (vI 0), none]) dX11_sound_31 rfl (Nat.le_of_ble_eq_true rfl) rfl rfl ?_
        refine g_iconst dX11_sound_32 ?_
        refine h_istore (L' := [some (vR 2), some (vI x1), some (vI x2), some (vI 0), some (vI 0)]) dX11_sound_33 (Nat.le_of_ble_eq_true rfl) rfl rfl ?_
        exact Go.drop (by simp only [mm_sub, and_self]) h
      · replace h := h.2 hc
        refine g_bipush dX11_sound_27 bp_m4 ?_
        exact g_iret dX11_sound_29 rfl h
    · replace h := h.2 hc
      refine g_iconst dX11_sound_16 ?_
      exact g_iret dX11_sound_17 rfl h
set_option maxRecDepth 20000 in
theorem w_X11_sound_35 {E : mmE} {d kc ks : Nat} {G : mmG} {D : mmD} {Q : mmQ} {x1 x2 x3 x4 : Int} (hG : Sh G)  (h : ((iv 10 ≤ iv x4 → (∀ G1 : mmG, G1 = mm_push G 7 0 → ∀ D3 : mmD, D3 = mm_zero D G.1 → Call E d 1 20 mX8_init [vR (G.1), vI (D3 2 8), vI (D3 2 11), vI x1, vI x2, vI (-5)] G1 D3 (retVG (fun G6 D4 => (Sh G6 ∧ Call E d 0 0 mX11_happen [vR 2, vR (G.1)] G6 D4 (retVG (fun G10 D8 => (Sh G10 ∧ Q (some (vI x3)) G10 D8)))))))) ∧ (¬ iv 10 ≤ iv x4 → ((0 ≤ x2 ∧ x2 < 12) ∧ ((0 ≤ ((x1 * 10) + x4) ∧ ((x1 * 10) + x4) < 60) ∧ Call E d 0 0 mX4_comeOver [vR (142 + 6 * x2), vR (22 + 2 * ((x1 * 10) + x4))] G D (retI G (fun z17 D16 => ((iv z17 = iv 0 → Go E (d + 1) (kc + 2) (ks + 27) mX11_sound 35 [some (vR 2), some (vI x1), some (vI x2), some (vI x3), some (vI (x4 + 1))] [] G D16 Q) ∧ (¬ iv z17 = iv 0 → Go E (d + 1) (kc + 2) (ks + 27) mX11_sound 35 [some (vR 2), some (vI x1), some (vI x2), some (vI (x3 + 1)), some (vI (x4 + 1))] [] G D16 Q))))))))) : Go E (d + 1) (kc + 2) (ks + 27) mX11_sound 35 [some (vR 2), some (vI x1), some (vI x2), some (vI x3), some (vI x4)] [] G D Q := by
  refine g_iload dX11_sound_35 rfl ?_
  refine g_bipush dX11_sound_37 bp_10 ?_
  refine g_icmp_ge 75 dX11_sound_39 (by decide) ⟨fun hc => ?_, fun hc => ?_⟩
  · replace h := h.1 hc
    refine g_aload_n dX11_sound_75 rfl rfl ?_
    refine g_new (Y := mX11_sound) (idx := 128) (ci := 7) (N := 7) (C := RX8) (kc := (kc + 1)) (ks := (ks + 20)) dX11_sound_76 (by decide) nk_X11_128 ?_
    have hG2 := hG.push (kd := 7) (n := 0)
    generalize hG_G1 : mm_push G 7 0 = G1 at hG2 ⊢
    generalize hD_D3 : mm_zero D G.1 = D3
    replace h := h _ hG_G1.symm _ hD_D3.symm
    refine g_dup dX11_sound_79 (fun _ h9 => by cases h9) ?_
    refine g_aload_n dX11_sound_80 rfl rfl ?_
    refine h_getI (j := 8) dX11_sound_81 f_X11_91_10 rfl rfl (by decide) hG2.k2 (by decide) (hG2.lt (by decide)) ?_
    refine g_aload_n dX11_sound_84 rfl rfl ?_
    refine h_getI (j := 11) dX11_sound_85 f_X11_71_10 rfl rfl (by decide) hG2.k2 (by decide) (hG2.lt (by decide)) ?_
    refine g_iload_n dX11_sound_88 rfl rfl ?_
    refine g_iload_n dX11_sound_89 rfl rfl ?_
    refine g_bipush dX11_sound_90 bp_m5 ?_
    refine g_callI (kc := kc) (kc' := 1) (ks := ks) (ks' := 20) (as := [vI (D3 2 8), vI (D3 2 11), vI x1, vI x2, vI (-5)]) (st := [vR (G.1), vR 2]) dX11_sound_92 cB_X8_init rfl lk_X11_130 in_X8_init rfl rfl (Nat.le_of_ble_eq_true rfl) (Nat.le_of_ble_eq_true rfl) (by have := hG.1; omega) ?_
    refine Go.to (fun r G6 D4 hr => ?_) h
    obtain ⟨rfl, hG7, h⟩ := hr
    show Go E (d + 1) kc ks mX11_sound 95 [some (vR 2), some (vI x1), some (vI x2), some (vI x3), some (vI x4)] [vR (G.1), vR 2] G6 D4 Q
    refine g_callV (kc := kc) (kc' := 0) (ks := ks) (ks' := 0) (as := [vR (G.1)]) (st := []) (ci := 10) dX11_sound_95 cB_X11_happen lk_X11_117 in_X11_happen se_X11_happen (by decide) rfl rfl (Nat.le_of_ble_eq_true rfl) (Nat.le_of_ble_eq_true rfl) (by decide) (hG7.lt (by decide)) (congrArg Prod.fst hG7.k2) ?_
    refine Go.to (fun r G10 D8 hr => ?_) h
    obtain ⟨rfl, hG11, h⟩ := hr
    show Go E (d + 1) kc ks mX11_sound 98 [some (vR 2), some (vI x1), some (vI x2), some (vI x3), some (vI x4)] [] G10 D8 Q
    refine g_iload_n dX11_sound_98 rfl rfl ?_
    exact g_iret dX11_sound_99 rfl h
  · replace h := h.2 hc
    refine g_aload_n dX11_sound_42 rfl rfl ?_
    refine h_getR (j := 5) dX11_sound_43 f_X11_24_10 rfl rfl (by decide) hG.k2 (by decide) (hG.lt (by decide)) hG.r2_5 ?_
    refine g_iload_n dX11_sound_46 rfl rfl ?_
    refine h_aaldl hG dX11_sound_47 ⟨h.1, ?_⟩
    have hw13 := isLw.of h.1.1 h.1.2
    replace h := h.2
    refine g_aload_n dX11_sound_48 rfl rfl ?_
    refine h_getR (j := 2) dX11_sound_49 f_X11_15_10 rfl rfl (by decide) hG.k2 (by decide) (hG.lt (by decide)) hG.r2_2 ?_
    refine g_iload_n dX11_sound_52 rfl rfl ?_
    refine g_bipush dX11_sound_53 bp_10 ?_
    refine g_imul dX11_sound_55 ?_
    refine g_iload dX11_sound_56 rfl ?_
    refine g_iadd dX11_sound_58 ?_
    refine h_aaldw hG dX11_sound_59 ⟨h.1, ?_⟩
    have hw15 := isW.of h.1.1 h.1.2
    replace h := h.2
    refine g_callV (kc := (kc + 2)) (kc' := 0) (ks := (ks + 27)) (ks' := 0) (as := [vR (22 + 2 * ((x1 * 10) + x4))]) (st := []) (ci := 3) dX11_sound_60 cB_X4_comeOver lk_X11_124 in_X4_comeOver se_X4_comeOver (by decide) rfl rfl (Nat.le_of_ble_eq_true rfl) (Nat.le_of_ble_eq_true rfl) hw13.ge (hw13.lt hG) (congrArg Prod.fst (hw13.k hG)) ?_
    refine Go.to (fun r G' D16 hr => ?_) h
    obtain ⟨rfl, z17, rfl, h⟩ := hr
    show Go E (d + 1) (kc + 2) (ks + 27) mX11_sound 63 [some (vR 2), some (vI x1), some (vI x2), some (vI x3), some (vI x4)] [vI z17] G D16 Q
    refine g_if_eq 69 dX11_sound_63 (by decide) ⟨fun hc => ?_, fun hc => ?_⟩
    · replace h := h.1 hc
      refine h_iinc (L' := [some (vR 2), some (vI x1), some (vI x2), some (vI x3), some (vI (x4 + 1))]) dX11_sound_69 (Nat.le_of_ble_eq_true rfl) rfl rfl rfl ?_
      refine g_goto 35 dX11_sound_72 (by decide) ?_
      exact Go.drop (by simp only [mm_sub, and_self]) h
    · replace h := h.2 hc
      refine h_iinc (L' := [some (vR 2), some (vI x1), some (vI x2), some (vI (x3 + 1)), some (vI x4)]) dX11_sound_66 (Nat.le_of_ble_eq_true rfl) rfl rfl rfl ?_
      refine h_iinc (L' := [some (vR 2), some (vI x1), some (vI x2), some (vI (x3 + 1)), some (vI (x4 + 1))]) dX11_sound_69 (Nat.le_of_ble_eq_true rfl) rfl rfl rfl ?_
      refine g_goto 35 dX11_sound_72 (by decide) ?_
      exact Go.drop (by simp only [mm_sub, and_self]) h
set_option maxRecDepth 20000 in
theorem w_X11_shorten {E : mmE} {d kc ks : Nat} {G : mmG} {D : mmD} {Q : mmQ} {x1 x2 : Int} (hG : Sh G)  (h : Call E d 0 0 mX11_spokenWord [vR 2, vI x1, vI x2] G D (retR G (fun z2 D1 => ((¬ z2 = 0 → (isW z2 ∧ ((iv 2 ≤ iv (D1 z2 1) → ((iv (D1 2 8) < iv 80 → (∀ D4 : mmD, D4 = up2 D1 z2 1 ((D1 z2 1) - 1) → (∀ G5 : mmG, G5 = mm_push G 5 0 → ∀ D7 : mmD, D7 = mm_zero D4 G.1 → Call E d 1 20 mX6_init [vR (G.1), vI (D7 2 8), vI (D7 2 11), vI x1, vI (-5), vI x2] G5 D7 (retVG (fun G10 D8 => (Sh G10 ∧ Call E d 0 0 mX11_happen [vR 2, vR (G.1)] G10 D8 (retVG (fun G14 D12 => (Sh G14 ∧ Q (some (vI (D12 z2 1))) G14 D12))))))))) ∧ (¬ iv (D1 2 8) < iv 80 → Q (some (vI (-4))) G D1))) ∧ (¬ iv 2 ≤ iv (D1 z2 1) → Q (some (vI (-3))) G D1)))) ∧ (z2 = 0 → Q (some (vI (-1))) G D1))))) : Call E (d + 1) (kc + 2) (ks + 27) mX11_shorten [vR 2, vI x1, vI x2] G D Q := by
  show Go E (d + 1) (kc + 2) (ks + 27) mX11_shorten 0 [some (vR 2), some (vI x1), some (vI x2), none] [] G D Q
  refine g_aload_n dX11_shorten_0 rfl rfl ?_
  refine g_iload_n dX11_shorten_1 rfl rfl ?_
  refine g_iload_n dX11_shorten_2 rfl rfl ?_
  refine g_callV (kc := (kc + 2)) (kc' := 0) (ks := (ks + 27)) (ks' := 0) (as := [vI x1, vI x2]) (st := []) (ci := 10) dX11_shorten_3 cB_X11_spokenWord lk_X11_131 in_X11_spokenWord se_X11_spokenWord (by decide) rfl rfl (Nat.le_of_ble_eq_true rfl) (Nat.le_of_ble_eq_true rfl) (by decide) (hG.lt (by decide)) (congrArg Prod.fst hG.k2) ?_
  refine Go.to (fun r G' D1 hr => ?_) h
  obtain ⟨rfl, z2, rfl, h⟩ := hr
  show Go E (d + 1) (kc + 2) (ks + 27) mX11_shorten 6 [some (vR 2), some (vI x1), some (vI x2), none] [vR z2] G D1 Q
  refine h_astore_n (L' := [some (vR 2), some (vI x1), some (vI x2), some (vR z2)]) dX11_shorten_6 rfl (Nat.le_of_ble_eq_true rfl) rfl rfl ?_
  refine g_aload_n dX11_shorten_7 rfl rfl ?_
  refine g_ifnonnull 13 dX11_shorten_8 (by decide) ⟨fun hc => ?_, fun hc => ?_⟩
  · replace h := h.1 hc
    refine g_aload_n dX11_shorten_13 rfl rfl ?_
    have hf3 := h.1
    replace h := h.2
    refine h_getI (j := 1) dX11_shorten_14 f_X11_135_9 rfl rfl (by decide) (hf3.k hG) hf3.ge (hf3.lt hG) ?_
    refine g_iconst dX11_shorten_17 ?_
    refine g_icmp_ge 24 dX11_shorten_18 (by decide) ⟨fun hc => ?_, fun hc => ?_⟩
    · replace h := h.1 hc
      refine g_aload_n dX11_shorten_24 rfl rfl ?_
      refine h_getI (j := 8) dX11_shorten_25 f_X11_91_10 rfl rfl (by decide) hG.k2 (by decide) (hG.lt (by decide)) ?_
      refine g_bipush dX11_shorten_28 bp_80 ?_
      refine g_icmp_lt 36 dX11_shorten_30 (by decide) ⟨fun hc => ?_, fun hc => ?_⟩
      · replace h := h.1 hc
        refine g_aload_n dX11_shorten_36 rfl rfl ?_
        refine g_dup dX11_shorten_37 (fun _ h9 => by cases h9) ?_
        refine h_getI (j := 1) dX11_shorten_38 f_X11_135_9 rfl rfl (by decide) (hf3.k hG) hf3.ge (hf3.lt hG) ?_
        refine g_iconst dX11_shorten_41 ?_
        refine g_isub dX11_shorten_42 ?_
        refine h_putI (j := 1) dX11_shorten_43 f_X11_135_9 (Or.inl (mm_finI (by decide +kernel))) rfl rfl (by decide) (hf3.k hG) hf3.ge (hf3.lt hG) ?_
        generalize hD_D4 : up2 D1 z2 1 ((D1 z2 1) - 1) = D4
        replace h := h _ hD_D4.symm
        refine g_aload_n dX11_shorten_46 rfl rfl ?_
        refine g_new (Y := mX11_shorten) (idx := 138) (ci := 5) (N := 7) (C := RX6) (kc := (kc + 1)) (ks := (ks + 20)) dX11_shorten_47 (by decide) nk_X11_138 ?_
        have hG6 := hG.push (kd := 5) (n := 0)
        generalize hG_G5 : mm_push G 5 0 = G5 at hG6 ⊢
        generalize hD_D7 : mm_zero D4 G.1 = D7
        replace h := h _ hG_G5.symm _ hD_D7.symm
        refine g_dup dX11_shorten_50 (fun _ h9 => by cases h9) ?_
        refine g_aload_n dX11_shorten_51 rfl rfl ?_
        refine h_getI (j := 8) dX11_shorten_52 f_X11_91_10 rfl rfl (by decide) hG6.k2 (by decide) (hG6.lt (by decide)) ?_
        refine g_aload_n dX11_shorten_55 rfl rfl ?_
        refine h_getI (j := 11) dX11_shorten_56 f_X11_71_10 rfl rfl (by decide) hG6.k2 (by decide) (hG6.lt (by decide)) ?_
        refine g_iload_n dX11_shorten_59 rfl rfl ?_
        refine g_bipush dX11_shorten_60 bp_m5 ?_
        refine g_iload_n dX11_shorten_62 rfl rfl ?_
        refine g_callI (kc := kc) (kc' := 1) (ks := ks) (ks' := 20) (as := [vI (D7 2 8), vI (D7 2 11), vI x1, vI (-5), vI x2]) (st := [vR (G.1), vR 2]) dX11_shorten_63 cB_X6_init rfl lk_X11_140 in_X6_init rfl rfl (Nat.le_of_ble_eq_true rfl) (Nat.le_of_ble_eq_true rfl) (by have := hG.1; omega) ?_
        refine Go.to (fun r G10 D8 hr => ?_) h
        obtain ⟨rfl, hG11, h⟩ := hr
        show Go E (d + 1) kc ks mX11_shorten 66 [some (vR 2), some (vI x1), some (vI x2), some (vR z2)] [vR (G.1), vR 2] G10 D8 Q
        refine g_callV (kc := kc) (kc' := 0) (ks := ks) (ks' := 0) (as := [vR (G.1)]) (st := []) (ci := 10) dX11_shorten_66 cB_X11_happen lk_X11_117 in_X11_happen se_X11_happen (by decide) rfl rfl (Nat.le_of_ble_eq_true rfl) (Nat.le_of_ble_eq_true rfl) (by decide) (hG11.lt (by decide)) (congrArg Prod.fst hG11.k2) ?_
        refine Go.to (fun r G14 D12 hr => ?_) h
        obtain ⟨rfl, hG15, h⟩ := hr
        show Go E (d + 1) kc ks mX11_shorten 69 [some (vR 2), some (vI x1), some (vI x2), some (vR z2)] [] G14 D12 Q
        refine g_aload_n dX11_shorten_69 rfl rfl ?_
        refine h_getI (j := 1) dX11_shorten_70 f_X11_135_9 rfl rfl (by decide) (hf3.k hG15) hf3.ge (hf3.lt hG15) ?_
        exact g_iret dX11_shorten_73 rfl h
      · replace h := h.2 hc
        refine g_bipush dX11_shorten_33 bp_m4 ?_
        exact g_iret dX11_shorten_35 rfl h
    · replace h := h.2 hc
      refine g_bipush dX11_shorten_21 bp_m3 ?_
      exact g_iret dX11_shorten_23 rfl h
  · replace h := h.2 hc
    refine g_iconst dX11_shorten_11 ?_
    exact g_iret dX11_shorten_12 rfl h
set_option maxRecDepth 20000 in
theorem w_X11_loan {E : mmE} {d kc ks : Nat} {G : mmG} {D : mmD} {Q : mmQ} {x1 x2 x3 : Int} (hG : Sh G)  (h : Call E d 0 0 mX11_spokenWord [vR 2, vI x2, vI x1] G D (retR G (fun z2 D1 => ((z2 = 0 → Q (some (vI (-1))) G D1) ∧ (¬ z2 = 0 → Call E d 0 0 mX11_isTongue [vR 2, vI x3] G D1 (retI G (fun z4 D3 => ((¬ iv z4 = iv 0 → ((¬ iv x2 = iv x3 → ((iv (D3 2 8) < iv 80 → ((0 ≤ ((x3 * 10) + x1) ∧ ((x3 * 10) + x1) < 60) ∧ Call E d 0 0 mX10_copySounds [vR (22 + 2 * ((x3 * 10) + x1)), vR z2] G D3 (retV G (fun D7 => (isW z2 ∧ (∀ D10 : mmD, D10 = up2 D7 (22 + 2 * ((x3 * 10) + x1)) 2 (D7 z2 2) → (∀ D11 : mmD, D11 = up2 D10 (22 + 2 * ((x3 * 10) + x1)) 3 1 → (∀ G12 : mmG, G12 = mm_push G 4 0 → ∀ D14 : mmD, D14 = mm_zero D11 G.1 → Call E d 1 20 mX5_init [vR (G.1), vI (D14 2 8), vI (D14 2 11), vI x3, vI (-5), vI x1] G12 D14 (retVG (fun G17 D15 => (Sh G17 ∧ Call E d 0 0 mX11_happen [vR 2, vR (G.1)] G17 D15 (retVG (fun G21 D19 => (Sh G21 ∧ Q (some (vI (D19 (22 + 2 * ((x3 * 10) + x1)) 2))) G21 D19)))))))))))))) ∧ (¬ iv (D3 2 8) < iv 80 → Q (some (vI (-4))) G D3))) ∧ (iv x2 = iv x3 → Q (some (vI (-2))) G D3))) ∧ (iv z4 = iv 0 → Q (some (vI (-1))) G D3))))))))) : Call E (d + 1) (kc + 2) (ks + 27) mX11_loan [vR 2, vI x1, vI x2, vI x3] G D Q := by
  show Go E (d + 1) (kc + 2) (ks + 27) mX11_loan 0 [some (vR 2), some (vI x1), some (vI x2), some (vI x3), none, none] [] G D Q
  refine g_aload_n dX11_loan_0 rfl rfl ?_
  refine g_iload_n dX11_loan_1 rfl rfl ?_
  refine g_iload_n dX11_loan_2 rfl rfl ?_
  refine g_callV (kc := (kc + 2)) (kc' := 0) (ks := (ks + 27)) (ks' := 0) (as := [vI x2, vI x1]) (st := []) (ci := 10) dX11_loan_3 cB_X11_spokenWord lk_X11_131 in_X11_spokenWord se_X11_spokenWord (by decide) rfl rfl (Nat.le_of_ble_eq_true rfl) (Nat.le_of_ble_eq_true rfl) (by decide) (hG.lt (by decide)) (congrArg Prod.fst hG.k2) ?_
  refine Go.to (fun r G' D1 hr => ?_) h
  obtain ⟨rfl, z2, rfl, h⟩ := hr
  show Go E (d + 1) (kc + 2) (ks + 27) mX11_loan 6 [some (vR 2), some (vI x1), some (vI x2), some (vI x3), none, none] [vR z2] G D1 Q
  refine h_astore (L' := [some (vR 2), some (vI x1), some (vI x2), some (vI x3), some (vR z2), none]) dX11_loan_6 (Nat.le_of_ble_eq_true rfl) rfl rfl ?_
  refine g_aload dX11_loan_8 rfl ?_
  refine g_ifnull 21 dX11_loan_10 (by decide) ⟨fun hc => ?_, fun hc => ?_⟩
  · replace h := h.1 hc
    refine g_iconst dX11_loan_21 ?_
    exact g_iret dX11_loan_22 rfl h
  · replace h := h.2 hc
    refine g_aload_n dX11_loan_13 rfl rfl ?_
    refine g_iload_n dX11_loan_14 rfl rfl ?_
    refine g_callV (kc := (kc + 2)) (kc' := 0) (ks := (ks + 27)) (ks' := 0) (as := [vI x3]) (st := []) (ci := 10) dX11_loan_15 cB_X11_isTongue lk_X11_84 in_X11_isTongue se_X11_isTongue (by decide) rfl rfl (Nat.le_of_ble_eq_true rfl) (Nat.le_of_ble_eq_true rfl) (by decide) (hG.lt (by decide)) (congrArg Prod.fst hG.k2) ?_
    refine Go.to (fun r G' D3 hr => ?_) h
    obtain ⟨rfl, z4, rfl, h⟩ := hr
    show Go E (d + 1) (kc + 2) (ks + 27) mX11_loan 18 [some (vR 2), some (vI x1), some (vI x2), some (vI x3), some (vR z2), none] [vI z4] G D3 Q
    refine g_if_ne 23 dX11_loan_18 (by decide) ⟨fun hc => ?_, fun hc => ?_⟩
    · replace h := h.1 hc
      refine g_iload_n dX11_loan_23 rfl rfl ?_
      refine g_iload_n dX11_loan_24 rfl rfl ?_
      refine g_icmp_ne 31 dX11_loan_25 (by decide) ⟨fun hc => ?_, fun hc => ?_⟩
      · replace h := h.1 hc
        refine g_aload_n dX11_loan_31 rfl rfl ?_
        refine h_getI (j := 8) dX11_loan_32 f_X11_91_10 rfl rfl (by decide) hG.k2 (by decide) (hG.lt (by decide)) ?_
        refine g_bipush dX11_loan_35 bp_80 ?_
        refine g_icmp_lt 43 dX11_loan_37 (by decide) ⟨fun hc => ?_, fun hc => ?_⟩
        · replace h := h.1 hc
          refine g_aload_n dX11_loan_43 rfl rfl ?_
          refine h_getR (j := 2) dX11_loan_44 f_X11_15_10 rfl rfl (by decide) hG.k2 (by decide) (hG.lt (by decide)) hG.r2_2 ?_
          refine g_iload_n dX11_loan_47 rfl rfl ?_
          refine g_bipush dX11_loan_48 bp_10 ?_
          refine g_imul dX11_loan_50 ?_
          refine g_iload_n dX11_loan_51 rfl rfl ?_
          refine g_iadd dX11_loan_52 ?_
          refine h_aaldw hG dX11_loan_53 ⟨h.1, ?_⟩
          have hw6 := isW.of h.1.1 h.1.2
          replace h := h.2
          refine h_astore (L' := [some (vR 2), some (vI x1), some (vI x2), some (vI x3), some (vR z2), some (vR (22 + 2 * ((x3 * 10) + x1)))]) dX11_loan_54 (Nat.le_of_ble_eq_true rfl) rfl rfl ?_
          refine g_aload dX11_loan_56 rfl ?_
          refine g_aload dX11_loan_58 rfl ?_
          refine g_callV (kc := (kc + 2)) (kc' := 0) (ks := (ks + 27)) (ks' := 0) (as := [vR z2]) (st := []) (ci := 9) dX11_loan_60 cB_X10_copySounds lk_X11_141 in_X10_copySounds se_X10_copySounds (by decide) rfl rfl (Nat.le_of_ble_eq_true rfl) (Nat.le_of_ble_eq_true rfl) hw6.ge (hw6.lt hG) (congrArg Prod.fst (hw6.k hG)) ?_
          refine Go.to (fun r G' D7 hr => ?_) h
          obtain ⟨rfl, rfl, h⟩ := hr
          show Go E (d + 1) (kc + 2) (ks + 27) mX11_loan 63 [some (vR 2), some (vI x1), some (vI x2), some (vI x3), some (vR z2), some (vR (22 + 2 * ((x3 * 10) + x1)))] [] G D7 Q
          refine g_aload dX11_loan_63 rfl ?_
          refine g_aload dX11_loan_65 rfl ?_
          have hf9 := h.1
          replace h := h.2
          refine h_getI (j := 2) dX11_loan_67 f_X11_105_9 rfl rfl (by decide) (hf9.k hG) hf9.ge (hf9.lt hG) ?_
          refine h_putI (j := 2) dX11_loan_70 f_X11_105_9 (Or.inl (mm_finI (by decide +kernel))) rfl rfl (by decide) (hw6.k hG) hw6.ge (hw6.lt hG) ?_
          generalize hD_D10 : up2 D7 (22 + 2 * ((x3 * 10) + x1)) 2 (D7 z2 2) = D10
          replace h := h _ hD_D10.symm
          refine g_aload dX11_loan_73 rfl ?_
          refine g_iconst dX11_loan_75 ?_
          refine h_putZ (j := 3) dX11_loan_76 f_X11_108_9 (Or.inl (mm_finI (by decide +kernel))) rfl rfl (by decide) (hw6.k hG) hw6.ge (hw6.lt hG) ⟨Or.inr rfl, ?_⟩
          generalize hD_D11 : up2 D10 (22 + 2 * ((x3 * 10) + x1)) 3 1 = D11
          replace h := h _ hD_D11.symm
          refine g_aload_n dX11_loan_79 rfl rfl ?_
          refine g_new (Y := mX11_loan) (idx := 145) (ci := 4) (N := 7) (C := RX5) (kc := (kc + 1)) (ks := (ks + 20)) dX11_loan_80 (by decide) nk_X11_145 ?_
          have hG13 := hG.push (kd := 4) (n := 0)
          generalize hG_G12 : mm_push G 4 0 = G12 at hG13 ⊢
          generalize hD_D14 : mm_zero D11 G.1 = D14
          replace h := h _ hG_G12.symm _ hD_D14.symm
          refine g_dup dX11_loan_83 (fun _ h9 => by cases h9) ?_
          refine g_aload_n dX11_loan_84 rfl rfl ?_
          refine h_getI (j := 8) dX11_loan_85 f_X11_91_10 rfl rfl (by decide) hG13.k2 (by decide) (hG13.lt (by decide)) ?_
          refine g_aload_n dX11_loan_88 rfl rfl ?_
          refine h_getI (j := 11) dX11_loan_89 f_X11_71_10 rfl rfl (by decide) hG13.k2 (by decide) (hG13.lt (by decide)) ?_
          refine g_iload_n dX11_loan_92 rfl rfl ?_
          refine g_bipush dX11_loan_93 bp_m5 ?_
          refine g_iload_n dX11_loan_95 rfl rfl ?_
          refine g_callI (kc := kc) (kc' := 1) (ks := ks) (ks' := 20) (as := [vI (D14 2 8), vI (D14 2 11), vI x3, vI (-5), vI x1]) (st := [vR (G.1), vR 2]) dX11_loan_96 cB_X5_init rfl lk_X11_147 in_X5_init rfl rfl (Nat.le_of_ble_eq_true rfl) (Nat.le_of_ble_eq_true rfl) (by have := hG.1; omega) ?_
          refine Go.to (fun r G17 D15 hr => ?_) h
          obtain ⟨rfl, hG18, h⟩ := hr
          show Go E (d + 1) kc ks mX11_loan 99 [some (vR 2), some (vI x1), some (vI x2), some (vI x3), some (vR z2), some (vR (22 + 2 * ((x3 * 10) + x1)))] [vR (G.1), vR 2] G17 D15 Q
          refine g_callV (kc := kc) (kc' := 0) (ks := ks) (ks' := 0) (as := [vR (G.1)]) (st := []) (ci := 10) dX11_loan_99 cB_X11_happen lk_X11_117 in_X11_happen se_X11_happen (by decide) rfl rfl (Nat.le_of_ble_eq_true rfl) (Nat.le_of_ble_eq_true rfl) (by decide) (hG18.lt (by decide)) (congrArg Prod.fst hG18.k2) ?_
          refine Go.to (fun r G21 D19 hr => ?_) h
          obtain ⟨rfl, hG22, h⟩ := hr
          show Go E (d + 1) kc ks mX11_loan 102 [some (vR 2), some (vI x1), some (vI x2), some (vI x3), some (vR z2), some (vR (22 + 2 * ((x3 * 10) + x1)))] [] G21 D19 Q
          refine g_aload dX11_loan_102 rfl ?_
          refine h_getI (j := 2) dX11_loan_104 f_X11_105_9 rfl rfl (by decide) (hw6.k hG22) hw6.ge (hw6.lt hG22) ?_
          exact g_iret dX11_loan_107 rfl h
        · replace h := h.2 hc
          refine g_bipush dX11_loan_40 bp_m4 ?_
          exact g_iret dX11_loan_42 rfl h
      · replace h := h.2 hc
        refine g_bipush dX11_loan_28 bp_m2 ?_
        exact g_iret dX11_loan_30 rfl h
    · replace h := h.2 hc
      refine g_iconst dX11_loan_21 ?_
      exact g_iret dX11_loan_22 rfl h
set_option maxRecDepth 20000 in
theorem w_X11_forget {E : mmE} {d kc ks : Nat} {G : mmG} {D : mmD} {Q : mmQ} {x1 x2 : Int} (hG : Sh G)  (h : Call E d 0 0 mX11_spokenWord [vR 2, vI x1, vI x2] G D (retR G (fun z2 D1 => ((¬ z2 = 0 → ((iv (D1 2 8) < iv 80 → (isW z2 ∧ (∀ D4 : mmD, D4 = up2 D1 z2 1 0 → (∀ G5 : mmG, G5 = mm_push G 2 0 → ∀ D7 : mmD, D7 = mm_zero D4 G.1 → Call E d 1 20 mX3_init [vR (G.1), vI (D7 2 8), vI (D7 2 11), vI x1, vI (-5), vI x2] G5 D7 (retVG (fun G10 D8 => (Sh G10 ∧ Call E d 0 0 mX11_happen [vR 2, vR (G.1)] G10 D8 (retVG (fun G14 D12 => (Sh G14 ∧ Q (some (vI (D12 z2 2))) G14 D12)))))))))) ∧ (¬ iv (D1 2 8) < iv 80 → Q (some (vI (-4))) G D1))) ∧ (z2 = 0 → Q (some (vI (-1))) G D1))))) : Call E (d + 1) (kc + 2) (ks + 27) mX11_forget [vR 2, vI x1, vI x2] G D Q := by
  show Go E (d + 1) (kc + 2) (ks + 27) mX11_forget 0 [some (vR 2), some (vI x1), some (vI x2), none] [] G D Q
  refine g_aload_n dX11_forget_0 rfl rfl ?_
  refine g_iload_n dX11_forget_1 rfl rfl ?_
  refine g_iload_n dX11_forget_2 rfl rfl ?_
  refine g_callV (kc := (kc + 2)) (kc' := 0) (ks := (ks + 27)) (ks' := 0) (as := [vI x1, vI x2]) (st := []) (ci := 10) dX11_forget_3 cB_X11_spokenWord lk_X11_131 in_X11_spokenWord se_X11_spokenWord (by decide) rfl rfl (Nat.le_of_ble_eq_true rfl) (Nat.le_of_ble_eq_true rfl) (by decide) (hG.lt (by decide)) (congrArg Prod.fst hG.k2) ?_
  refine Go.to (fun r G' D1 hr => ?_) h
  obtain ⟨rfl, z2, rfl, h⟩ := hr
  show Go E (d + 1) (kc + 2) (ks + 27) mX11_forget 6 [some (vR 2), some (vI x1), some (vI x2), none] [vR z2] G D1 Q
  refine h_astore_n (L' := [some (vR 2), some (vI x1), some (vI x2), some (vR z2)]) dX11_forget_6 rfl (Nat.le_of_ble_eq_true rfl) rfl rfl ?_
  refine g_aload_n dX11_forget_7 rfl rfl ?_
  refine g_ifnonnull 13 dX11_forget_8 (by decide) ⟨fun hc => ?_, fun hc => ?_⟩
  · replace h := h.1 hc
    refine g_aload_n dX11_forget_13 rfl rfl ?_
    refine h_getI (j := 8) dX11_forget_14 f_X11_91_10 rfl rfl (by decide) hG.k2 (by decide) (hG.lt (by decide)) ?_
    refine g_bipush dX11_forget_17 bp_80 ?_
    refine g_icmp_lt 25 dX11_forget_19 (by decide) ⟨fun hc => ?_, fun hc => ?_⟩
    · replace h := h.1 hc
      refine g_aload_n dX11_forget_25 rfl rfl ?_
      refine g_iconst dX11_forget_26 ?_
      have hf3 := h.1
      replace h := h.2
      refine h_putI (j := 1) dX11_forget_27 f_X11_135_9 (Or.inl (mm_finI (by decide +kernel))) rfl rfl (by decide) (hf3.k hG) hf3.ge (hf3.lt hG) ?_
      generalize hD_D4 : up2 D1 z2 1 0 = D4
      replace h := h _ hD_D4.symm
      refine g_aload_n dX11_forget_30 rfl rfl ?_
      refine g_new (Y := mX11_forget) (idx := 148) (ci := 2) (N := 7) (C := RX3) (kc := (kc + 1)) (ks := (ks + 20)) dX11_forget_31 (by decide) nk_X11_148 ?_
      have hG6 := hG.push (kd := 2) (n := 0)
      generalize hG_G5 : mm_push G 2 0 = G5 at hG6 ⊢
      generalize hD_D7 : mm_zero D4 G.1 = D7
      replace h := h _ hG_G5.symm _ hD_D7.symm
      refine g_dup dX11_forget_34 (fun _ h9 => by cases h9) ?_
      refine g_aload_n dX11_forget_35 rfl rfl ?_
      refine h_getI (j := 8) dX11_forget_36 f_X11_91_10 rfl rfl (by decide) hG6.k2 (by decide) (hG6.lt (by decide)) ?_
      refine g_aload_n dX11_forget_39 rfl rfl ?_
      refine h_getI (j := 11) dX11_forget_40 f_X11_71_10 rfl rfl (by decide) hG6.k2 (by decide) (hG6.lt (by decide)) ?_
      refine g_iload_n dX11_forget_43 rfl rfl ?_
      refine g_bipush dX11_forget_44 bp_m5 ?_
      refine g_iload_n dX11_forget_46 rfl rfl ?_
      refine g_callI (kc := kc) (kc' := 1) (ks := ks) (ks' := 20) (as := [vI (D7 2 8), vI (D7 2 11), vI x1, vI (-5), vI x2]) (st := [vR (G.1), vR 2]) dX11_forget_47 cB_X3_init rfl lk_X11_150 in_X3_init rfl rfl (Nat.le_of_ble_eq_true rfl) (Nat.le_of_ble_eq_true rfl) (by have := hG.1; omega) ?_
      refine Go.to (fun r G10 D8 hr => ?_) h
      obtain ⟨rfl, hG11, h⟩ := hr
      show Go E (d + 1) kc ks mX11_forget 50 [some (vR 2), some (vI x1), some (vI x2), some (vR z2)] [vR (G.1), vR 2] G10 D8 Q
      refine g_callV (kc := kc) (kc' := 0) (ks := ks) (ks' := 0) (as := [vR (G.1)]) (st := []) (ci := 10) dX11_forget_50 cB_X11_happen lk_X11_117 in_X11_happen se_X11_happen (by decide) rfl rfl (Nat.le_of_ble_eq_true rfl) (Nat.le_of_ble_eq_true rfl) (by decide) (hG11.lt (by decide)) (congrArg Prod.fst hG11.k2) ?_
      refine Go.to (fun r G14 D12 hr => ?_) h
      obtain ⟨rfl, hG15, h⟩ := hr
      show Go E (d + 1) kc ks mX11_forget 53 [some (vR 2), some (vI x1), some (vI x2), some (vR z2)] [] G14 D12 Q
      refine g_aload_n dX11_forget_53 rfl rfl ?_
      refine h_getI (j := 2) dX11_forget_54 f_X11_105_9 rfl rfl (by decide) (hf3.k hG15) hf3.ge (hf3.lt hG15) ?_
      exact g_iret dX11_forget_57 rfl h
    · replace h := h.2 hc
      refine g_bipush dX11_forget_22 bp_m4 ?_
      exact g_iret dX11_forget_24 rfl h
  · replace h := h.2 hc
    refine g_iconst dX11_forget_11 ?_
    exact g_iret dX11_forget_12 rfl h
set_option maxRecDepth 20000 in
theorem w_X11_split {E : mmE} {d kc ks : Nat} {G : mmG} {D : mmD} {Q : mmQ} {x1 : Int} (hG : Sh G)  (h : Call E d 0 0 mX11_isTongue [vR 2, vI x1] G D (retI G (fun z2 D1 => ((¬ iv z2 = iv 0 → ((iv 6 ≤ iv (D1 2 3) → Q (some (vI (-4))) G D1) ∧ (¬ iv 6 ≤ iv (D1 2 3) → ((iv (D1 2 8) < iv 80 → Call E d 0 0 mX11_newTongue [vR 2, vI x1, vI (D1 2 11)] G D1 (retI G (fun z4 D3 => Go E (d + 1) (kc + 2) (ks + 27) mX11_split 43 [some (vR 2), some (vI x1), some (vI z4), some (vI 0), none, none] [] G D3 Q))) ∧ (¬ iv (D1 2 8) < iv 80 → Q (some (vI (-4))) G D1))))) ∧ (iv z2 = iv 0 → Q (some (vI (-1))) G D1))))) : Call E (d + 1) (kc + 2) (ks + 27) mX11_split [vR 2, vI x1] G D Q := by
  show Go E (d + 1) (kc + 2) (ks + 27) mX11_split 0 [some (vR 2), some (vI x1), none, none, none, none] [] G D Q
  refine g_aload_n dX11_split_0 rfl rfl ?_
  refine g_iload_n dX11_split_1 rfl rfl ?_
  refine g_callV (kc := (kc + 2)) (kc' := 0) (ks := (ks + 27)) (ks' := 0) (as := [vI x1]) (st := []) (ci := 10) dX11_split_2 cB_X11_isTongue lk_X11_84 in_X11_isTongue se_X11_isTongue (by decide) rfl rfl (Nat.le_of_ble_eq_true rfl) (Nat.le_of_ble_eq_true rfl) (by decide) (hG.lt (by decide)) (congrArg Prod.fst hG.k2) ?_
  refine Go.to (fun r G' D1 hr => ?_) h
  obtain ⟨rfl, z2, rfl, h⟩ := hr
  show Go E (d + 1) (kc + 2) (ks + 27) mX11_split 5 [some (vR 2), some (vI x1), none, none, none, none] [vI z2] G D1 Q
  refine g_if_ne 10 dX11_split_5 (by decide) ⟨fun hc => ?_, fun hc => ?_⟩
  · replace h := h.1 hc
    refine g_aload_n dX11_split_10 rfl rfl ?_
    refine h_getI (j := 3) dX11_split_11 f_X11_64_10 rfl rfl (by decide) hG.k2 (by decide) (hG.lt (by decide)) ?_
    refine g_bipush dX11_split_14 bp_6 ?_
    refine g_icmp_ge 28 dX11_split_16 (by decide) ⟨fun hc => ?_, fun hc => ?_⟩
    · replace h := h.1 hc
      refine g_bipush dX11_split_28 bp_m4 ?_
      exact g_iret dX11_split_30 rfl h
    · replace h := h.2 hc
      refine g_aload_n dX11_split_19 rfl rfl ?_
      refine h_getI (j := 8) dX11_split_20 f_X11_91_10 rfl rfl (by decide) hG.k2 (by decide) (hG.lt (by decide)) ?_
      refine g_bipush dX11_split_23 bp_80 ?_
      refine g_icmp_lt 31 dX11_split_25 (by decide) ⟨fun hc => ?_, fun hc => ?_⟩
      · replace h := h.1 hc
        refine g_aload_n dX11_split_31 rfl rfl ?_
        refine g_iload_n dX11_split_32 rfl rfl ?_
        refine g_aload_n dX11_split_33 rfl rfl ?_
        refine h_getI (j := 11) dX11_split_34 f_X11_71_10 rfl rfl (by decide) hG.k2 (by decide) (hG.lt (by decide)) ?_
        refine g_callV (kc := (kc + 2)) (kc' := 0) (ks := (ks + 27)) (ks' := 0) (as := [vI x1, vI (D1 2 11)]) (st := []) (ci := 10) dX11_split_37 cB_X11_newTongue lk_X11_67 in_X11_newTongue se_X11_newTongue (by decide) rfl rfl (Nat.le_of_ble_eq_true rfl) (Nat.le_of_ble_eq_true rfl) (by decide) (hG.lt (by decide)) (congrArg Prod.fst hG.k2) ?_
        refine Go.to (fun r G' D3 hr => ?_) h
        obtain ⟨rfl, z4, rfl, h⟩ := hr
        show Go E (d + 1) (kc + 2) (ks + 27) mX11_split 40 [some (vR 2), some (vI x1), none, none, none, none] [vI z4] G D3 Q
        refine h_istore_n (L' := [some (vR 2), some (vI x1), some (vI z4), none, none, none]) dX11_split_40 rfl (Nat.le_of_ble_eq_true rfl) rfl rfl ?_
        refine g_iconst dX11_split_41 ?_
        refine h_istore_n (L' := [some (vR 2), some (vI x1), some (vI z4), some (vI 0), none, none]) dX11_split_42 rfl (Nat.le_of_ble_eq_true rfl) rfl rfl ?_
        exact Go.drop (by simp only [mm_sub, and_self]) h
      · replace h := h.2 hc
        refine g_bipush dX11_split_28 bp_m4 ?_
        exact g_iret dX11_split_30 rfl h
  · replace h := h.2 hc
    refine g_iconst dX11_split_8 ?_
    exact g_iret dX11_split_9 rfl h
set_option maxRecDepth 20000 in
theorem w_X11_split_43 {E : mmE} {d kc ks : Nat} {G : mmG} {D : mmD} {Q : mmQ} {x1 x2 x3 : Int} (hG : Sh G)  (h : ((iv 10 ≤ iv x3 → (∀ G1 : mmG, G1 = mm_push G 8 0 → ∀ D3 : mmD, D3 = mm_zero D G.1 → Call E d 1 20 mX9_init [vR (G.1), vI (D3 2 8), vI (D3 2 11), vI x2, vI (-5), vI (-5)] G1 D3 (retVG (fun G6 D4 => (Sh G6 ∧ Call E d 0 0 mX11_happen [vR 2, vR (G.1)] G6 D4 (retVG (fun G10 D8 => (Sh G10 ∧ Q (some (vI x2)) G10 D8)))))))) ∧ (¬ iv 10 ≤ iv x3 → ((0 ≤ ((x1 * 10) + x3) ∧ ((x1 * 10) + x3) < 60) ∧ ((0 ≤ ((x2 * 10) + x3) ∧ ((x2 * 10) + x3) < 60) ∧ Call E d 0 0 mX10_copySounds [vR (22 + 2 * ((x2 * 10) + x3)), vR (22 + 2 * ((x1 * 10) + x3))] G D (retV G (fun D16 => (∀ D18 : mmD, D18 = up2 D16 (22 + 2 * ((x2 * 10) + x3)) 2 (D16 (22 + 2 * ((x1 * 10) + x3)) 2) → (((D18 (22 + 2 * ((x1 * 10) + x3)) 3) = 0 ∨ (D18 (22 + 2 * ((x1 * 10) + x3)) 3) = 1) ∧ (∀ D19 : mmD, D19 = up2 D18 (22 + 2 * ((x2 * 10) + x3)) 3 (D18 (22 + 2 * ((x1 * 10) + x3)) 3) → Go E (d + 1) (kc + 2) (ks + 27) mX11_split 43 [some (vR 2), some (vI x1), some (vI x2), some (vI (x3 + 1)), none, none] [] G D19 Q)))))))))) : Go E (d + 1) (kc + 2) (ks + 27) mX11_split 43 [some (vR 2), some (vI x1), some (vI x2), some (vI x3), none, none] [] G D Q := by
  refine g_iload_n dX11_split_43 rfl rfl ?_
  refine g_bipush dX11_split_44 bp_10 ?_
  refine g_icmp_ge 108 dX11_split_46 (by decide) ⟨fun hc => ?_, fun hc => ?_⟩
  · replace h := h.1 hc
    refine g_aload_n dX11_split_108 rfl rfl ?_
    refine g_new (Y := mX11_split) (idx := 151) (ci := 8) (N := 7) (C := RX9) (kc := (kc + 1)) (ks := (ks + 20)) dX11_split_109 (by decide) nk_X11_151 ?_
    have hG2 := hG.push (kd := 8) (n := 0)
    generalize hG_G1 : mm_push G 8 0 = G1 at hG2 ⊢
    generalize hD_D3 : mm_zero D G.1 = D3
    replace h := h _ hG_G1.symm _ hD_D3.symm
    refine g_dup dX11_split_112 (fun _ h9 => by cases h9) ?_
    refine g_aload_n dX11_split_113 rfl rfl ?_
    refine h_getI (j := 8) dX11_split_114 f_X11_91_10 rfl rfl (by decide) hG2.k2 (by decide) (hG2.lt (by decide)) ?_
    refine g_aload_n dX11_split_117 rfl rfl ?_
    refine h_getI (j := 11) dX11_split_118 f_X11_71_10 rfl rfl (by decide) hG2.k2 (by decide) (hG2.lt (by decide)) ?_
    refine g_iload_n dX11_split_121 rfl rfl ?_
    refine g_bipush dX11_split_122 bp_m5 ?_
    refine g_bipush dX11_split_124 bp_m5 ?_
    refine g_callI (kc := kc) (kc' := 1) (ks := ks) (ks' := 20) (as := [vI (D3 2 8), vI (D3 2 11), vI x2, vI (-5), vI (-5)]) (st := [vR (G.1), vR 2]) dX11_split_126 cB_X9_init rfl lk_X11_153 in_X9_init rfl rfl (Nat.le_of_ble_eq_true rfl) (Nat.le_of_ble_eq_true rfl) (by have := hG.1; omega) ?_
    refine Go.to (fun r G6 D4 hr => ?_) h
    obtain ⟨rfl, hG7, h⟩ := hr
    show Go E (d + 1) kc ks mX11_split 129 [some (vR 2), some (vI x1), some (vI x2), some (vI x3), none, none] [vR (G.1), vR 2] G6 D4 Q
    refine g_callV (kc := kc) (kc' := 0) (ks := ks) (ks' := 0) (as := [vR (G.1)]) (st := []) (ci := 10) dX11_split_129 cB_X11_happen lk_X11_117 in_X11_happen se_X11_happen (by decide) rfl rfl (Nat.le_of_ble_eq_true rfl) (Nat.le_of_ble_eq_true rfl) (by decide) (hG7.lt (by decide)) (congrArg Prod.fst hG7.k2) ?_
    refine Go.to (fun r G10 D8 hr => ?_) h
    obtain ⟨rfl, hG11, h⟩ := hr
    show Go E (d + 1) kc ks mX11_split 132 [some (vR 2), some (vI x1), some (vI x2), some (vI x3), none, none] [] G10 D8 Q
    refine g_iload_n dX11_split_132 rfl rfl ?_
    exact g_iret dX11_split_133 rfl h
  · replace h := h.2 hc
    refine g_aload_n dX11_split_49 rfl rfl ?_
    refine h_getR (j := 2) dX11_split_50 f_X11_15_10 rfl rfl (by decide) hG.k2 (by decide) (hG.lt (by decide)) hG.r2_2 ?_
    refine g_iload_n dX11_split_53 rfl rfl ?_
    refine g_bipush dX11_split_54 bp_10 ?_
    refine g_imul dX11_split_56 ?_
    refine g_iload_n dX11_split_57 rfl rfl ?_
    refine g_iadd dX11_split_58 ?_
    refine h_aaldw hG dX11_split_59 ⟨h.1, ?_⟩
    have hw13 := isW.of h.1.1 h.1.2
    replace h := h.2
    refine h_astore (L' := [some (vR 2), some (vI x1), some (vI x2), some (vI x3), some (vR (22 + 2 * ((x1 * 10) + x3))), none]) dX11_split_60 (Nat.le_of_ble_eq_true rfl) rfl rfl ?_
    refine g_aload_n dX11_split_62 rfl rfl ?_
    refine h_getR (j := 2) dX11_split_63 f_X11_15_10 rfl rfl (by decide) hG.k2 (by decide) (hG.lt (by decide)) hG.r2_2 ?_
    refine g_iload_n dX11_split_66 rfl rfl ?_
    refine g_bipush dX11_split_67 bp_10 ?_
    refine g_imul dX11_split_69 ?_
    refine g_iload_n dX11_split_70 rfl rfl ?_
    refine g_iadd dX11_split_71 ?_
    refine h_aaldw hG dX11_split_72 ⟨h.1, ?_⟩
    have hw15 := isW.of h.1.1 h.1.2
    replace h := h.2
    refine h_astore (L' := [some (vR 2), some (vI x1), some (vI x2), some (vI x3), some (vR (22 + 2 * ((x1 * 10) + x3))), some (vR (22 + 2 * ((x2 * 10) + x3)))]) dX11_split_73 (Nat.le_of_ble_eq_true rfl) rfl rfl ?_
    refine g_aload dX11_split_75 rfl ?_
    refine g_aload dX11_split_77 rfl ?_
    refine g_callV (kc := (kc + 2)) (kc' := 0) (ks := (ks + 27)) (ks' := 0) (as := [vR (22 + 2 * ((x1 * 10) + x3))]) (st := []) (ci := 9) dX11_split_79 cB_X10_copySounds lk_X11_141 in_X10_copySounds se_X10_copySounds (by decide) rfl rfl (Nat.le_of_ble_eq_true rfl) (Nat.le_of_ble_eq_true rfl) hw15.ge (hw15.lt hG) (congrArg Prod.fst (hw15.k hG)) ?_
    refine Go.to (fun r G' D16 hr => ?_) h
    obtain ⟨rfl, rfl, h⟩ := hr
    show Go E (d + 1) (kc + 2) (ks + 27) mX11_split 82 [some (vR 2), some (vI x1), some (vI x2), some (vI x3), some (vR (22 + 2 * ((x1 * 10) + x3))), some (vR (22 + 2 * ((x2 * 10) + x3)))] [] G D16 Q
    refine g_aload dX11_split_82 rfl ?_
    refine g_aload dX11_split_84 rfl ?_
    refine h_getI (j := 2) dX11_split_86 f_X11_105_9 rfl rfl (by decide) (hw13.k hG) hw13.ge (hw13.lt hG) ?_
    refine h_putI (j := 2) dX11_split_89 f_X11_105_9 (Or.inl (mm_finI (by decide +kernel))) rfl rfl (by decide) (hw15.k hG) hw15.ge (hw15.lt hG) ?_
    generalize hD_D18 : up2 D16 (22 + 2 * ((x2 * 10) + x3)) 2 (D16 (22 + 2 * ((x1 * 10) + x3)) 2) = D18
    replace h := h _ hD_D18.symm
    refine g_aload dX11_split_92 rfl ?_
    refine g_aload dX11_split_94 rfl ?_
    refine h_getI (j := 3) dX11_split_96 f_X11_108_9 rfl rfl (by decide) (hw13.k hG) hw13.ge (hw13.lt hG) ?_
    refine h_putZ (j := 3) dX11_split_99 f_X11_108_9 (Or.inl (mm_finI (by decide +kernel))) rfl rfl (by decide) (hw15.k hG) hw15.ge (hw15.lt hG) ⟨h.1, ?_⟩
    generalize hD_D19 : up2 D18 (22 + 2 * ((x2 * 10) + x3)) 3 (D18 (22 + 2 * ((x1 * 10) + x3)) 3) = D19
    replace h := h.2 _ hD_D19.symm
    refine h_iinc (L' := [some (vR 2), some (vI x1), some (vI x2), some (vI (x3 + 1)), some (vR (22 + 2 * ((x1 * 10) + x3))), some (vR (22 + 2 * ((x2 * 10) + x3)))]) dX11_split_102 (Nat.le_of_ble_eq_true rfl) rfl rfl rfl ?_
    refine g_goto 43 dX11_split_105 (by decide) ?_
    exact Go.drop (by simp only [mm_sub, and_self]) h
