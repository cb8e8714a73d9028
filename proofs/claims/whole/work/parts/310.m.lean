abbrev X11_fill_x (z : CZ) : CX := mx RX11 cX11_fill 3 32 (some .int) "fill" z
noncomputable def X11_fill_b0 (c_X1_hasSign : Nat → Int32 → PH → Option Rs) (c_X11_isWithin : Int32 → Int32 → PH → Option Rs) (c_X0_note : Nat → Nat → PH → Option Rs) (c_X6_takeRows : Nat → Nat → PH → Option Rs) : Kn := (a_al 0 (a_gR 10 640 1 (a_il 1 (a_vI 1 1 (FW_T1I c_X1_hasSign) (a_z (a_ic (-1000000001) a_ir) (a_il 2 (a_ic 4 (a_sI 2 (FW_II c_X11_isWithin) (a_z (a_ic (-1000000001) a_ir) (a_al 0 (a_gR 10 646 38 (a_il 2 (a_rald 38 2432 4 (a_gI 4 256 (a_ic (-1) (a_eq (a_ic (-1000000011) a_ir) (a_al 0 (a_gR 10 644 0 (a_al 0 (a_gR 10 640 1 (a_vV 0 1 (FW_T0R1 c_X0_note) (a_al 0 (a_gR 10 640 1 (a_gR 1 68 18 (a_il 1 (a_rald 18 1152 5 (a_al 0 (a_gR 10 646 38 (a_il 2 (a_rald 38 2432 4 (a_vV 5 1 (FW_T5R4 c_X6_takeRows) (a_al 0 (a_gR 10 640 1 (a_gR 1 68 18 (a_il 1 (a_rald 18 1152 5 (a_gI 5 324 a_ir)))))))))))))))))))))))))))))))))))))
set_option maxRecDepth 100000 in
theorem X11_fill_s0 {z : CZ} : SK (X11_fill_x z) 0 (X11_fill_b0 X1_hasSign X11_isWithin X0_note X6_takeRows) := (s_aloadn (pc := 0) dX11_fill_0 rfl (s_gR (pc := 1) (f := 0) ko_10 (by decide) rfl rfl w_504 dX11_fill_1 (s_iloadn (pc := 4) dX11_fill_4 rfl (s_vI (pc := 5) (run_virtual (X1_hasSign_gd _) (show 1 < 32 by decide) cy_X1_hasSign (by decide) rfl w_633 w_634 w_632 dX11_fill_5) (s_ifeq (pc := 8) dX11_fill_8 (by decide) (s_ldc (pc := 19) w_551 dX11_fill_19 (s_ir (pc := 21) rfl dX11_fill_21)) (s_iloadn (pc := 11) dX11_fill_11 rfl (s_iconst (pc := 12) dX11_fill_12 c_ic_4 (s_sI (pc := 13) (run_static (X11_isWithin_gd _) (show 0 < 32 by decide) cy_X11_isWithin w_549 w_552 dX11_fill_13) (s_ifne (pc := 16) dX11_fill_16 (by decide) (s_aloadn (pc := 22) dX11_fill_22 rfl (s_gR (pc := 23) (f := 6) ko_10 (by decide) rfl rfl w_510 dX11_fill_23 (s_iloadn (pc := 26) dX11_fill_26 rfl (s_rald (pc := 27) (by decide) (by decide) rfl rfl rfl dX11_fill_27 (s_gI (pc := 28) (f := 0) ko_4 (by decide) rfl rfl w_461 dX11_fill_28 (s_iconst (pc := 31) dX11_fill_31 c_ic_m1 (s_cmpne (pc := 32) dX11_fill_32 (by decide) (s_aloadn (pc := 39) dX11_fill_39 rfl (s_gR (pc := 40) (f := 4) ko_10 (by decide) rfl rfl w_508 dX11_fill_40 (s_aloadn (pc := 43) dX11_fill_43 rfl (s_gR (pc := 44) (f := 0) ko_10 (by decide) rfl rfl w_504 dX11_fill_44 (s_vV (pc := 47) (run_virtual (X0_note_gd _) (show 0 < 32 by decide) cy_X0_note (by decide) rfl w_677 w_678 w_676 dX11_fill_47) (s_aloadn (pc := 50) dX11_fill_50 rfl (s_gR (pc := 51) (f := 0) ko_10 (by decide) rfl rfl w_504 dX11_fill_51 (s_gR (pc := 54) (f := 4) ko_1 (by decide) rfl rfl w_233 dX11_fill_54 (s_iloadn (pc := 57) dX11_fill_57 rfl (s_rald (pc := 58) (by decide) (by decide) rfl rfl rfl dX11_fill_58 (s_aloadn (pc := 59) dX11_fill_59 rfl (s_gR (pc := 60) (f := 6) ko_10 (by decide) rfl rfl w_510 dX11_fill_60 (s_iloadn (pc := 63) dX11_fill_63 rfl (s_rald (pc := 64) (by decide) (by decide) rfl rfl rfl dX11_fill_64 (s_vV (pc := 65) (run_virtual (X6_takeRows_gd _) (show 31 < 32 by decide) cy_X6_takeRows (by decide) rfl w_1213 w_1214 w_1212 dX11_fill_65) (s_aloadn (pc := 68) dX11_fill_68 rfl (s_gR (pc := 69) (f := 0) ko_10 (by decide) rfl rfl w_504 dX11_fill_69 (s_gR (pc := 72) (f := 4) ko_1 (by decide) rfl rfl w_233 dX11_fill_72 (s_iloadn (pc := 75) dX11_fill_75 rfl (s_rald (pc := 76) (by decide) (by decide) rfl rfl rfl dX11_fill_76 (s_gI (pc := 77) (f := 4) ko_5 (by decide) rfl rfl w_185 dX11_fill_77 (s_ir (pc := 80) rfl dX11_fill_80)))))))))))))))))))))) (s_ldcw (pc := 35) w_1202 dX11_fill_35 (s_ir (pc := 38) rfl dX11_fill_38))))))))) (s_ldc (pc := 19) w_551 dX11_fill_19 (s_ir (pc := 21) rfl dX11_fill_21)))))))))))
noncomputable def X11_fill_f0 (c_X1_hasSign : Nat → Int32 → PH → Option Rs) (c_X11_isWithin : Int32 → Int32 → PH → Option Rs) (c_X0_note : Nat → Nat → PH → Option Rs) (c_X6_takeRows : Nat → Nat → PH → Option Rs) (t : Nat) (x1 : Int32) (x2 : Int32) (h : PH) : Option Rs :=
  nn (hR h 640 t 0) fun r1 =>
  cI (c_X1_hasSign r1 x1 h) fun v3 h2 =>
  if v3 = 0 then
    some (some (.inl (-1000000001)), h2)
  else
    cI (c_X11_isWithin x2 4 h2) fun v5 h4 =>
    if v5 = 0 then
      some (some (.inl (-1000000001)), h4)
    else
      nn (hR h4 646 t 0) fun r6 =>
      ix x2 (hL h4 38 r6) fun j7 =>
      nn (hR h4 2432 r6 j7) fun r8 =>
      if (hI h4 256 r8 0) = (-1) then
        some (some (.inl (-1000000011)), h4)
      else
        nn (hR h4 644 t 0) fun r9 =>
        cV (c_X0_note r9 (hR h4 640 t 0) h4) fun h10 =>
        nn (hR h10 640 t 0) fun r11 =>
        nn (hR h10 68 r11 0) fun r12 =>
        ix x1 (hL h10 18 r12) fun j13 =>
        nn (hR h10 646 t 0) fun r14 =>
        ix x2 (hL h10 38 r14) fun j15 =>
        nn (hR h10 1152 r12 j13) fun r16 =>
        cV (c_X6_takeRows r16 (hR h10 2432 r14 j15) h10) fun h17 =>
        nn (hR h17 640 t 0) fun r18 =>
        nn (hR h17 68 r18 0) fun r19 =>
        ix x1 (hL h17 18 r19) fun j20 =>
        nn (hR h17 1152 r19 j20) fun r21 =>
        some (some (.inl (hI h17 324 r21 0)), h17)
set_option maxRecDepth 100000 in
theorem X11_fill_l0 (c_X1_hasSign : Nat → Int32 → PH → Option Rs) (c_X11_isWithin : Int32 → Int32 → PH → Option Rs) (c_X0_note : Nat → Nat → PH → Option Rs) (c_X6_takeRows : Nat → Nat → PH → Option Rs) (t : Nat) (x1 : Int32) (x2 : Int32) (h : PH) : X11_fill_b0 c_X1_hasSign c_X11_isWithin c_X0_note c_X6_takeRows [some (.inr (10, t + 1)), some (.inl x1), some (.inl x2)] [] h = X11_fill_f0 c_X1_hasSign c_X11_isWithin c_X0_note c_X6_takeRows t x1 x2 h := rfl
noncomputable def X11_fill_g0 (t : Nat) (x1 : Int32) (x2 : Int32) (h : PH) : Option Rs := X11_fill_f0 X1_hasSign X11_isWithin X0_note X6_takeRows t x1 x2 h
noncomputable def X11_fill (t : Nat) (x1 : Int32) (x2 : Int32) (h : PH) : Option Rs := X11_fill_g0 t x1 x2 h
noncomputable abbrev X11_fill_F : List PV → PH → Option Rs := FW_T10II (X11_fill)
set_option maxRecDepth 100000 in
theorem X11_fill_gd (l : Launch) : Gd l 32 yX11_fill cX11_fill 3 (some .int) (X11_fill_F)   := Gd_of (by decide +kernel) (fun z hzl as h r e => by
  obtain ⟨hst, e⟩ := gL_of e
  obtain ⟨t, q0, e⟩ := gT_of e
  obtain ⟨x1, q1, e⟩ := gI_of e
  obtain ⟨x2, q2, e⟩ := gI_of e
  rw [st_3 hst q0 q1 q2]
  exact ⟨show 3 ≤ 3 by decide, X11_fill_s0 _ _ _ _ ((X11_fill_l0 X1_hasSign X11_isWithin X0_note X6_takeRows t x1 x2 h).trans e)⟩)
abbrev X5_hasCells_x (z : CZ) : CX := mx RX5 cX5_hasCells 3 0 (some .boolean) "hasCells" z
noncomputable def X5_hasCells_b0 : Kn := (a_il 1 (a_n (a_ic 0 a_zr) (a_il 2 (a_n (a_ic 0 a_zr) (a_il 1 (a_al 0 (a_gI 4 257 (a_gt (a_ic 0 a_zr) (a_il 2 (a_al 0 (a_gI 4 257 (a_il 1 (a_b (fun a b => a - b) (a_gt (a_ic 0 a_zr) (a_ic 1 a_zr)))))))))))))))
set_option maxRecDepth 100000 in
theorem X5_hasCells_s0 {z : CZ} : SK (X5_hasCells_x z) 0 (X5_hasCells_b0) := (s_iloadn (pc := 0) dX5_hasCells_0 rfl (s_iflt (pc := 1) dX5_hasCells_1 (by decide) (s_iconst (pc := 30) dX5_hasCells_30 c_ic_0 (s_zr (pc := 31) rfl dX5_hasCells_31)) (s_iloadn (pc := 4) dX5_hasCells_4 rfl (s_iflt (pc := 5) dX5_hasCells_5 (by decide) (s_iconst (pc := 30) dX5_hasCells_30 c_ic_0 (s_zr (pc := 31) rfl dX5_hasCells_31)) (s_iloadn (pc := 8) dX5_hasCells_8 rfl (s_aloadn (pc := 9) dX5_hasCells_9 rfl (s_gI (pc := 10) (f := 1) ko_4 (by decide) rfl rfl w_462 dX5_hasCells_10 (s_cmpgt (pc := 13) dX5_hasCells_13 (by decide) (s_iconst (pc := 30) dX5_hasCells_30 c_ic_0 (s_zr (pc := 31) rfl dX5_hasCells_31)) (s_iloadn (pc := 16) dX5_hasCells_16 rfl (s_aloadn (pc := 17) dX5_hasCells_17 rfl (s_gI (pc := 18) (f := 1) ko_4 (by decide) rfl rfl w_462 dX5_hasCells_18 (s_iloadn (pc := 21) dX5_hasCells_21 rfl (s_isub (pc := 22) dX5_hasCells_22 (s_cmpgt (pc := 23) dX5_hasCells_23 (by decide) (s_iconst (pc := 30) dX5_hasCells_30 c_ic_0 (s_zr (pc := 31) rfl dX5_hasCells_31)) (s_iconst (pc := 26) dX5_hasCells_26 c_ic_1 (s_goto (pc := 27) dX5_hasCells_27 (by decide) (s_zr (pc := 31) rfl dX5_hasCells_31)))))))))))))))))
noncomputable def X5_hasCells_f0 (t : Nat) (x1 : Int32) (x2 : Int32) (h : PH) : Option Rs :=
  if x1 < 0 then
    bz 0 <|
    some (some (.inl 0), h)
  else
    if x2 < 0 then
      bz 0 <|
      some (some (.inl 0), h)
    else
      if (hI h 257 t 0) < x1 then
        bz 0 <|
        some (some (.inl 0), h)
      else
        if ((hI h 257 t 0) - x1) < x2 then
          bz 0 <|
          some (some (.inl 0), h)
        else
          bz 1 <|
          some (some (.inl 1), h)
set_option maxRecDepth 100000 in
theorem X5_hasCells_l0 (t : Nat) (x1 : Int32) (x2 : Int32) (h : PH) : X5_hasCells_b0 [some (.inr (4, t + 1)), some (.inl x1), some (.inl x2)] [] h = X5_hasCells_f0 t x1 x2 h := rfl
noncomputable def X5_hasCells_g0 (t : Nat) (x1 : Int32) (x2 : Int32) (h : PH) : Option Rs := X5_hasCells_f0 t x1 x2 h
noncomputable def X5_hasCells (t : Nat) (x1 : Int32) (x2 : Int32) (h : PH) : Option Rs := X5_hasCells_g0 t x1 x2 h
noncomputable abbrev X5_hasCells_F : List PV → PH → Option Rs := FW_T4II (X5_hasCells)
set_option maxRecDepth 100000 in
theorem X5_hasCells_gd (l : Launch) : Gd l 0 yX5_hasCells cX5_hasCells 3 (some .boolean) (X5_hasCells_F)   := Gd_of (by decide +kernel) (fun z hzl as h r e => by
  obtain ⟨hst, e⟩ := gL_of e
  obtain ⟨t, q0, e⟩ := gT_of e
  obtain ⟨x1, q1, e⟩ := gI_of e
  obtain ⟨x2, q2, e⟩ := gI_of e
  rw [st_3 hst q0 q1 q2]
  exact ⟨show 3 ≤ 3 by decide, X5_hasCells_s0 _ _ _ _ ((X5_hasCells_l0 t x1 x2 h).trans e)⟩)
abbrev X11_copy_x (z : CZ) : CX := mx RX11 cX11_copy 8 1 (some .int) "copy" z
noncomputable def X11_copy_b0 (c_X11_isWithin : Int32 → Int32 → PH → Option Rs) (c_X5_hasCells : Nat → Int32 → Int32 → PH → Option Rs) : Kn := (a_il 1 (a_ic 4 (a_sI 2 (FW_II c_X11_isWithin) (a_z (a_ic (-1000000001) a_ir) (a_il 3 (a_ic 4 (a_sI 2 (FW_II c_X11_isWithin) (a_z (a_ic (-1000000001) a_ir) (a_al 0 (a_gR 10 646 38 (a_il 1 (a_rald 38 2432 4 (a_as 6 (a_al 0 (a_gR 10 646 38 (a_il 3 (a_rald 38 2432 4 (a_as 7 (a_al 6 (a_gI 4 256 (a_ic (-1) (a_eq (a_ic (-1000000011) a_ir) (a_al 7 (a_gI 4 256 (a_ic (-1) (a_eq (a_ic (-1000000011) a_ir) (a_al 6 (a_gI 4 256 (a_al 7 (a_gI 4 256 (a_eq (a_al 6 (a_il 2 (a_il 5 (a_vI 4 2 (FW_T4II c_X5_hasCells) (a_z (a_ic (-1000000013) a_ir) (a_al 7 (a_il 4 (a_il 5 (a_vI 4 2 (FW_T4II c_X5_hasCells) (a_z (a_ic (-1000000013) a_ir) (a_al 6 (a_gR 4 258 26 (a_il 2 (a_al 7 (a_gR 4 258 26 (a_il 4 (a_il 5 (a_cp 26 1664 26 1664 (a_il 5 a_ir))))))))))))))))))) (a_ic (-1000000012) a_ir))))))))))))))))))))))))))))))))
set_option maxRecDepth 100000 in
theorem X11_copy_s0 {z : CZ} : SK (X11_copy_x z) 0 (X11_copy_b0 X11_isWithin X5_hasCells) := (s_iloadn (pc := 0) dX11_copy_0 rfl (s_iconst (pc := 1) dX11_copy_1 c_ic_4 (s_sI (pc := 2) (run_static (X11_isWithin_gd _) (show 0 < 1 by decide) cy_X11_isWithin w_549 w_552 dX11_copy_2) (s_ifeq (pc := 5) dX11_copy_5 (by decide) (s_ldc (pc := 16) w_551 dX11_copy_16 (s_ir (pc := 18) rfl dX11_copy_18)) (s_iloadn (pc := 8) dX11_copy_8 rfl (s_iconst (pc := 9) dX11_copy_9 c_ic_4 (s_sI (pc := 10) (run_static (X11_isWithin_gd _) (show 0 < 1 by decide) cy_X11_isWithin w_549 w_552 dX11_copy_10) (s_ifne (pc := 13) dX11_copy_13 (by decide) (s_aloadn (pc := 19) dX11_copy_19 rfl (s_gR (pc := 20) (f := 6) ko_10 (by decide) rfl rfl w_510 dX11_copy_20 (s_iloadn (pc := 23) dX11_copy_23 rfl (s_rald (pc := 24) (by decide) (by decide) rfl rfl rfl dX11_copy_24 (s_astore (pc := 25) dX11_copy_25 (show 6 < 8 by decide) (s_aloadn (pc := 27) dX11_copy_27 rfl (s_gR (pc := 28) (f := 6) ko_10 (by decide) rfl rfl w_510 dX11_copy_28 (s_iloadn (pc := 31) dX11_copy_31 rfl (s_rald (pc := 32) (by decide) (by decide) rfl rfl rfl dX11_copy_32 (s_astore (pc := 33) dX11_copy_33 (show 7 < 8 by decide) (s_aload (pc := 35) dX11_copy_35 (s_gI (pc := 37) (f := 0) ko_4 (by decide) rfl rfl w_461 dX11_copy_37 (s_iconst (pc := 40) dX11_copy_40 c_ic_m1 (s_cmpeq (pc := 41) dX11_copy_41 (by decide) (s_ldcw (pc := 53) w_1202 dX11_copy_53 (s_ir (pc := 56) rfl dX11_copy_56)) (s_aload (pc := 44) dX11_copy_44 (s_gI (pc := 46) (f := 0) ko_4 (by decide) rfl rfl w_461 dX11_copy_46 (s_iconst (pc := 49) dX11_copy_49 c_ic_m1 (s_cmpne (pc := 50) dX11_copy_50 (by decide) (s_aload (pc := 57) dX11_copy_57 (s_gI (pc := 59) (f := 0) ko_4 (by decide) rfl rfl w_461 dX11_copy_59 (s_aload (pc := 62) dX11_copy_62 (s_gI (pc := 64) (f := 0) ko_4 (by decide) rfl rfl w_461 dX11_copy_64 (s_cmpeq (pc := 67) dX11_copy_67 (by decide) (s_aload (pc := 73) dX11_copy_73 (s_iloadn (pc := 75) dX11_copy_75 rfl (s_iload (pc := 76) dX11_copy_76 (s_vI (pc := 78) (run_virtual (X5_hasCells_gd _) (show 0 < 1 by decide) cy_X5_hasCells (by decide) rfl w_1222 w_1223 w_1221 dX11_copy_78) (s_ifeq (pc := 81) dX11_copy_81 (by decide) (s_ldcw (pc := 96) w_1203 dX11_copy_96 (s_ir (pc := 99) rfl dX11_copy_99)) (s_aload (pc := 84) dX11_copy_84 (s_iload (pc := 86) dX11_copy_86 (s_iload (pc := 88) dX11_copy_88 (s_vI (pc := 90) (run_virtual (X5_hasCells_gd _) (show 0 < 1 by decide) cy_X5_hasCells (by decide) rfl w_1222 w_1223 w_1221 dX11_copy_90) (s_ifne (pc := 93) dX11_copy_93 (by decide) (s_aload (pc := 100) dX11_copy_100 (s_gR (pc := 102) (f := 2) ko_4 (by decide) rfl rfl w_467 dX11_copy_102 (s_iloadn (pc := 105) dX11_copy_105 rfl (s_aload (pc := 106) dX11_copy_106 (s_gR (pc := 108) (f := 2) ko_4 (by decide) rfl rfl w_467 dX11_copy_108 (s_iload (pc := 111) dX11_copy_111 (s_iload (pc := 113) dX11_copy_113 (s_cpS (pc := 115) w_1225 w_919 w_918 w_98 dX11_copy_115 (s_iload (pc := 118) dX11_copy_118 (s_ir (pc := 120) rfl dX11_copy_120)))))))))) (s_ldcw (pc := 96) w_1203 dX11_copy_96 (s_ir (pc := 99) rfl dX11_copy_99)))))))))))) (s_ldc (pc := 70) w_667 dX11_copy_70 (s_ir (pc := 72) rfl dX11_copy_72))))))) (s_ldcw (pc := 53) w_1202 dX11_copy_53 (s_ir (pc := 56) rfl dX11_copy_56)))))))))))))))))))) (s_ldc (pc := 16) w_551 dX11_copy_16 (s_ir (pc := 18) rfl dX11_copy_18))))))))))
noncomputable def X11_copy_f0 (c_X11_isWithin : Int32 → Int32 → PH → Option Rs) (c_X5_hasCells : Nat → Int32 → Int32 → PH → Option Rs) (t : Nat) (x1 : Int32) (x2 : Int32) (x3 : Int32) (x4 : Int32) (x5 : Int32) (h : PH) : Option Rs :=
  cI (c_X11_isWithin x1 4 h) fun v2 h1 =>
  if v2 = 0 then
    some (some (.inl (-1000000001)), h1)
  else
    cI (c_X11_isWithin x3 4 h1) fun v4 h3 =>
    if v4 = 0 then
      some (some (.inl (-1000000001)), h3)
    else
      nn (hR h3 646 t 0) fun r5 =>
      ix x1 (hL h3 38 r5) fun j6 =>
      nn (hR h3 646 t 0) fun r7 =>
      ix x3 (hL h3 38 r7) fun j8 =>
      nn (hR h3 2432 r5 j6) fun r9 =>
      if (hI h3 256 r9 0) = (-1) then
        some (some (.inl (-1000000011)), h3)
      else
        nn (hR h3 2432 r7 j8) fun r10 =>
        if (hI h3 256 r10 0) = (-1) then
          some (some (.inl (-1000000011)), h3)
        else
          nn (hR h3 2432 r5 j6) fun r11 =>
          nn (hR h3 2432 r7 j8) fun r12 =>
          if (hI h3 256 r11 0) = (hI h3 256 r12 0) then
            nn (hR h3 2432 r5 j6) fun r13 =>
            cI (c_X5_hasCells r13 x2 x5 h3) fun v15 h14 =>
            if v15 = 0 then
              some (some (.inl (-1000000013)), h14)
            else
              nn (hR h3 2432 r7 j8) fun r16 =>
              cI (c_X5_hasCells r16 x4 x5 h14) fun v18 h17 =>
              if v18 = 0 then
                some (some (.inl (-1000000013)), h17)
              else
                nn (hR h3 2432 r5 j6) fun r19 =>
                nn (hR h3 2432 r7 j8) fun r20 =>
                nn (hR h17 258 r19 0) fun r21 =>
                nn (hR h17 258 r20 0) fun r22 =>
                cpk (hL h17 26 r21) (hL h17 26 r22) x2 x4 x5 <|
                wr (pCp h17 1664 r21 x2.toNatClampNeg 1664 r22 x4.toNatClampNeg x5.toNatClampNeg) fun h23 =>
                some (some (.inl x5), h23)
          else
            some (some (.inl (-1000000012)), h3)
set_option maxRecDepth 100000 in
theorem X11_copy_l0 (c_X11_isWithin : Int32 → Int32 → PH → Option Rs) (c_X5_hasCells : Nat → Int32 → Int32 → PH → Option Rs) (t : Nat) (x1 : Int32) (x2 : Int32) (x3 : Int32) (x4 : Int32) (x5 : Int32) (h : PH) : X11_copy_b0 c_X11_isWithin c_X5_hasCells [some (.inr (10, t + 1)), some (.inl x1), some (.inl x2), some (.inl x3), some (.inl x4), some (.inl x5), none, none] [] h = X11_copy_f0 c_X11_isWithin c_X5_hasCells t x1 x2 x3 x4 x5 h := rfl
noncomputable def X11_copy_g0 (t : Nat) (x1 : Int32) (x2 : Int32) (x3 : Int32) (x4 : Int32) (x5 : Int32) (h : PH) : Option Rs := X11_copy_f0 X11_isWithin X5_hasCells t x1 x2 x3 x4 x5 h
noncomputable def X11_copy (t : Nat) (x1 : Int32) (x2 : Int32) (x3 : Int32) (x4 : Int32) (x5 : Int32) (h : PH) : Option Rs := X11_copy_g0 t x1 x2 x3 x4 x5 h
noncomputable abbrev X11_copy_F : List PV → PH → Option Rs := FW_T10IIIII (X11_copy)
set_option maxRecDepth 100000 in
theorem X11_copy_gd (l : Launch) : Gd l 1 yX11_copy cX11_copy 8 (some .int) (X11_copy_F)   := Gd_of (by decide +kernel) (fun z hzl as h r e => by
  obtain ⟨hst, e⟩ := gL_of e
  obtain ⟨t, q0, e⟩ := gT_of e
  obtain ⟨x1, q1, e⟩ := gI_of e
  obtain ⟨x2, q2, e⟩ := gI_of e
  obtain ⟨x3, q3, e⟩ := gI_of e
  obtain ⟨x4, q4, e⟩ := gI_of e
  obtain ⟨x5, q5, e⟩ := gI_of e
  rw [st_6 hst q0 q1 q2 q3 q4 q5]
  exact ⟨show 6 ≤ 8 by decide, X11_copy_s0 _ _ _ _ ((X11_copy_l0 X11_isWithin X5_hasCells t x1 x2 x3 x4 x5 h).trans e)⟩)
abbrev X5_becomeAs_x (z : CZ) : CX := mx RX5 cX5_becomeAs 2 0 none "becomeAs" z
noncomputable def X5_becomeAs_b0 : Kn := (a_al 0 (a_al 1 (a_gI 4 256 (a_pI 4 256 (a_al 0 (a_al 1 (a_gI 4 257 (a_pI 4 257 (a_al 1 (a_gR 4 258 26 (a_ic 0 (a_al 0 (a_gR 4 258 26 (a_ic 0 (a_ic 24 (a_cp 26 1664 26 1664 a_vr))))))))))))))))
set_option maxRecDepth 100000 in
theorem X5_becomeAs_s0 {z : CZ} : SK (X5_becomeAs_x z) 0 (X5_becomeAs_b0) := (s_aloadn (pc := 0) dX5_becomeAs_0 rfl (s_aloadn (pc := 1) dX5_becomeAs_1 rfl (s_gI (pc := 2) (f := 0) ko_4 (by decide) rfl rfl w_460 dX5_becomeAs_2 (s_pI (pc := 5) (f := 0) ko_4 (by decide) rfl rfl rfl (by decide +kernel) w_460 dX5_becomeAs_5 (s_aloadn (pc := 8) dX5_becomeAs_8 rfl (s_aloadn (pc := 9) dX5_becomeAs_9 rfl (s_gI (pc := 10) (f := 1) ko_4 (by decide) rfl rfl w_462 dX5_becomeAs_10 (s_pI (pc := 13) (f := 1) ko_4 (by decide) rfl rfl rfl (by decide +kernel) w_462 dX5_becomeAs_13 (s_aloadn (pc := 16) dX5_becomeAs_16 rfl (s_gR (pc := 17) (f := 2) ko_4 (by decide) rfl rfl w_465 dX5_becomeAs_17 (s_iconst (pc := 20) dX5_becomeAs_20 c_ic_0 (s_aloadn (pc := 21) dX5_becomeAs_21 rfl (s_gR (pc := 22) (f := 2) ko_4 (by decide) rfl rfl w_465 dX5_becomeAs_22 (s_iconst (pc := 25) dX5_becomeAs_25 c_ic_0 (s_bipush (pc := 26) dX5_becomeAs_26 c_bp_24 (s_cpS (pc := 28) w_1234 w_919 w_918 w_98 dX5_becomeAs_28 (s_vr (pc := 31) rfl dX5_becomeAs_31)))))))))))))))))
noncomputable def X5_becomeAs_f0 (t : Nat) (x1 : Nat) (h : PH) : Option Rs :=
  nn x1 fun r1 =>
  wr (pI h 256 t 0 (hI h 256 r1 0)) fun h2 =>
  nn x1 fun r3 =>
  wr (pI h2 257 t 0 (hI h2 257 r3 0)) fun h4 =>
  nn x1 fun r5 =>
  nn (hR h4 258 r5 0) fun r6 =>
  nn (hR h4 258 t 0) fun r7 =>
  cpk (hL h4 26 r6) (hL h4 26 r7) 0 0 24 <|
  wr (pCp h4 1664 r6 (0 : Int32).toNatClampNeg 1664 r7 (0 : Int32).toNatClampNeg (24 : Int32).toNatClampNeg) fun h8 =>
  some (none, h8)
set_option maxRecDepth 100000 in
theorem X5_becomeAs_l0 (t : Nat) (x1 : Nat) (h : PH) : X5_becomeAs_b0 [some (.inr (4, t + 1)), some (.inr (4, x1))] [] h = X5_becomeAs_f0 t x1 h := rfl
noncomputable def X5_becomeAs_g0 (t : Nat) (x1 : Nat) (h : PH) : Option Rs := X5_becomeAs_f0 t x1 h
noncomputable def X5_becomeAs (t : Nat) (x1 : Nat) (h : PH) : Option Rs := X5_becomeAs_g0 t x1 h
noncomputable abbrev X5_becomeAs_F : List PV → PH → Option Rs := FW_T4R4 (X5_becomeAs)
set_option maxRecDepth 100000 in
theorem X5_becomeAs_gd (l : Launch) : Gd l 0 yX5_becomeAs cX5_becomeAs 2 none (X5_becomeAs_F)   := Gd_of (by decide +kernel) (fun z hzl as h r e => by
  obtain ⟨hst, e⟩ := gL_of e
  obtain ⟨t, q0, e⟩ := gT_of e
  obtain ⟨x1, q1, e⟩ := gR_of e
  rw [st_2 hst q0 q1]
  exact ⟨show 2 ≤ 2 by decide, X5_becomeAs_s0 _ _ _ _ ((X5_becomeAs_l0 t x1 h).trans e)⟩)
abbrev X11_lay_x (z : CZ) : CX := mx RX11 cX11_lay 6 2 (some .int) "lay" z
noncomputable def X11_lay_b0 (c_X11_isWithin : Int32 → Int32 → PH → Option Rs) (c_X1_hasSign : Nat → Int32 → PH → Option Rs) (k35 : Kn) : Kn := (a_il 1 (a_ic 5 (a_sI 2 (FW_II c_X11_isWithin) (a_z (a_ic (-1000000001) a_ir) (a_il 2 (a_ic 4 (a_sI 2 (FW_II c_X11_isWithin) (a_z (a_ic (-1000000001) a_ir) (a_il 2 (a_ic 1 (a_eq (a_al 0 (a_gR 10 640 1 (a_il 3 (a_vI 1 1 (FW_T1I c_X1_hasSign) (a_z (a_ic (-1000000001) a_ir) k35))))) k35)))))))))))
set_option maxRecDepth 100000 in
theorem X11_lay_s0 {z : CZ} {k35 : Kn} (hk35 : SK (X11_lay_x z) 35 k35) : SK (X11_lay_x z) 0 (X11_lay_b0 X11_isWithin X1_hasSign k35) := (s_iloadn (pc := 0) dX11_lay_0 rfl (s_iconst (pc := 1) dX11_lay_1 c_ic_5 (s_sI (pc := 2) (run_static (X11_isWithin_gd _) (show 0 < 2 by decide) cy_X11_isWithin w_549 w_552 dX11_lay_2) (s_ifeq (pc := 5) dX11_lay_5 (by decide) (s_ldc (pc := 16) w_551 dX11_lay_16 (s_ir (pc := 18) rfl dX11_lay_18)) (s_iloadn (pc := 8) dX11_lay_8 rfl (s_iconst (pc := 9) dX11_lay_9 c_ic_4 (s_sI (pc := 10) (run_static (X11_isWithin_gd _) (show 0 < 2 by decide) cy_X11_isWithin w_549 w_552 dX11_lay_10) (s_ifne (pc := 13) dX11_lay_13 (by decide) (s_iloadn (pc := 19) dX11_lay_19 rfl (s_iconst (pc := 20) dX11_lay_20 c_ic_1 (s_cmpne (pc := 21) dX11_lay_21 (by decide) hk35 (s_aloadn (pc := 24) dX11_lay_24 rfl (s_gR (pc := 25) (f := 0) ko_10 (by decide) rfl rfl w_504 dX11_lay_25 (s_iloadn (pc := 28) dX11_lay_28 rfl (s_vI (pc := 29) (run_virtual (X1_hasSign_gd _) (show 1 < 2 by decide) cy_X1_hasSign (by decide) rfl w_633 w_634 w_632 dX11_lay_29) (s_ifeq (pc := 32) dX11_lay_32 (by decide) (s_ldc (pc := 48) w_551 dX11_lay_48 (s_ir (pc := 50) rfl dX11_lay_50)) hk35)))))))) (s_ldc (pc := 16) w_551 dX11_lay_16 (s_ir (pc := 18) rfl dX11_lay_18))))))))))
noncomputable def X11_lay_b35 (c_X11_isWithin : Int32 → Int32 → PH → Option Rs) (k51 : Kn) : Kn := (a_il 2 (a_ic 2 (a_eq (a_il 3 (a_ic 4 (a_sI 2 (FW_II c_X11_isWithin) (a_z (a_ic (-1000000001) a_ir) k51)))) k51)))
set_option maxRecDepth 100000 in
theorem X11_lay_s35 {z : CZ} {k51 : Kn} (hk51 : SK (X11_lay_x z) 51 k51) : SK (X11_lay_x z) 35 (X11_lay_b35 X11_isWithin k51) := (s_iloadn (pc := 35) dX11_lay_35 rfl (s_iconst (pc := 36) dX11_lay_36 c_ic_2 (s_cmpne (pc := 37) dX11_lay_37 (by decide) hk51 (s_iloadn (pc := 40) dX11_lay_40 rfl (s_iconst (pc := 41) dX11_lay_41 c_ic_4 (s_sI (pc := 42) (run_static (X11_isWithin_gd _) (show 0 < 2 by decide) cy_X11_isWithin w_549 w_552 dX11_lay_42) (s_ifne (pc := 45) dX11_lay_45 (by decide) hk51 (s_ldc (pc := 48) w_551 dX11_lay_48 (s_ir (pc := 50) rfl dX11_lay_50)))))))))
noncomputable def X11_lay_b51 (k73 : Kn) : Kn := (a_il 2 (a_ic 2 (a_eq (a_al 0 (a_gR 10 646 38 (a_il 3 (a_rald 38 2432 4 (a_gI 4 256 (a_ic (-1) (a_eq (a_ic (-1000000011) a_ir) k73))))))) k73)))
set_option maxRecDepth 100000 in
theorem X11_lay_s51 {z : CZ} {k73 : Kn} (hk73 : SK (X11_lay_x z) 73 k73) : SK (X11_lay_x z) 51 (X11_lay_b51 k73) := (s_iloadn (pc := 51) dX11_lay_51 rfl (s_iconst (pc := 52) dX11_lay_52 c_ic_2 (s_cmpne (pc := 53) dX11_lay_53 (by decide) hk73 (s_aloadn (pc := 56) dX11_lay_56 rfl (s_gR (pc := 57) (f := 6) ko_10 (by decide) rfl rfl w_510 dX11_lay_57 (s_iloadn (pc := 60) dX11_lay_60 rfl (s_rald (pc := 61) (by decide) (by decide) rfl rfl rfl dX11_lay_61 (s_gI (pc := 62) (f := 0) ko_4 (by decide) rfl rfl w_461 dX11_lay_62 (s_iconst (pc := 65) dX11_lay_65 c_ic_m1 (s_cmpne (pc := 66) dX11_lay_66 (by decide) hk73 (s_ldcw (pc := 69) w_1202 dX11_lay_69 (s_ir (pc := 72) rfl dX11_lay_72))))))))))))
noncomputable def X11_lay_b73 (c_X5_becomeAs : Nat → Nat → PH → Option Rs) : Kn := (a_al 0 (a_gR 10 647 39 (a_il 1 (a_rald 39 2496 6 (a_as 4 (a_al 4 (a_gI 6 384 (a_is 5 (a_al 4 (a_il 2 (a_pI 6 384 (a_il 2 (a_ic 1 (a_eq (a_al 4 (a_al 0 (a_gR 10 640 1 (a_gR 1 68 18 (a_il 3 (a_rald 18 1152 5 (a_gI 5 321 (a_pI 6 385 (a_al 4 (a_al 0 (a_gR 10 640 1 (a_gR 1 68 18 (a_il 3 (a_rald 18 1152 5 (a_gI 5 324 (a_pI 6 386 (a_il 5 a_ir))))))))))))))))) (a_il 2 (a_ic 2 (a_eq (a_al 4 (a_gR 6 388 4 (a_al 0 (a_gR 10 646 38 (a_il 3 (a_rald 38 2432 4 (a_vV 4 1 (FW_T4R4 c_X5_becomeAs) (a_il 5 a_ir)))))))) (a_al 4 (a_il 3 (a_pI 6 387 (a_il 5 a_ir)))))))))))))))))))))
set_option maxRecDepth 100000 in
theorem X11_lay_s73 {z : CZ} : SK (X11_lay_x z) 73 (X11_lay_b73 X5_becomeAs) := (s_aloadn (pc := 73) dX11_lay_73 rfl (s_gR (pc := 74) (f := 7) ko_10 (by decide) rfl rfl w_511 dX11_lay_74 (s_iloadn (pc := 77) dX11_lay_77 rfl (s_rald (pc := 78) (by decide) (by decide) rfl rfl rfl dX11_lay_78 (s_astore (pc := 79) dX11_lay_79 (show 4 < 6 by decide) (s_aload (pc := 81) dX11_lay_81 (s_gI (pc := 83) (f := 0) ko_6 (by decide) rfl rfl w_484 dX11_lay_83 (s_istore (pc := 86) dX11_lay_86 (show 5 < 6 by decide) (s_aload (pc := 88) dX11_lay_88 (s_iloadn (pc := 90) dX11_lay_90 rfl (s_pI (pc := 91) (f := 0) ko_6 (by decide) rfl rfl rfl (by decide +kernel) w_484 dX11_lay_91 (s_iloadn (pc := 94) dX11_lay_94 rfl (s_iconst (pc := 95) dX11_lay_95 c_ic_1 (s_cmpne (pc := 96) dX11_lay_96 (by decide) (s_iloadn (pc := 136) dX11_lay_136 rfl (s_iconst (pc := 137) dX11_lay_137 c_ic_2 (s_cmpne (pc := 138) dX11_lay_138 (by decide) (s_aload (pc := 158) dX11_lay_158 (s_iloadn (pc := 160) dX11_lay_160 rfl (s_pI (pc := 161) (f := 3) ko_6 (by decide) rfl rfl rfl (by decide +kernel) w_490 dX11_lay_161 (s_iload (pc := 164) dX11_lay_164 (s_ir (pc := 166) rfl dX11_lay_166))))) (s_aload (pc := 141) dX11_lay_141 (s_gR (pc := 143) (f := 4) ko_6 (by decide) rfl rfl w_492 dX11_lay_143 (s_aloadn (pc := 146) dX11_lay_146 rfl (s_gR (pc := 147) (f := 6) ko_10 (by decide) rfl rfl w_510 dX11_lay_147 (s_iloadn (pc := 150) dX11_lay_150 rfl (s_rald (pc := 151) (by decide) (by decide) rfl rfl rfl dX11_lay_151 (s_vV (pc := 152) (run_virtual (X5_becomeAs_gd _) (show 0 < 2 by decide) cy_X5_becomeAs (by decide) rfl w_1231 w_1232 w_1230 dX11_lay_152) (s_goto (pc := 155) dX11_lay_155 (by decide) (s_iload (pc := 164) dX11_lay_164 (s_ir (pc := 166) rfl dX11_lay_166))))))))))))) (s_aload (pc := 99) dX11_lay_99 (s_aloadn (pc := 101) dX11_lay_101 rfl (s_gR (pc := 102) (f := 0) ko_10 (by decide) rfl rfl w_504 dX11_lay_102 (s_gR (pc := 105) (f := 4) ko_1 (by decide) rfl rfl w_233 dX11_lay_105 (s_iloadn (pc := 108) dX11_lay_108 rfl (s_rald (pc := 109) (by decide) (by decide) rfl rfl rfl dX11_lay_109 (s_gI (pc := 110) (f := 1) ko_5 (by decide) rfl rfl w_174 dX11_lay_110 (s_pI (pc := 113) (f := 1) ko_6 (by decide) rfl rfl rfl (by decide +kernel) w_486 dX11_lay_113 (s_aload (pc := 116) dX11_lay_116 (s_aloadn (pc := 118) dX11_lay_118 rfl (s_gR (pc := 119) (f := 0) ko_10 (by decide) rfl rfl w_504 dX11_lay_119 (s_gR (pc := 122) (f := 4) ko_1 (by decide) rfl rfl w_233 dX11_lay_122 (s_iloadn (pc := 125) dX11_lay_125 rfl (s_rald (pc := 126) (by decide) (by decide) rfl rfl rfl dX11_lay_126 (s_gI (pc := 127) (f := 4) ko_5 (by decide) rfl rfl w_185 dX11_lay_127 (s_pI (pc := 130) (f := 2) ko_6 (by decide) rfl rfl rfl (by decide +kernel) w_488 dX11_lay_130 (s_goto (pc := 133) dX11_lay_133 (by decide) (s_iload (pc := 164) dX11_lay_164 (s_ir (pc := 166) rfl dX11_lay_166)))))))))))))))))))))))))))))))))
noncomputable def X11_lay_u35 (g : Nat → Int32 → Int32 → Int32 → PH → Option Rs) : Kn := fun ls st h => gL 0 st (gT 10 ls 0 fun t => gI ls 1 fun x1 => gI ls 2 fun x2 => gI ls 3 fun x3 => g t x1 x2 x3 h)
noncomputable def X11_lay_u51 (g : Nat → Int32 → Int32 → Int32 → PH → Option Rs) : Kn := fun ls st h => gL 0 st (gT 10 ls 0 fun t => gI ls 1 fun x1 => gI ls 2 fun x2 => gI ls 3 fun x3 => g t x1 x2 x3 h)
noncomputable def X11_lay_u73 (g : Nat → Int32 → Int32 → Int32 → PH → Option Rs) : Kn := fun ls st h => gL 0 st (gT 10 ls 0 fun t => gI ls 1 fun x1 => gI ls 2 fun x2 => gI ls 3 fun x3 => g t x1 x2 x3 h)
noncomputable def X11_lay_f0 (c_X11_isWithin : Int32 → Int32 → PH → Option Rs) (c_X1_hasSign : Nat → Int32 → PH → Option Rs) (g35 : Nat → Int32 → Int32 → Int32 → PH → Option Rs) (t : Nat) (x1 : Int32) (x2 : Int32) (x3 : Int32) (h : PH) : Option Rs :=
  cI (c_X11_isWithin x1 5 h) fun v2 h1 =>
  if v2 = 0 then
    some (some (.inl (-1000000001)), h1)
  else
    cI (c_X11_isWithin x2 4 h1) fun v4 h3 =>
    if v4 = 0 then
      some (some (.inl (-1000000001)), h3)
    else
      if x2 = 1 then
        nn (hR h3 640 t 0) fun r5 =>
        cI (c_X1_hasSign r5 x3 h3) fun v7 h6 =>
        if v7 = 0 then
          some (some (.inl (-1000000001)), h6)
        else
          g35 t x1 x2 x3 h6
      else
        g35 t x1 x2 x3 h3
set_option maxRecDepth 100000 in
theorem X11_lay_l0 (c_X11_isWithin : Int32 → Int32 → PH → Option Rs) (c_X1_hasSign : Nat → Int32 → PH → Option Rs) (g35 : Nat → Int32 → Int32 → Int32 → PH → Option Rs) (t : Nat) (x1 : Int32) (x2 : Int32) (x3 : Int32) (h : PH) : X11_lay_b0 c_X11_isWithin c_X1_hasSign (X11_lay_u35 g35) [some (.inr (10, t + 1)), some (.inl x1), some (.inl x2), some (.inl x3), none, none] [] h = X11_lay_f0 c_X11_isWithin c_X1_hasSign g35 t x1 x2 x3 h := rfl
theorem X11_lay_m0 {c_X11_isWithin : Int32 → Int32 → PH → Option Rs} {c_X1_hasSign : Nat → Int32 → PH → Option Rs} {g35 G35 : Nat → Int32 → Int32 → Int32 → PH → Option Rs} (hg35 : ∀ a0 a1 a2 a3 a4, Mo (g35 a0 a1 a2 a3 a4) (G35 a0 a1 a2 a3 a4)) (t : Nat) (x1 : Int32) (x2 : Int32) (x3 : Int32) (h : PH) : Mo (X11_lay_f0 c_X11_isWithin c_X1_hasSign g35 t x1 x2 x3 h) (X11_lay_f0 c_X11_isWithin c_X1_hasSign G35 t x1 x2 x3 h) := (mo_cI fun v2 h1 => (mo_if mo_rf (mo_cI fun v4 h3 => (mo_if mo_rf (mo_if (mo_nn fun r5 => (mo_cI fun v7 h6 => (mo_if mo_rf (hg35 t x1 x2 x3 h6)))) (hg35 t x1 x2 x3 h3))))))
noncomputable def X11_lay_f35 (c_X11_isWithin : Int32 → Int32 → PH → Option Rs) (g51 : Nat → Int32 → Int32 → Int32 → PH → Option Rs) (t : Nat) (x1 : Int32) (x2 : Int32) (x3 : Int32) (h : PH) : Option Rs :=
  if x2 = 2 then
    cI (c_X11_isWithin x3 4 h) fun v9 h8 =>
    if v9 = 0 then
      some (some (.inl (-1000000001)), h8)
    else
      g51 t x1 x2 x3 h8
  else
    g51 t x1 x2 x3 h
set_option maxRecDepth 100000 in
theorem X11_lay_l35 (c_X11_isWithin : Int32 → Int32 → PH → Option Rs) (g51 : Nat → Int32 → Int32 → Int32 → PH → Option Rs) (t : Nat) (x1 : Int32) (x2 : Int32) (x3 : Int32) (h : PH) : X11_lay_b35 c_X11_isWithin (X11_lay_u51 g51) [some (.inr (10, t + 1)), some (.inl x1), some (.inl x2), some (.inl x3), none, none] [] h = X11_lay_f35 c_X11_isWithin g51 t x1 x2 x3 h := rfl
theorem X11_lay_m35 {c_X11_isWithin : Int32 → Int32 → PH → Option Rs} {g51 G51 : Nat → Int32 → Int32 → Int32 → PH → Option Rs} (hg51 : ∀ a0 a1 a2 a3 a4, Mo (g51 a0 a1 a2 a3 a4) (G51 a0 a1 a2 a3 a4)) (t : Nat) (x1 : Int32) (x2 : Int32) (x3 : Int32) (h : PH) : Mo (X11_lay_f35 c_X11_isWithin g51 t x1 x2 x3 h) (X11_lay_f35 c_X11_isWithin G51 t x1 x2 x3 h) := (mo_if (mo_cI fun v9 h8 => (mo_if mo_rf (hg51 t x1 x2 x3 h8))) (hg51 t x1 x2 x3 h))
theorem X11_lay_w35 {z : CZ} {g51 : Nat → Int32 → Int32 → Int32 → PH → Option Rs} (hk51 : SK (X11_lay_x z) 51 (X11_lay_u51 g51)) : SK (X11_lay_x z) 35 (X11_lay_u35 (X11_lay_f35 X11_isWithin g51)) := by
  intro ls st h r e
  obtain ⟨hst, e⟩ := gL_of e
  obtain ⟨t, q0, e⟩ := gT_of e
  obtain ⟨x1, q1, e⟩ := gI_of e
  obtain ⟨x2, q2, e⟩ := gI_of e
  obtain ⟨x3, q3, e⟩ := gI_of e
  rw [st_0 hst]
  exact WK.sub (canon := [some (.inr (10, t + 1)), some (.inl x1), some (.inl x2), some (.inl x3), none, none]) rfl ⟨q0, q1, q2, q3, trivial⟩ (X11_lay_s35 hk51 _ _ _ _ ((X11_lay_l35 X11_isWithin g51 t x1 x2 x3 h).trans e))
noncomputable def X11_lay_f51 (g73 : Nat → Int32 → Int32 → Int32 → PH → Option Rs) (t : Nat) (x1 : Int32) (x2 : Int32) (x3 : Int32) (h : PH) : Option Rs :=
  if x2 = 2 then
    nn (hR h 646 t 0) fun r10 =>
    ix x3 (hL h 38 r10) fun j11 =>
    nn (hR h 2432 r10 j11) fun r12 =>
    if (hI h 256 r12 0) = (-1) then
      some (some (.inl (-1000000011)), h)
    else
      g73 t x1 x2 x3 h
  else
    g73 t x1 x2 x3 h
set_option maxRecDepth 100000 in
theorem X11_lay_l51 (g73 : Nat → Int32 → Int32 → Int32 → PH → Option Rs) (t : Nat) (x1 : Int32) (x2 : Int32) (x3 : Int32) (h : PH) : X11_lay_b51 (X11_lay_u73 g73) [some (.inr (10, t + 1)), some (.inl x1), some (.inl x2), some (.inl x3), none, none] [] h = X11_lay_f51 g73 t x1 x2 x3 h := rfl
theorem X11_lay_m51 {g73 G73 : Nat → Int32 → Int32 → Int32 → PH → Option Rs} (hg73 : ∀ a0 a1 a2 a3 a4, Mo (g73 a0 a1 a2 a3 a4) (G73 a0 a1 a2 a3 a4)) (t : Nat) (x1 : Int32) (x2 : Int32) (x3 : Int32) (h : PH) : Mo (X11_lay_f51 g73 t x1 x2 x3 h) (X11_lay_f51 G73 t x1 x2 x3 h) := (mo_if (mo_nn fun r10 => (mo_ix fun j11 => (mo_nn fun r12 => (mo_if mo_rf (hg73 t x1 x2 x3 h))))) (hg73 t x1 x2 x3 h))
theorem X11_lay_w51 {z : CZ} {g73 : Nat → Int32 → Int32 → Int32 → PH → Option Rs} (hk73 : SK (X11_lay_x z) 73 (X11_lay_u73 g73)) : SK (X11_lay_x z) 51 (X11_lay_u51 (X11_lay_f51 g73)) := by
  intro ls st h r e
  obtain ⟨hst, e⟩ := gL_of e
  obtain ⟨t, q0, e⟩ := gT_of e
  obtain ⟨x1, q1, e⟩ := gI_of e
  obtain ⟨x2, q2, e⟩ := gI_of e
  obtain ⟨x3, q3, e⟩ := gI_of e
  rw [st_0 hst]
  exact WK.sub (canon := [some (.inr (10, t + 1)), some (.inl x1), some (.inl x2), some (.inl x3), none, none]) rfl ⟨q0, q1, q2, q3, trivial⟩ (X11_lay_s51 hk73 _ _ _ _ ((X11_lay_l51 g73 t x1 x2 x3 h).trans e))
noncomputable def X11_lay_f73 (c_X5_becomeAs : Nat → Nat → PH → Option Rs) (t : Nat) (x1 : Int32) (x2 : Int32) (x3 : Int32) (h : PH) : Option Rs :=
  nn (hR h 647 t 0) fun r13 =>
  ix x1 (hL h 39 r13) fun j14 =>
  nn (hR h 2496 r13 j14) fun r15 =>
  nn (hR h 2496 r13 j14) fun r16 =>
  wr (pI h 384 r16 0 x2) fun h17 =>
  if x2 = 1 then
    nn (hR h17 640 t 0) fun r25 =>
    nn (hR h17 68 r25 0) fun r26 =>
    ix x3 (hL h17 18 r26) fun j27 =>
    nn (hR h17 1152 r26 j27) fun r28 =>
    nn (hR h 2496 r13 j14) fun r29 =>
    wr (pI h17 385 r29 0 (hI h17 321 r28 0)) fun h30 =>
    nn (hR h30 640 t 0) fun r31 =>
    nn (hR h30 68 r31 0) fun r32 =>
    ix x3 (hL h30 18 r32) fun j33 =>
    nn (hR h30 1152 r32 j33) fun r34 =>
    nn (hR h 2496 r13 j14) fun r35 =>
    wr (pI h30 386 r35 0 (hI h30 324 r34 0)) fun h36 =>
    some (some (.inl (hI h 384 r15 0)), h36)
  else
    if x2 = 2 then
      nn (hR h 2496 r13 j14) fun r20 =>
      nn (hR h17 646 t 0) fun r21 =>
      ix x3 (hL h17 38 r21) fun j22 =>
      nn (hR h17 388 r20 0) fun r23 =>
      cV (c_X5_becomeAs r23 (hR h17 2432 r21 j22) h17) fun h24 =>
      some (some (.inl (hI h 384 r15 0)), h24)
    else
      nn (hR h 2496 r13 j14) fun r18 =>
      wr (pI h17 387 r18 0 x3) fun h19 =>
      some (some (.inl (hI h 384 r15 0)), h19)
set_option maxRecDepth 100000 in
theorem X11_lay_l73 (c_X5_becomeAs : Nat → Nat → PH → Option Rs) (t : Nat) (x1 : Int32) (x2 : Int32) (x3 : Int32) (h : PH) : X11_lay_b73 c_X5_becomeAs [some (.inr (10, t + 1)), some (.inl x1), some (.inl x2), some (.inl x3), none, none] [] h = X11_lay_f73 c_X5_becomeAs t x1 x2 x3 h := rfl
theorem X11_lay_w73 {z : CZ} : SK (X11_lay_x z) 73 (X11_lay_u73 (X11_lay_f73 X5_becomeAs)) := by
  intro ls st h r e
  obtain ⟨hst, e⟩ := gL_of e
  obtain ⟨t, q0, e⟩ := gT_of e
  obtain ⟨x1, q1, e⟩ := gI_of e
  obtain ⟨x2, q2, e⟩ := gI_of e
  obtain ⟨x3, q3, e⟩ := gI_of e
  rw [st_0 hst]
  exact WK.sub (canon := [some (.inr (10, t + 1)), some (.inl x1), some (.inl x2), some (.inl x3), none, none]) rfl ⟨q0, q1, q2, q3, trivial⟩ (X11_lay_s73 _ _ _ _ ((X11_lay_l73 X5_becomeAs t x1 x2 x3 h).trans e))
noncomputable def X11_lay_g73 (t : Nat) (x1 : Int32) (x2 : Int32) (x3 : Int32) (h : PH) : Option Rs := X11_lay_f73 X5_becomeAs t x1 x2 x3 h
noncomputable def X11_lay_g51 (t : Nat) (x1 : Int32) (x2 : Int32) (x3 : Int32) (h : PH) : Option Rs := X11_lay_f51 (X11_lay_g73) t x1 x2 x3 h
noncomputable def X11_lay_g35 (t : Nat) (x1 : Int32) (x2 : Int32) (x3 : Int32) (h : PH) : Option Rs := X11_lay_f35 X11_isWithin (X11_lay_g51) t x1 x2 x3 h
noncomputable def X11_lay_g0 (t : Nat) (x1 : Int32) (x2 : Int32) (x3 : Int32) (h : PH) : Option Rs := X11_lay_f0 X11_isWithin X1_hasSign (X11_lay_g35) t x1 x2 x3 h
theorem X11_lay_v73 {z : CZ} : SK (X11_lay_x z) 73 (X11_lay_u73 (X11_lay_g73)) := X11_lay_w73
theorem X11_lay_v51 {z : CZ} : SK (X11_lay_x z) 51 (X11_lay_u51 (X11_lay_g51)) := X11_lay_w51 (X11_lay_v73)
theorem X11_lay_v35 {z : CZ} : SK (X11_lay_x z) 35 (X11_lay_u35 (X11_lay_g35)) := X11_lay_w35 (X11_lay_v51)
noncomputable def X11_lay (t : Nat) (x1 : Int32) (x2 : Int32) (x3 : Int32) (h : PH) : Option Rs := X11_lay_g0 t x1 x2 x3 h
noncomputable abbrev X11_lay_F : List PV → PH → Option Rs := FW_T10III (X11_lay)
set_option maxRecDepth 100000 in
theorem X11_lay_gd (l : Launch) : Gd l 2 yX11_lay cX11_lay 6 (some .int) (X11_lay_F)   := Gd_of (by decide +kernel) (fun z hzl as h r e => by
  obtain ⟨hst, e⟩ := gL_of e
  obtain ⟨t, q0, e⟩ := gT_of e
  obtain ⟨x1, q1, e⟩ := gI_of e
  obtain ⟨x2, q2, e⟩ := gI_of e
  obtain ⟨x3, q3, e⟩ := gI_of e
  rw [st_4 hst q0 q1 q2 q3]
  exact ⟨show 4 ≤ 6 by decide, X11_lay_s0 (X11_lay_v35) _ _ _ _ ((X11_lay_l0 X11_isWithin X1_hasSign (X11_lay_g35) t x1 x2 x3 h).trans e)⟩)
abbrev X11_ask_x (z : CZ) : CX := mx RX11 cX11_ask 4 31 (some .int) "ask" z
noncomputable def X11_ask_b0 (c_X11_isWithin : Int32 → Int32 → PH → Option Rs) (c_X6_isOfKind : Int32 → Int32 → PH → Option Rs) (c_pr3 : List PV → PH → Option Rs) : Kn := (a_il 1 (a_ic 5 (a_sI 2 (FW_II c_X11_isWithin) (a_z (a_ic (-1000000001) a_ir) (a_il 2 (a_ic 6 (a_sI 2 (FW_II c_X11_isWithin) (a_z (a_ic (-1000000001) a_ir) (a_al 0 (a_gR 10 647 39 (a_il 1 (a_rald 39 2496 6 (a_as 3 (a_al 3 (a_gI 6 384 (a_z (a_ic (-1000000011) a_ir) (a_al 3 (a_gI 6 384 (a_ic 1 (a_eq (a_al 3 (a_gI 6 385 (a_il 2 (a_sI 2 (FW_II c_X6_isOfKind) (a_z (a_ic (-1000000012) a_ir) (a_al 3 (a_gI 6 385 (a_al 3 (a_gI 6 386 (a_sI 2 c_pr3 a_ir)))))))))) (a_ic (-1000000012) a_ir)))))))))))))))))))))
set_option maxRecDepth 100000 in
theorem X11_ask_s0 {z : CZ} : SK (X11_ask_x z) 0 (X11_ask_b0 X11_isWithin X6_isOfKind pr3) := (s_iloadn (pc := 0) dX11_ask_0 rfl (s_iconst (pc := 1) dX11_ask_1 c_ic_5 (s_sI (pc := 2) (run_static (X11_isWithin_gd _) (show 0 < 31 by decide) cy_X11_isWithin w_549 w_552 dX11_ask_2) (s_ifeq (pc := 5) dX11_ask_5 (by decide) (s_ldc (pc := 17) w_551 dX11_ask_17 (s_ir (pc := 19) rfl dX11_ask_19)) (s_iloadn (pc := 8) dX11_ask_8 rfl (s_bipush (pc := 9) dX11_ask_9 c_bp_6 (s_sI (pc := 11) (run_static (X11_isWithin_gd _) (show 0 < 31 by decide) cy_X11_isWithin w_549 w_552 dX11_ask_11) (s_ifne (pc := 14) dX11_ask_14 (by decide) (s_aloadn (pc := 20) dX11_ask_20 rfl (s_gR (pc := 21) (f := 7) ko_10 (by decide) rfl rfl w_511 dX11_ask_21 (s_iloadn (pc := 24) dX11_ask_24 rfl (s_rald (pc := 25) (by decide) (by decide) rfl rfl rfl dX11_ask_25 (s_astoren (pc := 26) dX11_ask_26 rfl (show 3 < 4 by decide) (s_aloadn (pc := 27) dX11_ask_27 rfl (s_gI (pc := 28) (f := 0) ko_6 (by decide) rfl rfl w_484 dX11_ask_28 (s_ifne (pc := 31) dX11_ask_31 (by decide) (s_aloadn (pc := 38) dX11_ask_38 rfl (s_gI (pc := 39) (f := 0) ko_6 (by decide) rfl rfl w_484 dX11_ask_39 (s_iconst (pc := 42) dX11_ask_42 c_ic_1 (s_cmpne (pc := 43) dX11_ask_43 (by decide) (s_ldc (pc := 57) w_667 dX11_ask_57 (s_ir (pc := 59) rfl dX11_ask_59)) (s_aloadn (pc := 46) dX11_ask_46 rfl (s_gI (pc := 47) (f := 1) ko_6 (by decide) rfl rfl w_486 dX11_ask_47 (s_iloadn (pc := 50) dX11_ask_50 rfl (s_sI (pc := 51) (run_static (X6_isOfKind_gd _) (show 1 < 31 by decide) cy_X6_isOfKind w_662 w_661 dX11_ask_51) (s_ifne (pc := 54) dX11_ask_54 (by decide) (s_aloadn (pc := 60) dX11_ask_60 rfl (s_gI (pc := 61) (f := 1) ko_6 (by decide) rfl rfl w_486 dX11_ask_61 (s_aloadn (pc := 64) dX11_ask_64 rfl (s_gI (pc := 65) (f := 2) ko_6 (by decide) rfl rfl w_488 dX11_ask_65 (s_sI (pc := 68) (run_staticN (pr3_gd _) (show 30 < 31 by decide) cy_X6_priceOf w_645 nw_644 dX11_ask_68) (s_ir (pc := 71) rfl dX11_ask_71)))))) (s_ldc (pc := 57) w_667 dX11_ask_57 (s_ir (pc := 59) rfl dX11_ask_59))))))))))) (s_ldcw (pc := 34) w_1202 dX11_ask_34 (s_ir (pc := 37) rfl dX11_ask_37)))))))))) (s_ldc (pc := 17) w_551 dX11_ask_17 (s_ir (pc := 19) rfl dX11_ask_19))))))))))
noncomputable def X11_ask_f0 (c_X11_isWithin : Int32 → Int32 → PH → Option Rs) (c_X6_isOfKind : Int32 → Int32 → PH → Option Rs) (c_pr3 : List PV → PH → Option Rs) (t : Nat) (x1 : Int32) (x2 : Int32) (h : PH) : Option Rs :=
  cI (c_X11_isWithin x1 5 h) fun v2 h1 =>
  if v2 = 0 then
    some (some (.inl (-1000000001)), h1)
  else
    cI (c_X11_isWithin x2 6 h1) fun v4 h3 =>
    if v4 = 0 then
      some (some (.inl (-1000000001)), h3)
    else
      nn (hR h3 647 t 0) fun r5 =>
      ix x1 (hL h3 39 r5) fun j6 =>
      nn (hR h3 2496 r5 j6) fun r7 =>
      if (hI h3 384 r7 0) = 0 then
        some (some (.inl (-1000000011)), h3)
      else
        nn (hR h3 2496 r5 j6) fun r8 =>
        if (hI h3 384 r8 0) = 1 then
          nn (hR h3 2496 r5 j6) fun r9 =>
          cI (c_X6_isOfKind (hI h3 385 r9 0) x2 h3) fun v11 h10 =>
          if v11 = 0 then
            some (some (.inl (-1000000012)), h10)
          else
            nn (hR h3 2496 r5 j6) fun r12 =>
            nn (hR h3 2496 r5 j6) fun r13 =>
            cI (c_pr3 [.inl (hI h10 385 r12 0), .inl (hI h10 386 r13 0)] h10) fun v15 h14 =>
            some (some (.inl v15), h14)
        else
          some (some (.inl (-1000000012)), h3)
set_option maxRecDepth 100000 in
theorem X11_ask_l0 (c_X11_isWithin : Int32 → Int32 → PH → Option Rs) (c_X6_isOfKind : Int32 → Int32 → PH → Option Rs) (c_pr3 : List PV → PH → Option Rs) (t : Nat) (x1 : Int32) (x2 : Int32) (h : PH) : X11_ask_b0 c_X11_isWithin c_X6_isOfKind c_pr3 [some (.inr (10, t + 1)), some (.inl x1), some (.inl x2), none] [] h = X11_ask_f0 c_X11_isWithin c_X6_isOfKind c_pr3 t x1 x2 h := rfl
noncomputable def X11_ask_g0 (t : Nat) (x1 : Int32) (x2 : Int32) (h : PH) : Option Rs := X11_ask_f0 X11_isWithin X6_isOfKind pr3 t x1 x2 h
noncomputable def X11_ask (t : Nat) (x1 : Int32) (x2 : Int32) (h : PH) : Option Rs := X11_ask_g0 t x1 x2 h
noncomputable abbrev X11_ask_F : List PV → PH → Option Rs := FW_T10II (X11_ask)
set_option maxRecDepth 100000 in
theorem X11_ask_gd (l : Launch) : Gd l 31 yX11_ask cX11_ask 4 (some .int) (X11_ask_F)   := Gd_of (by decide +kernel) (fun z hzl as h r e => by
  obtain ⟨hst, e⟩ := gL_of e
  obtain ⟨t, q0, e⟩ := gT_of e
  obtain ⟨x1, q1, e⟩ := gI_of e
  obtain ⟨x2, q2, e⟩ := gI_of e
  rw [st_3 hst q0 q1 q2]
  exact ⟨show 3 ≤ 4 by decide, X11_ask_s0 _ _ _ _ ((X11_ask_l0 X11_isWithin X6_isOfKind pr3 t x1 x2 h).trans e)⟩)
abbrev X11_item_x (z : CZ) : CX := mx RX11 cX11_item 4 1 (some .int) "item" z
noncomputable def X11_item_b0 (c_X11_isWithin : Int32 → Int32 → PH → Option Rs) : Kn := (a_il 1 (a_ic 5 (a_sI 2 (FW_II c_X11_isWithin) (a_z (a_ic (-1000000001) a_ir) (a_al 0 (a_gR 10 647 39 (a_il 1 (a_rald 39 2496 6 (a_as 3 (a_al 3 (a_gI 6 384 (a_z (a_ic (-1000000011) a_ir) (a_al 3 (a_gI 6 384 (a_ic 2 (a_eq (a_il 2 (a_al 3 (a_gR 6 388 4 (a_gI 4 257 (a_sI 2 (FW_II c_X11_isWithin) (a_z (a_ic (-1000000013) a_ir) (a_al 3 (a_gR 6 388 4 (a_gR 4 258 26 (a_il 2 (a_ald 26 1664 a_ir))))))))))) (a_ic (-1000000012) a_ir)))))))))))))))))
set_option maxRecDepth 100000 in
theorem X11_item_s0 {z : CZ} : SK (X11_item_x z) 0 (X11_item_b0 X11_isWithin) := (s_iloadn (pc := 0) dX11_item_0 rfl (s_iconst (pc := 1) dX11_item_1 c_ic_5 (s_sI (pc := 2) (run_static (X11_isWithin_gd _) (show 0 < 1 by decide) cy_X11_isWithin w_549 w_552 dX11_item_2) (s_ifne (pc := 5) dX11_item_5 (by decide) (s_aloadn (pc := 11) dX11_item_11 rfl (s_gR (pc := 12) (f := 7) ko_10 (by decide) rfl rfl w_511 dX11_item_12 (s_iloadn (pc := 15) dX11_item_15 rfl (s_rald (pc := 16) (by decide) (by decide) rfl rfl rfl dX11_item_16 (s_astoren (pc := 17) dX11_item_17 rfl (show 3 < 4 by decide) (s_aloadn (pc := 18) dX11_item_18 rfl (s_gI (pc := 19) (f := 0) ko_6 (by decide) rfl rfl w_484 dX11_item_19 (s_ifne (pc := 22) dX11_item_22 (by decide) (s_aloadn (pc := 29) dX11_item_29 rfl (s_gI (pc := 30) (f := 0) ko_6 (by decide) rfl rfl w_484 dX11_item_30 (s_iconst (pc := 33) dX11_item_33 c_ic_2 (s_cmpeq (pc := 34) dX11_item_34 (by decide) (s_iloadn (pc := 40) dX11_item_40 rfl (s_aloadn (pc := 41) dX11_item_41 rfl (s_gR (pc := 42) (f := 4) ko_6 (by decide) rfl rfl w_492 dX11_item_42 (s_gI (pc := 45) (f := 1) ko_4 (by decide) rfl rfl w_464 dX11_item_45 (s_sI (pc := 48) (run_static (X11_isWithin_gd _) (show 0 < 1 by decide) cy_X11_isWithin w_549 w_552 dX11_item_48) (s_ifeq (pc := 51) dX11_item_51 (by decide) (s_ldcw (pc := 66) w_1203 dX11_item_66 (s_ir (pc := 69) rfl dX11_item_69)) (s_aloadn (pc := 54) dX11_item_54 rfl (s_gR (pc := 55) (f := 4) ko_6 (by decide) rfl rfl w_492 dX11_item_55 (s_gR (pc := 58) (f := 2) ko_4 (by decide) rfl rfl w_467 dX11_item_58 (s_iloadn (pc := 61) dX11_item_61 rfl (s_sald (pc := 62) (by decide) (by decide) rfl rfl rfl dX11_item_62 (s_goto (pc := 63) dX11_item_63 (by decide) (s_ir (pc := 69) rfl dX11_item_69))))))))))))) (s_ldc (pc := 37) w_667 dX11_item_37 (s_ir (pc := 39) rfl dX11_item_39)))))) (s_ldcw (pc := 25) w_1202 dX11_item_25 (s_ir (pc := 28) rfl dX11_item_28)))))))))) (s_ldc (pc := 8) w_551 dX11_item_8 (s_ir (pc := 10) rfl dX11_item_10))))))
noncomputable def X11_item_f0 (c_X11_isWithin : Int32 → Int32 → PH → Option Rs) (t : Nat) (x1 : Int32) (x2 : Int32) (h : PH) : Option Rs :=
  cI (c_X11_isWithin x1 5 h) fun v2 h1 =>
  if v2 = 0 then
    some (some (.inl (-1000000001)), h1)
  else
    nn (hR h1 647 t 0) fun r3 =>
    ix x1 (hL h1 39 r3) fun j4 =>
    nn (hR h1 2496 r3 j4) fun r5 =>
    if (hI h1 384 r5 0) = 0 then
      some (some (.inl (-1000000011)), h1)
    else
      nn (hR h1 2496 r3 j4) fun r6 =>
      if (hI h1 384 r6 0) = 2 then
        nn (hR h1 2496 r3 j4) fun r7 =>
        nn (hR h1 388 r7 0) fun r8 =>
        cI (c_X11_isWithin x2 (hI h1 257 r8 0) h1) fun v10 h9 =>
        if v10 = 0 then
          some (some (.inl (-1000000013)), h9)
        else
          nn (hR h1 2496 r3 j4) fun r11 =>
          nn (hR h9 388 r11 0) fun r12 =>
          nn (hR h9 258 r12 0) fun r13 =>
          ix x2 (hL h9 26 r13) fun j14 =>
          some (some (.inl (hI h9 1664 r13 j14)), h9)
      else
        some (some (.inl (-1000000012)), h1)
set_option maxRecDepth 100000 in
theorem X11_item_l0 (c_X11_isWithin : Int32 → Int32 → PH → Option Rs) (t : Nat) (x1 : Int32) (x2 : Int32) (h : PH) : X11_item_b0 c_X11_isWithin [some (.inr (10, t + 1)), some (.inl x1), some (.inl x2), none] [] h = X11_item_f0 c_X11_isWithin t x1 x2 h := rfl
noncomputable def X11_item_g0 (t : Nat) (x1 : Int32) (x2 : Int32) (h : PH) : Option Rs := X11_item_f0 X11_isWithin t x1 x2 h
noncomputable def X11_item (t : Nat) (x1 : Int32) (x2 : Int32) (h : PH) : Option Rs := X11_item_g0 t x1 x2 h
noncomputable abbrev X11_item_F : List PV → PH → Option Rs := FW_T10II (X11_item)
set_option maxRecDepth 100000 in
theorem X11_item_gd (l : Launch) : Gd l 1 yX11_item cX11_item 4 (some .int) (X11_item_F)   := Gd_of (by decide +kernel) (fun z hzl as h r e => by
  obtain ⟨hst, e⟩ := gL_of e
  obtain ⟨t, q0, e⟩ := gT_of e
  obtain ⟨x1, q1, e⟩ := gI_of e
  obtain ⟨x2, q2, e⟩ := gI_of e
  rw [st_3 hst q0 q1 q2]
  exact ⟨show 3 ≤ 4 by decide, X11_item_s0 _ _ _ _ ((X11_item_l0 X11_isWithin t x1 x2 h).trans e)⟩)
abbrev X11_rest_x (z : CZ) : CX := mx RX11 cX11_rest 4 1 (some .int) "rest" z
noncomputable def X11_rest_b0 (c_X11_isWithin : Int32 → Int32 → PH → Option Rs) : Kn := (a_il 1 (a_ic 5 (a_sI 2 (FW_II c_X11_isWithin) (a_z (a_ic (-1000000001) a_ir) (a_al 0 (a_gR 10 647 39 (a_il 1 (a_rald 39 2496 6 (a_as 3 (a_al 3 (a_gI 6 384 (a_z (a_ic (-1000000011) a_ir) (a_al 3 (a_gI 6 384 (a_ic 3 (a_eq (a_il 2 (a_z (a_ic (-1000000002) a_ir) (a_al 3 (a_gI 6 387 (a_il 2 (a_rem a_ir)))))) (a_ic (-1000000012) a_ir)))))))))))))))))
set_option maxRecDepth 100000 in
theorem X11_rest_s0 {z : CZ} : SK (X11_rest_x z) 0 (X11_rest_b0 X11_isWithin) := (s_iloadn (pc := 0) dX11_rest_0 rfl (s_iconst (pc := 1) dX11_rest_1 c_ic_5 (s_sI (pc := 2) (run_static (X11_isWithin_gd _) (show 0 < 1 by decide) cy_X11_isWithin w_549 w_552 dX11_rest_2) (s_ifne (pc := 5) dX11_rest_5 (by decide) (s_aloadn (pc := 11) dX11_rest_11 rfl (s_gR (pc := 12) (f := 7) ko_10 (by decide) rfl rfl w_511 dX11_rest_12 (s_iloadn (pc := 15) dX11_rest_15 rfl (s_rald (pc := 16) (by decide) (by decide) rfl rfl rfl dX11_rest_16 (s_astoren (pc := 17) dX11_rest_17 rfl (show 3 < 4 by decide) (s_aloadn (pc := 18) dX11_rest_18 rfl (s_gI (pc := 19) (f := 0) ko_6 (by decide) rfl rfl w_484 dX11_rest_19 (s_ifne (pc := 22) dX11_rest_22 (by decide) (s_aloadn (pc := 29) dX11_rest_29 rfl (s_gI (pc := 30) (f := 0) ko_6 (by decide) rfl rfl w_484 dX11_rest_30 (s_iconst (pc := 33) dX11_rest_33 c_ic_3 (s_cmpeq (pc := 34) dX11_rest_34 (by decide) (s_iloadn (pc := 40) dX11_rest_40 rfl (s_ifne (pc := 41) dX11_rest_41 (by decide) (s_aloadn (pc := 49) dX11_rest_49 rfl (s_gI (pc := 50) (f := 3) ko_6 (by decide) rfl rfl w_490 dX11_rest_50 (s_iloadn (pc := 53) dX11_rest_53 rfl (s_irem (pc := 54) dX11_rest_54 (s_ir (pc := 55) rfl dX11_rest_55))))) (s_ldc (pc := 44) w_563 dX11_rest_44 (s_goto (pc := 46) dX11_rest_46 (by decide) (s_ir (pc := 55) rfl dX11_rest_55))))) (s_ldc (pc := 37) w_667 dX11_rest_37 (s_ir (pc := 39) rfl dX11_rest_39)))))) (s_ldcw (pc := 25) w_1202 dX11_rest_25 (s_ir (pc := 28) rfl dX11_rest_28)))))))))) (s_ldc (pc := 8) w_551 dX11_rest_8 (s_ir (pc := 10) rfl dX11_rest_10))))))
noncomputable def X11_rest_f0 (c_X11_isWithin : Int32 → Int32 → PH → Option Rs) (t : Nat) (x1 : Int32) (x2 : Int32) (h : PH) : Option Rs :=
  cI (c_X11_isWithin x1 5 h) fun v2 h1 =>
  if v2 = 0 then
    some (some (.inl (-1000000001)), h1)
  else
    nn (hR h1 647 t 0) fun r3 =>
    ix x1 (hL h1 39 r3) fun j4 =>
    nn (hR h1 2496 r3 j4) fun r5 =>
    if (hI h1 384 r5 0) = 0 then
      some (some (.inl (-1000000011)), h1)
    else
      nn (hR h1 2496 r3 j4) fun r6 =>
      if (hI h1 384 r6 0) = 3 then
        if x2 = 0 then
          some (some (.inl (-1000000002)), h1)
        else
          nn (hR h1 2496 r3 j4) fun r7 =>
          dv x2 <|
          some (some (.inl (jrem (hI h1 387 r7 0) x2)), h1)
      else
        some (some (.inl (-1000000012)), h1)
set_option maxRecDepth 100000 in
theorem X11_rest_l0 (c_X11_isWithin : Int32 → Int32 → PH → Option Rs) (t : Nat) (x1 : Int32) (x2 : Int32) (h : PH) : X11_rest_b0 c_X11_isWithin [some (.inr (10, t + 1)), some (.inl x1), some (.inl x2), none] [] h = X11_rest_f0 c_X11_isWithin t x1 x2 h := rfl
noncomputable def X11_rest_g0 (t : Nat) (x1 : Int32) (x2 : Int32) (h : PH) : Option Rs := X11_rest_f0 X11_isWithin t x1 x2 h
noncomputable def X11_rest (t : Nat) (x1 : Int32) (x2 : Int32) (h : PH) : Option Rs := X11_rest_g0 t x1 x2 h
noncomputable abbrev X11_rest_F : List PV → PH → Option Rs := FW_T10II (X11_rest)
set_option maxRecDepth 100000 in
theorem X11_rest_gd (l : Launch) : Gd l 1 yX11_rest cX11_rest 4 (some .int) (X11_rest_F)   := Gd_of (by decide +kernel) (fun z hzl as h r e => by
  obtain ⟨hst, e⟩ := gL_of e
  obtain ⟨t, q0, e⟩ := gT_of e
  obtain ⟨x1, q1, e⟩ := gI_of e
  obtain ⟨x2, q2, e⟩ := gI_of e
  rw [st_3 hst q0 q1 q2]
  exact ⟨show 3 ≤ 4 by decide, X11_rest_s0 _ _ _ _ ((X11_rest_l0 X11_isWithin t x1 x2 h).trans e)⟩)
abbrev X11_tell_x (z : CZ) : CX := mx RX11 cX11_tell 2 0 (some .int) "tell" z
noncomputable def X11_tell_b0 : Kn := (a_al 0 (a_gI 10 649 (a_ic 60 (a_lt (a_al 0 (a_gR 10 648 40 (a_al 0 (a_gI 10 649 (a_il 1 (a_ast 40 2560 (fun a => a) (a_al 0 (a_dup (a_gI 10 649 (a_ic 1 (a_b (fun a b => a + b) (a_pI 10 649 (a_al 0 (a_gI 10 649 a_ir)))))))))))))) (a_ic (-1000000003) a_ir)))))
set_option maxRecDepth 100000 in
theorem X11_tell_s0 {z : CZ} : SK (X11_tell_x z) 0 (X11_tell_b0) := (s_aloadn (pc := 0) dX11_tell_0 rfl (s_gI (pc := 1) (f := 9) ko_10 (by decide) rfl rfl w_513 dX11_tell_1 (s_bipush (pc := 4) dX11_tell_4 c_bp_60 (s_cmplt (pc := 6) dX11_tell_6 (by decide) (s_aloadn (pc := 12) dX11_tell_12 rfl (s_gR (pc := 13) (f := 8) ko_10 (by decide) rfl rfl w_512 dX11_tell_13 (s_aloadn (pc := 16) dX11_tell_16 rfl (s_gI (pc := 17) (f := 9) ko_10 (by decide) rfl rfl w_513 dX11_tell_17 (s_iloadn (pc := 20) dX11_tell_20 rfl (s_iast (pc := 21) (by decide) (by decide) rfl rfl rfl dX11_tell_21 (s_aloadn (pc := 22) dX11_tell_22 rfl (s_dup (pc := 23) dX11_tell_23 (s_gI (pc := 24) (f := 9) ko_10 (by decide) rfl rfl w_513 dX11_tell_24 (s_iconst (pc := 27) dX11_tell_27 c_ic_1 (s_iadd (pc := 28) dX11_tell_28 (s_pI (pc := 29) (f := 9) ko_10 (by decide) rfl rfl rfl (by decide +kernel) w_513 dX11_tell_29 (s_aloadn (pc := 32) dX11_tell_32 rfl (s_gI (pc := 33) (f := 9) ko_10 (by decide) rfl rfl w_513 dX11_tell_33 (s_ir (pc := 36) rfl dX11_tell_36))))))))))))))) (s_ldc (pc := 9) w_539 dX11_tell_9 (s_ir (pc := 11) rfl dX11_tell_11))))))
noncomputable def X11_tell_f0 (t : Nat) (x1 : Int32) (h : PH) : Option Rs :=
  if (hI h 649 t 0) < 60 then
    nn (hR h 648 t 0) fun r1 =>
    ix (hI h 649 t 0) (hL h 40 r1) fun j2 =>
    wr (pI h 2560 r1 j2 x1) fun h3 =>
    wr (pI h3 649 t 0 ((hI h3 649 t 0) + 1)) fun h4 =>
    some (some (.inl (hI h4 649 t 0)), h4)
  else
    some (some (.inl (-1000000003)), h)
set_option maxRecDepth 100000 in
theorem X11_tell_l0 (t : Nat) (x1 : Int32) (h : PH) : X11_tell_b0 [some (.inr (10, t + 1)), some (.inl x1)] [] h = X11_tell_f0 t x1 h := rfl
noncomputable def X11_tell_g0 (t : Nat) (x1 : Int32) (h : PH) : Option Rs := X11_tell_f0 t x1 h
noncomputable def X11_tell (t : Nat) (x1 : Int32) (h : PH) : Option Rs := X11_tell_g0 t x1 h
noncomputable abbrev X11_tell_F : List PV → PH → Option Rs := FW_T10I (X11_tell)
set_option maxRecDepth 100000 in
theorem X11_tell_gd (l : Launch) : Gd l 0 yX11_tell cX11_tell 2 (some .int) (X11_tell_F)   := Gd_of (by decide +kernel) (fun z hzl as h r e => by
  obtain ⟨hst, e⟩ := gL_of e
  obtain ⟨t, q0, e⟩ := gT_of e
  obtain ⟨x1, q1, e⟩ := gI_of e
  rw [st_2 hst q0 q1]
  exact ⟨show 2 ≤ 2 by decide, X11_tell_s0 _ _ _ _ ((X11_tell_l0 t x1 h).trans e)⟩)
abbrev X11_rightNumbers_x (z : CZ) : CX := mx RX11 cX11_rightNumbers 6 6 (some .int) "rightNumbers" z
noncomputable def X11_rightNumbers_b0 (k5 : Kn) : Kn := (a_ic 0 (a_is 3 (a_ic 0 (a_is 4 k5))))
set_option maxRecDepth 100000 in
theorem X11_rightNumbers_s0 {z : CZ} {k5 : Kn} (hk5 : SK (X11_rightNumbers_x z) 5 k5) : SK (X11_rightNumbers_x z) 0 (X11_rightNumbers_b0 k5) := (s_iconst (pc := 0) dX11_rightNumbers_0 c_ic_0 (s_istoren (pc := 1) dX11_rightNumbers_1 rfl (show 3 < 6 by decide) (s_iconst (pc := 2) dX11_rightNumbers_2 c_ic_0 (s_istore (pc := 3) dX11_rightNumbers_3 (show 4 < 6 by decide) hk5))))
noncomputable def X11_rightNumbers_b5 (c_X11_walkStranger : Nat → Nat → PH → Option Rs) (k5 : Kn) : Kn := (a_il 4 (a_il 1 (a_lt (a_al 0 (a_al 0 (a_gR 10 641 1 (a_vR 10 8 1 (FW_T10R1 c_X11_walkStranger) (a_as 5 (a_il 3 (a_il 2 (a_lt (a_al 0 (a_gR 10 648 40 (a_il 3 (a_ald 40 2560 (a_al 5 (a_gI 8 523 (a_eq (a_inc 3 1 (a_il 3 (a_il 2 (a_lt (a_al 0 (a_gR 10 648 40 (a_il 3 (a_ald 40 2560 (a_al 5 (a_gI 8 524 (a_eq (a_inc 3 1 (a_inc 4 1 k5)) (a_il 3 a_ir)))))))) (a_il 3 a_ir))))) (a_il 3 a_ir)))))))) (a_il 3 a_ir))))))))) (a_il 3 a_ir))))
set_option maxRecDepth 100000 in
theorem X11_rightNumbers_s5 {z : CZ} {k5 : Kn} (hk5 : SK (X11_rightNumbers_x z) 5 k5) : SK (X11_rightNumbers_x z) 5 (X11_rightNumbers_b5 X11_walkStranger k5) := (s_iload (pc := 5) dX11_rightNumbers_5 (s_iloadn (pc := 7) dX11_rightNumbers_7 rfl (s_cmpge (pc := 8) dX11_rightNumbers_8 (by decide) (s_iloadn (pc := 75) dX11_rightNumbers_75 rfl (s_ir (pc := 76) rfl dX11_rightNumbers_76)) (s_aloadn (pc := 11) dX11_rightNumbers_11 rfl (s_aloadn (pc := 12) dX11_rightNumbers_12 rfl (s_gR (pc := 13) (f := 1) ko_10 (by decide) rfl rfl w_505 dX11_rightNumbers_13 (s_vR (pc := 16) (run_virtual (X11_walkStranger_gd _) (show 5 < 6 by decide) cy_X11_walkStranger (by decide) rfl w_1170 w_s27 w_1168 dX11_rightNumbers_16) (s_astore (pc := 19) dX11_rightNumbers_19 (show 5 < 6 by decide) (s_iloadn (pc := 21) dX11_rightNumbers_21 rfl (s_iloadn (pc := 22) dX11_rightNumbers_22 rfl (s_cmpge (pc := 23) dX11_rightNumbers_23 (by decide) (s_iloadn (pc := 40) dX11_rightNumbers_40 rfl (s_ir (pc := 41) rfl dX11_rightNumbers_41)) (s_aloadn (pc := 26) dX11_rightNumbers_26 rfl (s_gR (pc := 27) (f := 8) ko_10 (by decide) rfl rfl w_512 dX11_rightNumbers_27 (s_iloadn (pc := 30) dX11_rightNumbers_30 rfl (s_iald (pc := 31) (by decide) (by decide) rfl rfl rfl dX11_rightNumbers_31 (s_aload (pc := 32) dX11_rightNumbers_32 (s_gI (pc := 34) (f := 11) ko_8 (by decide) rfl rfl w_345 dX11_rightNumbers_34 (s_cmpeq (pc := 37) dX11_rightNumbers_37 (by decide) (s_iinc (pc := 42) dX11_rightNumbers_42 c_ic_1 (show 3 < 6 by decide) (s_iloadn (pc := 45) dX11_rightNumbers_45 rfl (s_iloadn (pc := 46) dX11_rightNumbers_46 rfl (s_cmpge (pc := 47) dX11_rightNumbers_47 (by decide) (s_iloadn (pc := 64) dX11_rightNumbers_64 rfl (s_ir (pc := 65) rfl dX11_rightNumbers_65)) (s_aloadn (pc := 50) dX11_rightNumbers_50 rfl (s_gR (pc := 51) (f := 8) ko_10 (by decide) rfl rfl w_512 dX11_rightNumbers_51 (s_iloadn (pc := 54) dX11_rightNumbers_54 rfl (s_iald (pc := 55) (by decide) (by decide) rfl rfl rfl dX11_rightNumbers_55 (s_aload (pc := 56) dX11_rightNumbers_56 (s_gI (pc := 58) (f := 12) ko_8 (by decide) rfl rfl w_347 dX11_rightNumbers_58 (s_cmpeq (pc := 61) dX11_rightNumbers_61 (by decide) (s_iinc (pc := 66) dX11_rightNumbers_66 c_ic_1 (show 3 < 6 by decide) (s_iinc (pc := 69) dX11_rightNumbers_69 c_ic_1 (show 4 < 6 by decide) (s_goto (pc := 72) dX11_rightNumbers_72 (by decide) hk5))) (s_iloadn (pc := 64) dX11_rightNumbers_64 rfl (s_ir (pc := 65) rfl dX11_rightNumbers_65))))))))))))) (s_iloadn (pc := 40) dX11_rightNumbers_40 rfl (s_ir (pc := 41) rfl dX11_rightNumbers_41))))))))))))))))))))
noncomputable def X11_rightNumbers_u5 (g : Nat → Int32 → Int32 → Int32 → Int32 → PH → Option Rs) : Kn := fun ls st h => gL 0 st (gT 10 ls 0 fun t => gI ls 1 fun x1 => gI ls 2 fun x2 => gI ls 3 fun x3 => gI ls 4 fun x4 => g t x1 x2 x3 x4 h)
noncomputable def X11_rightNumbers_f0 (g5 : Nat → Int32 → Int32 → Int32 → Int32 → PH → Option Rs) (t : Nat) (x1 : Int32) (x2 : Int32) (h : PH) : Option Rs :=
  g5 t x1 x2 0 0 h
set_option maxRecDepth 100000 in
theorem X11_rightNumbers_l0 (g5 : Nat → Int32 → Int32 → Int32 → Int32 → PH → Option Rs) (t : Nat) (x1 : Int32) (x2 : Int32) (h : PH) : X11_rightNumbers_b0 (X11_rightNumbers_u5 g5) [some (.inr (10, t + 1)), some (.inl x1), some (.inl x2), none, none, none] [] h = X11_rightNumbers_f0 g5 t x1 x2 h := rfl
theorem X11_rightNumbers_m0 {g5 G5 : Nat → Int32 → Int32 → Int32 → Int32 → PH → Option Rs} (hg5 : ∀ a0 a1 a2 a3 a4 a5, Mo (g5 a0 a1 a2 a3 a4 a5) (G5 a0 a1 a2 a3 a4 a5)) (t : Nat) (x1 : Int32) (x2 : Int32) (h : PH) : Mo (X11_rightNumbers_f0 g5 t x1 x2 h) (X11_rightNumbers_f0 G5 t x1 x2 h) := (hg5 t x1 x2 0 0 h)
noncomputable def X11_rightNumbers_f5 (c_X11_walkStranger : Nat → Nat → PH → Option Rs) (g5 : Nat → Int32 → Int32 → Int32 → Int32 → PH → Option Rs) (t : Nat) (x1 : Int32) (x2 : Int32) (x3 : Int32) (x4 : Int32) (h : PH) : Option Rs :=
  if x4 < x1 then
    cR 8 (c_X11_walkStranger t (hR h 641 t 0) h) fun r2 h1 =>
    if x3 < x2 then
      nn (hR h1 648 t 0) fun r3 =>
      ix x3 (hL h1 40 r3) fun j4 =>
      nn r2 fun r5 =>
      if (hI h1 2560 r3 j4) = (hI h1 523 r5 0) then
        if (x3 + 1) < x2 then
          nn (hR h1 648 t 0) fun r6 =>
          ix (x3 + 1) (hL h1 40 r6) fun j7 =>
          nn r2 fun r8 =>
          if (hI h1 2560 r6 j7) = (hI h1 524 r8 0) then
            g5 t x1 x2 ((x3 + 1) + 1) (x4 + 1) h1
          else
            some (some (.inl (x3 + 1)), h1)
        else
          some (some (.inl (x3 + 1)), h1)
      else
        some (some (.inl x3), h1)
    else
      some (some (.inl x3), h1)
  else
    some (some (.inl x3), h)
set_option maxRecDepth 100000 in
theorem X11_rightNumbers_l5 (c_X11_walkStranger : Nat → Nat → PH → Option Rs) (g5 : Nat → Int32 → Int32 → Int32 → Int32 → PH → Option Rs) (t : Nat) (x1 : Int32) (x2 : Int32) (x3 : Int32) (x4 : Int32) (h : PH) : X11_rightNumbers_b5 c_X11_walkStranger (X11_rightNumbers_u5 g5) [some (.inr (10, t + 1)), some (.inl x1), some (.inl x2), some (.inl x3), some (.inl x4), none] [] h = X11_rightNumbers_f5 c_X11_walkStranger g5 t x1 x2 x3 x4 h := rfl
theorem X11_rightNumbers_m5 {c_X11_walkStranger : Nat → Nat → PH → Option Rs} {g5 G5 : Nat → Int32 → Int32 → Int32 → Int32 → PH → Option Rs} (hg5 : ∀ a0 a1 a2 a3 a4 a5, Mo (g5 a0 a1 a2 a3 a4 a5) (G5 a0 a1 a2 a3 a4 a5)) (t : Nat) (x1 : Int32) (x2 : Int32) (x3 : Int32) (x4 : Int32) (h : PH) : Mo (X11_rightNumbers_f5 c_X11_walkStranger g5 t x1 x2 x3 x4 h) (X11_rightNumbers_f5 c_X11_walkStranger G5 t x1 x2 x3 x4 h) := (mo_if (mo_cR fun r2 h1 => (mo_if (mo_nn fun r3 => (mo_ix fun j4 => (mo_nn fun r5 => (mo_if (mo_if (mo_nn fun r6 => (mo_ix fun j7 => (mo_nn fun r8 => (mo_if (hg5 t x1 x2 ((x3 + 1) + 1) (x4 + 1) h1) mo_rf)))) mo_rf) mo_rf)))) mo_rf)) mo_rf)
theorem X11_rightNumbers_w5 {z : CZ} {g5 : Nat → Int32 → Int32 → Int32 → Int32 → PH → Option Rs} (hk5 : SK (X11_rightNumbers_x z) 5 (X11_rightNumbers_u5 g5)) : SK (X11_rightNumbers_x z) 5 (X11_rightNumbers_u5 (X11_rightNumbers_f5 X11_walkStranger g5)) := by
  intro ls st h r e
  obtain ⟨hst, e⟩ := gL_of e
  obtain ⟨t, q0, e⟩ := gT_of e
  obtain ⟨x1, q1, e⟩ := gI_of e
  obtain ⟨x2, q2, e⟩ := gI_of e
  obtain ⟨x3, q3, e⟩ := gI_of e
  obtain ⟨x4, q4, e⟩ := gI_of e
  rw [st_0 hst]
  exact WK.sub (canon := [some (.inr (10, t + 1)), some (.inl x1), some (.inl x2), some (.inl x3), some (.inl x4), none]) rfl ⟨q0, q1, q2, q3, q4, trivial⟩ (X11_rightNumbers_s5 hk5 _ _ _ _ ((X11_rightNumbers_l5 X11_walkStranger g5 t x1 x2 x3 x4 h).trans e))
noncomputable def X11_rightNumbers_g0 (G : (Nat → Int32 → Int32 → Int32 → Int32 → PH → Option Rs)) (t : Nat) (x1 : Int32) (x2 : Int32) (h : PH) : Option Rs := X11_rightNumbers_f0 (G) t x1 x2 h
noncomputable def X11_rightNumbers_g5 (G : (Nat → Int32 → Int32 → Int32 → Int32 → PH → Option Rs)) (t : Nat) (x1 : Int32) (x2 : Int32) (x3 : Int32) (x4 : Int32) (h : PH) : Option Rs := X11_rightNumbers_f5 X11_walkStranger (G) t x1 x2 x3 x4 h
theorem X11_rightNumbers_v5 {z : CZ} {G : (Nat → Int32 → Int32 → Int32 → Int32 → PH → Option Rs)} (hG5 : SK (X11_rightNumbers_x z) 5 (X11_rightNumbers_u5 (G))) : SK (X11_rightNumbers_x z) 5 (X11_rightNumbers_u5 (X11_rightNumbers_g5 G)) := X11_rightNumbers_w5 hG5
noncomputable def X11_rightNumbers_fam : Nat → (Nat → Int32 → Int32 → Int32 → Int32 → PH → Option Rs)
  | 0 => fun _ _ _ _ _ _ => none
  | n + 1 => X11_rightNumbers_g5 (X11_rightNumbers_fam n)
theorem X11_rightNumbers_k {z : CZ} : ∀ n, SK (X11_rightNumbers_x z) 5 (X11_rightNumbers_u5 (X11_rightNumbers_fam n))
  | 0 => (fun ls st h r e => by
      obtain ⟨_, e⟩ := gL_of e
      obtain ⟨_, _, e⟩ := gT_of e
      obtain ⟨_, _, e⟩ := gI_of e
      obtain ⟨_, _, e⟩ := gI_of e
      obtain ⟨_, _, e⟩ := gI_of e
      obtain ⟨_, _, e⟩ := gI_of e
      cases e)
  | n + 1 => by
    obtain ih5 := X11_rightNumbers_k n
    exact X11_rightNumbers_v5 ih5
theorem X11_rightNumbers_n0 {G G' : (Nat → Int32 → Int32 → Int32 → Int32 → PH → Option Rs)} (hg5 : ∀ a0 a1 a2 a3 a4 a5, Mo ((G) a0 a1 a2 a3 a4 a5) ((G') a0 a1 a2 a3 a4 a5)) (t : Nat) (x1 : Int32) (x2 : Int32) (h : PH) : Mo (X11_rightNumbers_g0 G t x1 x2 h) (X11_rightNumbers_g0 G' t x1 x2 h) := X11_rightNumbers_m0 hg5 t x1 x2 h
theorem X11_rightNumbers_n5 {G G' : (Nat → Int32 → Int32 → Int32 → Int32 → PH → Option Rs)} (hg5 : ∀ a0 a1 a2 a3 a4 a5, Mo ((G) a0 a1 a2 a3 a4 a5) ((G') a0 a1 a2 a3 a4 a5)) (t : Nat) (x1 : Int32) (x2 : Int32) (x3 : Int32) (x4 : Int32) (h : PH) : Mo (X11_rightNumbers_g5 G t x1 x2 x3 x4 h) (X11_rightNumbers_g5 G' t x1 x2 x3 x4 h) := X11_rightNumbers_m5 hg5 t x1 x2 x3 x4 h
theorem X11_rightNumbers_fm : ∀ n, (∀ a0 a1 a2 a3 a4 a5, Mo ((X11_rightNumbers_fam n) a0 a1 a2 a3 a4 a5) ((X11_rightNumbers_fam (n + 1)) a0 a1 a2 a3 a4 a5))
  | 0 => fun _ _ _ _ _ _ => mo_no
  | n + 1 => by
    obtain ih5 := X11_rightNumbers_fm n
    exact fun a0 a1 a2 a3 a4 a5 => X11_rightNumbers_n5 ih5 a0 a1 a2 a3 a4 a5
noncomputable def X11_rightNumbers (t : Nat) (x1 : Int32) (x2 : Int32) (h : PH) : Option Rs := lim (fun n => X11_rightNumbers_g0 (X11_rightNumbers_fam n) t x1 x2 h)
theorem X11_rightNumbers_iff {t : Nat} {x1 : Int32} {x2 : Int32} {h : PH} {r : Rs} : X11_rightNumbers t x1 x2 h = some r ↔ ∃ n, X11_rightNumbers_g0 (X11_rightNumbers_fam n) t x1 x2 h = some r := lim_iff (fun n => by
  obtain ih5 := X11_rightNumbers_fm n
  exact X11_rightNumbers_n0 ih5 t x1 x2 h)
noncomputable abbrev X11_rightNumbers_F : List PV → PH → Option Rs := FW_T10II (X11_rightNumbers)
set_option maxRecDepth 100000 in
theorem X11_rightNumbers_gd (l : Launch) : Gd l 6 yX11_rightNumbers cX11_rightNumbers 6 (some .int) (X11_rightNumbers_F)   := Gd_of (by decide +kernel) (fun z hzl as h r e => by
  obtain ⟨hst, e⟩ := gL_of e
  obtain ⟨t, q0, e⟩ := gT_of e
  obtain ⟨x1, q1, e⟩ := gI_of e
  obtain ⟨x2, q2, e⟩ := gI_of e
  rw [st_3 hst q0 q1 q2]
  obtain ⟨n, e⟩ := lim_of e
  obtain hG5 := X11_rightNumbers_k (z := z) n
  exact ⟨show 3 ≤ 6 by decide, X11_rightNumbers_s0 hG5 _ _ _ _ ((X11_rightNumbers_l0 (X11_rightNumbers_fam n) t x1 x2 h).trans e)⟩)
abbrev X11_check_x (z : CZ) : CX := mx RX11 cX11_check 5 34 (some .int) "check" z
noncomputable def X11_check_b0 (c_X11_enterBoth : Nat → Nat → PH → Option Rs) (c_X11_rightNumbers : Nat → Int32 → Int32 → PH → Option Rs) (k105 : Kn) : Kn := (a_al 0 (a_gI 10 649 (a_is 2 (a_al 0 (a_ic 0 (a_pI 10 649 (a_il 1 (a_ic 1 (a_lt (a_ic (-1000000001) a_ir) (a_il 1 (a_ic 30 (a_gt (a_ic (-1000000001) a_ir) (a_al 0 (a_gI 10 642 (a_z (a_ic (-1000000002) a_ir) (a_al 0 (a_gR 10 641 1 (a_gI 1 72 (a_z (a_ic (-1000000002) a_ir) (a_al 0 (a_gR 10 641 1 (a_gI 1 74 (a_z (a_ic (-1000000002) a_ir) (a_al 0 (a_gR 10 641 1 (a_gI 1 80 (a_is 3 (a_al 0 (a_al 0 (a_gR 10 641 1 (a_vV 10 1 (FW_T10R1 c_X11_enterBoth) (a_al 0 (a_il 1 (a_il 2 (a_vI 10 2 (FW_T10II c_X11_rightNumbers) (a_is 4 (a_al 0 (a_gR 10 641 1 (a_il 3 (a_pI 1 80 (a_il 4 (a_ic 2 (a_il 1 (a_b (fun a b => a * b) (a_eq (a_il 2 (a_ic 2 (a_il 1 (a_b (fun a b => a * b) (a_eq (a_ic 0 a_ir) k105))))) k105)))))))))))))))))))))))))))))))))))))))))))))
set_option maxRecDepth 100000 in
theorem X11_check_s0 {z : CZ} {k105 : Kn} (hk105 : SK (X11_check_x z) 105 k105) : SK (X11_check_x z) 0 (X11_check_b0 X11_enterBoth X11_rightNumbers k105) := (s_aloadn (pc := 0) dX11_check_0 rfl (s_gI (pc := 1) (f := 9) ko_10 (by decide) rfl rfl w_513 dX11_check_1 (s_istoren (pc := 4) dX11_check_4 rfl (show 2 < 5 by decide) (s_aloadn (pc := 5) dX11_check_5 rfl (s_iconst (pc := 6) dX11_check_6 c_ic_0 (s_pI (pc := 7) (f := 9) ko_10 (by decide) rfl rfl rfl (by decide +kernel) w_513 dX11_check_7 (s_iloadn (pc := 10) dX11_check_10 rfl (s_iconst (pc := 11) dX11_check_11 c_ic_1 (s_cmplt (pc := 12) dX11_check_12 (by decide) (s_ldc (pc := 21) w_551 dX11_check_21 (s_ir (pc := 23) rfl dX11_check_23)) (s_iloadn (pc := 15) dX11_check_15 rfl (s_bipush (pc := 16) dX11_check_16 c_bp_30 (s_cmple (pc := 18) dX11_check_18 (by decide) (s_aloadn (pc := 24) dX11_check_24 rfl (s_gI (pc := 25) (f := 2) ko_10 (by decide) rfl rfl w_506 dX11_check_25 (s_ifeq (pc := 28) dX11_check_28 (by decide) (s_ldc (pc := 51) w_563 dX11_check_51 (s_ir (pc := 53) rfl dX11_check_53)) (s_aloadn (pc := 31) dX11_check_31 rfl (s_gR (pc := 32) (f := 1) ko_10 (by decide) rfl rfl w_505 dX11_check_32 (s_gI (pc := 35) (f := 8) ko_1 (by decide) rfl rfl w_242 dX11_check_35 (s_ifeq (pc := 38) dX11_check_38 (by decide) (s_ldc (pc := 51) w_563 dX11_check_51 (s_ir (pc := 53) rfl dX11_check_53)) (s_aloadn (pc := 41) dX11_check_41 rfl (s_gR (pc := 42) (f := 1) ko_10 (by decide) rfl rfl w_505 dX11_check_42 (s_gI (pc := 45) (f := 10) ko_1 (by decide) rfl rfl w_250 dX11_check_45 (s_ifne (pc := 48) dX11_check_48 (by decide) (s_aloadn (pc := 54) dX11_check_54 rfl (s_gR (pc := 55) (f := 1) ko_10 (by decide) rfl rfl w_505 dX11_check_55 (s_gI (pc := 58) (f := 16) ko_1 (by decide) rfl rfl w_266 dX11_check_58 (s_istoren (pc := 61) dX11_check_61 rfl (show 3 < 5 by decide) (s_aloadn (pc := 62) dX11_check_62 rfl (s_aloadn (pc := 63) dX11_check_63 rfl (s_gR (pc := 64) (f := 1) ko_10 (by decide) rfl rfl w_505 dX11_check_64 (s_vV (pc := 67) (run_virtual (X11_enterBoth_gd _) (show 33 < 34 by decide) cy_X11_enterBoth (by decide) rfl w_1166 w_s26 w_1164 dX11_check_67) (s_aloadn (pc := 70) dX11_check_70 rfl (s_iloadn (pc := 71) dX11_check_71 rfl (s_iloadn (pc := 72) dX11_check_72 rfl (s_vI (pc := 73) (run_virtual (X11_rightNumbers_gd _) (show 6 < 34 by decide) cy_X11_rightNumbers (by decide) rfl w_1257 w_s28 w_1255 dX11_check_73) (s_istore (pc := 76) dX11_check_76 (show 4 < 5 by decide) (s_aloadn (pc := 78) dX11_check_78 rfl (s_gR (pc := 79) (f := 1) ko_10 (by decide) rfl rfl w_505 dX11_check_79 (s_iloadn (pc := 82) dX11_check_82 rfl (s_pI (pc := 83) (f := 16) ko_1 (by decide) rfl rfl rfl (by decide +kernel) w_266 dX11_check_83 (s_iload (pc := 86) dX11_check_86 (s_iconst (pc := 88) dX11_check_88 c_ic_2 (s_iloadn (pc := 89) dX11_check_89 rfl (s_imul (pc := 90) dX11_check_90 (s_cmpne (pc := 91) dX11_check_91 (by decide) hk105 (s_iloadn (pc := 94) dX11_check_94 rfl (s_iconst (pc := 95) dX11_check_95 c_ic_2 (s_iloadn (pc := 96) dX11_check_96 rfl (s_imul (pc := 97) dX11_check_97 (s_cmpne (pc := 98) dX11_check_98 (by decide) hk105 (s_iconst (pc := 101) dX11_check_101 c_ic_0 (s_goto (pc := 102) dX11_check_102 (by decide) (s_ir (pc := 109) rfl dX11_check_109)))))))))))))))))))))))))))))) (s_ldc (pc := 51) w_563 dX11_check_51 (s_ir (pc := 53) rfl dX11_check_53))))))))))))) (s_ldc (pc := 21) w_551 dX11_check_21 (s_ir (pc := 23) rfl dX11_check_23))))))))))))))
noncomputable def X11_check_b105 : Kn := (a_ic 1 (a_il 4 (a_b (fun a b => a + b) a_ir)))
set_option maxRecDepth 100000 in
theorem X11_check_s105 {z : CZ} : SK (X11_check_x z) 105 (X11_check_b105) := (s_iconst (pc := 105) dX11_check_105 c_ic_1 (s_iload (pc := 106) dX11_check_106 (s_iadd (pc := 108) dX11_check_108 (s_ir (pc := 109) rfl dX11_check_109))))
noncomputable def X11_check_u105 (g : Int32 → PH → Option Rs) : Kn := fun ls st h => gL 0 st (gI ls 4 fun x4 => g x4 h)
noncomputable def X11_check_f0 (c_X11_enterBoth : Nat → Nat → PH → Option Rs) (c_X11_rightNumbers : Nat → Int32 → Int32 → PH → Option Rs) (g105 : Int32 → PH → Option Rs) (t : Nat) (x1 : Int32) (h : PH) : Option Rs :=
  wr (pI h 649 t 0 0) fun h1 =>
  if x1 < 1 then
    some (some (.inl (-1000000001)), h1)
  else
    if 30 < x1 then
      some (some (.inl (-1000000001)), h1)
    else
      if (hI h1 642 t 0) = 0 then
        some (some (.inl (-1000000002)), h1)
      else
        nn (hR h1 641 t 0) fun r2 =>
        if (hI h1 72 r2 0) = 0 then
          some (some (.inl (-1000000002)), h1)
        else
          nn (hR h1 641 t 0) fun r3 =>
          if (hI h1 74 r3 0) = 0 then
            some (some (.inl (-1000000002)), h1)
          else
            nn (hR h1 641 t 0) fun r4 =>
            cV (c_X11_enterBoth t (hR h1 641 t 0) h1) fun h5 =>
            cI (c_X11_rightNumbers t x1 (hI h 649 t 0) h5) fun v7 h6 =>
            nn (hR h6 641 t 0) fun r8 =>
            wr (pI h6 80 r8 0 (hI h1 80 r4 0)) fun h9 =>
            if v7 = (2 * x1) then
              if (hI h 649 t 0) = (2 * x1) then
                some (some (.inl 0), h9)
              else
                g105 v7 h9
            else
              g105 v7 h9
set_option maxRecDepth 100000 in
theorem X11_check_l0 (c_X11_enterBoth : Nat → Nat → PH → Option Rs) (c_X11_rightNumbers : Nat → Int32 → Int32 → PH → Option Rs) (g105 : Int32 → PH → Option Rs) (t : Nat) (x1 : Int32) (h : PH) : X11_check_b0 c_X11_enterBoth c_X11_rightNumbers (X11_check_u105 g105) [some (.inr (10, t + 1)), some (.inl x1), none, none, none] [] h = X11_check_f0 c_X11_enterBoth c_X11_rightNumbers g105 t x1 h := rfl
theorem X11_check_m0 {c_X11_enterBoth : Nat → Nat → PH → Option Rs} {c_X11_rightNumbers : Nat → Int32 → Int32 → PH → Option Rs} {g105 G105 : Int32 → PH → Option Rs} (hg105 : ∀ a0 a1, Mo (g105 a0 a1) (G105 a0 a1)) (t : Nat) (x1 : Int32) (h : PH) : Mo (X11_check_f0 c_X11_enterBoth c_X11_rightNumbers g105 t x1 h) (X11_check_f0 c_X11_enterBoth c_X11_rightNumbers G105 t x1 h) := (mo_wr fun h1 => (mo_if mo_rf (mo_if mo_rf (mo_if mo_rf (mo_nn fun r2 => (mo_if mo_rf (mo_nn fun r3 => (mo_if mo_rf (mo_nn fun r4 => (mo_cV fun h5 => (mo_cI fun v7 h6 => (mo_nn fun r8 => (mo_wr fun h9 => (mo_if (mo_if mo_rf (hg105 v7 h9)) (hg105 v7 h9)))))))))))))))
noncomputable def X11_check_f105 (x4 : Int32) (h : PH) : Option Rs :=
  some (some (.inl (1 + x4)), h)
set_option maxRecDepth 100000 in
theorem X11_check_l105 (x4 : Int32) (h : PH) : X11_check_b105 [none, none, none, none, some (.inl x4)] [] h = X11_check_f105 x4 h := rfl
theorem X11_check_w105 {z : CZ} : SK (X11_check_x z) 105 (X11_check_u105 (X11_check_f105)) := by
  intro ls st h r e
  obtain ⟨hst, e⟩ := gL_of e
  obtain ⟨x4, q0, e⟩ := gI_of e
  rw [st_0 hst]
  exact WK.sub (canon := [none, none, none, none, some (.inl x4)]) rfl ⟨q0, trivial⟩ (X11_check_s105 _ _ _ _ ((X11_check_l105 x4 h).trans e))
noncomputable def X11_check_g105 (x4 : Int32) (h : PH) : Option Rs := X11_check_f105 x4 h
noncomputable def X11_check_g0 (t : Nat) (x1 : Int32) (h : PH) : Option Rs := X11_check_f0 X11_enterBoth X11_rightNumbers (X11_check_g105) t x1 h
theorem X11_check_v105 {z : CZ} : SK (X11_check_x z) 105 (X11_check_u105 (X11_check_g105)) := X11_check_w105
noncomputable def X11_check (t : Nat) (x1 : Int32) (h : PH) : Option Rs := X11_check_g0 t x1 h
noncomputable abbrev X11_check_F : List PV → PH → Option Rs := FW_T10I (X11_check)
set_option maxRecDepth 100000 in
theorem X11_check_gd (l : Launch) : Gd l 34 yX11_check cX11_check 5 (some .int) (X11_check_F)   := Gd_of (by decide +kernel) (fun z hzl as h r e => by
  obtain ⟨hst, e⟩ := gL_of e
  obtain ⟨t, q0, e⟩ := gT_of e
  obtain ⟨x1, q1, e⟩ := gI_of e
  rw [st_2 hst q0 q1]
  exact ⟨show 2 ≤ 5 by decide, X11_check_s0 (X11_check_v105) _ _ _ _ ((X11_check_l0 X11_enterBoth X11_rightNumbers (X11_check_g105) t x1 h).trans e)⟩)
abbrev X10_becomeAs_x (z : CZ) : CX := mx RX10 cX10_becomeAs 2 0 none "becomeAs" z
noncomputable def X10_becomeAs_b0 (k40 : Kn) : Kn := (a_al 0 (a_al 1 (a_gI 9 576 (a_pI 9 576 (a_al 0 (a_al 1 (a_gI 9 577 (a_pI 9 577 (a_al 0 (a_al 1 (a_gI 9 578 (a_pI 9 578 (a_al 0 (a_al 1 (a_gI 9 579 (a_pI 9 579 (a_al 0 (a_al 1 (a_gI 9 580 (a_pI 9 580 k40))))))))))))))))))))
set_option maxRecDepth 100000 in
theorem X10_becomeAs_s0 {z : CZ} {k40 : Kn} (hk40 : SK (X10_becomeAs_x z) 40 k40) : SK (X10_becomeAs_x z) 0 (X10_becomeAs_b0 k40) := (s_aloadn (pc := 0) dX10_becomeAs_0 rfl (s_aloadn (pc := 1) dX10_becomeAs_1 rfl (s_gI (pc := 2) (f := 0) ko_9 (by decide) rfl rfl w_126 dX10_becomeAs_2 (s_pI (pc := 5) (f := 0) ko_9 (by decide) rfl rfl rfl (by decide +kernel) w_126 dX10_becomeAs_5 (s_aloadn (pc := 8) dX10_becomeAs_8 rfl (s_aloadn (pc := 9) dX10_becomeAs_9 rfl (s_gI (pc := 10) (f := 1) ko_9 (by decide) rfl rfl w_130 dX10_becomeAs_10 (s_pI (pc := 13) (f := 1) ko_9 (by decide) rfl rfl rfl (by decide +kernel) w_130 dX10_becomeAs_13 (s_aloadn (pc := 16) dX10_becomeAs_16 rfl (s_aloadn (pc := 17) dX10_becomeAs_17 rfl (s_gI (pc := 18) (f := 2) ko_9 (by decide) rfl rfl w_134 dX10_becomeAs_18 (s_pI (pc := 21) (f := 2) ko_9 (by decide) rfl rfl rfl (by decide +kernel) w_134 dX10_becomeAs_21 (s_aloadn (pc := 24) dX10_becomeAs_24 rfl (s_aloadn (pc := 25) dX10_becomeAs_25 rfl (s_gI (pc := 26) (f := 3) ko_9 (by decide) rfl rfl w_137 dX10_becomeAs_26 (s_pI (pc := 29) (f := 3) ko_9 (by decide) rfl rfl rfl (by decide +kernel) w_137 dX10_becomeAs_29 (s_aloadn (pc := 32) dX10_becomeAs_32 rfl (s_aloadn (pc := 33) dX10_becomeAs_33 rfl (s_gI (pc := 34) (f := 4) ko_9 (by decide) rfl rfl w_140 dX10_becomeAs_34 (s_pI (pc := 37) (f := 4) ko_9 (by decide) rfl rfl rfl (by decide +kernel) w_140 dX10_becomeAs_37 hk40))))))))))))))))))))
noncomputable def X10_becomeAs_b40 : Kn := (a_al 0 (a_al 1 (a_gI 9 581 (a_pZ 9 581 a_vr))))
set_option maxRecDepth 100000 in
theorem X10_becomeAs_s40 {z : CZ} : SK (X10_becomeAs_x z) 40 (X10_becomeAs_b40) := (s_aloadn (pc := 40) dX10_becomeAs_40 rfl (s_aloadn (pc := 41) dX10_becomeAs_41 rfl (s_gI (pc := 42) (f := 5) ko_9 (by decide) rfl rfl w_145 dX10_becomeAs_42 (s_pZ (pc := 45) (f := 5) ko_9 (by decide) rfl rfl rfl (by decide +kernel) w_145 dX10_becomeAs_45 (s_vr (pc := 48) rfl dX10_becomeAs_48)))))
noncomputable def X10_becomeAs_u40 (g : Nat → Nat → PH → Option Rs) : Kn := fun ls st h => gL 0 st (gT 9 ls 0 fun t => gR 9 ls 1 fun x1 => g t x1 h)
noncomputable def X10_becomeAs_f0 (g40 : Nat → Nat → PH → Option Rs) (t : Nat) (x1 : Nat) (h : PH) : Option Rs :=
  nn x1 fun r1 =>
  wr (pI h 576 t 0 (hI h 576 r1 0)) fun h2 =>
  nn x1 fun r3 =>
  wr (pI h2 577 t 0 (hI h2 577 r3 0)) fun h4 =>
  nn x1 fun r5 =>
  wr (pI h4 578 t 0 (hI h4 578 r5 0)) fun h6 =>
  nn x1 fun r7 =>
  wr (pI h6 579 t 0 (hI h6 579 r7 0)) fun h8 =>
  nn x1 fun r9 =>
  wr (pI h8 580 t 0 (hI h8 580 r9 0)) fun h10 =>
  g40 t x1 h10
set_option maxRecDepth 100000 in
theorem X10_becomeAs_l0 (g40 : Nat → Nat → PH → Option Rs) (t : Nat) (x1 : Nat) (h : PH) : X10_becomeAs_b0 (X10_becomeAs_u40 g40) [some (.inr (9, t + 1)), some (.inr (9, x1))] [] h = X10_becomeAs_f0 g40 t x1 h := rfl
theorem X10_becomeAs_m0 {g40 G40 : Nat → Nat → PH → Option Rs} (hg40 : ∀ a0 a1 a2, Mo (g40 a0 a1 a2) (G40 a0 a1 a2)) (t : Nat) (x1 : Nat) (h : PH) : Mo (X10_becomeAs_f0 g40 t x1 h) (X10_becomeAs_f0 G40 t x1 h) := (mo_nn fun r1 => (mo_wr fun h2 => (mo_nn fun r3 => (mo_wr fun h4 => (mo_nn fun r5 => (mo_wr fun h6 => (mo_nn fun r7 => (mo_wr fun h8 => (mo_nn fun r9 => (mo_wr fun h10 => (hg40 t x1 h10)))))))))))
noncomputable def X10_becomeAs_f40 (t : Nat) (x1 : Nat) (h : PH) : Option Rs :=
  nn x1 fun r11 =>
  bz (hI h 581 r11 0) <|
  wr (pI h 581 t 0 (hI h 581 r11 0)) fun h12 =>
  some (none, h12)
set_option maxRecDepth 100000 in
theorem X10_becomeAs_l40 (t : Nat) (x1 : Nat) (h : PH) : X10_becomeAs_b40 [some (.inr (9, t + 1)), some (.inr (9, x1))] [] h = X10_becomeAs_f40 t x1 h := rfl
theorem X10_becomeAs_w40 {z : CZ} : SK (X10_becomeAs_x z) 40 (X10_becomeAs_u40 (X10_becomeAs_f40)) := by
  intro ls st h r e
  obtain ⟨hst, e⟩ := gL_of e
  obtain ⟨t, q0, e⟩ := gT_of e
  obtain ⟨x1, q1, e⟩ := gR_of e
  rw [st_0 hst]
  exact WK.sub (canon := [some (.inr (9, t + 1)), some (.inr (9, x1))]) rfl ⟨q0, q1, trivial⟩ (X10_becomeAs_s40 _ _ _ _ ((X10_becomeAs_l40 t x1 h).trans e))
noncomputable def X10_becomeAs_g40 (t : Nat) (x1 : Nat) (h : PH) : Option Rs := X10_becomeAs_f40 t x1 h
noncomputable def X10_becomeAs_g0 (t : Nat) (x1 : Nat) (h : PH) : Option Rs := X10_becomeAs_f0 (X10_becomeAs_g40) t x1 h
theorem X10_becomeAs_v40 {z : CZ} : SK (X10_becomeAs_x z) 40 (X10_becomeAs_u40 (X10_becomeAs_g40)) := X10_becomeAs_w40
noncomputable def X10_becomeAs (t : Nat) (x1 : Nat) (h : PH) : Option Rs := X10_becomeAs_g0 t x1 h
noncomputable abbrev X10_becomeAs_F : List PV → PH → Option Rs := FW_T9R9 (X10_becomeAs)
set_option maxRecDepth 100000 in
theorem X10_becomeAs_gd (l : Launch) : Gd l 0 yX10_becomeAs cX10_becomeAs 2 none (X10_becomeAs_F)   := Gd_of (by decide +kernel) (fun z hzl as h r e => by
  obtain ⟨hst, e⟩ := gL_of e
  obtain ⟨t, q0, e⟩ := gT_of e
  obtain ⟨x1, q1, e⟩ := gR_of e
  rw [st_2 hst q0 q1]
  exact ⟨show 2 ≤ 2 by decide, X10_becomeAs_s0 (X10_becomeAs_v40) _ _ _ _ ((X10_becomeAs_l0 (X10_becomeAs_g40) t x1 h).trans e)⟩)
