abbrev X12_row_x (z : CZ) : CX := mx RX12 cX12_row 5 2 (some .int) "row" z
noncomputable def X12_row_b0 (c_X12_isSign : Nat → Int32 → PH → Option Rs) (c_X12_in : Int32 → Int32 → Int32 → PH → Option Rs) (c_X12_rowsOf : Nat → Int32 → PH → Option Rs) (c_X12_of5 : Nat → Int32 → Int32 → PH → Option Rs) (c_X12_mostBy : Int32 → PH → Option Rs) (c_X12_saves : Nat → PH → Option Rs) (c_X12_setsRow : Nat → Int32 → Int32 → Int32 → Int32 → PH → Option Rs) : Kn := (a_al 0 (a_il 1 (a_vI 11 1 (FW_T11I c_X12_isSign) (a_z (a_ic (-1000000001) a_ir) (a_il 2 (a_ic 0 (a_ic 13 (a_sI 3 (FW_III c_X12_in) (a_z (a_ic (-1000000001) a_ir) (a_il 3 (a_ic 0 (a_ic 7 (a_sI 3 (FW_III c_X12_in) (a_z (a_ic (-1000000001) a_ir) (a_al 0 (a_il 1 (a_vI 11 1 (FW_T11I c_X12_rowsOf) (a_is 4 (a_il 4 (a_al 0 (a_il 1 (a_ic 1 (a_vI 11 2 (FW_T11II c_X12_of5) (a_sI 1 (FW_I c_X12_mostBy) (a_lt (a_al 0 (a_vV 11 0 (FW_T11 c_X12_saves) (a_al 0 (a_il 1 (a_il 4 (a_il 2 (a_il 3 (a_vV 11 4 (FW_T11IIII c_X12_setsRow) (a_al 0 (a_gR 11 704 41 (a_ic 155 (a_ic 5 (a_il 1 (a_b (fun a b => a * b) (a_b (fun a b => a + b) (a_ic 2 (a_b (fun a b => a + b) (a_il 4 (a_ic 1 (a_b (fun a b => a + b) (a_ast 41 2624 (fun a => a) (a_il 4 (a_ic 1 (a_b (fun a b => a + b) a_ir)))))))))))))))))))))))) (a_ic (-1000000003) a_ir))))))))))))))))))))))))))
set_option maxRecDepth 100000 in
theorem X12_row_s0 {z : CZ} : SK (X12_row_x z) 0 (X12_row_b0 X12_isSign X12_in X12_rowsOf X12_of5 X12_mostBy X12_saves X12_setsRow) := (s_aloadn (pc := 0) dX12_row_0 rfl (s_iloadn (pc := 1) dX12_row_1 rfl (s_vI (pc := 2) (run_virtual (X12_isSign_gd _) (show 1 < 2 by decide) cy_X12_isSign (by decide) rfl w_1530 w_s37 w_1528 dX12_row_2) (s_ifeq (pc := 5) dX12_row_5 (by decide) (s_ldc (pc := 28) w_1466 dX12_row_28 (s_ir (pc := 30) rfl dX12_row_30)) (s_iloadn (pc := 8) dX12_row_8 rfl (s_iconst (pc := 9) dX12_row_9 c_ic_0 (s_bipush (pc := 10) dX12_row_10 c_bp_13 (s_sI (pc := 12) (run_static (X12_in_gd _) (show 0 < 2 by decide) cy_X12_in w_1464 w_1463 dX12_row_12) (s_ifeq (pc := 15) dX12_row_15 (by decide) (s_ldc (pc := 28) w_1466 dX12_row_28 (s_ir (pc := 30) rfl dX12_row_30)) (s_iloadn (pc := 18) dX12_row_18 rfl (s_iconst (pc := 19) dX12_row_19 c_ic_0 (s_bipush (pc := 20) dX12_row_20 c_bp_7 (s_sI (pc := 22) (run_static (X12_in_gd _) (show 0 < 2 by decide) cy_X12_in w_1464 w_1463 dX12_row_22) (s_ifne (pc := 25) dX12_row_25 (by decide) (s_aloadn (pc := 31) dX12_row_31 rfl (s_iloadn (pc := 32) dX12_row_32 rfl (s_vI (pc := 33) (run_virtual (X12_rowsOf_gd _) (show 1 < 2 by decide) cy_X12_rowsOf (by decide) rfl w_1538 w_s39 w_1536 dX12_row_33) (s_istore (pc := 36) dX12_row_36 (show 4 < 5 by decide) (s_iload (pc := 38) dX12_row_38 (s_aloadn (pc := 40) dX12_row_40 rfl (s_iloadn (pc := 41) dX12_row_41 rfl (s_iconst (pc := 42) dX12_row_42 c_ic_1 (s_vI (pc := 43) (run_virtual (X12_of5_gd _) (show 0 < 2 by decide) cy_X12_of5 (by decide) rfl w_1534 w_s38 w_1532 dX12_row_43) (s_sI (pc := 46) (run_static (X12_mostBy_gd _) (show 0 < 2 by decide) cy_X12_mostBy w_1541 w_1540 dX12_row_46) (s_cmplt (pc := 49) dX12_row_49 (by decide) (s_aloadn (pc := 55) dX12_row_55 rfl (s_vV (pc := 56) (run_virtual (X12_saves_gd _) (show 0 < 2 by decide) cy_X12_saves (by decide) rfl w_1579 w_s42 w_1577 dX12_row_56) (s_aloadn (pc := 59) dX12_row_59 rfl (s_iloadn (pc := 60) dX12_row_60 rfl (s_iload (pc := 61) dX12_row_61 (s_iloadn (pc := 63) dX12_row_63 rfl (s_iloadn (pc := 64) dX12_row_64 rfl (s_vV (pc := 65) (run_virtual (X12_setsRow_gd _) (show 0 < 2 by decide) cy_X12_setsRow (by decide) rfl w_1583 w_s43 w_1581 dX12_row_65) (s_aloadn (pc := 68) dX12_row_68 rfl (s_gR (pc := 69) (f := 0) ko_11 (by decide) rfl rfl w_1295 dX12_row_69 (s_sipush (pc := 72) dX12_row_72 c_sp_155 (s_iconst (pc := 75) dX12_row_75 c_ic_5 (s_iloadn (pc := 76) dX12_row_76 rfl (s_imul (pc := 77) dX12_row_77 (s_iadd (pc := 78) dX12_row_78 (s_iconst (pc := 79) dX12_row_79 c_ic_2 (s_iadd (pc := 80) dX12_row_80 (s_iload (pc := 81) dX12_row_81 (s_iconst (pc := 83) dX12_row_83 c_ic_1 (s_iadd (pc := 84) dX12_row_84 (s_iast (pc := 85) (by decide) (by decide) rfl rfl rfl dX12_row_85 (s_iload (pc := 86) dX12_row_86 (s_iconst (pc := 88) dX12_row_88 c_ic_1 (s_iadd (pc := 89) dX12_row_89 (s_ir (pc := 90) rfl dX12_row_90))))))))))))))))))))))))) (s_ldc (pc := 52) w_1454 dX12_row_52 (s_ir (pc := 54) rfl dX12_row_54))))))))))))) (s_ldc (pc := 28) w_1466 dX12_row_28 (s_ir (pc := 30) rfl dX12_row_30))))))))))))))))
noncomputable def X12_row_f0 (c_X12_isSign : Nat → Int32 → PH → Option Rs) (c_X12_in : Int32 → Int32 → Int32 → PH → Option Rs) (c_X12_rowsOf : Nat → Int32 → PH → Option Rs) (c_X12_of5 : Nat → Int32 → Int32 → PH → Option Rs) (c_X12_mostBy : Int32 → PH → Option Rs) (c_X12_saves : Nat → PH → Option Rs) (c_X12_setsRow : Nat → Int32 → Int32 → Int32 → Int32 → PH → Option Rs) (t : Nat) (x1 : Int32) (x2 : Int32) (x3 : Int32) (h : PH) : Option Rs :=
  cI (c_X12_isSign t x1 h) fun v2 h1 =>
  if v2 = 0 then
    some (some (.inl (-1000000001)), h1)
  else
    cI (c_X12_in x2 0 13 h1) fun v4 h3 =>
    if v4 = 0 then
      some (some (.inl (-1000000001)), h3)
    else
      cI (c_X12_in x3 0 7 h3) fun v6 h5 =>
      if v6 = 0 then
        some (some (.inl (-1000000001)), h5)
      else
        cI (c_X12_rowsOf t x1 h5) fun v8 h7 =>
        cI (c_X12_of5 t x1 1 h7) fun v10 h9 =>
        cI (c_X12_mostBy v10 h9) fun v12 h11 =>
        if v8 < v12 then
          cV (c_X12_saves t h11) fun h13 =>
          cV (c_X12_setsRow t x1 v8 x2 x3 h13) fun h14 =>
          nn (hR h14 704 t 0) fun r15 =>
          ix ((155 + (5 * x1)) + 2) (hL h14 41 r15) fun j16 =>
          wr (pI h14 2624 r15 j16 (v8 + 1)) fun h17 =>
          some (some (.inl (v8 + 1)), h17)
        else
          some (some (.inl (-1000000003)), h11)
set_option maxRecDepth 100000 in
theorem X12_row_l0 (c_X12_isSign : Nat → Int32 → PH → Option Rs) (c_X12_in : Int32 → Int32 → Int32 → PH → Option Rs) (c_X12_rowsOf : Nat → Int32 → PH → Option Rs) (c_X12_of5 : Nat → Int32 → Int32 → PH → Option Rs) (c_X12_mostBy : Int32 → PH → Option Rs) (c_X12_saves : Nat → PH → Option Rs) (c_X12_setsRow : Nat → Int32 → Int32 → Int32 → Int32 → PH → Option Rs) (t : Nat) (x1 : Int32) (x2 : Int32) (x3 : Int32) (h : PH) : X12_row_b0 c_X12_isSign c_X12_in c_X12_rowsOf c_X12_of5 c_X12_mostBy c_X12_saves c_X12_setsRow [some (.inr (11, t + 1)), some (.inl x1), some (.inl x2), some (.inl x3), none] [] h = X12_row_f0 c_X12_isSign c_X12_in c_X12_rowsOf c_X12_of5 c_X12_mostBy c_X12_saves c_X12_setsRow t x1 x2 x3 h := rfl
noncomputable def X12_row_g0 (t : Nat) (x1 : Int32) (x2 : Int32) (x3 : Int32) (h : PH) : Option Rs := X12_row_f0 X12_isSign X12_in X12_rowsOf X12_of5 X12_mostBy X12_saves X12_setsRow t x1 x2 x3 h
noncomputable def X12_row (t : Nat) (x1 : Int32) (x2 : Int32) (x3 : Int32) (h : PH) : Option Rs := X12_row_g0 t x1 x2 x3 h
noncomputable abbrev X12_row_F : List PV → PH → Option Rs := FW_T11III (X12_row)
set_option maxRecDepth 100000 in
theorem X12_row_gd (l : Launch) : Gd l 2 yX12_row cX12_row 5 (some .int) (X12_row_F)   := Gd_of (by decide +kernel) (fun z hzl as h r e => by
  obtain ⟨hst, e⟩ := gL_of e
  obtain ⟨t, q0, e⟩ := gT_of e
  obtain ⟨x1, q1, e⟩ := gI_of e
  obtain ⟨x2, q2, e⟩ := gI_of e
  obtain ⟨x3, q3, e⟩ := gI_of e
  rw [st_4 hst q0 q1 q2 q3]
  exact ⟨show 4 ≤ 5 by decide, X12_row_s0 _ _ _ _ ((X12_row_l0 X12_isSign X12_in X12_rowsOf X12_of5 X12_mostBy X12_saves X12_setsRow t x1 x2 x3 h).trans e)⟩)
abbrev X12_nameAt_x (z : CZ) : CX := mx RX12 cX12_nameAt 3 0 (some .int) "nameAt" z
noncomputable def X12_nameAt_b0 : Kn := (a_al 0 (a_gR 11 704 41 (a_ic 225 (a_ic 12 (a_il 1 (a_b (fun a b => a * b) (a_b (fun a b => a + b) (a_ic 2 (a_il 2 (a_b (fun a b => a * b) (a_b (fun a b => a + b) (a_ald 41 2624 a_ir))))))))))))
set_option maxRecDepth 100000 in
theorem X12_nameAt_s0 {z : CZ} : SK (X12_nameAt_x z) 0 (X12_nameAt_b0) := (s_aloadn (pc := 0) dX12_nameAt_0 rfl (s_gR (pc := 1) (f := 0) ko_11 (by decide) rfl rfl w_1295 dX12_nameAt_1 (s_sipush (pc := 4) dX12_nameAt_4 c_sp_225 (s_bipush (pc := 7) dX12_nameAt_7 c_bp_12 (s_iloadn (pc := 9) dX12_nameAt_9 rfl (s_imul (pc := 10) dX12_nameAt_10 (s_iadd (pc := 11) dX12_nameAt_11 (s_iconst (pc := 12) dX12_nameAt_12 c_ic_2 (s_iloadn (pc := 13) dX12_nameAt_13 rfl (s_imul (pc := 14) dX12_nameAt_14 (s_iadd (pc := 15) dX12_nameAt_15 (s_iald (pc := 16) (by decide) (by decide) rfl rfl rfl dX12_nameAt_16 (s_ir (pc := 17) rfl dX12_nameAt_17)))))))))))))
noncomputable def X12_nameAt_f0 (t : Nat) (x1 : Int32) (x2 : Int32) (h : PH) : Option Rs :=
  nn (hR h 704 t 0) fun r1 =>
  ix ((225 + (12 * x1)) + (2 * x2)) (hL h 41 r1) fun j2 =>
  some (some (.inl (hI h 2624 r1 j2)), h)
set_option maxRecDepth 100000 in
theorem X12_nameAt_l0 (t : Nat) (x1 : Int32) (x2 : Int32) (h : PH) : X12_nameAt_b0 [some (.inr (11, t + 1)), some (.inl x1), some (.inl x2)] [] h = X12_nameAt_f0 t x1 x2 h := rfl
noncomputable def X12_nameAt_g0 (t : Nat) (x1 : Int32) (x2 : Int32) (h : PH) : Option Rs := X12_nameAt_f0 t x1 x2 h
noncomputable def X12_nameAt (t : Nat) (x1 : Int32) (x2 : Int32) (h : PH) : Option Rs := X12_nameAt_g0 t x1 x2 h
noncomputable abbrev X12_nameAt_F : List PV → PH → Option Rs := FW_T11II (X12_nameAt)
set_option maxRecDepth 100000 in
theorem X12_nameAt_gd (l : Launch) : Gd l 0 yX12_nameAt cX12_nameAt 3 (some .int) (X12_nameAt_F)   := Gd_of (by decide +kernel) (fun z hzl as h r e => by
  obtain ⟨hst, e⟩ := gL_of e
  obtain ⟨t, q0, e⟩ := gT_of e
  obtain ⟨x1, q1, e⟩ := gI_of e
  obtain ⟨x2, q2, e⟩ := gI_of e
  rw [st_3 hst q0 q1 q2]
  exact ⟨show 3 ≤ 3 by decide, X12_nameAt_s0 _ _ _ _ ((X12_nameAt_l0 t x1 x2 h).trans e)⟩)
abbrev X12_arrowAt_x (z : CZ) : CX := mx RX12 cX12_arrowAt 3 0 (some .int) "arrowAt" z
noncomputable def X12_arrowAt_b0 : Kn := (a_al 0 (a_gR 11 704 41 (a_ic 225 (a_ic 12 (a_il 1 (a_b (fun a b => a * b) (a_b (fun a b => a + b) (a_ic 2 (a_il 2 (a_b (fun a b => a * b) (a_b (fun a b => a + b) (a_ic 1 (a_b (fun a b => a + b) (a_ald 41 2624 a_ir))))))))))))))
set_option maxRecDepth 100000 in
theorem X12_arrowAt_s0 {z : CZ} : SK (X12_arrowAt_x z) 0 (X12_arrowAt_b0) := (s_aloadn (pc := 0) dX12_arrowAt_0 rfl (s_gR (pc := 1) (f := 0) ko_11 (by decide) rfl rfl w_1295 dX12_arrowAt_1 (s_sipush (pc := 4) dX12_arrowAt_4 c_sp_225 (s_bipush (pc := 7) dX12_arrowAt_7 c_bp_12 (s_iloadn (pc := 9) dX12_arrowAt_9 rfl (s_imul (pc := 10) dX12_arrowAt_10 (s_iadd (pc := 11) dX12_arrowAt_11 (s_iconst (pc := 12) dX12_arrowAt_12 c_ic_2 (s_iloadn (pc := 13) dX12_arrowAt_13 rfl (s_imul (pc := 14) dX12_arrowAt_14 (s_iadd (pc := 15) dX12_arrowAt_15 (s_iconst (pc := 16) dX12_arrowAt_16 c_ic_1 (s_iadd (pc := 17) dX12_arrowAt_17 (s_iald (pc := 18) (by decide) (by decide) rfl rfl rfl dX12_arrowAt_18 (s_ir (pc := 19) rfl dX12_arrowAt_19)))))))))))))))
noncomputable def X12_arrowAt_f0 (t : Nat) (x1 : Int32) (x2 : Int32) (h : PH) : Option Rs :=
  nn (hR h 704 t 0) fun r1 =>
  ix (((225 + (12 * x1)) + (2 * x2)) + 1) (hL h 41 r1) fun j2 =>
  some (some (.inl (hI h 2624 r1 j2)), h)
set_option maxRecDepth 100000 in
theorem X12_arrowAt_l0 (t : Nat) (x1 : Int32) (x2 : Int32) (h : PH) : X12_arrowAt_b0 [some (.inr (11, t + 1)), some (.inl x1), some (.inl x2)] [] h = X12_arrowAt_f0 t x1 x2 h := rfl
noncomputable def X12_arrowAt_g0 (t : Nat) (x1 : Int32) (x2 : Int32) (h : PH) : Option Rs := X12_arrowAt_f0 t x1 x2 h
noncomputable def X12_arrowAt (t : Nat) (x1 : Int32) (x2 : Int32) (h : PH) : Option Rs := X12_arrowAt_g0 t x1 x2 h
noncomputable abbrev X12_arrowAt_F : List PV → PH → Option Rs := FW_T11II (X12_arrowAt)
set_option maxRecDepth 100000 in
theorem X12_arrowAt_gd (l : Launch) : Gd l 0 yX12_arrowAt cX12_arrowAt 3 (some .int) (X12_arrowAt_F)   := Gd_of (by decide +kernel) (fun z hzl as h r e => by
  obtain ⟨hst, e⟩ := gL_of e
  obtain ⟨t, q0, e⟩ := gT_of e
  obtain ⟨x1, q1, e⟩ := gI_of e
  obtain ⟨x2, q2, e⟩ := gI_of e
  rw [st_3 hst q0 q1 q2]
  exact ⟨show 3 ≤ 3 by decide, X12_arrowAt_s0 _ _ _ _ ((X12_arrowAt_l0 t x1 x2 h).trans e)⟩)
abbrev X12_rowTold_x (z : CZ) : CX := mx RX12 cX12_rowTold 4 2 (some .int) "rowTold" z
noncomputable def X12_rowTold_b0 (c_X12_isSign : Nat → Int32 → PH → Option Rs) (c_X12_in : Int32 → Int32 → Int32 → PH → Option Rs) (c_X12_rowsOf : Nat → Int32 → PH → Option Rs) (c_X12_arrowAt : Nat → Int32 → Int32 → PH → Option Rs) (c_X12_nameAt : Nat → Int32 → Int32 → PH → Option Rs) : Kn := (a_al 0 (a_il 1 (a_vI 11 1 (FW_T11I c_X12_isSign) (a_z (a_ic (-1000000001) a_ir) (a_il 3 (a_ic 0 (a_ic 1 (a_sI 3 (FW_III c_X12_in) (a_z (a_ic (-1000000001) a_ir) (a_il 2 (a_ic 0 (a_al 0 (a_il 1 (a_vI 11 1 (FW_T11I c_X12_rowsOf) (a_ic 1 (a_b (fun a b => a - b) (a_sI 3 (FW_III c_X12_in) (a_z (a_ic (-1000000005) a_ir) (a_il 3 (a_z (a_al 0 (a_il 1 (a_il 2 (a_vI 11 2 (FW_T11II c_X12_nameAt) a_ir)))) (a_al 0 (a_il 1 (a_il 2 (a_vI 11 2 (FW_T11II c_X12_arrowAt) a_ir))))))))))))))))))))))))
set_option maxRecDepth 100000 in
theorem X12_rowTold_s0 {z : CZ} : SK (X12_rowTold_x z) 0 (X12_rowTold_b0 X12_isSign X12_in X12_rowsOf X12_arrowAt X12_nameAt) := (s_aloadn (pc := 0) dX12_rowTold_0 rfl (s_iloadn (pc := 1) dX12_rowTold_1 rfl (s_vI (pc := 2) (run_virtual (X12_isSign_gd _) (show 1 < 2 by decide) cy_X12_isSign (by decide) rfl w_1530 w_s37 w_1528 dX12_rowTold_2) (s_ifeq (pc := 5) dX12_rowTold_5 (by decide) (s_ldc (pc := 17) w_1466 dX12_rowTold_17 (s_ir (pc := 19) rfl dX12_rowTold_19)) (s_iloadn (pc := 8) dX12_rowTold_8 rfl (s_iconst (pc := 9) dX12_rowTold_9 c_ic_0 (s_iconst (pc := 10) dX12_rowTold_10 c_ic_1 (s_sI (pc := 11) (run_static (X12_in_gd _) (show 0 < 2 by decide) cy_X12_in w_1464 w_1463 dX12_rowTold_11) (s_ifne (pc := 14) dX12_rowTold_14 (by decide) (s_iloadn (pc := 20) dX12_rowTold_20 rfl (s_iconst (pc := 21) dX12_rowTold_21 c_ic_0 (s_aloadn (pc := 22) dX12_rowTold_22 rfl (s_iloadn (pc := 23) dX12_rowTold_23 rfl (s_vI (pc := 24) (run_virtual (X12_rowsOf_gd _) (show 1 < 2 by decide) cy_X12_rowsOf (by decide) rfl w_1538 w_s39 w_1536 dX12_rowTold_24) (s_iconst (pc := 27) dX12_rowTold_27 c_ic_1 (s_isub (pc := 28) dX12_rowTold_28 (s_sI (pc := 29) (run_static (X12_in_gd _) (show 0 < 2 by decide) cy_X12_in w_1464 w_1463 dX12_rowTold_29) (s_ifne (pc := 32) dX12_rowTold_32 (by decide) (s_iloadn (pc := 38) dX12_rowTold_38 rfl (s_ifne (pc := 39) dX12_rowTold_39 (by decide) (s_aloadn (pc := 51) dX12_rowTold_51 rfl (s_iloadn (pc := 52) dX12_rowTold_52 rfl (s_iloadn (pc := 53) dX12_rowTold_53 rfl (s_vI (pc := 54) (run_virtual (X12_arrowAt_gd _) (show 0 < 2 by decide) cy_X12_arrowAt (by decide) rfl w_1595 w_s45 w_1593 dX12_rowTold_54) (s_ir (pc := 57) rfl dX12_rowTold_57))))) (s_aloadn (pc := 42) dX12_rowTold_42 rfl (s_iloadn (pc := 43) dX12_rowTold_43 rfl (s_iloadn (pc := 44) dX12_rowTold_44 rfl (s_vI (pc := 45) (run_virtual (X12_nameAt_gd _) (show 0 < 2 by decide) cy_X12_nameAt (by decide) rfl w_1591 w_s44 w_1589 dX12_rowTold_45) (s_goto (pc := 48) dX12_rowTold_48 (by decide) (s_ir (pc := 57) rfl dX12_rowTold_57)))))))) (s_ldc (pc := 35) w_1515 dX12_rowTold_35 (s_ir (pc := 37) rfl dX12_rowTold_37))))))))))) (s_ldc (pc := 17) w_1466 dX12_rowTold_17 (s_ir (pc := 19) rfl dX12_rowTold_19)))))))))))
noncomputable def X12_rowTold_f0 (c_X12_isSign : Nat → Int32 → PH → Option Rs) (c_X12_in : Int32 → Int32 → Int32 → PH → Option Rs) (c_X12_rowsOf : Nat → Int32 → PH → Option Rs) (c_X12_arrowAt : Nat → Int32 → Int32 → PH → Option Rs) (c_X12_nameAt : Nat → Int32 → Int32 → PH → Option Rs) (t : Nat) (x1 : Int32) (x2 : Int32) (x3 : Int32) (h : PH) : Option Rs :=
  cI (c_X12_isSign t x1 h) fun v2 h1 =>
  if v2 = 0 then
    some (some (.inl (-1000000001)), h1)
  else
    cI (c_X12_in x3 0 1 h1) fun v4 h3 =>
    if v4 = 0 then
      some (some (.inl (-1000000001)), h3)
    else
      cI (c_X12_rowsOf t x1 h3) fun v6 h5 =>
      cI (c_X12_in x2 0 (v6 - 1) h5) fun v8 h7 =>
      if v8 = 0 then
        some (some (.inl (-1000000005)), h7)
      else
        if x3 = 0 then
          cI (c_X12_nameAt t x1 x2 h7) fun v12 h11 =>
          some (some (.inl v12), h11)
        else
          cI (c_X12_arrowAt t x1 x2 h7) fun v10 h9 =>
          some (some (.inl v10), h9)
set_option maxRecDepth 100000 in
theorem X12_rowTold_l0 (c_X12_isSign : Nat → Int32 → PH → Option Rs) (c_X12_in : Int32 → Int32 → Int32 → PH → Option Rs) (c_X12_rowsOf : Nat → Int32 → PH → Option Rs) (c_X12_arrowAt : Nat → Int32 → Int32 → PH → Option Rs) (c_X12_nameAt : Nat → Int32 → Int32 → PH → Option Rs) (t : Nat) (x1 : Int32) (x2 : Int32) (x3 : Int32) (h : PH) : X12_rowTold_b0 c_X12_isSign c_X12_in c_X12_rowsOf c_X12_arrowAt c_X12_nameAt [some (.inr (11, t + 1)), some (.inl x1), some (.inl x2), some (.inl x3)] [] h = X12_rowTold_f0 c_X12_isSign c_X12_in c_X12_rowsOf c_X12_arrowAt c_X12_nameAt t x1 x2 x3 h := rfl
noncomputable def X12_rowTold_g0 (t : Nat) (x1 : Int32) (x2 : Int32) (x3 : Int32) (h : PH) : Option Rs := X12_rowTold_f0 X12_isSign X12_in X12_rowsOf X12_arrowAt X12_nameAt t x1 x2 x3 h
noncomputable def X12_rowTold (t : Nat) (x1 : Int32) (x2 : Int32) (x3 : Int32) (h : PH) : Option Rs := X12_rowTold_g0 t x1 x2 x3 h
noncomputable abbrev X12_rowTold_F : List PV → PH → Option Rs := FW_T11III (X12_rowTold)
set_option maxRecDepth 100000 in
theorem X12_rowTold_gd (l : Launch) : Gd l 2 yX12_rowTold cX12_rowTold 4 (some .int) (X12_rowTold_F)   := Gd_of (by decide +kernel) (fun z hzl as h r e => by
  obtain ⟨hst, e⟩ := gL_of e
  obtain ⟨t, q0, e⟩ := gT_of e
  obtain ⟨x1, q1, e⟩ := gI_of e
  obtain ⟨x2, q2, e⟩ := gI_of e
  obtain ⟨x3, q3, e⟩ := gI_of e
  rw [st_4 hst q0 q1 q2 q3]
  exact ⟨show 4 ≤ 4 by decide, X12_rowTold_s0 _ _ _ _ ((X12_rowTold_l0 X12_isSign X12_in X12_rowsOf X12_arrowAt X12_nameAt t x1 x2 x3 h).trans e)⟩)
abbrev X12_drop_x (z : CZ) : CX := mx RX12 cX12_drop 5 2 (some .int) "drop" z
noncomputable def X12_drop_b0 (c_X12_isSign : Nat → Int32 → PH → Option Rs) (c_X12_rowsOf : Nat → Int32 → PH → Option Rs) (c_X12_in : Int32 → Int32 → Int32 → PH → Option Rs) (c_X12_saves : Nat → PH → Option Rs) (k41 : Kn) : Kn := (a_al 0 (a_il 1 (a_vI 11 1 (FW_T11I c_X12_isSign) (a_z (a_ic (-1000000001) a_ir) (a_il 2 (a_ic 0 (a_al 0 (a_il 1 (a_vI 11 1 (FW_T11I c_X12_rowsOf) (a_ic 1 (a_b (fun a b => a - b) (a_sI 3 (FW_III c_X12_in) (a_z (a_ic (-1000000001) a_ir) (a_al 0 (a_vV 11 0 (FW_T11 c_X12_saves) (a_al 0 (a_il 1 (a_vI 11 1 (FW_T11I c_X12_rowsOf) (a_ic 1 (a_b (fun a b => a - b) (a_is 3 (a_il 2 (a_is 4 k41)))))))))))))))))))))))
set_option maxRecDepth 100000 in
theorem X12_drop_s0 {z : CZ} {k41 : Kn} (hk41 : SK (X12_drop_x z) 41 k41) : SK (X12_drop_x z) 0 (X12_drop_b0 X12_isSign X12_rowsOf X12_in X12_saves k41) := (s_aloadn (pc := 0) dX12_drop_0 rfl (s_iloadn (pc := 1) dX12_drop_1 rfl (s_vI (pc := 2) (run_virtual (X12_isSign_gd _) (show 1 < 2 by decide) cy_X12_isSign (by decide) rfl w_1530 w_s37 w_1528 dX12_drop_2) (s_ifeq (pc := 5) dX12_drop_5 (by decide) (s_ldc (pc := 23) w_1466 dX12_drop_23 (s_ir (pc := 25) rfl dX12_drop_25)) (s_iloadn (pc := 8) dX12_drop_8 rfl (s_iconst (pc := 9) dX12_drop_9 c_ic_0 (s_aloadn (pc := 10) dX12_drop_10 rfl (s_iloadn (pc := 11) dX12_drop_11 rfl (s_vI (pc := 12) (run_virtual (X12_rowsOf_gd _) (show 1 < 2 by decide) cy_X12_rowsOf (by decide) rfl w_1538 w_s39 w_1536 dX12_drop_12) (s_iconst (pc := 15) dX12_drop_15 c_ic_1 (s_isub (pc := 16) dX12_drop_16 (s_sI (pc := 17) (run_static (X12_in_gd _) (show 0 < 2 by decide) cy_X12_in w_1464 w_1463 dX12_drop_17) (s_ifne (pc := 20) dX12_drop_20 (by decide) (s_aloadn (pc := 26) dX12_drop_26 rfl (s_vV (pc := 27) (run_virtual (X12_saves_gd _) (show 0 < 2 by decide) cy_X12_saves (by decide) rfl w_1579 w_s42 w_1577 dX12_drop_27) (s_aloadn (pc := 30) dX12_drop_30 rfl (s_iloadn (pc := 31) dX12_drop_31 rfl (s_vI (pc := 32) (run_virtual (X12_rowsOf_gd _) (show 1 < 2 by decide) cy_X12_rowsOf (by decide) rfl w_1538 w_s39 w_1536 dX12_drop_32) (s_iconst (pc := 35) dX12_drop_35 c_ic_1 (s_isub (pc := 36) dX12_drop_36 (s_istoren (pc := 37) dX12_drop_37 rfl (show 3 < 5 by decide) (s_iloadn (pc := 38) dX12_drop_38 rfl (s_istore (pc := 39) dX12_drop_39 (show 4 < 5 by decide) hk41)))))))))) (s_ldc (pc := 23) w_1466 dX12_drop_23 (s_ir (pc := 25) rfl dX12_drop_25)))))))))))))))
noncomputable def X12_drop_b41 (c_X12_nameAt : Nat → Int32 → Int32 → PH → Option Rs) (c_X12_arrowAt : Nat → Int32 → Int32 → PH → Option Rs) (c_X12_setsRow : Nat → Int32 → Int32 → Int32 → Int32 → PH → Option Rs) (k41 : Kn) : Kn := (a_il 4 (a_il 3 (a_lt (a_al 0 (a_il 1 (a_il 4 (a_al 0 (a_il 1 (a_il 4 (a_ic 1 (a_b (fun a b => a + b) (a_vI 11 2 (FW_T11II c_X12_nameAt) (a_al 0 (a_il 1 (a_il 4 (a_ic 1 (a_b (fun a b => a + b) (a_vI 11 2 (FW_T11II c_X12_arrowAt) (a_vV 11 4 (FW_T11IIII c_X12_setsRow) (a_inc 4 1 k41))))))))))))))))) (a_al 0 (a_gR 11 704 41 (a_ic 155 (a_ic 5 (a_il 1 (a_b (fun a b => a * b) (a_b (fun a b => a + b) (a_ic 2 (a_b (fun a b => a + b) (a_il 3 (a_ast 41 2624 (fun a => a) (a_il 3 a_ir)))))))))))))))
set_option maxRecDepth 100000 in
theorem X12_drop_s41 {z : CZ} {k41 : Kn} (hk41 : SK (X12_drop_x z) 41 k41) : SK (X12_drop_x z) 41 (X12_drop_b41 X12_nameAt X12_arrowAt X12_setsRow k41) := (s_iload (pc := 41) dX12_drop_41 (s_iloadn (pc := 43) dX12_drop_43 rfl (s_cmpge (pc := 44) dX12_drop_44 (by decide) (s_aloadn (pc := 78) dX12_drop_78 rfl (s_gR (pc := 79) (f := 0) ko_11 (by decide) rfl rfl w_1295 dX12_drop_79 (s_sipush (pc := 82) dX12_drop_82 c_sp_155 (s_iconst (pc := 85) dX12_drop_85 c_ic_5 (s_iloadn (pc := 86) dX12_drop_86 rfl (s_imul (pc := 87) dX12_drop_87 (s_iadd (pc := 88) dX12_drop_88 (s_iconst (pc := 89) dX12_drop_89 c_ic_2 (s_iadd (pc := 90) dX12_drop_90 (s_iloadn (pc := 91) dX12_drop_91 rfl (s_iast (pc := 92) (by decide) (by decide) rfl rfl rfl dX12_drop_92 (s_iloadn (pc := 93) dX12_drop_93 rfl (s_ir (pc := 94) rfl dX12_drop_94))))))))))))) (s_aloadn (pc := 47) dX12_drop_47 rfl (s_iloadn (pc := 48) dX12_drop_48 rfl (s_iload (pc := 49) dX12_drop_49 (s_aloadn (pc := 51) dX12_drop_51 rfl (s_iloadn (pc := 52) dX12_drop_52 rfl (s_iload (pc := 53) dX12_drop_53 (s_iconst (pc := 55) dX12_drop_55 c_ic_1 (s_iadd (pc := 56) dX12_drop_56 (s_vI (pc := 57) (run_virtual (X12_nameAt_gd _) (show 0 < 2 by decide) cy_X12_nameAt (by decide) rfl w_1591 w_s44 w_1589 dX12_drop_57) (s_aloadn (pc := 60) dX12_drop_60 rfl (s_iloadn (pc := 61) dX12_drop_61 rfl (s_iload (pc := 62) dX12_drop_62 (s_iconst (pc := 64) dX12_drop_64 c_ic_1 (s_iadd (pc := 65) dX12_drop_65 (s_vI (pc := 66) (run_virtual (X12_arrowAt_gd _) (show 0 < 2 by decide) cy_X12_arrowAt (by decide) rfl w_1595 w_s45 w_1593 dX12_drop_66) (s_vV (pc := 69) (run_virtual (X12_setsRow_gd _) (show 0 < 2 by decide) cy_X12_setsRow (by decide) rfl w_1583 w_s43 w_1581 dX12_drop_69) (s_iinc (pc := 72) dX12_drop_72 c_ic_1 (show 4 < 5 by decide) (s_goto (pc := 75) dX12_drop_75 (by decide) hk41)))))))))))))))))))))
noncomputable def X12_drop_u41 (g : Nat → Int32 → Int32 → Int32 → PH → Option Rs) : Kn := fun ls st h => gL 0 st (gT 11 ls 0 fun t => gI ls 1 fun x1 => gI ls 3 fun x3 => gI ls 4 fun x4 => g t x1 x3 x4 h)
noncomputable def X12_drop_f0 (c_X12_isSign : Nat → Int32 → PH → Option Rs) (c_X12_rowsOf : Nat → Int32 → PH → Option Rs) (c_X12_in : Int32 → Int32 → Int32 → PH → Option Rs) (c_X12_saves : Nat → PH → Option Rs) (g41 : Nat → Int32 → Int32 → Int32 → PH → Option Rs) (t : Nat) (x1 : Int32) (x2 : Int32) (h : PH) : Option Rs :=
  cI (c_X12_isSign t x1 h) fun v2 h1 =>
  if v2 = 0 then
    some (some (.inl (-1000000001)), h1)
  else
    cI (c_X12_rowsOf t x1 h1) fun v4 h3 =>
    cI (c_X12_in x2 0 (v4 - 1) h3) fun v6 h5 =>
    if v6 = 0 then
      some (some (.inl (-1000000001)), h5)
    else
      cV (c_X12_saves t h5) fun h7 =>
      cI (c_X12_rowsOf t x1 h7) fun v9 h8 =>
      g41 t x1 (v9 - 1) x2 h8
set_option maxRecDepth 100000 in
theorem X12_drop_l0 (c_X12_isSign : Nat → Int32 → PH → Option Rs) (c_X12_rowsOf : Nat → Int32 → PH → Option Rs) (c_X12_in : Int32 → Int32 → Int32 → PH → Option Rs) (c_X12_saves : Nat → PH → Option Rs) (g41 : Nat → Int32 → Int32 → Int32 → PH → Option Rs) (t : Nat) (x1 : Int32) (x2 : Int32) (h : PH) : X12_drop_b0 c_X12_isSign c_X12_rowsOf c_X12_in c_X12_saves (X12_drop_u41 g41) [some (.inr (11, t + 1)), some (.inl x1), some (.inl x2), none, none] [] h = X12_drop_f0 c_X12_isSign c_X12_rowsOf c_X12_in c_X12_saves g41 t x1 x2 h := rfl
theorem X12_drop_m0 {c_X12_isSign : Nat → Int32 → PH → Option Rs} {c_X12_rowsOf : Nat → Int32 → PH → Option Rs} {c_X12_in : Int32 → Int32 → Int32 → PH → Option Rs} {c_X12_saves : Nat → PH → Option Rs} {g41 G41 : Nat → Int32 → Int32 → Int32 → PH → Option Rs} (hg41 : ∀ a0 a1 a2 a3 a4, Mo (g41 a0 a1 a2 a3 a4) (G41 a0 a1 a2 a3 a4)) (t : Nat) (x1 : Int32) (x2 : Int32) (h : PH) : Mo (X12_drop_f0 c_X12_isSign c_X12_rowsOf c_X12_in c_X12_saves g41 t x1 x2 h) (X12_drop_f0 c_X12_isSign c_X12_rowsOf c_X12_in c_X12_saves G41 t x1 x2 h) := (mo_cI fun v2 h1 => (mo_if mo_rf (mo_cI fun v4 h3 => (mo_cI fun v6 h5 => (mo_if mo_rf (mo_cV fun h7 => (mo_cI fun v9 h8 => (hg41 t x1 (v9 - 1) x2 h8))))))))
noncomputable def X12_drop_f41 (c_X12_nameAt : Nat → Int32 → Int32 → PH → Option Rs) (c_X12_arrowAt : Nat → Int32 → Int32 → PH → Option Rs) (c_X12_setsRow : Nat → Int32 → Int32 → Int32 → Int32 → PH → Option Rs) (g41 : Nat → Int32 → Int32 → Int32 → PH → Option Rs) (t : Nat) (x1 : Int32) (x3 : Int32) (x4 : Int32) (h : PH) : Option Rs :=
  if x4 < x3 then
    cI (c_X12_nameAt t x1 (x4 + 1) h) fun v14 h13 =>
    cI (c_X12_arrowAt t x1 (x4 + 1) h13) fun v16 h15 =>
    cV (c_X12_setsRow t x1 x4 v14 v16 h15) fun h17 =>
    g41 t x1 x3 (x4 + 1) h17
  else
    nn (hR h 704 t 0) fun r10 =>
    ix ((155 + (5 * x1)) + 2) (hL h 41 r10) fun j11 =>
    wr (pI h 2624 r10 j11 x3) fun h12 =>
    some (some (.inl x3), h12)
set_option maxRecDepth 100000 in
theorem X12_drop_l41 (c_X12_nameAt : Nat → Int32 → Int32 → PH → Option Rs) (c_X12_arrowAt : Nat → Int32 → Int32 → PH → Option Rs) (c_X12_setsRow : Nat → Int32 → Int32 → Int32 → Int32 → PH → Option Rs) (g41 : Nat → Int32 → Int32 → Int32 → PH → Option Rs) (t : Nat) (x1 : Int32) (x3 : Int32) (x4 : Int32) (h : PH) : X12_drop_b41 c_X12_nameAt c_X12_arrowAt c_X12_setsRow (X12_drop_u41 g41) [some (.inr (11, t + 1)), some (.inl x1), none, some (.inl x3), some (.inl x4)] [] h = X12_drop_f41 c_X12_nameAt c_X12_arrowAt c_X12_setsRow g41 t x1 x3 x4 h := rfl
theorem X12_drop_m41 {c_X12_nameAt : Nat → Int32 → Int32 → PH → Option Rs} {c_X12_arrowAt : Nat → Int32 → Int32 → PH → Option Rs} {c_X12_setsRow : Nat → Int32 → Int32 → Int32 → Int32 → PH → Option Rs} {g41 G41 : Nat → Int32 → Int32 → Int32 → PH → Option Rs} (hg41 : ∀ a0 a1 a2 a3 a4, Mo (g41 a0 a1 a2 a3 a4) (G41 a0 a1 a2 a3 a4)) (t : Nat) (x1 : Int32) (x3 : Int32) (x4 : Int32) (h : PH) : Mo (X12_drop_f41 c_X12_nameAt c_X12_arrowAt c_X12_setsRow g41 t x1 x3 x4 h) (X12_drop_f41 c_X12_nameAt c_X12_arrowAt c_X12_setsRow G41 t x1 x3 x4 h) := (mo_if (mo_cI fun v14 h13 => (mo_cI fun v16 h15 => (mo_cV fun h17 => (hg41 t x1 x3 (x4 + 1) h17)))) (mo_nn fun r10 => (mo_ix fun j11 => (mo_wr fun h12 => mo_rf))))
theorem X12_drop_w41 {z : CZ} {g41 : Nat → Int32 → Int32 → Int32 → PH → Option Rs} (hk41 : SK (X12_drop_x z) 41 (X12_drop_u41 g41)) : SK (X12_drop_x z) 41 (X12_drop_u41 (X12_drop_f41 X12_nameAt X12_arrowAt X12_setsRow g41)) := by
  intro ls st h r e
  obtain ⟨hst, e⟩ := gL_of e
  obtain ⟨t, q0, e⟩ := gT_of e
  obtain ⟨x1, q1, e⟩ := gI_of e
  obtain ⟨x3, q2, e⟩ := gI_of e
  obtain ⟨x4, q3, e⟩ := gI_of e
  rw [st_0 hst]
  exact WK.sub (canon := [some (.inr (11, t + 1)), some (.inl x1), none, some (.inl x3), some (.inl x4)]) rfl ⟨q0, q1, q2, q3, trivial⟩ (X12_drop_s41 hk41 _ _ _ _ ((X12_drop_l41 X12_nameAt X12_arrowAt X12_setsRow g41 t x1 x3 x4 h).trans e))
noncomputable def X12_drop_g0 (G : (Nat → Int32 → Int32 → Int32 → PH → Option Rs)) (t : Nat) (x1 : Int32) (x2 : Int32) (h : PH) : Option Rs := X12_drop_f0 X12_isSign X12_rowsOf X12_in X12_saves (G) t x1 x2 h
noncomputable def X12_drop_g41 (G : (Nat → Int32 → Int32 → Int32 → PH → Option Rs)) (t : Nat) (x1 : Int32) (x3 : Int32) (x4 : Int32) (h : PH) : Option Rs := X12_drop_f41 X12_nameAt X12_arrowAt X12_setsRow (G) t x1 x3 x4 h
theorem X12_drop_v41 {z : CZ} {G : (Nat → Int32 → Int32 → Int32 → PH → Option Rs)} (hG41 : SK (X12_drop_x z) 41 (X12_drop_u41 (G))) : SK (X12_drop_x z) 41 (X12_drop_u41 (X12_drop_g41 G)) := X12_drop_w41 hG41
noncomputable def X12_drop_fam : Nat → (Nat → Int32 → Int32 → Int32 → PH → Option Rs)
  | 0 => fun _ _ _ _ _ => none
  | n + 1 => X12_drop_g41 (X12_drop_fam n)
theorem X12_drop_k {z : CZ} : ∀ n, SK (X12_drop_x z) 41 (X12_drop_u41 (X12_drop_fam n))
  | 0 => (fun ls st h r e => by
      obtain ⟨_, e⟩ := gL_of e
      obtain ⟨_, _, e⟩ := gT_of e
      obtain ⟨_, _, e⟩ := gI_of e
      obtain ⟨_, _, e⟩ := gI_of e
      obtain ⟨_, _, e⟩ := gI_of e
      cases e)
  | n + 1 => by
    obtain ih41 := X12_drop_k n
    exact X12_drop_v41 ih41
theorem X12_drop_n0 {G G' : (Nat → Int32 → Int32 → Int32 → PH → Option Rs)} (hg41 : ∀ a0 a1 a2 a3 a4, Mo ((G) a0 a1 a2 a3 a4) ((G') a0 a1 a2 a3 a4)) (t : Nat) (x1 : Int32) (x2 : Int32) (h : PH) : Mo (X12_drop_g0 G t x1 x2 h) (X12_drop_g0 G' t x1 x2 h) := X12_drop_m0 hg41 t x1 x2 h
theorem X12_drop_n41 {G G' : (Nat → Int32 → Int32 → Int32 → PH → Option Rs)} (hg41 : ∀ a0 a1 a2 a3 a4, Mo ((G) a0 a1 a2 a3 a4) ((G') a0 a1 a2 a3 a4)) (t : Nat) (x1 : Int32) (x3 : Int32) (x4 : Int32) (h : PH) : Mo (X12_drop_g41 G t x1 x3 x4 h) (X12_drop_g41 G' t x1 x3 x4 h) := X12_drop_m41 hg41 t x1 x3 x4 h
theorem X12_drop_fm : ∀ n, (∀ a0 a1 a2 a3 a4, Mo ((X12_drop_fam n) a0 a1 a2 a3 a4) ((X12_drop_fam (n + 1)) a0 a1 a2 a3 a4))
  | 0 => fun _ _ _ _ _ => mo_no
  | n + 1 => by
    obtain ih41 := X12_drop_fm n
    exact fun a0 a1 a2 a3 a4 => X12_drop_n41 ih41 a0 a1 a2 a3 a4
noncomputable def X12_drop (t : Nat) (x1 : Int32) (x2 : Int32) (h : PH) : Option Rs := lim (fun n => X12_drop_g0 (X12_drop_fam n) t x1 x2 h)
theorem X12_drop_iff {t : Nat} {x1 : Int32} {x2 : Int32} {h : PH} {r : Rs} : X12_drop t x1 x2 h = some r ↔ ∃ n, X12_drop_g0 (X12_drop_fam n) t x1 x2 h = some r := lim_iff (fun n => by
  obtain ih41 := X12_drop_fm n
  exact X12_drop_n0 ih41 t x1 x2 h)
noncomputable abbrev X12_drop_F : List PV → PH → Option Rs := FW_T11II (X12_drop)
set_option maxRecDepth 100000 in
theorem X12_drop_gd (l : Launch) : Gd l 2 yX12_drop cX12_drop 5 (some .int) (X12_drop_F)   := Gd_of (by decide +kernel) (fun z hzl as h r e => by
  obtain ⟨hst, e⟩ := gL_of e
  obtain ⟨t, q0, e⟩ := gT_of e
  obtain ⟨x1, q1, e⟩ := gI_of e
  obtain ⟨x2, q2, e⟩ := gI_of e
  rw [st_3 hst q0 q1 q2]
  obtain ⟨n, e⟩ := lim_of e
  obtain hG41 := X12_drop_k (z := z) n
  exact ⟨show 3 ≤ 5 by decide, X12_drop_s0 hG41 _ _ _ _ ((X12_drop_l0 X12_isSign X12_rowsOf X12_in X12_saves (X12_drop_fam n) t x1 x2 h).trans e)⟩)
abbrev X12_aim_x (z : CZ) : CX := mx RX12 cX12_aim 5 2 (some .int) "aim" z
noncomputable def X12_aim_b0 (c_X12_isSign : Nat → Int32 → PH → Option Rs) (c_X12_rowsOf : Nat → Int32 → PH → Option Rs) (c_X12_in : Int32 → Int32 → Int32 → PH → Option Rs) (c_X12_saves : Nat → PH → Option Rs) (c_X12_arrowAt : Nat → Int32 → Int32 → PH → Option Rs) (c_X12_nameAt : Nat → Int32 → Int32 → PH → Option Rs) (c_X12_setsRow : Nat → Int32 → Int32 → Int32 → Int32 → PH → Option Rs) : Kn := (a_al 0 (a_il 1 (a_vI 11 1 (FW_T11I c_X12_isSign) (a_z (a_ic (-1000000001) a_ir) (a_il 2 (a_ic 0 (a_al 0 (a_il 1 (a_vI 11 1 (FW_T11I c_X12_rowsOf) (a_ic 1 (a_b (fun a b => a - b) (a_sI 3 (FW_III c_X12_in) (a_z (a_ic (-1000000001) a_ir) (a_il 3 (a_ic 0 (a_ic 7 (a_sI 3 (FW_III c_X12_in) (a_z (a_ic (-1000000001) a_ir) (a_al 0 (a_vV 11 0 (FW_T11 c_X12_saves) (a_al 0 (a_il 1 (a_il 2 (a_vI 11 2 (FW_T11II c_X12_arrowAt) (a_is 4 (a_al 0 (a_il 1 (a_il 2 (a_al 0 (a_il 1 (a_il 2 (a_vI 11 2 (FW_T11II c_X12_nameAt) (a_il 3 (a_vV 11 4 (FW_T11IIII c_X12_setsRow) (a_il 4 a_ir)))))))))))))))))))))))))))))))))))
set_option maxRecDepth 100000 in
theorem X12_aim_s0 {z : CZ} : SK (X12_aim_x z) 0 (X12_aim_b0 X12_isSign X12_rowsOf X12_in X12_saves X12_arrowAt X12_nameAt X12_setsRow) := (s_aloadn (pc := 0) dX12_aim_0 rfl (s_iloadn (pc := 1) dX12_aim_1 rfl (s_vI (pc := 2) (run_virtual (X12_isSign_gd _) (show 1 < 2 by decide) cy_X12_isSign (by decide) rfl w_1530 w_s37 w_1528 dX12_aim_2) (s_ifeq (pc := 5) dX12_aim_5 (by decide) (s_ldc (pc := 33) w_1466 dX12_aim_33 (s_ir (pc := 35) rfl dX12_aim_35)) (s_iloadn (pc := 8) dX12_aim_8 rfl (s_iconst (pc := 9) dX12_aim_9 c_ic_0 (s_aloadn (pc := 10) dX12_aim_10 rfl (s_iloadn (pc := 11) dX12_aim_11 rfl (s_vI (pc := 12) (run_virtual (X12_rowsOf_gd _) (show 1 < 2 by decide) cy_X12_rowsOf (by decide) rfl w_1538 w_s39 w_1536 dX12_aim_12) (s_iconst (pc := 15) dX12_aim_15 c_ic_1 (s_isub (pc := 16) dX12_aim_16 (s_sI (pc := 17) (run_static (X12_in_gd _) (show 0 < 2 by decide) cy_X12_in w_1464 w_1463 dX12_aim_17) (s_ifeq (pc := 20) dX12_aim_20 (by decide) (s_ldc (pc := 33) w_1466 dX12_aim_33 (s_ir (pc := 35) rfl dX12_aim_35)) (s_iloadn (pc := 23) dX12_aim_23 rfl (s_iconst (pc := 24) dX12_aim_24 c_ic_0 (s_bipush (pc := 25) dX12_aim_25 c_bp_7 (s_sI (pc := 27) (run_static (X12_in_gd _) (show 0 < 2 by decide) cy_X12_in w_1464 w_1463 dX12_aim_27) (s_ifne (pc := 30) dX12_aim_30 (by decide) (s_aloadn (pc := 36) dX12_aim_36 rfl (s_vV (pc := 37) (run_virtual (X12_saves_gd _) (show 0 < 2 by decide) cy_X12_saves (by decide) rfl w_1579 w_s42 w_1577 dX12_aim_37) (s_aloadn (pc := 40) dX12_aim_40 rfl (s_iloadn (pc := 41) dX12_aim_41 rfl (s_iloadn (pc := 42) dX12_aim_42 rfl (s_vI (pc := 43) (run_virtual (X12_arrowAt_gd _) (show 0 < 2 by decide) cy_X12_arrowAt (by decide) rfl w_1595 w_s45 w_1593 dX12_aim_43) (s_istore (pc := 46) dX12_aim_46 (show 4 < 5 by decide) (s_aloadn (pc := 48) dX12_aim_48 rfl (s_iloadn (pc := 49) dX12_aim_49 rfl (s_iloadn (pc := 50) dX12_aim_50 rfl (s_aloadn (pc := 51) dX12_aim_51 rfl (s_iloadn (pc := 52) dX12_aim_52 rfl (s_iloadn (pc := 53) dX12_aim_53 rfl (s_vI (pc := 54) (run_virtual (X12_nameAt_gd _) (show 0 < 2 by decide) cy_X12_nameAt (by decide) rfl w_1591 w_s44 w_1589 dX12_aim_54) (s_iloadn (pc := 57) dX12_aim_57 rfl (s_vV (pc := 58) (run_virtual (X12_setsRow_gd _) (show 0 < 2 by decide) cy_X12_setsRow (by decide) rfl w_1583 w_s43 w_1581 dX12_aim_58) (s_iload (pc := 61) dX12_aim_61 (s_ir (pc := 63) rfl dX12_aim_63)))))))))))))))))) (s_ldc (pc := 33) w_1466 dX12_aim_33 (s_ir (pc := 35) rfl dX12_aim_35))))))))))))))))))))
noncomputable def X12_aim_f0 (c_X12_isSign : Nat → Int32 → PH → Option Rs) (c_X12_rowsOf : Nat → Int32 → PH → Option Rs) (c_X12_in : Int32 → Int32 → Int32 → PH → Option Rs) (c_X12_saves : Nat → PH → Option Rs) (c_X12_arrowAt : Nat → Int32 → Int32 → PH → Option Rs) (c_X12_nameAt : Nat → Int32 → Int32 → PH → Option Rs) (c_X12_setsRow : Nat → Int32 → Int32 → Int32 → Int32 → PH → Option Rs) (t : Nat) (x1 : Int32) (x2 : Int32) (x3 : Int32) (h : PH) : Option Rs :=
  cI (c_X12_isSign t x1 h) fun v2 h1 =>
  if v2 = 0 then
    some (some (.inl (-1000000001)), h1)
  else
    cI (c_X12_rowsOf t x1 h1) fun v4 h3 =>
    cI (c_X12_in x2 0 (v4 - 1) h3) fun v6 h5 =>
    if v6 = 0 then
      some (some (.inl (-1000000001)), h5)
    else
      cI (c_X12_in x3 0 7 h5) fun v8 h7 =>
      if v8 = 0 then
        some (some (.inl (-1000000001)), h7)
      else
        cV (c_X12_saves t h7) fun h9 =>
        cI (c_X12_arrowAt t x1 x2 h9) fun v11 h10 =>
        cI (c_X12_nameAt t x1 x2 h10) fun v13 h12 =>
        cV (c_X12_setsRow t x1 x2 v13 x3 h12) fun h14 =>
        some (some (.inl v11), h14)
set_option maxRecDepth 100000 in
theorem X12_aim_l0 (c_X12_isSign : Nat → Int32 → PH → Option Rs) (c_X12_rowsOf : Nat → Int32 → PH → Option Rs) (c_X12_in : Int32 → Int32 → Int32 → PH → Option Rs) (c_X12_saves : Nat → PH → Option Rs) (c_X12_arrowAt : Nat → Int32 → Int32 → PH → Option Rs) (c_X12_nameAt : Nat → Int32 → Int32 → PH → Option Rs) (c_X12_setsRow : Nat → Int32 → Int32 → Int32 → Int32 → PH → Option Rs) (t : Nat) (x1 : Int32) (x2 : Int32) (x3 : Int32) (h : PH) : X12_aim_b0 c_X12_isSign c_X12_rowsOf c_X12_in c_X12_saves c_X12_arrowAt c_X12_nameAt c_X12_setsRow [some (.inr (11, t + 1)), some (.inl x1), some (.inl x2), some (.inl x3), none] [] h = X12_aim_f0 c_X12_isSign c_X12_rowsOf c_X12_in c_X12_saves c_X12_arrowAt c_X12_nameAt c_X12_setsRow t x1 x2 x3 h := rfl
noncomputable def X12_aim_g0 (t : Nat) (x1 : Int32) (x2 : Int32) (x3 : Int32) (h : PH) : Option Rs := X12_aim_f0 X12_isSign X12_rowsOf X12_in X12_saves X12_arrowAt X12_nameAt X12_setsRow t x1 x2 x3 h
noncomputable def X12_aim (t : Nat) (x1 : Int32) (x2 : Int32) (x3 : Int32) (h : PH) : Option Rs := X12_aim_g0 t x1 x2 x3 h
noncomputable abbrev X12_aim_F : List PV → PH → Option Rs := FW_T11III (X12_aim)
set_option maxRecDepth 100000 in
theorem X12_aim_gd (l : Launch) : Gd l 2 yX12_aim cX12_aim 5 (some .int) (X12_aim_F)   := Gd_of (by decide +kernel) (fun z hzl as h r e => by
  obtain ⟨hst, e⟩ := gL_of e
  obtain ⟨t, q0, e⟩ := gT_of e
  obtain ⟨x1, q1, e⟩ := gI_of e
  obtain ⟨x2, q2, e⟩ := gI_of e
  obtain ⟨x3, q3, e⟩ := gI_of e
  rw [st_4 hst q0 q1 q2 q3]
  exact ⟨show 4 ≤ 5 by decide, X12_aim_s0 _ _ _ _ ((X12_aim_l0 X12_isSign X12_rowsOf X12_in X12_saves X12_arrowAt X12_nameAt X12_setsRow t x1 x2 x3 h).trans e)⟩)
abbrev X12_feed_x (z : CZ) : CX := mx RX12 cX12_feed 6 0 (some .int) "feed" z
noncomputable def X12_feed_b0 (k18 : Kn) : Kn := (a_al 0 (a_gI 11 711 (a_ic 12 (a_b (fun a b => a + b) (a_ic 96 (a_gt (a_ic (-1000000003) a_ir) (a_ic 0 (a_is 4 k18))))))))
set_option maxRecDepth 100000 in
theorem X12_feed_s0 {z : CZ} {k18 : Kn} (hk18 : SK (X12_feed_x z) 18 k18) : SK (X12_feed_x z) 0 (X12_feed_b0 k18) := (s_aloadn (pc := 0) dX12_feed_0 rfl (s_gI (pc := 1) (f := 7) ko_11 (by decide) rfl rfl w_1302 dX12_feed_1 (s_bipush (pc := 4) dX12_feed_4 c_bp_12 (s_iadd (pc := 6) dX12_feed_6 (s_bipush (pc := 7) dX12_feed_7 c_bp_96 (s_cmple (pc := 9) dX12_feed_9 (by decide) (s_iconst (pc := 15) dX12_feed_15 c_ic_0 (s_istore (pc := 16) dX12_feed_16 (show 4 < 6 by decide) hk18)) (s_ldc (pc := 12) w_1454 dX12_feed_12 (s_ir (pc := 14) rfl dX12_feed_14))))))))
noncomputable def X12_feed_b18 (k47 : Kn) : Kn := (a_il 4 (a_ic 12 (a_lt (a_il 4 (a_ic 4 (a_lt (a_il 1 k47) (a_il 4 (a_ic 8 (a_lt (a_il 2 k47) (a_il 3 k47))))))) (a_al 0 (a_dup (a_gI 11 711 (a_ic 12 (a_b (fun a b => a + b) (a_pI 11 711 (a_al 0 (a_gI 11 711 a_ir)))))))))))
set_option maxRecDepth 100000 in
theorem X12_feed_s18 {z : CZ} {k47 : Kn} (hk47 : SK (X12_feed_x z) 47 k47) : SK (X12_feed_x z) 18 (X12_feed_b18 k47) := (s_iload (pc := 18) dX12_feed_18 (s_bipush (pc := 20) dX12_feed_20 c_bp_12 (s_cmpge (pc := 22) dX12_feed_22 (by decide) (s_aloadn (pc := 84) dX12_feed_84 rfl (s_dup (pc := 85) dX12_feed_85 (s_gI (pc := 86) (f := 7) ko_11 (by decide) rfl rfl w_1302 dX12_feed_86 (s_bipush (pc := 89) dX12_feed_89 c_bp_12 (s_iadd (pc := 91) dX12_feed_91 (s_pI (pc := 92) (f := 7) ko_11 (by decide) rfl rfl rfl (by decide +kernel) w_1302 dX12_feed_92 (s_aloadn (pc := 95) dX12_feed_95 rfl (s_gI (pc := 96) (f := 7) ko_11 (by decide) rfl rfl w_1302 dX12_feed_96 (s_ir (pc := 99) rfl dX12_feed_99))))))))) (s_iload (pc := 25) dX12_feed_25 (s_iconst (pc := 27) dX12_feed_27 c_ic_4 (s_cmpge (pc := 28) dX12_feed_28 (by decide) (s_iload (pc := 35) dX12_feed_35 (s_bipush (pc := 37) dX12_feed_37 c_bp_8 (s_cmpge (pc := 39) dX12_feed_39 (by decide) (s_iloadn (pc := 46) dX12_feed_46 rfl hk47) (s_iloadn (pc := 42) dX12_feed_42 rfl (s_goto (pc := 43) dX12_feed_43 (by decide) hk47))))) (s_iloadn (pc := 31) dX12_feed_31 rfl (s_goto (pc := 32) dX12_feed_32 (by decide) hk47))))))))
noncomputable def X12_feed_b47 (k18 : Kn) : Kn := (a_is 5 (a_al 0 (a_gR 11 710 45 (a_al 0 (a_gI 11 711 (a_il 4 (a_b (fun a b => a + b) (a_il 5 (a_ic 24 (a_ic 8 (a_il 4 (a_ic 4 (a_rem (a_b (fun a b => a * b) (a_b (fun a b => a - b) (a_b jshr (a_ic 255 (a_b (fun a b => a &&& b) (a_ast 45 2880 (fun a => a) (a_inc 4 1 k18))))))))))))))))))))
set_option maxRecDepth 100000 in
theorem X12_feed_s47 {z : CZ} {k18 : Kn} (hk18 : SK (X12_feed_x z) 18 k18) : SK (X12_feed_x z) 47 (X12_feed_b47 k18) := (s_istore (pc := 47) dX12_feed_47 (show 5 < 6 by decide) (s_aloadn (pc := 49) dX12_feed_49 rfl (s_gR (pc := 50) (f := 6) ko_11 (by decide) rfl rfl w_1301 dX12_feed_50 (s_aloadn (pc := 53) dX12_feed_53 rfl (s_gI (pc := 54) (f := 7) ko_11 (by decide) rfl rfl w_1302 dX12_feed_54 (s_iload (pc := 57) dX12_feed_57 (s_iadd (pc := 59) dX12_feed_59 (s_iload (pc := 60) dX12_feed_60 (s_bipush (pc := 62) dX12_feed_62 c_bp_24 (s_bipush (pc := 64) dX12_feed_64 c_bp_8 (s_iload (pc := 66) dX12_feed_66 (s_iconst (pc := 68) dX12_feed_68 c_ic_4 (s_irem (pc := 69) dX12_feed_69 (s_imul (pc := 70) dX12_feed_70 (s_isub (pc := 71) dX12_feed_71 (s_ishr (pc := 72) dX12_feed_72 (s_sipush (pc := 73) dX12_feed_73 c_sp_255 (s_iand (pc := 76) dX12_feed_76 (s_iast (pc := 77) (by decide) (by decide) rfl rfl rfl dX12_feed_77 (s_iinc (pc := 78) dX12_feed_78 c_ic_1 (show 4 < 6 by decide) (s_goto (pc := 81) dX12_feed_81 (by decide) hk18)))))))))))))))))))))
noncomputable def X12_feed_u18 (g : Nat → Int32 → Int32 → Int32 → Int32 → PH → Option Rs) : Kn := fun ls st h => gL 0 st (gT 11 ls 0 fun t => gI ls 1 fun x1 => gI ls 2 fun x2 => gI ls 3 fun x3 => gI ls 4 fun x4 => g t x1 x2 x3 x4 h)
noncomputable def X12_feed_u47 (g : Nat → Int32 → Int32 → Int32 → Int32 → Int32 → PH → Option Rs) : Kn := fun ls st h => gL 1 st (gT 11 ls 0 fun t => gI ls 1 fun x1 => gI ls 2 fun x2 => gI ls 3 fun x3 => gI ls 4 fun x4 => gI (st.map some) 0 fun s0 => g t x1 x2 x3 x4 s0 h)
noncomputable def X12_feed_f0 (g18 : Nat → Int32 → Int32 → Int32 → Int32 → PH → Option Rs) (t : Nat) (x1 : Int32) (x2 : Int32) (x3 : Int32) (h : PH) : Option Rs :=
  if 96 < ((hI h 711 t 0) + 12) then
    some (some (.inl (-1000000003)), h)
  else
    g18 t x1 x2 x3 0 h
set_option maxRecDepth 100000 in
theorem X12_feed_l0 (g18 : Nat → Int32 → Int32 → Int32 → Int32 → PH → Option Rs) (t : Nat) (x1 : Int32) (x2 : Int32) (x3 : Int32) (h : PH) : X12_feed_b0 (X12_feed_u18 g18) [some (.inr (11, t + 1)), some (.inl x1), some (.inl x2), some (.inl x3), none, none] [] h = X12_feed_f0 g18 t x1 x2 x3 h := rfl
theorem X12_feed_m0 {g18 G18 : Nat → Int32 → Int32 → Int32 → Int32 → PH → Option Rs} (hg18 : ∀ a0 a1 a2 a3 a4 a5, Mo (g18 a0 a1 a2 a3 a4 a5) (G18 a0 a1 a2 a3 a4 a5)) (t : Nat) (x1 : Int32) (x2 : Int32) (x3 : Int32) (h : PH) : Mo (X12_feed_f0 g18 t x1 x2 x3 h) (X12_feed_f0 G18 t x1 x2 x3 h) := (mo_if mo_rf (hg18 t x1 x2 x3 0 h))
noncomputable def X12_feed_f18 (g47 : Nat → Int32 → Int32 → Int32 → Int32 → Int32 → PH → Option Rs) (t : Nat) (x1 : Int32) (x2 : Int32) (x3 : Int32) (x4 : Int32) (h : PH) : Option Rs :=
  if x4 < 12 then
    if x4 < 4 then
      g47 t x1 x2 x3 x4 x1 h
    else
      if x4 < 8 then
        g47 t x1 x2 x3 x4 x2 h
      else
        g47 t x1 x2 x3 x4 x3 h
  else
    wr (pI h 711 t 0 ((hI h 711 t 0) + 12)) fun h1 =>
    some (some (.inl (hI h1 711 t 0)), h1)
set_option maxRecDepth 100000 in
theorem X12_feed_l18 (g47 : Nat → Int32 → Int32 → Int32 → Int32 → Int32 → PH → Option Rs) (t : Nat) (x1 : Int32) (x2 : Int32) (x3 : Int32) (x4 : Int32) (h : PH) : X12_feed_b18 (X12_feed_u47 g47) [some (.inr (11, t + 1)), some (.inl x1), some (.inl x2), some (.inl x3), some (.inl x4), none] [] h = X12_feed_f18 g47 t x1 x2 x3 x4 h := rfl
theorem X12_feed_m18 {g47 G47 : Nat → Int32 → Int32 → Int32 → Int32 → Int32 → PH → Option Rs} (hg47 : ∀ a0 a1 a2 a3 a4 a5 a6, Mo (g47 a0 a1 a2 a3 a4 a5 a6) (G47 a0 a1 a2 a3 a4 a5 a6)) (t : Nat) (x1 : Int32) (x2 : Int32) (x3 : Int32) (x4 : Int32) (h : PH) : Mo (X12_feed_f18 g47 t x1 x2 x3 x4 h) (X12_feed_f18 G47 t x1 x2 x3 x4 h) := (mo_if (mo_if (hg47 t x1 x2 x3 x4 x1 h) (mo_if (hg47 t x1 x2 x3 x4 x2 h) (hg47 t x1 x2 x3 x4 x3 h))) (mo_wr fun h1 => mo_rf))
theorem X12_feed_w18 {z : CZ} {g47 : Nat → Int32 → Int32 → Int32 → Int32 → Int32 → PH → Option Rs} (hk47 : SK (X12_feed_x z) 47 (X12_feed_u47 g47)) : SK (X12_feed_x z) 18 (X12_feed_u18 (X12_feed_f18 g47)) := by
  intro ls st h r e
  obtain ⟨hst, e⟩ := gL_of e
  obtain ⟨t, q0, e⟩ := gT_of e
  obtain ⟨x1, q1, e⟩ := gI_of e
  obtain ⟨x2, q2, e⟩ := gI_of e
  obtain ⟨x3, q3, e⟩ := gI_of e
  obtain ⟨x4, q4, e⟩ := gI_of e
  rw [st_0 hst]
  exact WK.sub (canon := [some (.inr (11, t + 1)), some (.inl x1), some (.inl x2), some (.inl x3), some (.inl x4), none]) rfl ⟨q0, q1, q2, q3, q4, trivial⟩ (X12_feed_s18 hk47 _ _ _ _ ((X12_feed_l18 g47 t x1 x2 x3 x4 h).trans e))
noncomputable def X12_feed_f47 (g18 : Nat → Int32 → Int32 → Int32 → Int32 → PH → Option Rs) (t : Nat) (x1 : Int32) (x2 : Int32) (x3 : Int32) (x4 : Int32) (s0 : Int32) (h : PH) : Option Rs :=
  dv 4 <|
  nn (hR h 710 t 0) fun r2 =>
  ix ((hI h 711 t 0) + x4) (hL h 45 r2) fun j3 =>
  wr (pI h 2880 r2 j3 ((jshr s0 (24 - (8 * (jrem x4 4)))) &&& 255)) fun h4 =>
  g18 t x1 x2 x3 (x4 + 1) h4
set_option maxRecDepth 100000 in
theorem X12_feed_l47 (g18 : Nat → Int32 → Int32 → Int32 → Int32 → PH → Option Rs) (t : Nat) (x1 : Int32) (x2 : Int32) (x3 : Int32) (x4 : Int32) (s0 : Int32) (h : PH) : X12_feed_b47 (X12_feed_u18 g18) [some (.inr (11, t + 1)), some (.inl x1), some (.inl x2), some (.inl x3), some (.inl x4), none] [.inl s0] h = X12_feed_f47 g18 t x1 x2 x3 x4 s0 h := rfl
theorem X12_feed_m47 {g18 G18 : Nat → Int32 → Int32 → Int32 → Int32 → PH → Option Rs} (hg18 : ∀ a0 a1 a2 a3 a4 a5, Mo (g18 a0 a1 a2 a3 a4 a5) (G18 a0 a1 a2 a3 a4 a5)) (t : Nat) (x1 : Int32) (x2 : Int32) (x3 : Int32) (x4 : Int32) (s0 : Int32) (h : PH) : Mo (X12_feed_f47 g18 t x1 x2 x3 x4 s0 h) (X12_feed_f47 G18 t x1 x2 x3 x4 s0 h) := (mo_dv (mo_nn fun r2 => (mo_ix fun j3 => (mo_wr fun h4 => (hg18 t x1 x2 x3 (x4 + 1) h4)))))
theorem X12_feed_w47 {z : CZ} {g18 : Nat → Int32 → Int32 → Int32 → Int32 → PH → Option Rs} (hk18 : SK (X12_feed_x z) 18 (X12_feed_u18 g18)) : SK (X12_feed_x z) 47 (X12_feed_u47 (X12_feed_f47 g18)) := by
  intro ls st h r e
  obtain ⟨hst, e⟩ := gL_of e
  obtain ⟨t, q0, e⟩ := gT_of e
  obtain ⟨x1, q1, e⟩ := gI_of e
  obtain ⟨x2, q2, e⟩ := gI_of e
  obtain ⟨x3, q3, e⟩ := gI_of e
  obtain ⟨x4, q4, e⟩ := gI_of e
  obtain ⟨s0, q5, e⟩ := gI_of e
  rw [st_1 hst q5]
  exact WK.sub (canon := [some (.inr (11, t + 1)), some (.inl x1), some (.inl x2), some (.inl x3), some (.inl x4), none]) rfl ⟨q0, q1, q2, q3, q4, trivial⟩ (X12_feed_s47 hk18 _ _ _ _ ((X12_feed_l47 g18 t x1 x2 x3 x4 s0 h).trans e))
noncomputable def X12_feed_g0 (G : (Nat → Int32 → Int32 → Int32 → Int32 → PH → Option Rs)) (t : Nat) (x1 : Int32) (x2 : Int32) (x3 : Int32) (h : PH) : Option Rs := X12_feed_f0 (G) t x1 x2 x3 h
noncomputable def X12_feed_g47 (G : (Nat → Int32 → Int32 → Int32 → Int32 → PH → Option Rs)) (t : Nat) (x1 : Int32) (x2 : Int32) (x3 : Int32) (x4 : Int32) (s0 : Int32) (h : PH) : Option Rs := X12_feed_f47 (G) t x1 x2 x3 x4 s0 h
noncomputable def X12_feed_g18 (G : (Nat → Int32 → Int32 → Int32 → Int32 → PH → Option Rs)) (t : Nat) (x1 : Int32) (x2 : Int32) (x3 : Int32) (x4 : Int32) (h : PH) : Option Rs := X12_feed_f18 (X12_feed_g47 G) t x1 x2 x3 x4 h
theorem X12_feed_v47 {z : CZ} {G : (Nat → Int32 → Int32 → Int32 → Int32 → PH → Option Rs)} (hG18 : SK (X12_feed_x z) 18 (X12_feed_u18 (G))) : SK (X12_feed_x z) 47 (X12_feed_u47 (X12_feed_g47 G)) := X12_feed_w47 hG18
theorem X12_feed_v18 {z : CZ} {G : (Nat → Int32 → Int32 → Int32 → Int32 → PH → Option Rs)} (hG18 : SK (X12_feed_x z) 18 (X12_feed_u18 (G))) : SK (X12_feed_x z) 18 (X12_feed_u18 (X12_feed_g18 G)) := X12_feed_w18 (X12_feed_v47 hG18)
noncomputable def X12_feed_fam : Nat → (Nat → Int32 → Int32 → Int32 → Int32 → PH → Option Rs)
  | 0 => fun _ _ _ _ _ _ => none
  | n + 1 => X12_feed_g18 (X12_feed_fam n)
theorem X12_feed_k {z : CZ} : ∀ n, SK (X12_feed_x z) 18 (X12_feed_u18 (X12_feed_fam n))
  | 0 => (fun ls st h r e => by
      obtain ⟨_, e⟩ := gL_of e
      obtain ⟨_, _, e⟩ := gT_of e
      obtain ⟨_, _, e⟩ := gI_of e
      obtain ⟨_, _, e⟩ := gI_of e
      obtain ⟨_, _, e⟩ := gI_of e
      obtain ⟨_, _, e⟩ := gI_of e
      cases e)
  | n + 1 => by
    obtain ih18 := X12_feed_k n
    exact X12_feed_v18 ih18
theorem X12_feed_n0 {G G' : (Nat → Int32 → Int32 → Int32 → Int32 → PH → Option Rs)} (hg18 : ∀ a0 a1 a2 a3 a4 a5, Mo ((G) a0 a1 a2 a3 a4 a5) ((G') a0 a1 a2 a3 a4 a5)) (t : Nat) (x1 : Int32) (x2 : Int32) (x3 : Int32) (h : PH) : Mo (X12_feed_g0 G t x1 x2 x3 h) (X12_feed_g0 G' t x1 x2 x3 h) := X12_feed_m0 hg18 t x1 x2 x3 h
theorem X12_feed_n47 {G G' : (Nat → Int32 → Int32 → Int32 → Int32 → PH → Option Rs)} (hg18 : ∀ a0 a1 a2 a3 a4 a5, Mo ((G) a0 a1 a2 a3 a4 a5) ((G') a0 a1 a2 a3 a4 a5)) (t : Nat) (x1 : Int32) (x2 : Int32) (x3 : Int32) (x4 : Int32) (s0 : Int32) (h : PH) : Mo (X12_feed_g47 G t x1 x2 x3 x4 s0 h) (X12_feed_g47 G' t x1 x2 x3 x4 s0 h) := X12_feed_m47 hg18 t x1 x2 x3 x4 s0 h
theorem X12_feed_n18 {G G' : (Nat → Int32 → Int32 → Int32 → Int32 → PH → Option Rs)} (hg18 : ∀ a0 a1 a2 a3 a4 a5, Mo ((G) a0 a1 a2 a3 a4 a5) ((G') a0 a1 a2 a3 a4 a5)) (t : Nat) (x1 : Int32) (x2 : Int32) (x3 : Int32) (x4 : Int32) (h : PH) : Mo (X12_feed_g18 G t x1 x2 x3 x4 h) (X12_feed_g18 G' t x1 x2 x3 x4 h) := X12_feed_m18 (fun a0 a1 a2 a3 a4 a5 a6 => X12_feed_n47 hg18 a0 a1 a2 a3 a4 a5 a6) t x1 x2 x3 x4 h
theorem X12_feed_fm : ∀ n, (∀ a0 a1 a2 a3 a4 a5, Mo ((X12_feed_fam n) a0 a1 a2 a3 a4 a5) ((X12_feed_fam (n + 1)) a0 a1 a2 a3 a4 a5))
  | 0 => fun _ _ _ _ _ _ => mo_no
  | n + 1 => by
    obtain ih18 := X12_feed_fm n
    exact fun a0 a1 a2 a3 a4 a5 => X12_feed_n18 ih18 a0 a1 a2 a3 a4 a5
noncomputable def X12_feed (t : Nat) (x1 : Int32) (x2 : Int32) (x3 : Int32) (h : PH) : Option Rs := lim (fun n => X12_feed_g0 (X12_feed_fam n) t x1 x2 x3 h)
theorem X12_feed_iff {t : Nat} {x1 : Int32} {x2 : Int32} {x3 : Int32} {h : PH} {r : Rs} : X12_feed t x1 x2 x3 h = some r ↔ ∃ n, X12_feed_g0 (X12_feed_fam n) t x1 x2 x3 h = some r := lim_iff (fun n => by
  obtain ih18 := X12_feed_fm n
  exact X12_feed_n0 ih18 t x1 x2 x3 h)
noncomputable abbrev X12_feed_F : List PV → PH → Option Rs := FW_T11III (X12_feed)
set_option maxRecDepth 100000 in
theorem X12_feed_gd (l : Launch) : Gd l 0 yX12_feed cX12_feed 6 (some .int) (X12_feed_F)   := Gd_of (by decide +kernel) (fun z hzl as h r e => by
  obtain ⟨hst, e⟩ := gL_of e
  obtain ⟨t, q0, e⟩ := gT_of e
  obtain ⟨x1, q1, e⟩ := gI_of e
  obtain ⟨x2, q2, e⟩ := gI_of e
  obtain ⟨x3, q3, e⟩ := gI_of e
  rw [st_4 hst q0 q1 q2 q3]
  obtain ⟨n, e⟩ := lim_of e
  obtain hG18 := X12_feed_k (z := z) n
  exact ⟨show 4 ≤ 6 by decide, X12_feed_s0 hG18 _ _ _ _ ((X12_feed_l0 (X12_feed_fam n) t x1 x2 x3 h).trans e)⟩)
abbrev X12_trim_x (z : CZ) : CX := mx RX12 cX12_trim 2 1 (some .int) "trim" z
noncomputable def X12_trim_b0 (c_X12_in : Int32 → Int32 → Int32 → PH → Option Rs) : Kn := (a_il 1 (a_ic 0 (a_al 0 (a_gI 11 711 (a_sI 3 (FW_III c_X12_in) (a_z (a_ic (-1000000001) a_ir) (a_al 0 (a_il 1 (a_pI 11 711 (a_il 1 a_ir))))))))))
set_option maxRecDepth 100000 in
theorem X12_trim_s0 {z : CZ} : SK (X12_trim_x z) 0 (X12_trim_b0 X12_in) := (s_iloadn (pc := 0) dX12_trim_0 rfl (s_iconst (pc := 1) dX12_trim_1 c_ic_0 (s_aloadn (pc := 2) dX12_trim_2 rfl (s_gI (pc := 3) (f := 7) ko_11 (by decide) rfl rfl w_1302 dX12_trim_3 (s_sI (pc := 6) (run_static (X12_in_gd _) (show 0 < 1 by decide) cy_X12_in w_1464 w_1463 dX12_trim_6) (s_ifne (pc := 9) dX12_trim_9 (by decide) (s_aloadn (pc := 15) dX12_trim_15 rfl (s_iloadn (pc := 16) dX12_trim_16 rfl (s_pI (pc := 17) (f := 7) ko_11 (by decide) rfl rfl rfl (by decide +kernel) w_1302 dX12_trim_17 (s_iloadn (pc := 20) dX12_trim_20 rfl (s_ir (pc := 21) rfl dX12_trim_21))))) (s_ldc (pc := 12) w_1466 dX12_trim_12 (s_ir (pc := 14) rfl dX12_trim_14))))))))
noncomputable def X12_trim_f0 (c_X12_in : Int32 → Int32 → Int32 → PH → Option Rs) (t : Nat) (x1 : Int32) (h : PH) : Option Rs :=
  cI (c_X12_in x1 0 (hI h 711 t 0) h) fun v2 h1 =>
  if v2 = 0 then
    some (some (.inl (-1000000001)), h1)
  else
    wr (pI h1 711 t 0 x1) fun h3 =>
    some (some (.inl x1), h3)
set_option maxRecDepth 100000 in
theorem X12_trim_l0 (c_X12_in : Int32 → Int32 → Int32 → PH → Option Rs) (t : Nat) (x1 : Int32) (h : PH) : X12_trim_b0 c_X12_in [some (.inr (11, t + 1)), some (.inl x1)] [] h = X12_trim_f0 c_X12_in t x1 h := rfl
noncomputable def X12_trim_g0 (t : Nat) (x1 : Int32) (h : PH) : Option Rs := X12_trim_f0 X12_in t x1 h
noncomputable def X12_trim (t : Nat) (x1 : Int32) (h : PH) : Option Rs := X12_trim_g0 t x1 h
noncomputable abbrev X12_trim_F : List PV → PH → Option Rs := FW_T11I (X12_trim)
set_option maxRecDepth 100000 in
theorem X12_trim_gd (l : Launch) : Gd l 1 yX12_trim cX12_trim 2 (some .int) (X12_trim_F)   := Gd_of (by decide +kernel) (fun z hzl as h r e => by
  obtain ⟨hst, e⟩ := gL_of e
  obtain ⟨t, q0, e⟩ := gT_of e
  obtain ⟨x1, q1, e⟩ := gI_of e
  rw [st_2 hst q0 q1]
  exact ⟨show 2 ≤ 2 by decide, X12_trim_s0 _ _ _ _ ((X12_trim_l0 X12_in t x1 h).trans e)⟩)
abbrev X12_isLetter_x (z : CZ) : CX := mx RX12 cX12_isLetter 2 0 (some .boolean) "isLetter" z
noncomputable def X12_isLetter_b0 : Kn := (a_il 1 (a_al 0 (a_gI 11 711 (a_lt (a_al 0 (a_gR 11 710 45 (a_il 1 (a_ald 45 2880 (a_ic 97 (a_lt (a_ic 0 a_zr) (a_al 0 (a_gR 11 710 45 (a_il 1 (a_ald 45 2880 (a_ic 122 (a_gt (a_ic 0 a_zr) (a_ic 1 a_zr))))))))))))) (a_ic 0 a_zr)))))
set_option maxRecDepth 100000 in
theorem X12_isLetter_s0 {z : CZ} : SK (X12_isLetter_x z) 0 (X12_isLetter_b0) := (s_iloadn (pc := 0) dX12_isLetter_0 rfl (s_aloadn (pc := 1) dX12_isLetter_1 rfl (s_gI (pc := 2) (f := 7) ko_11 (by decide) rfl rfl w_1302 dX12_isLetter_2 (s_cmpge (pc := 5) dX12_isLetter_5 (by decide) (s_iconst (pc := 34) dX12_isLetter_34 c_ic_0 (s_zr (pc := 35) rfl dX12_isLetter_35)) (s_aloadn (pc := 8) dX12_isLetter_8 rfl (s_gR (pc := 9) (f := 6) ko_11 (by decide) rfl rfl w_1301 dX12_isLetter_9 (s_iloadn (pc := 12) dX12_isLetter_12 rfl (s_iald (pc := 13) (by decide) (by decide) rfl rfl rfl dX12_isLetter_13 (s_bipush (pc := 14) dX12_isLetter_14 c_bp_97 (s_cmplt (pc := 16) dX12_isLetter_16 (by decide) (s_iconst (pc := 34) dX12_isLetter_34 c_ic_0 (s_zr (pc := 35) rfl dX12_isLetter_35)) (s_aloadn (pc := 19) dX12_isLetter_19 rfl (s_gR (pc := 20) (f := 6) ko_11 (by decide) rfl rfl w_1301 dX12_isLetter_20 (s_iloadn (pc := 23) dX12_isLetter_23 rfl (s_iald (pc := 24) (by decide) (by decide) rfl rfl rfl dX12_isLetter_24 (s_bipush (pc := 25) dX12_isLetter_25 c_bp_122 (s_cmpgt (pc := 27) dX12_isLetter_27 (by decide) (s_iconst (pc := 34) dX12_isLetter_34 c_ic_0 (s_zr (pc := 35) rfl dX12_isLetter_35)) (s_iconst (pc := 30) dX12_isLetter_30 c_ic_1 (s_goto (pc := 31) dX12_isLetter_31 (by decide) (s_zr (pc := 35) rfl dX12_isLetter_35)))))))))))))))))))
noncomputable def X12_isLetter_f0 (t : Nat) (x1 : Int32) (h : PH) : Option Rs :=
  if x1 < (hI h 711 t 0) then
    nn (hR h 710 t 0) fun r1 =>
    ix x1 (hL h 45 r1) fun j2 =>
    if (hI h 2880 r1 j2) < 97 then
      bz 0 <|
      some (some (.inl 0), h)
    else
      nn (hR h 710 t 0) fun r3 =>
      ix x1 (hL h 45 r3) fun j4 =>
      if 122 < (hI h 2880 r3 j4) then
        bz 0 <|
        some (some (.inl 0), h)
      else
        bz 1 <|
        some (some (.inl 1), h)
  else
    bz 0 <|
    some (some (.inl 0), h)
set_option maxRecDepth 100000 in
theorem X12_isLetter_l0 (t : Nat) (x1 : Int32) (h : PH) : X12_isLetter_b0 [some (.inr (11, t + 1)), some (.inl x1)] [] h = X12_isLetter_f0 t x1 h := rfl
noncomputable def X12_isLetter_g0 (t : Nat) (x1 : Int32) (h : PH) : Option Rs := X12_isLetter_f0 t x1 h
noncomputable def X12_isLetter (t : Nat) (x1 : Int32) (h : PH) : Option Rs := X12_isLetter_g0 t x1 h
noncomputable abbrev X12_isLetter_F : List PV → PH → Option Rs := FW_T11I (X12_isLetter)
set_option maxRecDepth 100000 in
theorem X12_isLetter_gd (l : Launch) : Gd l 0 yX12_isLetter cX12_isLetter 2 (some .boolean) (X12_isLetter_F)   := Gd_of (by decide +kernel) (fun z hzl as h r e => by
  obtain ⟨hst, e⟩ := gL_of e
  obtain ⟨t, q0, e⟩ := gT_of e
  obtain ⟨x1, q1, e⟩ := gI_of e
  rw [st_2 hst q0 q1]
  exact ⟨show 2 ≤ 2 by decide, X12_isLetter_s0 _ _ _ _ ((X12_isLetter_l0 t x1 h).trans e)⟩)
abbrev X12_isFigure_x (z : CZ) : CX := mx RX12 cX12_isFigure 2 0 (some .boolean) "isFigure" z
noncomputable def X12_isFigure_b0 : Kn := (a_il 1 (a_al 0 (a_gI 11 711 (a_lt (a_al 0 (a_gR 11 710 45 (a_il 1 (a_ald 45 2880 (a_ic 48 (a_lt (a_ic 0 a_zr) (a_al 0 (a_gR 11 710 45 (a_il 1 (a_ald 45 2880 (a_ic 57 (a_gt (a_ic 0 a_zr) (a_ic 1 a_zr))))))))))))) (a_ic 0 a_zr)))))
set_option maxRecDepth 100000 in
theorem X12_isFigure_s0 {z : CZ} : SK (X12_isFigure_x z) 0 (X12_isFigure_b0) := (s_iloadn (pc := 0) dX12_isFigure_0 rfl (s_aloadn (pc := 1) dX12_isFigure_1 rfl (s_gI (pc := 2) (f := 7) ko_11 (by decide) rfl rfl w_1302 dX12_isFigure_2 (s_cmpge (pc := 5) dX12_isFigure_5 (by decide) (s_iconst (pc := 34) dX12_isFigure_34 c_ic_0 (s_zr (pc := 35) rfl dX12_isFigure_35)) (s_aloadn (pc := 8) dX12_isFigure_8 rfl (s_gR (pc := 9) (f := 6) ko_11 (by decide) rfl rfl w_1301 dX12_isFigure_9 (s_iloadn (pc := 12) dX12_isFigure_12 rfl (s_iald (pc := 13) (by decide) (by decide) rfl rfl rfl dX12_isFigure_13 (s_bipush (pc := 14) dX12_isFigure_14 c_bp_48 (s_cmplt (pc := 16) dX12_isFigure_16 (by decide) (s_iconst (pc := 34) dX12_isFigure_34 c_ic_0 (s_zr (pc := 35) rfl dX12_isFigure_35)) (s_aloadn (pc := 19) dX12_isFigure_19 rfl (s_gR (pc := 20) (f := 6) ko_11 (by decide) rfl rfl w_1301 dX12_isFigure_20 (s_iloadn (pc := 23) dX12_isFigure_23 rfl (s_iald (pc := 24) (by decide) (by decide) rfl rfl rfl dX12_isFigure_24 (s_bipush (pc := 25) dX12_isFigure_25 c_bp_57 (s_cmpgt (pc := 27) dX12_isFigure_27 (by decide) (s_iconst (pc := 34) dX12_isFigure_34 c_ic_0 (s_zr (pc := 35) rfl dX12_isFigure_35)) (s_iconst (pc := 30) dX12_isFigure_30 c_ic_1 (s_goto (pc := 31) dX12_isFigure_31 (by decide) (s_zr (pc := 35) rfl dX12_isFigure_35)))))))))))))))))))
noncomputable def X12_isFigure_f0 (t : Nat) (x1 : Int32) (h : PH) : Option Rs :=
  if x1 < (hI h 711 t 0) then
    nn (hR h 710 t 0) fun r1 =>
    ix x1 (hL h 45 r1) fun j2 =>
    if (hI h 2880 r1 j2) < 48 then
      bz 0 <|
      some (some (.inl 0), h)
    else
      nn (hR h 710 t 0) fun r3 =>
      ix x1 (hL h 45 r3) fun j4 =>
      if 57 < (hI h 2880 r3 j4) then
        bz 0 <|
        some (some (.inl 0), h)
      else
        bz 1 <|
        some (some (.inl 1), h)
  else
    bz 0 <|
    some (some (.inl 0), h)
set_option maxRecDepth 100000 in
theorem X12_isFigure_l0 (t : Nat) (x1 : Int32) (h : PH) : X12_isFigure_b0 [some (.inr (11, t + 1)), some (.inl x1)] [] h = X12_isFigure_f0 t x1 h := rfl
noncomputable def X12_isFigure_g0 (t : Nat) (x1 : Int32) (h : PH) : Option Rs := X12_isFigure_f0 t x1 h
noncomputable def X12_isFigure (t : Nat) (x1 : Int32) (h : PH) : Option Rs := X12_isFigure_g0 t x1 h
noncomputable abbrev X12_isFigure_F : List PV → PH → Option Rs := FW_T11I (X12_isFigure)
set_option maxRecDepth 100000 in
theorem X12_isFigure_gd (l : Launch) : Gd l 0 yX12_isFigure cX12_isFigure 2 (some .boolean) (X12_isFigure_F)   := Gd_of (by decide +kernel) (fun z hzl as h r e => by
  obtain ⟨hst, e⟩ := gL_of e
  obtain ⟨t, q0, e⟩ := gT_of e
  obtain ⟨x1, q1, e⟩ := gI_of e
  rw [st_2 hst q0 q1]
  exact ⟨show 2 ≤ 2 by decide, X12_isFigure_s0 _ _ _ _ ((X12_isFigure_l0 t x1 h).trans e)⟩)
abbrev X12_go_x (z : CZ) : CX := mx RX12 cX12_go 2 1 none "go" z
noncomputable def X12_go_b0 (k0 k38 : Kn) : Kn := (a_al 0 (a_gI 11 712 (a_al 0 (a_gI 11 711 (a_lt (a_al 0 (a_gR 11 710 45 (a_al 0 (a_gI 11 712 (a_ald 45 2880 (a_ic 32 (a_eq (a_al 0 (a_dup (a_gI 11 712 (a_ic 1 (a_b (fun a b => a + b) (a_pI 11 712 k0)))))) k38))))))) k38)))))
set_option maxRecDepth 100000 in
theorem X12_go_s0 {z : CZ} {k0 k38 : Kn} (hk0 : SK (X12_go_x z) 0 k0) (hk38 : SK (X12_go_x z) 38 k38) : SK (X12_go_x z) 0 (X12_go_b0 k0 k38) := (s_aloadn (pc := 0) dX12_go_0 rfl (s_gI (pc := 1) (f := 8) ko_11 (by decide) rfl rfl w_1303 dX12_go_1 (s_aloadn (pc := 4) dX12_go_4 rfl (s_gI (pc := 5) (f := 7) ko_11 (by decide) rfl rfl w_1302 dX12_go_5 (s_cmpge (pc := 8) dX12_go_8 (by decide) hk38 (s_aloadn (pc := 11) dX12_go_11 rfl (s_gR (pc := 12) (f := 6) ko_11 (by decide) rfl rfl w_1301 dX12_go_12 (s_aloadn (pc := 15) dX12_go_15 rfl (s_gI (pc := 16) (f := 8) ko_11 (by decide) rfl rfl w_1303 dX12_go_16 (s_iald (pc := 19) (by decide) (by decide) rfl rfl rfl dX12_go_19 (s_bipush (pc := 20) dX12_go_20 c_bp_32 (s_cmpne (pc := 22) dX12_go_22 (by decide) hk38 (s_aloadn (pc := 25) dX12_go_25 rfl (s_dup (pc := 26) dX12_go_26 (s_gI (pc := 27) (f := 8) ko_11 (by decide) rfl rfl w_1303 dX12_go_27 (s_iconst (pc := 30) dX12_go_30 c_ic_1 (s_iadd (pc := 31) dX12_go_31 (s_pI (pc := 32) (f := 8) ko_11 (by decide) rfl rfl rfl (by decide +kernel) w_1303 dX12_go_32 (s_goto (pc := 35) dX12_go_35 (by decide) hk0)))))))))))))))))))
noncomputable def X12_go_b38 (k62 : Kn) : Kn := (a_al 0 (a_al 0 (a_gI 11 712 (a_pI 11 713 (a_al 0 (a_gI 11 713 (a_al 0 (a_gI 11 716 (a_eq (a_ic 1 k62) (a_ic 0 k62))))))))))
set_option maxRecDepth 100000 in
theorem X12_go_s38 {z : CZ} {k62 : Kn} (hk62 : SK (X12_go_x z) 62 k62) : SK (X12_go_x z) 38 (X12_go_b38 k62) := (s_aloadn (pc := 38) dX12_go_38 rfl (s_aloadn (pc := 39) dX12_go_39 rfl (s_gI (pc := 40) (f := 8) ko_11 (by decide) rfl rfl w_1303 dX12_go_40 (s_pI (pc := 43) (f := 9) ko_11 (by decide) rfl rfl rfl (by decide +kernel) w_1304 dX12_go_43 (s_aloadn (pc := 46) dX12_go_46 rfl (s_gI (pc := 47) (f := 9) ko_11 (by decide) rfl rfl w_1304 dX12_go_47 (s_aloadn (pc := 50) dX12_go_50 rfl (s_gI (pc := 51) (f := 12) ko_11 (by decide) rfl rfl w_1307 dX12_go_51 (s_cmpne (pc := 54) dX12_go_54 (by decide) (s_iconst (pc := 61) dX12_go_61 c_ic_0 hk62) (s_iconst (pc := 57) dX12_go_57 c_ic_1 (s_goto (pc := 58) dX12_go_58 (by decide) hk62)))))))))))
noncomputable def X12_go_b62 (c_X12_isLetter : Nat → Int32 → PH → Option Rs) (c_X12_isFigure : Nat → Int32 → PH → Option Rs) (k93 k170 : Kn) : Kn := (a_is 1 (a_al 0 (a_gI 11 713 (a_al 0 (a_gI 11 711 (a_eq (a_al 0 (a_ic 0 (a_pI 11 714 a_vr))) (a_al 0 (a_al 0 (a_gI 11 713 (a_vI 11 1 (FW_T11I c_X12_isLetter) (a_z (a_al 0 (a_al 0 (a_gI 11 713 (a_vI 11 1 (FW_T11I c_X12_isFigure) (a_z (a_al 0 (a_ic 3 (a_pI 11 714 (a_al 0 (a_al 0 (a_gR 11 710 45 (a_al 0 (a_gI 11 713 (a_ald 45 2880 (a_pI 11 715 (a_al 0 (a_dup (a_gI 11 712 (a_ic 1 (a_b (fun a b => a + b) (a_pI 11 712 a_vr)))))))))))))))) (a_al 0 (a_ic 0 (a_pI 11 715 k170)))))))) k93)))))))))))
set_option maxRecDepth 100000 in
theorem X12_go_s62 {z : CZ} {k93 k170 : Kn} (hk93 : SK (X12_go_x z) 93 k93) (hk170 : SK (X12_go_x z) 170 k170) : SK (X12_go_x z) 62 (X12_go_b62 X12_isLetter X12_isFigure k93 k170) := (s_istoren (pc := 62) dX12_go_62 rfl (show 1 < 2 by decide) (s_aloadn (pc := 63) dX12_go_63 rfl (s_gI (pc := 64) (f := 9) ko_11 (by decide) rfl rfl w_1304 dX12_go_64 (s_aloadn (pc := 67) dX12_go_67 rfl (s_gI (pc := 68) (f := 7) ko_11 (by decide) rfl rfl w_1302 dX12_go_68 (s_cmpne (pc := 71) dX12_go_71 (by decide) (s_aloadn (pc := 82) dX12_go_82 rfl (s_aloadn (pc := 83) dX12_go_83 rfl (s_gI (pc := 84) (f := 9) ko_11 (by decide) rfl rfl w_1304 dX12_go_84 (s_vI (pc := 87) (run_virtual (X12_isLetter_gd _) (show 0 < 1 by decide) cy_X12_isLetter (by decide) rfl w_1623 w_s47 w_1621 dX12_go_87) (s_ifeq (pc := 90) dX12_go_90 (by decide) (s_aloadn (pc := 154) dX12_go_154 rfl (s_aloadn (pc := 155) dX12_go_155 rfl (s_gI (pc := 156) (f := 9) ko_11 (by decide) rfl rfl w_1304 dX12_go_156 (s_vI (pc := 159) (run_virtual (X12_isFigure_gd _) (show 0 < 1 by decide) cy_X12_isFigure (by decide) rfl w_1627 w_s48 w_1625 dX12_go_159) (s_ifeq (pc := 162) dX12_go_162 (by decide) (s_aloadn (pc := 275) dX12_go_275 rfl (s_iconst (pc := 276) dX12_go_276 c_ic_3 (s_pI (pc := 277) (f := 10) ko_11 (by decide) rfl rfl rfl (by decide +kernel) w_1305 dX12_go_277 (s_aloadn (pc := 280) dX12_go_280 rfl (s_aloadn (pc := 281) dX12_go_281 rfl (s_gR (pc := 282) (f := 6) ko_11 (by decide) rfl rfl w_1301 dX12_go_282 (s_aloadn (pc := 285) dX12_go_285 rfl (s_gI (pc := 286) (f := 9) ko_11 (by decide) rfl rfl w_1304 dX12_go_286 (s_iald (pc := 289) (by decide) (by decide) rfl rfl rfl dX12_go_289 (s_pI (pc := 290) (f := 11) ko_11 (by decide) rfl rfl rfl (by decide +kernel) w_1306 dX12_go_290 (s_aloadn (pc := 293) dX12_go_293 rfl (s_dup (pc := 294) dX12_go_294 (s_gI (pc := 295) (f := 8) ko_11 (by decide) rfl rfl w_1303 dX12_go_295 (s_iconst (pc := 298) dX12_go_298 c_ic_1 (s_iadd (pc := 299) dX12_go_299 (s_pI (pc := 300) (f := 8) ko_11 (by decide) rfl rfl rfl (by decide +kernel) w_1303 dX12_go_300 (s_vr (pc := 303) rfl dX12_go_303))))))))))))))))) (s_aloadn (pc := 165) dX12_go_165 rfl (s_iconst (pc := 166) dX12_go_166 c_ic_0 (s_pI (pc := 167) (f := 11) ko_11 (by decide) rfl rfl rfl (by decide +kernel) w_1306 dX12_go_167 hk170)))))))) hk93))))) (s_aloadn (pc := 74) dX12_go_74 rfl (s_iconst (pc := 75) dX12_go_75 c_ic_0 (s_pI (pc := 76) (f := 10) ko_11 (by decide) rfl rfl rfl (by decide +kernel) w_1305 dX12_go_76 (s_goto (pc := 79) dX12_go_79 (by decide) (s_vr (pc := 303) rfl dX12_go_303)))))))))))
noncomputable def X12_go_b93 (c_X12_isLetter : Nat → Int32 → PH → Option Rs) (k93 k127 : Kn) : Kn := (a_al 0 (a_al 0 (a_gI 11 712 (a_vI 11 1 (FW_T11I c_X12_isLetter) (a_z (a_al 0 (a_il 1 (a_z (a_ic 1 k127) (a_ic 4 k127)))) (a_al 0 (a_dup (a_gI 11 712 (a_ic 1 (a_b (fun a b => a + b) (a_pI 11 712 k93)))))))))))
set_option maxRecDepth 100000 in
theorem X12_go_s93 {z : CZ} {k93 k127 : Kn} (hk93 : SK (X12_go_x z) 93 k93) (hk127 : SK (X12_go_x z) 127 k127) : SK (X12_go_x z) 93 (X12_go_b93 X12_isLetter k93 k127) := (s_aloadn (pc := 93) dX12_go_93 rfl (s_aloadn (pc := 94) dX12_go_94 rfl (s_gI (pc := 95) (f := 8) ko_11 (by decide) rfl rfl w_1303 dX12_go_95 (s_vI (pc := 98) (run_virtual (X12_isLetter_gd _) (show 0 < 1 by decide) cy_X12_isLetter (by decide) rfl w_1623 w_s47 w_1621 dX12_go_98) (s_ifeq (pc := 101) dX12_go_101 (by decide) (s_aloadn (pc := 117) dX12_go_117 rfl (s_iloadn (pc := 118) dX12_go_118 rfl (s_ifeq (pc := 119) dX12_go_119 (by decide) (s_iconst (pc := 126) dX12_go_126 c_ic_1 hk127) (s_iconst (pc := 122) dX12_go_122 c_ic_4 (s_goto (pc := 123) dX12_go_123 (by decide) hk127))))) (s_aloadn (pc := 104) dX12_go_104 rfl (s_dup (pc := 105) dX12_go_105 (s_gI (pc := 106) (f := 8) ko_11 (by decide) rfl rfl w_1303 dX12_go_106 (s_iconst (pc := 109) dX12_go_109 c_ic_1 (s_iadd (pc := 110) dX12_go_110 (s_pI (pc := 111) (f := 8) ko_11 (by decide) rfl rfl rfl (by decide +kernel) w_1303 dX12_go_111 (s_goto (pc := 114) dX12_go_114 (by decide) hk93))))))))))))
noncomputable def X12_go_b127 : Kn := (a_pI 11 714 (a_al 0 (a_al 0 (a_gR 11 710 45 (a_al 0 (a_gI 11 713 (a_ald 45 2880 (a_pI 11 715 (a_al 0 (a_al 0 (a_gI 11 712 (a_pI 11 716 a_vr))))))))))))
set_option maxRecDepth 100000 in
theorem X12_go_s127 {z : CZ} : SK (X12_go_x z) 127 (X12_go_b127) := (s_pI (pc := 127) (f := 10) ko_11 (by decide) rfl rfl rfl (by decide +kernel) w_1305 dX12_go_127 (s_aloadn (pc := 130) dX12_go_130 rfl (s_aloadn (pc := 131) dX12_go_131 rfl (s_gR (pc := 132) (f := 6) ko_11 (by decide) rfl rfl w_1301 dX12_go_132 (s_aloadn (pc := 135) dX12_go_135 rfl (s_gI (pc := 136) (f := 9) ko_11 (by decide) rfl rfl w_1304 dX12_go_136 (s_iald (pc := 139) (by decide) (by decide) rfl rfl rfl dX12_go_139 (s_pI (pc := 140) (f := 11) ko_11 (by decide) rfl rfl rfl (by decide +kernel) w_1306 dX12_go_140 (s_aloadn (pc := 143) dX12_go_143 rfl (s_aloadn (pc := 144) dX12_go_144 rfl (s_gI (pc := 145) (f := 8) ko_11 (by decide) rfl rfl w_1303 dX12_go_145 (s_pI (pc := 148) (f := 12) ko_11 (by decide) rfl rfl rfl (by decide +kernel) w_1307 dX12_go_148 (s_goto (pc := 151) dX12_go_151 (by decide) (s_vr (pc := 303) rfl dX12_go_303))))))))))))))
noncomputable def X12_go_b170 (c_X12_isFigure : Nat → Int32 → PH → Option Rs) (k222 k261 : Kn) : Kn := (a_al 0 (a_al 0 (a_gI 11 712 (a_vI 11 1 (FW_T11I c_X12_isFigure) (a_z (a_al 0 (a_il 1 (a_z (a_al 0 (a_gI 11 712 (a_al 0 (a_gI 11 713 (a_b (fun a b => a - b) (a_ic 4 (a_gt (a_ic 4 k261) (a_ic 2 k261)))))))) (a_ic 4 k261)))) (a_al 0 (a_al 0 (a_gI 11 712 (a_al 0 (a_gI 11 713 (a_b (fun a b => a - b) (a_ic 4 (a_lt (a_ic 10 (a_al 0 (a_gI 11 715 (a_b (fun a b => a * b) (a_al 0 (a_gR 11 710 45 (a_al 0 (a_gI 11 712 (a_ald 45 2880 (a_b (fun a b => a + b) (a_ic 48 (a_b (fun a b => a - b) k222)))))))))))) (a_al 0 (a_gI 11 715 k222)))))))))))))))
set_option maxRecDepth 100000 in
theorem X12_go_s170 {z : CZ} {k222 k261 : Kn} (hk222 : SK (X12_go_x z) 222 k222) (hk261 : SK (X12_go_x z) 261 k261) : SK (X12_go_x z) 170 (X12_go_b170 X12_isFigure k222 k261) := (s_aloadn (pc := 170) dX12_go_170 rfl (s_aloadn (pc := 171) dX12_go_171 rfl (s_gI (pc := 172) (f := 8) ko_11 (by decide) rfl rfl w_1303 dX12_go_172 (s_vI (pc := 175) (run_virtual (X12_isFigure_gd _) (show 0 < 1 by decide) cy_X12_isFigure (by decide) rfl w_1627 w_s48 w_1625 dX12_go_175) (s_ifeq (pc := 178) dX12_go_178 (by decide) (s_aloadn (pc := 238) dX12_go_238 rfl (s_iloadn (pc := 239) dX12_go_239 rfl (s_ifne (pc := 240) dX12_go_240 (by decide) (s_iconst (pc := 256) dX12_go_256 c_ic_4 (s_goto (pc := 257) dX12_go_257 (by decide) hk261)) (s_aloadn (pc := 243) dX12_go_243 rfl (s_gI (pc := 244) (f := 8) ko_11 (by decide) rfl rfl w_1303 dX12_go_244 (s_aloadn (pc := 247) dX12_go_247 rfl (s_gI (pc := 248) (f := 9) ko_11 (by decide) rfl rfl w_1304 dX12_go_248 (s_isub (pc := 251) dX12_go_251 (s_iconst (pc := 252) dX12_go_252 c_ic_4 (s_cmple (pc := 253) dX12_go_253 (by decide) (s_iconst (pc := 260) dX12_go_260 c_ic_2 hk261) (s_iconst (pc := 256) dX12_go_256 c_ic_4 (s_goto (pc := 257) dX12_go_257 (by decide) hk261)))))))))))) (s_aloadn (pc := 181) dX12_go_181 rfl (s_aloadn (pc := 182) dX12_go_182 rfl (s_gI (pc := 183) (f := 8) ko_11 (by decide) rfl rfl w_1303 dX12_go_183 (s_aloadn (pc := 186) dX12_go_186 rfl (s_gI (pc := 187) (f := 9) ko_11 (by decide) rfl rfl w_1304 dX12_go_187 (s_isub (pc := 190) dX12_go_190 (s_iconst (pc := 191) dX12_go_191 c_ic_4 (s_cmpge (pc := 192) dX12_go_192 (by decide) (s_aloadn (pc := 218) dX12_go_218 rfl (s_gI (pc := 219) (f := 11) ko_11 (by decide) rfl rfl w_1306 dX12_go_219 hk222)) (s_bipush (pc := 195) dX12_go_195 c_bp_10 (s_aloadn (pc := 197) dX12_go_197 rfl (s_gI (pc := 198) (f := 11) ko_11 (by decide) rfl rfl w_1306 dX12_go_198 (s_imul (pc := 201) dX12_go_201 (s_aloadn (pc := 202) dX12_go_202 rfl (s_gR (pc := 203) (f := 6) ko_11 (by decide) rfl rfl w_1301 dX12_go_203 (s_aloadn (pc := 206) dX12_go_206 rfl (s_gI (pc := 207) (f := 8) ko_11 (by decide) rfl rfl w_1303 dX12_go_207 (s_iald (pc := 210) (by decide) (by decide) rfl rfl rfl dX12_go_210 (s_iadd (pc := 211) dX12_go_211 (s_bipush (pc := 212) dX12_go_212 c_bp_48 (s_isub (pc := 214) dX12_go_214 (s_goto (pc := 215) dX12_go_215 (by decide) hk222))))))))))))))))))))))))))
noncomputable def X12_go_b222 (k170 : Kn) : Kn := (a_pI 11 715 (a_al 0 (a_dup (a_gI 11 712 (a_ic 1 (a_b (fun a b => a + b) (a_pI 11 712 k170)))))))
set_option maxRecDepth 100000 in
theorem X12_go_s222 {z : CZ} {k170 : Kn} (hk170 : SK (X12_go_x z) 170 k170) : SK (X12_go_x z) 222 (X12_go_b222 k170) := (s_pI (pc := 222) (f := 11) ko_11 (by decide) rfl rfl rfl (by decide +kernel) w_1306 dX12_go_222 (s_aloadn (pc := 225) dX12_go_225 rfl (s_dup (pc := 226) dX12_go_226 (s_gI (pc := 227) (f := 8) ko_11 (by decide) rfl rfl w_1303 dX12_go_227 (s_iconst (pc := 230) dX12_go_230 c_ic_1 (s_iadd (pc := 231) dX12_go_231 (s_pI (pc := 232) (f := 8) ko_11 (by decide) rfl rfl rfl (by decide +kernel) w_1303 dX12_go_232 (s_goto (pc := 235) dX12_go_235 (by decide) hk170))))))))
noncomputable def X12_go_b261 : Kn := (a_pI 11 714 (a_al 0 (a_al 0 (a_gI 11 712 (a_pI 11 716 a_vr)))))
set_option maxRecDepth 100000 in
theorem X12_go_s261 {z : CZ} : SK (X12_go_x z) 261 (X12_go_b261) := (s_pI (pc := 261) (f := 10) ko_11 (by decide) rfl rfl rfl (by decide +kernel) w_1305 dX12_go_261 (s_aloadn (pc := 264) dX12_go_264 rfl (s_aloadn (pc := 265) dX12_go_265 rfl (s_gI (pc := 266) (f := 8) ko_11 (by decide) rfl rfl w_1303 dX12_go_266 (s_pI (pc := 269) (f := 12) ko_11 (by decide) rfl rfl rfl (by decide +kernel) w_1307 dX12_go_269 (s_goto (pc := 272) dX12_go_272 (by decide) (s_vr (pc := 303) rfl dX12_go_303)))))))
noncomputable def X12_go_u0 (g : Nat → PH → Option Rs) : Kn := fun ls st h => gL 0 st (gT 11 ls 0 fun t => g t h)
noncomputable def X12_go_u38 (g : Nat → PH → Option Rs) : Kn := fun ls st h => gL 0 st (gT 11 ls 0 fun t => g t h)
noncomputable def X12_go_u62 (g : Nat → Int32 → PH → Option Rs) : Kn := fun ls st h => gL 1 st (gT 11 ls 0 fun t => gI (st.map some) 0 fun s0 => g t s0 h)
noncomputable def X12_go_u93 (g : Nat → Int32 → PH → Option Rs) : Kn := fun ls st h => gL 0 st (gT 11 ls 0 fun t => gI ls 1 fun x1 => g t x1 h)
noncomputable def X12_go_u127 (g : Nat → Int32 → Nat → PH → Option Rs) : Kn := fun ls st h => gL 2 st (gT 11 ls 0 fun t => gI (st.map some) 0 fun s0 => gT 11 (st.map some) 1 fun s1 => g t s0 s1 h)
noncomputable def X12_go_u170 (g : Nat → Int32 → PH → Option Rs) : Kn := fun ls st h => gL 0 st (gT 11 ls 0 fun t => gI ls 1 fun x1 => g t x1 h)
noncomputable def X12_go_u222 (g : Nat → Int32 → Int32 → Nat → PH → Option Rs) : Kn := fun ls st h => gL 2 st (gT 11 ls 0 fun t => gI ls 1 fun x1 => gI (st.map some) 0 fun s0 => gT 11 (st.map some) 1 fun s1 => g t x1 s0 s1 h)
noncomputable def X12_go_u261 (g : Nat → Int32 → Nat → PH → Option Rs) : Kn := fun ls st h => gL 2 st (gT 11 ls 0 fun t => gI (st.map some) 0 fun s0 => gT 11 (st.map some) 1 fun s1 => g t s0 s1 h)
noncomputable def X12_go_f0 (g0 : Nat → PH → Option Rs) (g38 : Nat → PH → Option Rs) (t : Nat) (h : PH) : Option Rs :=
  if (hI h 712 t 0) < (hI h 711 t 0) then
    nn (hR h 710 t 0) fun r1 =>
    ix (hI h 712 t 0) (hL h 45 r1) fun j2 =>
    if (hI h 2880 r1 j2) = 32 then
      wr (pI h 712 t 0 ((hI h 712 t 0) + 1)) fun h3 =>
      g0 t h3
    else
      g38 t h
  else
    g38 t h
set_option maxRecDepth 100000 in
theorem X12_go_l0 (g0 : Nat → PH → Option Rs) (g38 : Nat → PH → Option Rs) (t : Nat) (h : PH) : X12_go_b0 (X12_go_u0 g0) (X12_go_u38 g38) [some (.inr (11, t + 1)), none] [] h = X12_go_f0 g0 g38 t h := rfl
theorem X12_go_m0 {g0 G0 : Nat → PH → Option Rs} {g38 G38 : Nat → PH → Option Rs} (hg0 : ∀ a0 a1, Mo (g0 a0 a1) (G0 a0 a1)) (hg38 : ∀ a0 a1, Mo (g38 a0 a1) (G38 a0 a1)) (t : Nat) (h : PH) : Mo (X12_go_f0 g0 g38 t h) (X12_go_f0 G0 G38 t h) := (mo_if (mo_nn fun r1 => (mo_ix fun j2 => (mo_if (mo_wr fun h3 => (hg0 t h3)) (hg38 t h)))) (hg38 t h))
theorem X12_go_w0 {z : CZ} {g0 : Nat → PH → Option Rs} {g38 : Nat → PH → Option Rs} (hk0 : SK (X12_go_x z) 0 (X12_go_u0 g0)) (hk38 : SK (X12_go_x z) 38 (X12_go_u38 g38)) : SK (X12_go_x z) 0 (X12_go_u0 (X12_go_f0 g0 g38)) := by
  intro ls st h r e
  obtain ⟨hst, e⟩ := gL_of e
  obtain ⟨t, q0, e⟩ := gT_of e
  rw [st_0 hst]
  exact WK.sub (canon := [some (.inr (11, t + 1)), none]) rfl ⟨q0, trivial⟩ (X12_go_s0 hk0 hk38 _ _ _ _ ((X12_go_l0 g0 g38 t h).trans e))
noncomputable def X12_go_f38 (g62 : Nat → Int32 → PH → Option Rs) (t : Nat) (h : PH) : Option Rs :=
  wr (pI h 713 t 0 (hI h 712 t 0)) fun h4 =>
  if (hI h4 713 t 0) = (hI h4 716 t 0) then
    g62 t 1 h4
  else
    g62 t 0 h4
set_option maxRecDepth 100000 in
theorem X12_go_l38 (g62 : Nat → Int32 → PH → Option Rs) (t : Nat) (h : PH) : X12_go_b38 (X12_go_u62 g62) [some (.inr (11, t + 1)), none] [] h = X12_go_f38 g62 t h := rfl
theorem X12_go_m38 {g62 G62 : Nat → Int32 → PH → Option Rs} (hg62 : ∀ a0 a1 a2, Mo (g62 a0 a1 a2) (G62 a0 a1 a2)) (t : Nat) (h : PH) : Mo (X12_go_f38 g62 t h) (X12_go_f38 G62 t h) := (mo_wr fun h4 => (mo_if (hg62 t 1 h4) (hg62 t 0 h4)))
theorem X12_go_w38 {z : CZ} {g62 : Nat → Int32 → PH → Option Rs} (hk62 : SK (X12_go_x z) 62 (X12_go_u62 g62)) : SK (X12_go_x z) 38 (X12_go_u38 (X12_go_f38 g62)) := by
  intro ls st h r e
  obtain ⟨hst, e⟩ := gL_of e
  obtain ⟨t, q0, e⟩ := gT_of e
  rw [st_0 hst]
  exact WK.sub (canon := [some (.inr (11, t + 1)), none]) rfl ⟨q0, trivial⟩ (X12_go_s38 hk62 _ _ _ _ ((X12_go_l38 g62 t h).trans e))
noncomputable def X12_go_f62 (c_X12_isLetter : Nat → Int32 → PH → Option Rs) (c_X12_isFigure : Nat → Int32 → PH → Option Rs) (g93 : Nat → Int32 → PH → Option Rs) (g170 : Nat → Int32 → PH → Option Rs) (t : Nat) (s0 : Int32) (h : PH) : Option Rs :=
  if (hI h 713 t 0) = (hI h 711 t 0) then
    wr (pI h 714 t 0 0) fun h15 =>
    some (none, h15)
  else
    cI (c_X12_isLetter t (hI h 713 t 0) h) fun v6 h5 =>
    if v6 = 0 then
      cI (c_X12_isFigure t (hI h5 713 t 0) h5) fun v8 h7 =>
      if v8 = 0 then
        wr (pI h7 714 t 0 3) fun h9 =>
        nn (hR h9 710 t 0) fun r10 =>
        ix (hI h9 713 t 0) (hL h9 45 r10) fun j11 =>
        wr (pI h9 715 t 0 (hI h9 2880 r10 j11)) fun h12 =>
        wr (pI h12 712 t 0 ((hI h12 712 t 0) + 1)) fun h13 =>
        some (none, h13)
      else
        wr (pI h7 715 t 0 0) fun h14 =>
        g170 t s0 h14
    else
      g93 t s0 h5
set_option maxRecDepth 100000 in
theorem X12_go_l62 (c_X12_isLetter : Nat → Int32 → PH → Option Rs) (c_X12_isFigure : Nat → Int32 → PH → Option Rs) (g93 : Nat → Int32 → PH → Option Rs) (g170 : Nat → Int32 → PH → Option Rs) (t : Nat) (s0 : Int32) (h : PH) : X12_go_b62 c_X12_isLetter c_X12_isFigure (X12_go_u93 g93) (X12_go_u170 g170) [some (.inr (11, t + 1)), none] [.inl s0] h = X12_go_f62 c_X12_isLetter c_X12_isFigure g93 g170 t s0 h := rfl
theorem X12_go_m62 {c_X12_isLetter : Nat → Int32 → PH → Option Rs} {c_X12_isFigure : Nat → Int32 → PH → Option Rs} {g93 G93 : Nat → Int32 → PH → Option Rs} {g170 G170 : Nat → Int32 → PH → Option Rs} (hg93 : ∀ a0 a1 a2, Mo (g93 a0 a1 a2) (G93 a0 a1 a2)) (hg170 : ∀ a0 a1 a2, Mo (g170 a0 a1 a2) (G170 a0 a1 a2)) (t : Nat) (s0 : Int32) (h : PH) : Mo (X12_go_f62 c_X12_isLetter c_X12_isFigure g93 g170 t s0 h) (X12_go_f62 c_X12_isLetter c_X12_isFigure G93 G170 t s0 h) := (mo_if (mo_wr fun h15 => mo_rf) (mo_cI fun v6 h5 => (mo_if (mo_cI fun v8 h7 => (mo_if (mo_wr fun h9 => (mo_nn fun r10 => (mo_ix fun j11 => (mo_wr fun h12 => (mo_wr fun h13 => mo_rf))))) (mo_wr fun h14 => (hg170 t s0 h14)))) (hg93 t s0 h5))))
theorem X12_go_w62 {z : CZ} {g93 : Nat → Int32 → PH → Option Rs} {g170 : Nat → Int32 → PH → Option Rs} (hk93 : SK (X12_go_x z) 93 (X12_go_u93 g93)) (hk170 : SK (X12_go_x z) 170 (X12_go_u170 g170)) : SK (X12_go_x z) 62 (X12_go_u62 (X12_go_f62 X12_isLetter X12_isFigure g93 g170)) := by
  intro ls st h r e
  obtain ⟨hst, e⟩ := gL_of e
  obtain ⟨t, q0, e⟩ := gT_of e
  obtain ⟨s0, q1, e⟩ := gI_of e
  rw [st_1 hst q1]
  exact WK.sub (canon := [some (.inr (11, t + 1)), none]) rfl ⟨q0, trivial⟩ (X12_go_s62 hk93 hk170 _ _ _ _ ((X12_go_l62 X12_isLetter X12_isFigure g93 g170 t s0 h).trans e))
noncomputable def X12_go_f93 (c_X12_isLetter : Nat → Int32 → PH → Option Rs) (g93 : Nat → Int32 → PH → Option Rs) (g127 : Nat → Int32 → Nat → PH → Option Rs) (t : Nat) (x1 : Int32) (h : PH) : Option Rs :=
  cI (c_X12_isLetter t (hI h 712 t 0) h) fun v17 h16 =>
  if v17 = 0 then
    if x1 = 0 then
      g127 t 1 t h16
    else
      g127 t 4 t h16
  else
    wr (pI h16 712 t 0 ((hI h16 712 t 0) + 1)) fun h18 =>
    g93 t x1 h18
set_option maxRecDepth 100000 in
theorem X12_go_l93 (c_X12_isLetter : Nat → Int32 → PH → Option Rs) (g93 : Nat → Int32 → PH → Option Rs) (g127 : Nat → Int32 → Nat → PH → Option Rs) (t : Nat) (x1 : Int32) (h : PH) : X12_go_b93 c_X12_isLetter (X12_go_u93 g93) (X12_go_u127 g127) [some (.inr (11, t + 1)), some (.inl x1)] [] h = X12_go_f93 c_X12_isLetter g93 g127 t x1 h := rfl
theorem X12_go_m93 {c_X12_isLetter : Nat → Int32 → PH → Option Rs} {g93 G93 : Nat → Int32 → PH → Option Rs} {g127 G127 : Nat → Int32 → Nat → PH → Option Rs} (hg93 : ∀ a0 a1 a2, Mo (g93 a0 a1 a2) (G93 a0 a1 a2)) (hg127 : ∀ a0 a1 a2 a3, Mo (g127 a0 a1 a2 a3) (G127 a0 a1 a2 a3)) (t : Nat) (x1 : Int32) (h : PH) : Mo (X12_go_f93 c_X12_isLetter g93 g127 t x1 h) (X12_go_f93 c_X12_isLetter G93 G127 t x1 h) := (mo_cI fun v17 h16 => (mo_if (mo_if (hg127 t 1 t h16) (hg127 t 4 t h16)) (mo_wr fun h18 => (hg93 t x1 h18))))
theorem X12_go_w93 {z : CZ} {g93 : Nat → Int32 → PH → Option Rs} {g127 : Nat → Int32 → Nat → PH → Option Rs} (hk93 : SK (X12_go_x z) 93 (X12_go_u93 g93)) (hk127 : SK (X12_go_x z) 127 (X12_go_u127 g127)) : SK (X12_go_x z) 93 (X12_go_u93 (X12_go_f93 X12_isLetter g93 g127)) := by
  intro ls st h r e
  obtain ⟨hst, e⟩ := gL_of e
  obtain ⟨t, q0, e⟩ := gT_of e
  obtain ⟨x1, q1, e⟩ := gI_of e
  rw [st_0 hst]
  exact WK.sub (canon := [some (.inr (11, t + 1)), some (.inl x1)]) rfl ⟨q0, q1, trivial⟩ (X12_go_s93 hk93 hk127 _ _ _ _ ((X12_go_l93 X12_isLetter g93 g127 t x1 h).trans e))
noncomputable def X12_go_f127 (t : Nat) (s0 : Int32) (s1 : Nat) (h : PH) : Option Rs :=
  wr (pI h 714 s1 0 s0) fun h19 =>
  nn (hR h19 710 t 0) fun r20 =>
  ix (hI h19 713 t 0) (hL h19 45 r20) fun j21 =>
  wr (pI h19 715 t 0 (hI h19 2880 r20 j21)) fun h22 =>
  wr (pI h22 716 t 0 (hI h22 712 t 0)) fun h23 =>
  some (none, h23)
set_option maxRecDepth 100000 in
theorem X12_go_l127 (t : Nat) (s0 : Int32) (s1 : Nat) (h : PH) : X12_go_b127 [some (.inr (11, t + 1)), none] [.inl s0, .inr (11, s1 + 1)] h = X12_go_f127 t s0 s1 h := rfl
theorem X12_go_w127 {z : CZ} : SK (X12_go_x z) 127 (X12_go_u127 (X12_go_f127)) := by
  intro ls st h r e
  obtain ⟨hst, e⟩ := gL_of e
  obtain ⟨t, q0, e⟩ := gT_of e
  obtain ⟨s0, q1, e⟩ := gI_of e
  obtain ⟨s1, q2, e⟩ := gT_of e
  rw [st_2 hst q1 q2]
  exact WK.sub (canon := [some (.inr (11, t + 1)), none]) rfl ⟨q0, trivial⟩ (X12_go_s127 _ _ _ _ ((X12_go_l127 t s0 s1 h).trans e))
noncomputable def X12_go_f170 (c_X12_isFigure : Nat → Int32 → PH → Option Rs) (g222 : Nat → Int32 → Int32 → Nat → PH → Option Rs) (g261 : Nat → Int32 → Nat → PH → Option Rs) (t : Nat) (x1 : Int32) (h : PH) : Option Rs :=
  cI (c_X12_isFigure t (hI h 712 t 0) h) fun v25 h24 =>
  if v25 = 0 then
    if x1 = 0 then
      if 4 < ((hI h24 712 t 0) - (hI h24 713 t 0)) then
        g261 t 4 t h24
      else
        g261 t 2 t h24
    else
      g261 t 4 t h24
  else
    if ((hI h24 712 t 0) - (hI h24 713 t 0)) < 4 then
      nn (hR h24 710 t 0) fun r26 =>
      ix (hI h24 712 t 0) (hL h24 45 r26) fun j27 =>
      g222 t x1 (((10 * (hI h24 715 t 0)) + (hI h24 2880 r26 j27)) - 48) t h24
    else
      g222 t x1 (hI h24 715 t 0) t h24
set_option maxRecDepth 100000 in
theorem X12_go_l170 (c_X12_isFigure : Nat → Int32 → PH → Option Rs) (g222 : Nat → Int32 → Int32 → Nat → PH → Option Rs) (g261 : Nat → Int32 → Nat → PH → Option Rs) (t : Nat) (x1 : Int32) (h : PH) : X12_go_b170 c_X12_isFigure (X12_go_u222 g222) (X12_go_u261 g261) [some (.inr (11, t + 1)), some (.inl x1)] [] h = X12_go_f170 c_X12_isFigure g222 g261 t x1 h := rfl
theorem X12_go_m170 {c_X12_isFigure : Nat → Int32 → PH → Option Rs} {g222 G222 : Nat → Int32 → Int32 → Nat → PH → Option Rs} {g261 G261 : Nat → Int32 → Nat → PH → Option Rs} (hg222 : ∀ a0 a1 a2 a3 a4, Mo (g222 a0 a1 a2 a3 a4) (G222 a0 a1 a2 a3 a4)) (hg261 : ∀ a0 a1 a2 a3, Mo (g261 a0 a1 a2 a3) (G261 a0 a1 a2 a3)) (t : Nat) (x1 : Int32) (h : PH) : Mo (X12_go_f170 c_X12_isFigure g222 g261 t x1 h) (X12_go_f170 c_X12_isFigure G222 G261 t x1 h) := (mo_cI fun v25 h24 => (mo_if (mo_if (mo_if (hg261 t 4 t h24) (hg261 t 2 t h24)) (hg261 t 4 t h24)) (mo_if (mo_nn fun r26 => (mo_ix fun j27 => (hg222 t x1 (((10 * (hI h24 715 t 0)) + (hI h24 2880 r26 j27)) - 48) t h24))) (hg222 t x1 (hI h24 715 t 0) t h24))))
theorem X12_go_w170 {z : CZ} {g222 : Nat → Int32 → Int32 → Nat → PH → Option Rs} {g261 : Nat → Int32 → Nat → PH → Option Rs} (hk222 : SK (X12_go_x z) 222 (X12_go_u222 g222)) (hk261 : SK (X12_go_x z) 261 (X12_go_u261 g261)) : SK (X12_go_x z) 170 (X12_go_u170 (X12_go_f170 X12_isFigure g222 g261)) := by
  intro ls st h r e
  obtain ⟨hst, e⟩ := gL_of e
  obtain ⟨t, q0, e⟩ := gT_of e
  obtain ⟨x1, q1, e⟩ := gI_of e
  rw [st_0 hst]
  exact WK.sub (canon := [some (.inr (11, t + 1)), some (.inl x1)]) rfl ⟨q0, q1, trivial⟩ (X12_go_s170 hk222 hk261 _ _ _ _ ((X12_go_l170 X12_isFigure g222 g261 t x1 h).trans e))
noncomputable def X12_go_f222 (g170 : Nat → Int32 → PH → Option Rs) (t : Nat) (x1 : Int32) (s0 : Int32) (s1 : Nat) (h : PH) : Option Rs :=
  wr (pI h 715 s1 0 s0) fun h28 =>
  wr (pI h28 712 t 0 ((hI h28 712 t 0) + 1)) fun h29 =>
  g170 t x1 h29
set_option maxRecDepth 100000 in
theorem X12_go_l222 (g170 : Nat → Int32 → PH → Option Rs) (t : Nat) (x1 : Int32) (s0 : Int32) (s1 : Nat) (h : PH) : X12_go_b222 (X12_go_u170 g170) [some (.inr (11, t + 1)), some (.inl x1)] [.inl s0, .inr (11, s1 + 1)] h = X12_go_f222 g170 t x1 s0 s1 h := rfl
theorem X12_go_m222 {g170 G170 : Nat → Int32 → PH → Option Rs} (hg170 : ∀ a0 a1 a2, Mo (g170 a0 a1 a2) (G170 a0 a1 a2)) (t : Nat) (x1 : Int32) (s0 : Int32) (s1 : Nat) (h : PH) : Mo (X12_go_f222 g170 t x1 s0 s1 h) (X12_go_f222 G170 t x1 s0 s1 h) := (mo_wr fun h28 => (mo_wr fun h29 => (hg170 t x1 h29)))
theorem X12_go_w222 {z : CZ} {g170 : Nat → Int32 → PH → Option Rs} (hk170 : SK (X12_go_x z) 170 (X12_go_u170 g170)) : SK (X12_go_x z) 222 (X12_go_u222 (X12_go_f222 g170)) := by
  intro ls st h r e
  obtain ⟨hst, e⟩ := gL_of e
  obtain ⟨t, q0, e⟩ := gT_of e
  obtain ⟨x1, q1, e⟩ := gI_of e
  obtain ⟨s0, q2, e⟩ := gI_of e
  obtain ⟨s1, q3, e⟩ := gT_of e
  rw [st_2 hst q2 q3]
  exact WK.sub (canon := [some (.inr (11, t + 1)), some (.inl x1)]) rfl ⟨q0, q1, trivial⟩ (X12_go_s222 hk170 _ _ _ _ ((X12_go_l222 g170 t x1 s0 s1 h).trans e))
noncomputable def X12_go_f261 (t : Nat) (s0 : Int32) (s1 : Nat) (h : PH) : Option Rs :=
  wr (pI h 714 s1 0 s0) fun h30 =>
  wr (pI h30 716 t 0 (hI h30 712 t 0)) fun h31 =>
  some (none, h31)
set_option maxRecDepth 100000 in
theorem X12_go_l261 (t : Nat) (s0 : Int32) (s1 : Nat) (h : PH) : X12_go_b261 [some (.inr (11, t + 1)), none] [.inl s0, .inr (11, s1 + 1)] h = X12_go_f261 t s0 s1 h := rfl
theorem X12_go_w261 {z : CZ} : SK (X12_go_x z) 261 (X12_go_u261 (X12_go_f261)) := by
  intro ls st h r e
  obtain ⟨hst, e⟩ := gL_of e
  obtain ⟨t, q0, e⟩ := gT_of e
  obtain ⟨s0, q1, e⟩ := gI_of e
  obtain ⟨s1, q2, e⟩ := gT_of e
  rw [st_2 hst q1 q2]
  exact WK.sub (canon := [some (.inr (11, t + 1)), none]) rfl ⟨q0, trivial⟩ (X12_go_s261 _ _ _ _ ((X12_go_l261 t s0 s1 h).trans e))
noncomputable def X12_go_g62 (G : (Nat → PH → Option Rs) × (Nat → Int32 → PH → Option Rs) × (Nat → Int32 → PH → Option Rs)) (t : Nat) (s0 : Int32) (h : PH) : Option Rs := X12_go_f62 X12_isLetter X12_isFigure (G).2.1 (G).2.2 t s0 h
noncomputable def X12_go_g38 (G : (Nat → PH → Option Rs) × (Nat → Int32 → PH → Option Rs) × (Nat → Int32 → PH → Option Rs)) (t : Nat) (h : PH) : Option Rs := X12_go_f38 (X12_go_g62 G) t h
noncomputable def X12_go_g0 (G : (Nat → PH → Option Rs) × (Nat → Int32 → PH → Option Rs) × (Nat → Int32 → PH → Option Rs)) (t : Nat) (h : PH) : Option Rs := X12_go_f0 (G).1 (X12_go_g38 G) t h
noncomputable def X12_go_g127 (G : (Nat → PH → Option Rs) × (Nat → Int32 → PH → Option Rs) × (Nat → Int32 → PH → Option Rs)) (t : Nat) (s0 : Int32) (s1 : Nat) (h : PH) : Option Rs := X12_go_f127 t s0 s1 h
noncomputable def X12_go_g93 (G : (Nat → PH → Option Rs) × (Nat → Int32 → PH → Option Rs) × (Nat → Int32 → PH → Option Rs)) (t : Nat) (x1 : Int32) (h : PH) : Option Rs := X12_go_f93 X12_isLetter (G).2.1 (X12_go_g127 G) t x1 h
noncomputable def X12_go_g222 (G : (Nat → PH → Option Rs) × (Nat → Int32 → PH → Option Rs) × (Nat → Int32 → PH → Option Rs)) (t : Nat) (x1 : Int32) (s0 : Int32) (s1 : Nat) (h : PH) : Option Rs := X12_go_f222 (G).2.2 t x1 s0 s1 h
noncomputable def X12_go_g261 (G : (Nat → PH → Option Rs) × (Nat → Int32 → PH → Option Rs) × (Nat → Int32 → PH → Option Rs)) (t : Nat) (s0 : Int32) (s1 : Nat) (h : PH) : Option Rs := X12_go_f261 t s0 s1 h
noncomputable def X12_go_g170 (G : (Nat → PH → Option Rs) × (Nat → Int32 → PH → Option Rs) × (Nat → Int32 → PH → Option Rs)) (t : Nat) (x1 : Int32) (h : PH) : Option Rs := X12_go_f170 X12_isFigure (X12_go_g222 G) (X12_go_g261 G) t x1 h
theorem X12_go_v62 {z : CZ} {G : (Nat → PH → Option Rs) × (Nat → Int32 → PH → Option Rs) × (Nat → Int32 → PH → Option Rs)} (hG0 : SK (X12_go_x z) 0 (X12_go_u0 (G).1)) (hG93 : SK (X12_go_x z) 93 (X12_go_u93 (G).2.1)) (hG170 : SK (X12_go_x z) 170 (X12_go_u170 (G).2.2)) : SK (X12_go_x z) 62 (X12_go_u62 (X12_go_g62 G)) := X12_go_w62 hG93 hG170
theorem X12_go_v38 {z : CZ} {G : (Nat → PH → Option Rs) × (Nat → Int32 → PH → Option Rs) × (Nat → Int32 → PH → Option Rs)} (hG0 : SK (X12_go_x z) 0 (X12_go_u0 (G).1)) (hG93 : SK (X12_go_x z) 93 (X12_go_u93 (G).2.1)) (hG170 : SK (X12_go_x z) 170 (X12_go_u170 (G).2.2)) : SK (X12_go_x z) 38 (X12_go_u38 (X12_go_g38 G)) := X12_go_w38 (X12_go_v62 hG0 hG93 hG170)
theorem X12_go_v0 {z : CZ} {G : (Nat → PH → Option Rs) × (Nat → Int32 → PH → Option Rs) × (Nat → Int32 → PH → Option Rs)} (hG0 : SK (X12_go_x z) 0 (X12_go_u0 (G).1)) (hG93 : SK (X12_go_x z) 93 (X12_go_u93 (G).2.1)) (hG170 : SK (X12_go_x z) 170 (X12_go_u170 (G).2.2)) : SK (X12_go_x z) 0 (X12_go_u0 (X12_go_g0 G)) := X12_go_w0 hG0 (X12_go_v38 hG0 hG93 hG170)
theorem X12_go_v127 {z : CZ} {G : (Nat → PH → Option Rs) × (Nat → Int32 → PH → Option Rs) × (Nat → Int32 → PH → Option Rs)} (hG0 : SK (X12_go_x z) 0 (X12_go_u0 (G).1)) (hG93 : SK (X12_go_x z) 93 (X12_go_u93 (G).2.1)) (hG170 : SK (X12_go_x z) 170 (X12_go_u170 (G).2.2)) : SK (X12_go_x z) 127 (X12_go_u127 (X12_go_g127 G)) := X12_go_w127
theorem X12_go_v93 {z : CZ} {G : (Nat → PH → Option Rs) × (Nat → Int32 → PH → Option Rs) × (Nat → Int32 → PH → Option Rs)} (hG0 : SK (X12_go_x z) 0 (X12_go_u0 (G).1)) (hG93 : SK (X12_go_x z) 93 (X12_go_u93 (G).2.1)) (hG170 : SK (X12_go_x z) 170 (X12_go_u170 (G).2.2)) : SK (X12_go_x z) 93 (X12_go_u93 (X12_go_g93 G)) := X12_go_w93 hG93 (X12_go_v127 hG0 hG93 hG170)
theorem X12_go_v222 {z : CZ} {G : (Nat → PH → Option Rs) × (Nat → Int32 → PH → Option Rs) × (Nat → Int32 → PH → Option Rs)} (hG0 : SK (X12_go_x z) 0 (X12_go_u0 (G).1)) (hG93 : SK (X12_go_x z) 93 (X12_go_u93 (G).2.1)) (hG170 : SK (X12_go_x z) 170 (X12_go_u170 (G).2.2)) : SK (X12_go_x z) 222 (X12_go_u222 (X12_go_g222 G)) := X12_go_w222 hG170
theorem X12_go_v261 {z : CZ} {G : (Nat → PH → Option Rs) × (Nat → Int32 → PH → Option Rs) × (Nat → Int32 → PH → Option Rs)} (hG0 : SK (X12_go_x z) 0 (X12_go_u0 (G).1)) (hG93 : SK (X12_go_x z) 93 (X12_go_u93 (G).2.1)) (hG170 : SK (X12_go_x z) 170 (X12_go_u170 (G).2.2)) : SK (X12_go_x z) 261 (X12_go_u261 (X12_go_g261 G)) := X12_go_w261
theorem X12_go_v170 {z : CZ} {G : (Nat → PH → Option Rs) × (Nat → Int32 → PH → Option Rs) × (Nat → Int32 → PH → Option Rs)} (hG0 : SK (X12_go_x z) 0 (X12_go_u0 (G).1)) (hG93 : SK (X12_go_x z) 93 (X12_go_u93 (G).2.1)) (hG170 : SK (X12_go_x z) 170 (X12_go_u170 (G).2.2)) : SK (X12_go_x z) 170 (X12_go_u170 (X12_go_g170 G)) := X12_go_w170 (X12_go_v222 hG0 hG93 hG170) (X12_go_v261 hG0 hG93 hG170)
noncomputable def X12_go_fam : Nat → (Nat → PH → Option Rs) × (Nat → Int32 → PH → Option Rs) × (Nat → Int32 → PH → Option Rs)
  | 0 => (fun _ _ => none, fun _ _ _ => none, fun _ _ _ => none)
  | n + 1 => (X12_go_g0 (X12_go_fam n), X12_go_g93 (X12_go_fam n), X12_go_g170 (X12_go_fam n))
theorem X12_go_k {z : CZ} : ∀ n, SK (X12_go_x z) 0 (X12_go_u0 (X12_go_fam n).1) ∧ SK (X12_go_x z) 93 (X12_go_u93 (X12_go_fam n).2.1) ∧ SK (X12_go_x z) 170 (X12_go_u170 (X12_go_fam n).2.2)
  | 0 => ⟨(fun ls st h r e => by
      obtain ⟨_, e⟩ := gL_of e
      obtain ⟨_, _, e⟩ := gT_of e
      cases e), (fun ls st h r e => by
      obtain ⟨_, e⟩ := gL_of e
      obtain ⟨_, _, e⟩ := gT_of e
      obtain ⟨_, _, e⟩ := gI_of e
      cases e), (fun ls st h r e => by
      obtain ⟨_, e⟩ := gL_of e
      obtain ⟨_, _, e⟩ := gT_of e
      obtain ⟨_, _, e⟩ := gI_of e
      cases e)⟩
  | n + 1 => by
    obtain ⟨ih0, ih93, ih170⟩ := X12_go_k n
    exact ⟨X12_go_v0 ih0 ih93 ih170, X12_go_v93 ih0 ih93 ih170, X12_go_v170 ih0 ih93 ih170⟩
theorem X12_go_n62 {G G' : (Nat → PH → Option Rs) × (Nat → Int32 → PH → Option Rs) × (Nat → Int32 → PH → Option Rs)} (hg0 : ∀ a0 a1, Mo ((G).1 a0 a1) ((G').1 a0 a1)) (hg93 : ∀ a0 a1 a2, Mo ((G).2.1 a0 a1 a2) ((G').2.1 a0 a1 a2)) (hg170 : ∀ a0 a1 a2, Mo ((G).2.2 a0 a1 a2) ((G').2.2 a0 a1 a2)) (t : Nat) (s0 : Int32) (h : PH) : Mo (X12_go_g62 G t s0 h) (X12_go_g62 G' t s0 h) := X12_go_m62 hg93 hg170 t s0 h
theorem X12_go_n38 {G G' : (Nat → PH → Option Rs) × (Nat → Int32 → PH → Option Rs) × (Nat → Int32 → PH → Option Rs)} (hg0 : ∀ a0 a1, Mo ((G).1 a0 a1) ((G').1 a0 a1)) (hg93 : ∀ a0 a1 a2, Mo ((G).2.1 a0 a1 a2) ((G').2.1 a0 a1 a2)) (hg170 : ∀ a0 a1 a2, Mo ((G).2.2 a0 a1 a2) ((G').2.2 a0 a1 a2)) (t : Nat) (h : PH) : Mo (X12_go_g38 G t h) (X12_go_g38 G' t h) := X12_go_m38 (fun a0 a1 a2 => X12_go_n62 hg0 hg93 hg170 a0 a1 a2) t h
theorem X12_go_n0 {G G' : (Nat → PH → Option Rs) × (Nat → Int32 → PH → Option Rs) × (Nat → Int32 → PH → Option Rs)} (hg0 : ∀ a0 a1, Mo ((G).1 a0 a1) ((G').1 a0 a1)) (hg93 : ∀ a0 a1 a2, Mo ((G).2.1 a0 a1 a2) ((G').2.1 a0 a1 a2)) (hg170 : ∀ a0 a1 a2, Mo ((G).2.2 a0 a1 a2) ((G').2.2 a0 a1 a2)) (t : Nat) (h : PH) : Mo (X12_go_g0 G t h) (X12_go_g0 G' t h) := X12_go_m0 hg0 (fun a0 a1 => X12_go_n38 hg0 hg93 hg170 a0 a1) t h
theorem X12_go_n127 {G G' : (Nat → PH → Option Rs) × (Nat → Int32 → PH → Option Rs) × (Nat → Int32 → PH → Option Rs)} (hg0 : ∀ a0 a1, Mo ((G).1 a0 a1) ((G').1 a0 a1)) (hg93 : ∀ a0 a1 a2, Mo ((G).2.1 a0 a1 a2) ((G').2.1 a0 a1 a2)) (hg170 : ∀ a0 a1 a2, Mo ((G).2.2 a0 a1 a2) ((G').2.2 a0 a1 a2)) (t : Nat) (s0 : Int32) (s1 : Nat) (h : PH) : Mo (X12_go_g127 G t s0 s1 h) (X12_go_g127 G' t s0 s1 h) := mo_rf
theorem X12_go_n93 {G G' : (Nat → PH → Option Rs) × (Nat → Int32 → PH → Option Rs) × (Nat → Int32 → PH → Option Rs)} (hg0 : ∀ a0 a1, Mo ((G).1 a0 a1) ((G').1 a0 a1)) (hg93 : ∀ a0 a1 a2, Mo ((G).2.1 a0 a1 a2) ((G').2.1 a0 a1 a2)) (hg170 : ∀ a0 a1 a2, Mo ((G).2.2 a0 a1 a2) ((G').2.2 a0 a1 a2)) (t : Nat) (x1 : Int32) (h : PH) : Mo (X12_go_g93 G t x1 h) (X12_go_g93 G' t x1 h) := X12_go_m93 hg93 (fun a0 a1 a2 a3 => X12_go_n127 hg0 hg93 hg170 a0 a1 a2 a3) t x1 h
theorem X12_go_n222 {G G' : (Nat → PH → Option Rs) × (Nat → Int32 → PH → Option Rs) × (Nat → Int32 → PH → Option Rs)} (hg0 : ∀ a0 a1, Mo ((G).1 a0 a1) ((G').1 a0 a1)) (hg93 : ∀ a0 a1 a2, Mo ((G).2.1 a0 a1 a2) ((G').2.1 a0 a1 a2)) (hg170 : ∀ a0 a1 a2, Mo ((G).2.2 a0 a1 a2) ((G').2.2 a0 a1 a2)) (t : Nat) (x1 : Int32) (s0 : Int32) (s1 : Nat) (h : PH) : Mo (X12_go_g222 G t x1 s0 s1 h) (X12_go_g222 G' t x1 s0 s1 h) := X12_go_m222 hg170 t x1 s0 s1 h
theorem X12_go_n261 {G G' : (Nat → PH → Option Rs) × (Nat → Int32 → PH → Option Rs) × (Nat → Int32 → PH → Option Rs)} (hg0 : ∀ a0 a1, Mo ((G).1 a0 a1) ((G').1 a0 a1)) (hg93 : ∀ a0 a1 a2, Mo ((G).2.1 a0 a1 a2) ((G').2.1 a0 a1 a2)) (hg170 : ∀ a0 a1 a2, Mo ((G).2.2 a0 a1 a2) ((G').2.2 a0 a1 a2)) (t : Nat) (s0 : Int32) (s1 : Nat) (h : PH) : Mo (X12_go_g261 G t s0 s1 h) (X12_go_g261 G' t s0 s1 h) := mo_rf
theorem X12_go_n170 {G G' : (Nat → PH → Option Rs) × (Nat → Int32 → PH → Option Rs) × (Nat → Int32 → PH → Option Rs)} (hg0 : ∀ a0 a1, Mo ((G).1 a0 a1) ((G').1 a0 a1)) (hg93 : ∀ a0 a1 a2, Mo ((G).2.1 a0 a1 a2) ((G').2.1 a0 a1 a2)) (hg170 : ∀ a0 a1 a2, Mo ((G).2.2 a0 a1 a2) ((G').2.2 a0 a1 a2)) (t : Nat) (x1 : Int32) (h : PH) : Mo (X12_go_g170 G t x1 h) (X12_go_g170 G' t x1 h) := X12_go_m170 (fun a0 a1 a2 a3 a4 => X12_go_n222 hg0 hg93 hg170 a0 a1 a2 a3 a4) (fun a0 a1 a2 a3 => X12_go_n261 hg0 hg93 hg170 a0 a1 a2 a3) t x1 h
theorem X12_go_fm : ∀ n, (∀ a0 a1, Mo ((X12_go_fam n).1 a0 a1) ((X12_go_fam (n + 1)).1 a0 a1)) ∧ (∀ a0 a1 a2, Mo ((X12_go_fam n).2.1 a0 a1 a2) ((X12_go_fam (n + 1)).2.1 a0 a1 a2)) ∧ (∀ a0 a1 a2, Mo ((X12_go_fam n).2.2 a0 a1 a2) ((X12_go_fam (n + 1)).2.2 a0 a1 a2))
  | 0 => ⟨fun _ _ => mo_no, fun _ _ _ => mo_no, fun _ _ _ => mo_no⟩
  | n + 1 => by
    obtain ⟨ih0, ih93, ih170⟩ := X12_go_fm n
    exact ⟨fun a0 a1 => X12_go_n0 ih0 ih93 ih170 a0 a1, fun a0 a1 a2 => X12_go_n93 ih0 ih93 ih170 a0 a1 a2, fun a0 a1 a2 => X12_go_n170 ih0 ih93 ih170 a0 a1 a2⟩
noncomputable def X12_go (t : Nat) (h : PH) : Option Rs := lim (fun n => (X12_go_fam n).1 t h)
theorem X12_go_iff {t : Nat} {h : PH} {r : Rs} : X12_go t h = some r ↔ ∃ n, (X12_go_fam n).1 t h = some r := lim_iff (fun n => by
  obtain ⟨ih0, ih93, ih170⟩ := X12_go_fm n
  exact ih0 t h)
noncomputable abbrev X12_go_F : List PV → PH → Option Rs := FW_T11 (X12_go)
set_option maxRecDepth 100000 in
theorem X12_go_gd (l : Launch) : Gd l 1 yX12_go cX12_go 2 none (X12_go_F)   := Gd_of (by decide +kernel) (fun z hzl as h r e => by
  obtain ⟨hst, e⟩ := gL_of e
  obtain ⟨t, q0, e⟩ := gT_of e
  rw [st_1 hst q0]
  obtain ⟨n, e⟩ := lim_of e
  obtain ⟨hG0, hG93, hG170⟩ := X12_go_k (z := z) n
  exact ⟨show 1 ≤ 2 by decide, hG0 _ _ _ _ e⟩)
