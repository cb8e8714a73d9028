abbrev X11_goalTold_x (z : CZ) : CX := mx RX11 cX11_goalTold 3 2 (some .int) "goalTold" z
noncomputable def X11_goalTold_b0 (c_X1_hasGoal : Nat → Int32 → PH → Option Rs) (c_X11_isWithin : Int32 → Int32 → PH → Option Rs) (c_X11_orNone : Int32 → PH → Option Rs) : Kn := (a_al 0 (a_gR 10 640 1 (a_il 1 (a_vI 1 1 (FW_T1I c_X1_hasGoal) (a_z (a_ic (-1000000001) a_ir) (a_il 2 (a_ic 2 (a_sI 2 (FW_II c_X11_isWithin) (a_z (a_ic (-1000000001) a_ir) (a_il 2 (a_z (a_al 0 (a_gR 10 640 1 (a_gR 1 66 16 (a_il 1 (a_ald 16 1024 a_ir))))) (a_al 0 (a_gR 10 640 1 (a_gR 1 67 17 (a_il 1 (a_ald 17 1088 (a_sI 1 (FW_I c_X11_orNone) a_ir)))))))))))))))))
set_option maxRecDepth 100000 in
theorem X11_goalTold_s0 {z : CZ} : SK (X11_goalTold_x z) 0 (X11_goalTold_b0 X1_hasGoal X11_isWithin X11_orNone) := (s_aloadn (pc := 0) dX11_goalTold_0 rfl (s_gR (pc := 1) (f := 0) ko_10 (by decide) rfl rfl w_504 dX11_goalTold_1 (s_iloadn (pc := 4) dX11_goalTold_4 rfl (s_vI (pc := 5) (run_virtual (X1_hasGoal_gd _) (show 1 < 2 by decide) cy_X1_hasGoal (by decide) rfl w_605 w_606 w_604 dX11_goalTold_5) (s_ifeq (pc := 8) dX11_goalTold_8 (by decide) (s_ldc (pc := 19) w_551 dX11_goalTold_19 (s_ir (pc := 21) rfl dX11_goalTold_21)) (s_iloadn (pc := 11) dX11_goalTold_11 rfl (s_iconst (pc := 12) dX11_goalTold_12 c_ic_2 (s_sI (pc := 13) (run_static (X11_isWithin_gd _) (show 0 < 2 by decide) cy_X11_isWithin w_549 w_552 dX11_goalTold_13) (s_ifne (pc := 16) dX11_goalTold_16 (by decide) (s_iloadn (pc := 22) dX11_goalTold_22 rfl (s_ifne (pc := 23) dX11_goalTold_23 (by decide) (s_aloadn (pc := 38) dX11_goalTold_38 rfl (s_gR (pc := 39) (f := 0) ko_10 (by decide) rfl rfl w_504 dX11_goalTold_39 (s_gR (pc := 42) (f := 3) ko_1 (by decide) rfl rfl w_226 dX11_goalTold_42 (s_iloadn (pc := 45) dX11_goalTold_45 rfl (s_iald (pc := 46) (by decide) (by decide) rfl rfl rfl dX11_goalTold_46 (s_sI (pc := 47) (run_static (X11_orNone_gd _) (show 0 < 2 by decide) cy_X11_orNone w_609 w_608 dX11_goalTold_47) (s_ir (pc := 50) rfl dX11_goalTold_50))))))) (s_aloadn (pc := 26) dX11_goalTold_26 rfl (s_gR (pc := 27) (f := 0) ko_10 (by decide) rfl rfl w_504 dX11_goalTold_27 (s_gR (pc := 30) (f := 2) ko_1 (by decide) rfl rfl w_223 dX11_goalTold_30 (s_iloadn (pc := 33) dX11_goalTold_33 rfl (s_iald (pc := 34) (by decide) (by decide) rfl rfl rfl dX11_goalTold_34 (s_goto (pc := 35) dX11_goalTold_35 (by decide) (s_ir (pc := 50) rfl dX11_goalTold_50))))))))) (s_ldc (pc := 19) w_551 dX11_goalTold_19 (s_ir (pc := 21) rfl dX11_goalTold_21)))))))))))
noncomputable def X11_goalTold_f0 (c_X1_hasGoal : Nat → Int32 → PH → Option Rs) (c_X11_isWithin : Int32 → Int32 → PH → Option Rs) (c_X11_orNone : Int32 → PH → Option Rs) (t : Nat) (x1 : Int32) (x2 : Int32) (h : PH) : Option Rs :=
  nn (hR h 640 t 0) fun r1 =>
  cI (c_X1_hasGoal r1 x1 h) fun v3 h2 =>
  if v3 = 0 then
    some (some (.inl (-1000000001)), h2)
  else
    cI (c_X11_isWithin x2 2 h2) fun v5 h4 =>
    if v5 = 0 then
      some (some (.inl (-1000000001)), h4)
    else
      if x2 = 0 then
        nn (hR h4 640 t 0) fun r11 =>
        nn (hR h4 66 r11 0) fun r12 =>
        ix x1 (hL h4 16 r12) fun j13 =>
        some (some (.inl (hI h4 1024 r12 j13)), h4)
      else
        nn (hR h4 640 t 0) fun r6 =>
        nn (hR h4 67 r6 0) fun r7 =>
        ix x1 (hL h4 17 r7) fun j8 =>
        cI (c_X11_orNone (hI h4 1088 r7 j8) h4) fun v10 h9 =>
        some (some (.inl v10), h9)
set_option maxRecDepth 100000 in
theorem X11_goalTold_l0 (c_X1_hasGoal : Nat → Int32 → PH → Option Rs) (c_X11_isWithin : Int32 → Int32 → PH → Option Rs) (c_X11_orNone : Int32 → PH → Option Rs) (t : Nat) (x1 : Int32) (x2 : Int32) (h : PH) : X11_goalTold_b0 c_X1_hasGoal c_X11_isWithin c_X11_orNone [some (.inr (10, t + 1)), some (.inl x1), some (.inl x2)] [] h = X11_goalTold_f0 c_X1_hasGoal c_X11_isWithin c_X11_orNone t x1 x2 h := rfl
noncomputable def X11_goalTold_g0 (t : Nat) (x1 : Int32) (x2 : Int32) (h : PH) : Option Rs := X11_goalTold_f0 X1_hasGoal X11_isWithin X11_orNone t x1 x2 h
noncomputable def X11_goalTold (t : Nat) (x1 : Int32) (x2 : Int32) (h : PH) : Option Rs := X11_goalTold_g0 t x1 x2 h
noncomputable abbrev X11_goalTold_F : List PV → PH → Option Rs := FW_T10II (X11_goalTold)
set_option maxRecDepth 100000 in
theorem X11_goalTold_gd (l : Launch) : Gd l 2 yX11_goalTold cX11_goalTold 3 (some .int) (X11_goalTold_F)   := Gd_of (by decide +kernel) (fun z hzl as h r e => by
  obtain ⟨hst, e⟩ := gL_of e
  obtain ⟨t, q0, e⟩ := gT_of e
  obtain ⟨x1, q1, e⟩ := gI_of e
  obtain ⟨x2, q2, e⟩ := gI_of e
  rw [st_3 hst q0 q1 q2]
  exact ⟨show 3 ≤ 3 by decide, X11_goalTold_s0 _ _ _ _ ((X11_goalTold_l0 X1_hasGoal X11_isWithin X11_orNone t x1 x2 h).trans e)⟩)
abbrev X11_hours_x (z : CZ) : CX := mx RX11 cX11_hours 4 0 (some .int) "hours" z
noncomputable def X11_hours_b0 : Kn := (a_il 1 (a_ic 1 (a_lt (a_ic (-1000000001) a_ir) (a_il 1 (a_ic 48 (a_gt (a_ic (-1000000001) a_ir) (a_al 0 (a_gR 10 640 1 (a_gI 1 78 (a_il 1 (a_b (fun a b => a + b) (a_is 2 (a_al 0 (a_gR 10 640 1 (a_gI 1 79 (a_il 2 (a_ic 24 (a_div (a_b (fun a b => a + b) (a_is 3 (a_il 3 (a_ic 999 (a_gt (a_ic (-1000000003) a_ir) (a_al 0 (a_gR 10 640 1 (a_il 2 (a_ic 24 (a_rem (a_pI 1 78 (a_al 0 (a_gR 10 640 1 (a_il 3 (a_pI 1 79 (a_al 0 (a_gR 10 640 1 (a_gI 1 78 a_ir))))))))))))))))))))))))))))))))))))
set_option maxRecDepth 100000 in
theorem X11_hours_s0 {z : CZ} : SK (X11_hours_x z) 0 (X11_hours_b0) := (s_iloadn (pc := 0) dX11_hours_0 rfl (s_iconst (pc := 1) dX11_hours_1 c_ic_1 (s_cmplt (pc := 2) dX11_hours_2 (by decide) (s_ldc (pc := 11) w_551 dX11_hours_11 (s_ir (pc := 13) rfl dX11_hours_13)) (s_iloadn (pc := 5) dX11_hours_5 rfl (s_bipush (pc := 6) dX11_hours_6 c_bp_48 (s_cmple (pc := 8) dX11_hours_8 (by decide) (s_aloadn (pc := 14) dX11_hours_14 rfl (s_gR (pc := 15) (f := 0) ko_10 (by decide) rfl rfl w_504 dX11_hours_15 (s_gI (pc := 18) (f := 14) ko_1 (by decide) rfl rfl w_262 dX11_hours_18 (s_iloadn (pc := 21) dX11_hours_21 rfl (s_iadd (pc := 22) dX11_hours_22 (s_istoren (pc := 23) dX11_hours_23 rfl (show 2 < 4 by decide) (s_aloadn (pc := 24) dX11_hours_24 rfl (s_gR (pc := 25) (f := 0) ko_10 (by decide) rfl rfl w_504 dX11_hours_25 (s_gI (pc := 28) (f := 15) ko_1 (by decide) rfl rfl w_264 dX11_hours_28 (s_iloadn (pc := 31) dX11_hours_31 rfl (s_bipush (pc := 32) dX11_hours_32 c_bp_24 (s_idiv (pc := 34) dX11_hours_34 (s_iadd (pc := 35) dX11_hours_35 (s_istoren (pc := 36) dX11_hours_36 rfl (show 3 < 4 by decide) (s_iloadn (pc := 37) dX11_hours_37 rfl (s_sipush (pc := 38) dX11_hours_38 c_sp_999 (s_cmple (pc := 41) dX11_hours_41 (by decide) (s_aloadn (pc := 47) dX11_hours_47 rfl (s_gR (pc := 48) (f := 0) ko_10 (by decide) rfl rfl w_504 dX11_hours_48 (s_iloadn (pc := 51) dX11_hours_51 rfl (s_bipush (pc := 52) dX11_hours_52 c_bp_24 (s_irem (pc := 54) dX11_hours_54 (s_pI (pc := 55) (f := 14) ko_1 (by decide) rfl rfl rfl (by decide +kernel) w_262 dX11_hours_55 (s_aloadn (pc := 58) dX11_hours_58 rfl (s_gR (pc := 59) (f := 0) ko_10 (by decide) rfl rfl w_504 dX11_hours_59 (s_iloadn (pc := 62) dX11_hours_62 rfl (s_pI (pc := 63) (f := 15) ko_1 (by decide) rfl rfl rfl (by decide +kernel) w_264 dX11_hours_63 (s_aloadn (pc := 66) dX11_hours_66 rfl (s_gR (pc := 67) (f := 0) ko_10 (by decide) rfl rfl w_504 dX11_hours_67 (s_gI (pc := 70) (f := 14) ko_1 (by decide) rfl rfl w_262 dX11_hours_70 (s_ir (pc := 73) rfl dX11_hours_73)))))))))))))) (s_ldc (pc := 44) w_539 dX11_hours_44 (s_ir (pc := 46) rfl dX11_hours_46))))))))))))))))))) (s_ldc (pc := 11) w_551 dX11_hours_11 (s_ir (pc := 13) rfl dX11_hours_13))))))))
noncomputable def X11_hours_f0 (t : Nat) (x1 : Int32) (h : PH) : Option Rs :=
  if x1 < 1 then
    some (some (.inl (-1000000001)), h)
  else
    if 48 < x1 then
      some (some (.inl (-1000000001)), h)
    else
      nn (hR h 640 t 0) fun r1 =>
      nn (hR h 640 t 0) fun r2 =>
      dv 24 <|
      if 999 < ((hI h 79 r2 0) + (((hI h 78 r1 0) + x1) / 24)) then
        some (some (.inl (-1000000003)), h)
      else
        dv 24 <|
        nn (hR h 640 t 0) fun r3 =>
        wr (pI h 78 r3 0 (jrem ((hI h 78 r1 0) + x1) 24)) fun h4 =>
        nn (hR h4 640 t 0) fun r5 =>
        wr (pI h4 79 r5 0 ((hI h 79 r2 0) + (((hI h 78 r1 0) + x1) / 24))) fun h6 =>
        nn (hR h6 640 t 0) fun r7 =>
        some (some (.inl (hI h6 78 r7 0)), h6)
set_option maxRecDepth 100000 in
theorem X11_hours_l0 (t : Nat) (x1 : Int32) (h : PH) : X11_hours_b0 [some (.inr (10, t + 1)), some (.inl x1), none, none] [] h = X11_hours_f0 t x1 h := rfl
noncomputable def X11_hours_g0 (t : Nat) (x1 : Int32) (h : PH) : Option Rs := X11_hours_f0 t x1 h
noncomputable def X11_hours (t : Nat) (x1 : Int32) (h : PH) : Option Rs := X11_hours_g0 t x1 h
noncomputable abbrev X11_hours_F : List PV → PH → Option Rs := FW_T10I (X11_hours)
set_option maxRecDepth 100000 in
theorem X11_hours_gd (l : Launch) : Gd l 0 yX11_hours cX11_hours 4 (some .int) (X11_hours_F)   := Gd_of (by decide +kernel) (fun z hzl as h r e => by
  obtain ⟨hst, e⟩ := gL_of e
  obtain ⟨t, q0, e⟩ := gT_of e
  obtain ⟨x1, q1, e⟩ := gI_of e
  rw [st_2 hst q0 q1]
  exact ⟨show 2 ≤ 4 by decide, X11_hours_s0 _ _ _ _ ((X11_hours_l0 t x1 h).trans e)⟩)
abbrev X6_begin_x (z : CZ) : CX := mx RX6 cX6_begin 4 0 none "begin" z
noncomputable def X6_begin_b0 : Kn := (a_al 0 (a_il 1 (a_pI 5 320 (a_al 0 (a_il 2 (a_pI 5 321 (a_al 0 (a_il 3 (a_pI 5 322 (a_al 0 (a_ic 0 (a_pI 5 323 (a_al 0 (a_ic 0 (a_pI 5 324 a_vr)))))))))))))))
set_option maxRecDepth 100000 in
theorem X6_begin_s0 {z : CZ} : SK (X6_begin_x z) 0 (X6_begin_b0) := (s_aloadn (pc := 0) dX6_begin_0 rfl (s_iloadn (pc := 1) dX6_begin_1 rfl (s_pI (pc := 2) (f := 0) ko_5 (by decide) rfl rfl rfl (by decide +kernel) w_169 dX6_begin_2 (s_aloadn (pc := 5) dX6_begin_5 rfl (s_iloadn (pc := 6) dX6_begin_6 rfl (s_pI (pc := 7) (f := 1) ko_5 (by decide) rfl rfl rfl (by decide +kernel) w_173 dX6_begin_7 (s_aloadn (pc := 10) dX6_begin_10 rfl (s_iloadn (pc := 11) dX6_begin_11 rfl (s_pI (pc := 12) (f := 2) ko_5 (by decide) rfl rfl rfl (by decide +kernel) w_176 dX6_begin_12 (s_aloadn (pc := 15) dX6_begin_15 rfl (s_iconst (pc := 16) dX6_begin_16 c_ic_0 (s_pI (pc := 17) (f := 3) ko_5 (by decide) rfl rfl rfl (by decide +kernel) w_179 dX6_begin_17 (s_aloadn (pc := 20) dX6_begin_20 rfl (s_iconst (pc := 21) dX6_begin_21 c_ic_0 (s_pI (pc := 22) (f := 4) ko_5 (by decide) rfl rfl rfl (by decide +kernel) w_184 dX6_begin_22 (s_vr (pc := 25) rfl dX6_begin_25))))))))))))))))
noncomputable def X6_begin_f0 (t : Nat) (x1 : Int32) (x2 : Int32) (x3 : Int32) (h : PH) : Option Rs :=
  wr (pI h 320 t 0 x1) fun h1 =>
  wr (pI h1 321 t 0 x2) fun h2 =>
  wr (pI h2 322 t 0 x3) fun h3 =>
  wr (pI h3 323 t 0 0) fun h4 =>
  wr (pI h4 324 t 0 0) fun h5 =>
  some (none, h5)
set_option maxRecDepth 100000 in
theorem X6_begin_l0 (t : Nat) (x1 : Int32) (x2 : Int32) (x3 : Int32) (h : PH) : X6_begin_b0 [some (.inr (5, t + 1)), some (.inl x1), some (.inl x2), some (.inl x3)] [] h = X6_begin_f0 t x1 x2 x3 h := rfl
noncomputable def X6_begin_g0 (t : Nat) (x1 : Int32) (x2 : Int32) (x3 : Int32) (h : PH) : Option Rs := X6_begin_f0 t x1 x2 x3 h
noncomputable def X6_begin (t : Nat) (x1 : Int32) (x2 : Int32) (x3 : Int32) (h : PH) : Option Rs := X6_begin_g0 t x1 x2 x3 h
noncomputable abbrev X6_begin_F : List PV → PH → Option Rs := FW_T5III (X6_begin)
set_option maxRecDepth 100000 in
theorem X6_begin_gd (l : Launch) : Gd l 0 yX6_begin cX6_begin 4 none (X6_begin_F)   := Gd_of (by decide +kernel) (fun z hzl as h r e => by
  obtain ⟨hst, e⟩ := gL_of e
  obtain ⟨t, q0, e⟩ := gT_of e
  obtain ⟨x1, q1, e⟩ := gI_of e
  obtain ⟨x2, q2, e⟩ := gI_of e
  obtain ⟨x3, q3, e⟩ := gI_of e
  rw [st_4 hst q0 q1 q2 q3]
  exact ⟨show 4 ≤ 4 by decide, X6_begin_s0 _ _ _ _ ((X6_begin_l0 t x1 x2 x3 h).trans e)⟩)
abbrev X0_forget_x (z : CZ) : CX := mx RX0 cX0_forget 1 0 none "forget" z
noncomputable def X0_forget_b0 : Kn := (a_al 0 (a_ic 0 (a_pI 0 2 a_vr)))
set_option maxRecDepth 100000 in
theorem X0_forget_s0 {z : CZ} : SK (X0_forget_x z) 0 (X0_forget_b0) := (s_aloadn (pc := 0) dX0_forget_0 rfl (s_iconst (pc := 1) dX0_forget_1 c_ic_0 (s_pI (pc := 2) (f := 2) ko_0 (by decide) rfl rfl rfl (by decide +kernel) w_397 dX0_forget_2 (s_vr (pc := 5) rfl dX0_forget_5))))
noncomputable def X0_forget_f0 (t : Nat) (h : PH) : Option Rs :=
  wr (pI h 2 t 0 0) fun h1 =>
  some (none, h1)
set_option maxRecDepth 100000 in
theorem X0_forget_l0 (t : Nat) (h : PH) : X0_forget_b0 [some (.inr (0, t + 1))] [] h = X0_forget_f0 t h := rfl
noncomputable def X0_forget_g0 (t : Nat) (h : PH) : Option Rs := X0_forget_f0 t h
noncomputable def X0_forget (t : Nat) (h : PH) : Option Rs := X0_forget_g0 t h
noncomputable abbrev X0_forget_F : List PV → PH → Option Rs := FW_T0 (X0_forget)
set_option maxRecDepth 100000 in
theorem X0_forget_gd (l : Launch) : Gd l 0 yX0_forget cX0_forget 1 none (X0_forget_F)   := Gd_of (by decide +kernel) (fun z hzl as h r e => by
  obtain ⟨hst, e⟩ := gL_of e
  obtain ⟨t, q0, e⟩ := gT_of e
  rw [st_1 hst q0]
  exact ⟨show 1 ≤ 1 by decide, X0_forget_s0 _ _ _ _ ((X0_forget_l0 t h).trans e)⟩)
abbrev X11_sign_x (z : CZ) : CX := mx RX11 cX11_sign 4 2 (some .int) "sign" z
noncomputable def X11_sign_b0 (c_X1_hasPlace : Nat → Int32 → PH → Option Rs) (c_X11_isWithin : Int32 → Int32 → PH → Option Rs) (k42 : Kn) : Kn := (a_al 0 (a_gR 10 640 1 (a_il 1 (a_vI 1 1 (FW_T1I c_X1_hasPlace) (a_z (a_ic (-1000000001) a_ir) (a_il 2 (a_ic 6 (a_sI 2 (FW_II c_X11_isWithin) (a_z (a_ic (-1000000001) a_ir) (a_il 2 (a_ic 5 (a_eq (a_il 3 (a_ic 1 (a_lt (a_ic (-1000000001) a_ir) (a_il 3 (a_ic 99 (a_gt (a_ic (-1000000001) a_ir) k42)))))) k42))))))))))))
set_option maxRecDepth 100000 in
theorem X11_sign_s0 {z : CZ} {k42 : Kn} (hk42 : SK (X11_sign_x z) 42 k42) : SK (X11_sign_x z) 0 (X11_sign_b0 X1_hasPlace X11_isWithin k42) := (s_aloadn (pc := 0) dX11_sign_0 rfl (s_gR (pc := 1) (f := 0) ko_10 (by decide) rfl rfl w_504 dX11_sign_1 (s_iloadn (pc := 4) dX11_sign_4 rfl (s_vI (pc := 5) (run_virtual (X1_hasPlace_gd _) (show 1 < 2 by decide) cy_X1_hasPlace (by decide) rfl w_545 w_546 w_544 dX11_sign_5) (s_ifeq (pc := 8) dX11_sign_8 (by decide) (s_ldc (pc := 20) w_551 dX11_sign_20 (s_ir (pc := 22) rfl dX11_sign_22)) (s_iloadn (pc := 11) dX11_sign_11 rfl (s_bipush (pc := 12) dX11_sign_12 c_bp_6 (s_sI (pc := 14) (run_static (X11_isWithin_gd _) (show 0 < 2 by decide) cy_X11_isWithin w_549 w_552 dX11_sign_14) (s_ifne (pc := 17) dX11_sign_17 (by decide) (s_iloadn (pc := 23) dX11_sign_23 rfl (s_iconst (pc := 24) dX11_sign_24 c_ic_5 (s_cmpne (pc := 25) dX11_sign_25 (by decide) hk42 (s_iloadn (pc := 28) dX11_sign_28 rfl (s_iconst (pc := 29) dX11_sign_29 c_ic_1 (s_cmplt (pc := 30) dX11_sign_30 (by decide) (s_ldc (pc := 39) w_551 dX11_sign_39 (s_ir (pc := 41) rfl dX11_sign_41)) (s_iloadn (pc := 33) dX11_sign_33 rfl (s_bipush (pc := 34) dX11_sign_34 c_bp_99 (s_cmple (pc := 36) dX11_sign_36 (by decide) hk42 (s_ldc (pc := 39) w_551 dX11_sign_39 (s_ir (pc := 41) rfl dX11_sign_41))))))))))) (s_ldc (pc := 20) w_551 dX11_sign_20 (s_ir (pc := 22) rfl dX11_sign_22)))))))))))
noncomputable def X11_sign_b42 (k93 : Kn) : Kn := (a_al 0 (a_gR 10 640 1 (a_gI 1 75 (a_ic 14 (a_lt (a_al 0 (a_gR 10 640 1 (a_gR 1 68 18 (a_al 0 (a_gR 10 640 1 (a_gI 1 75 (a_rald 18 1152 5 (a_il 1 (a_il 2 (a_il 2 (a_ic 5 (a_eq (a_al 0 (a_gR 10 640 1 (a_gI 1 79 (a_il 3 (a_b (fun a b => a + b) k93))))) (a_ic (-1000000005) k93))))))))))))) (a_ic (-1000000003) a_ir))))))
set_option maxRecDepth 100000 in
theorem X11_sign_s42 {z : CZ} {k93 : Kn} (hk93 : SK (X11_sign_x z) 93 k93) : SK (X11_sign_x z) 42 (X11_sign_b42 k93) := (s_aloadn (pc := 42) dX11_sign_42 rfl (s_gR (pc := 43) (f := 0) ko_10 (by decide) rfl rfl w_504 dX11_sign_43 (s_gI (pc := 46) (f := 11) ko_1 (by decide) rfl rfl w_255 dX11_sign_46 (s_bipush (pc := 49) dX11_sign_49 c_bp_14 (s_cmplt (pc := 51) dX11_sign_51 (by decide) (s_aloadn (pc := 57) dX11_sign_57 rfl (s_gR (pc := 58) (f := 0) ko_10 (by decide) rfl rfl w_504 dX11_sign_58 (s_gR (pc := 61) (f := 4) ko_1 (by decide) rfl rfl w_233 dX11_sign_61 (s_aloadn (pc := 64) dX11_sign_64 rfl (s_gR (pc := 65) (f := 0) ko_10 (by decide) rfl rfl w_504 dX11_sign_65 (s_gI (pc := 68) (f := 11) ko_1 (by decide) rfl rfl w_255 dX11_sign_68 (s_rald (pc := 71) (by decide) (by decide) rfl rfl rfl dX11_sign_71 (s_iloadn (pc := 72) dX11_sign_72 rfl (s_iloadn (pc := 73) dX11_sign_73 rfl (s_iloadn (pc := 74) dX11_sign_74 rfl (s_iconst (pc := 75) dX11_sign_75 c_ic_5 (s_cmpne (pc := 76) dX11_sign_76 (by decide) (s_ldc (pc := 91) w_611 dX11_sign_91 hk93) (s_aloadn (pc := 79) dX11_sign_79 rfl (s_gR (pc := 80) (f := 0) ko_10 (by decide) rfl rfl w_504 dX11_sign_80 (s_gI (pc := 83) (f := 15) ko_1 (by decide) rfl rfl w_264 dX11_sign_83 (s_iloadn (pc := 86) dX11_sign_86 rfl (s_iadd (pc := 87) dX11_sign_87 (s_goto (pc := 88) dX11_sign_88 (by decide) hk93)))))))))))))))))) (s_ldc (pc := 54) w_539 dX11_sign_54 (s_ir (pc := 56) rfl dX11_sign_56)))))))
noncomputable def X11_sign_b93 (c_X6_begin : Nat → Int32 → Int32 → Int32 → PH → Option Rs) (c_X0_forget : Nat → PH → Option Rs) : Kn := (a_vV 5 3 (FW_T5III c_X6_begin) (a_al 0 (a_gR 10 644 0 (a_vV 0 0 (FW_T0 c_X0_forget) (a_al 0 (a_gR 10 640 1 (a_dup (a_gI 1 75 (a_dupx1 (a_ic 1 (a_b (fun a b => a + b) (a_pI 1 75 a_ir))))))))))))
set_option maxRecDepth 100000 in
theorem X11_sign_s93 {z : CZ} : SK (X11_sign_x z) 93 (X11_sign_b93 X6_begin X0_forget) := (s_vV (pc := 93) (run_virtual (X6_begin_gd _) (show 0 < 2 by decide) cy_X6_begin (by decide) rfl w_621 w_622 w_620 dX11_sign_93) (s_aloadn (pc := 96) dX11_sign_96 rfl (s_gR (pc := 97) (f := 4) ko_10 (by decide) rfl rfl w_508 dX11_sign_97 (s_vV (pc := 100) (run_virtual (X0_forget_gd _) (show 0 < 2 by decide) cy_X0_forget (by decide) rfl w_625 w_626 w_624 dX11_sign_100) (s_aloadn (pc := 103) dX11_sign_103 rfl (s_gR (pc := 104) (f := 0) ko_10 (by decide) rfl rfl w_504 dX11_sign_104 (s_dup (pc := 107) dX11_sign_107 (s_gI (pc := 108) (f := 11) ko_1 (by decide) rfl rfl w_255 dX11_sign_108 (s_dupx1 (pc := 111) dX11_sign_111 (s_iconst (pc := 112) dX11_sign_112 c_ic_1 (s_iadd (pc := 113) dX11_sign_113 (s_pI (pc := 114) (f := 11) ko_1 (by decide) rfl rfl rfl (by decide +kernel) w_255 dX11_sign_114 (s_ir (pc := 117) rfl dX11_sign_117)))))))))))))
noncomputable def X11_sign_u42 (g : Nat → Int32 → Int32 → Int32 → PH → Option Rs) : Kn := fun ls st h => gL 0 st (gT 10 ls 0 fun t => gI ls 1 fun x1 => gI ls 2 fun x2 => gI ls 3 fun x3 => g t x1 x2 x3 h)
noncomputable def X11_sign_u93 (g : Nat → Int32 → Int32 → Int32 → Nat → PH → Option Rs) : Kn := fun ls st h => gL 4 st (gT 10 ls 0 fun t => gI (st.map some) 0 fun s0 => gI (st.map some) 1 fun s1 => gI (st.map some) 2 fun s2 => gR 5 (st.map some) 3 fun s3 => g t s0 s1 s2 s3 h)
noncomputable def X11_sign_f0 (c_X1_hasPlace : Nat → Int32 → PH → Option Rs) (c_X11_isWithin : Int32 → Int32 → PH → Option Rs) (g42 : Nat → Int32 → Int32 → Int32 → PH → Option Rs) (t : Nat) (x1 : Int32) (x2 : Int32) (x3 : Int32) (h : PH) : Option Rs :=
  nn (hR h 640 t 0) fun r1 =>
  cI (c_X1_hasPlace r1 x1 h) fun v3 h2 =>
  if v3 = 0 then
    some (some (.inl (-1000000001)), h2)
  else
    cI (c_X11_isWithin x2 6 h2) fun v5 h4 =>
    if v5 = 0 then
      some (some (.inl (-1000000001)), h4)
    else
      if x2 = 5 then
        if x3 < 1 then
          some (some (.inl (-1000000001)), h4)
        else
          if 99 < x3 then
            some (some (.inl (-1000000001)), h4)
          else
            g42 t x1 x2 x3 h4
      else
        g42 t x1 x2 x3 h4
set_option maxRecDepth 100000 in
theorem X11_sign_l0 (c_X1_hasPlace : Nat → Int32 → PH → Option Rs) (c_X11_isWithin : Int32 → Int32 → PH → Option Rs) (g42 : Nat → Int32 → Int32 → Int32 → PH → Option Rs) (t : Nat) (x1 : Int32) (x2 : Int32) (x3 : Int32) (h : PH) : X11_sign_b0 c_X1_hasPlace c_X11_isWithin (X11_sign_u42 g42) [some (.inr (10, t + 1)), some (.inl x1), some (.inl x2), some (.inl x3)] [] h = X11_sign_f0 c_X1_hasPlace c_X11_isWithin g42 t x1 x2 x3 h := rfl
theorem X11_sign_m0 {c_X1_hasPlace : Nat → Int32 → PH → Option Rs} {c_X11_isWithin : Int32 → Int32 → PH → Option Rs} {g42 G42 : Nat → Int32 → Int32 → Int32 → PH → Option Rs} (hg42 : ∀ a0 a1 a2 a3 a4, Mo (g42 a0 a1 a2 a3 a4) (G42 a0 a1 a2 a3 a4)) (t : Nat) (x1 : Int32) (x2 : Int32) (x3 : Int32) (h : PH) : Mo (X11_sign_f0 c_X1_hasPlace c_X11_isWithin g42 t x1 x2 x3 h) (X11_sign_f0 c_X1_hasPlace c_X11_isWithin G42 t x1 x2 x3 h) := (mo_nn fun r1 => (mo_cI fun v3 h2 => (mo_if mo_rf (mo_cI fun v5 h4 => (mo_if mo_rf (mo_if (mo_if mo_rf (mo_if mo_rf (hg42 t x1 x2 x3 h4))) (hg42 t x1 x2 x3 h4)))))))
noncomputable def X11_sign_f42 (g93 : Nat → Int32 → Int32 → Int32 → Nat → PH → Option Rs) (t : Nat) (x1 : Int32) (x2 : Int32) (x3 : Int32) (h : PH) : Option Rs :=
  nn (hR h 640 t 0) fun r6 =>
  if (hI h 75 r6 0) < 14 then
    nn (hR h 640 t 0) fun r7 =>
    nn (hR h 640 t 0) fun r8 =>
    nn (hR h 68 r7 0) fun r9 =>
    ix (hI h 75 r8 0) (hL h 18 r9) fun j10 =>
    if x2 = 5 then
      nn (hR h 640 t 0) fun r11 =>
      g93 t ((hI h 79 r11 0) + x3) x2 x1 (hR h 1152 r9 j10) h
    else
      g93 t (-1000000005) x2 x1 (hR h 1152 r9 j10) h
  else
    some (some (.inl (-1000000003)), h)
set_option maxRecDepth 100000 in
theorem X11_sign_l42 (g93 : Nat → Int32 → Int32 → Int32 → Nat → PH → Option Rs) (t : Nat) (x1 : Int32) (x2 : Int32) (x3 : Int32) (h : PH) : X11_sign_b42 (X11_sign_u93 g93) [some (.inr (10, t + 1)), some (.inl x1), some (.inl x2), some (.inl x3)] [] h = X11_sign_f42 g93 t x1 x2 x3 h := rfl
theorem X11_sign_m42 {g93 G93 : Nat → Int32 → Int32 → Int32 → Nat → PH → Option Rs} (hg93 : ∀ a0 a1 a2 a3 a4 a5, Mo (g93 a0 a1 a2 a3 a4 a5) (G93 a0 a1 a2 a3 a4 a5)) (t : Nat) (x1 : Int32) (x2 : Int32) (x3 : Int32) (h : PH) : Mo (X11_sign_f42 g93 t x1 x2 x3 h) (X11_sign_f42 G93 t x1 x2 x3 h) := (mo_nn fun r6 => (mo_if (mo_nn fun r7 => (mo_nn fun r8 => (mo_nn fun r9 => (mo_ix fun j10 => (mo_if (mo_nn fun r11 => (hg93 t ((hI h 79 r11 0) + x3) x2 x1 (hR h 1152 r9 j10) h)) (hg93 t (-1000000005) x2 x1 (hR h 1152 r9 j10) h)))))) mo_rf))
theorem X11_sign_w42 {z : CZ} {g93 : Nat → Int32 → Int32 → Int32 → Nat → PH → Option Rs} (hk93 : SK (X11_sign_x z) 93 (X11_sign_u93 g93)) : SK (X11_sign_x z) 42 (X11_sign_u42 (X11_sign_f42 g93)) := by
  intro ls st h r e
  obtain ⟨hst, e⟩ := gL_of e
  obtain ⟨t, q0, e⟩ := gT_of e
  obtain ⟨x1, q1, e⟩ := gI_of e
  obtain ⟨x2, q2, e⟩ := gI_of e
  obtain ⟨x3, q3, e⟩ := gI_of e
  rw [st_0 hst]
  exact WK.sub (canon := [some (.inr (10, t + 1)), some (.inl x1), some (.inl x2), some (.inl x3)]) rfl ⟨q0, q1, q2, q3, trivial⟩ (X11_sign_s42 hk93 _ _ _ _ ((X11_sign_l42 g93 t x1 x2 x3 h).trans e))
noncomputable def X11_sign_f93 (c_X6_begin : Nat → Int32 → Int32 → Int32 → PH → Option Rs) (c_X0_forget : Nat → PH → Option Rs) (t : Nat) (s0 : Int32) (s1 : Int32) (s2 : Int32) (s3 : Nat) (h : PH) : Option Rs :=
  nn s3 fun r12 =>
  cV (c_X6_begin r12 s2 s1 s0 h) fun h13 =>
  nn (hR h13 644 t 0) fun r14 =>
  cV (c_X0_forget r14 h13) fun h15 =>
  nn (hR h15 640 t 0) fun r16 =>
  nn (hR h15 640 t 0) fun r17 =>
  wr (pI h15 75 r17 0 ((hI h15 75 r16 0) + 1)) fun h18 =>
  some (some (.inl (hI h15 75 r16 0)), h18)
set_option maxRecDepth 100000 in
theorem X11_sign_l93 (c_X6_begin : Nat → Int32 → Int32 → Int32 → PH → Option Rs) (c_X0_forget : Nat → PH → Option Rs) (t : Nat) (s0 : Int32) (s1 : Int32) (s2 : Int32) (s3 : Nat) (h : PH) : X11_sign_b93 c_X6_begin c_X0_forget [some (.inr (10, t + 1)), none, none, none] [.inl s0, .inl s1, .inl s2, .inr (5, s3)] h = X11_sign_f93 c_X6_begin c_X0_forget t s0 s1 s2 s3 h := rfl
theorem X11_sign_w93 {z : CZ} : SK (X11_sign_x z) 93 (X11_sign_u93 (X11_sign_f93 X6_begin X0_forget)) := by
  intro ls st h r e
  obtain ⟨hst, e⟩ := gL_of e
  obtain ⟨t, q0, e⟩ := gT_of e
  obtain ⟨s0, q1, e⟩ := gI_of e
  obtain ⟨s1, q2, e⟩ := gI_of e
  obtain ⟨s2, q3, e⟩ := gI_of e
  obtain ⟨s3, q4, e⟩ := gR_of e
  rw [st_4 hst q1 q2 q3 q4]
  exact WK.sub (canon := [some (.inr (10, t + 1)), none, none, none]) rfl ⟨q0, trivial⟩ (X11_sign_s93 _ _ _ _ ((X11_sign_l93 X6_begin X0_forget t s0 s1 s2 s3 h).trans e))
noncomputable def X11_sign_g93 (t : Nat) (s0 : Int32) (s1 : Int32) (s2 : Int32) (s3 : Nat) (h : PH) : Option Rs := X11_sign_f93 X6_begin X0_forget t s0 s1 s2 s3 h
noncomputable def X11_sign_g42 (t : Nat) (x1 : Int32) (x2 : Int32) (x3 : Int32) (h : PH) : Option Rs := X11_sign_f42 (X11_sign_g93) t x1 x2 x3 h
noncomputable def X11_sign_g0 (t : Nat) (x1 : Int32) (x2 : Int32) (x3 : Int32) (h : PH) : Option Rs := X11_sign_f0 X1_hasPlace X11_isWithin (X11_sign_g42) t x1 x2 x3 h
theorem X11_sign_v93 {z : CZ} : SK (X11_sign_x z) 93 (X11_sign_u93 (X11_sign_g93)) := X11_sign_w93
theorem X11_sign_v42 {z : CZ} : SK (X11_sign_x z) 42 (X11_sign_u42 (X11_sign_g42)) := X11_sign_w42 (X11_sign_v93)
noncomputable def X11_sign (t : Nat) (x1 : Int32) (x2 : Int32) (x3 : Int32) (h : PH) : Option Rs := X11_sign_g0 t x1 x2 x3 h
noncomputable abbrev X11_sign_F : List PV → PH → Option Rs := FW_T10III (X11_sign)
set_option maxRecDepth 100000 in
theorem X11_sign_gd (l : Launch) : Gd l 2 yX11_sign cX11_sign 4 (some .int) (X11_sign_F)   := Gd_of (by decide +kernel) (fun z hzl as h r e => by
  obtain ⟨hst, e⟩ := gL_of e
  obtain ⟨t, q0, e⟩ := gT_of e
  obtain ⟨x1, q1, e⟩ := gI_of e
  obtain ⟨x2, q2, e⟩ := gI_of e
  obtain ⟨x3, q3, e⟩ := gI_of e
  rw [st_4 hst q0 q1 q2 q3]
  exact ⟨show 4 ≤ 4 by decide, X11_sign_s0 (X11_sign_v42) _ _ _ _ ((X11_sign_l0 X1_hasPlace X11_isWithin (X11_sign_g42) t x1 x2 x3 h).trans e)⟩)
abbrev X1_hasSign_x (z : CZ) : CX := mx RX1 cX1_hasSign 2 1 (some .boolean) "hasSign" z
noncomputable def X1_hasSign_b0 (c_X11_isWithin : Int32 → Int32 → PH → Option Rs) : Kn := (a_il 1 (a_al 0 (a_gI 1 75 (a_sI 2 (FW_II c_X11_isWithin) a_zr))))
set_option maxRecDepth 100000 in
theorem X1_hasSign_s0 {z : CZ} : SK (X1_hasSign_x z) 0 (X1_hasSign_b0 X11_isWithin) := (s_iloadn (pc := 0) dX1_hasSign_0 rfl (s_aloadn (pc := 1) dX1_hasSign_1 rfl (s_gI (pc := 2) (f := 11) ko_1 (by decide) rfl rfl w_251 dX1_hasSign_2 (s_sI (pc := 5) (run_staticN (X11_isWithin_gd _) (show 0 < 1 by decide) cy_X11_isWithin w_549 nw_548 dX1_hasSign_5) (s_zr (pc := 8) rfl dX1_hasSign_8)))))
noncomputable def X1_hasSign_f0 (c_X11_isWithin : Int32 → Int32 → PH → Option Rs) (t : Nat) (x1 : Int32) (h : PH) : Option Rs :=
  cI (c_X11_isWithin x1 (hI h 75 t 0) h) fun v2 h1 =>
  bz v2 <|
  some (some (.inl v2), h1)
set_option maxRecDepth 100000 in
theorem X1_hasSign_l0 (c_X11_isWithin : Int32 → Int32 → PH → Option Rs) (t : Nat) (x1 : Int32) (h : PH) : X1_hasSign_b0 c_X11_isWithin [some (.inr (1, t + 1)), some (.inl x1)] [] h = X1_hasSign_f0 c_X11_isWithin t x1 h := rfl
noncomputable def X1_hasSign_g0 (t : Nat) (x1 : Int32) (h : PH) : Option Rs := X1_hasSign_f0 X11_isWithin t x1 h
noncomputable def X1_hasSign (t : Nat) (x1 : Int32) (h : PH) : Option Rs := X1_hasSign_g0 t x1 h
noncomputable abbrev X1_hasSign_F : List PV → PH → Option Rs := FW_T1I (X1_hasSign)
set_option maxRecDepth 100000 in
theorem X1_hasSign_gd (l : Launch) : Gd l 1 yX1_hasSign cX1_hasSign 2 (some .boolean) (X1_hasSign_F)   := Gd_of (by decide +kernel) (fun z hzl as h r e => by
  obtain ⟨hst, e⟩ := gL_of e
  obtain ⟨t, q0, e⟩ := gT_of e
  obtain ⟨x1, q1, e⟩ := gI_of e
  rw [st_2 hst q0 q1]
  exact ⟨show 2 ≤ 2 by decide, X1_hasSign_s0 _ _ _ _ ((X1_hasSign_l0 X11_isWithin t x1 h).trans e)⟩)
abbrev X6_mostOf_x (dd : Nat) (z : CZ) : CX := mx RX6 cX6_mostOf 1 (dd + 10) (some .int) "mostOf" z
noncomputable def X6_mostOf_b0 (sf : List PV → PH → Option Rs) : Kn := (a_il 0 (a_sw [(1, (a_ic 0 (a_sI 1 sf (a_ic 1 (a_b (fun a b => a + b) a_ir))))), (2, (a_ic 2 a_ir)), (3, (a_ic 1 (a_sI 1 sf (a_ic 2 (a_b (fun a b => a - b) a_ir))))), (4, (a_ic 3 (a_ic 2 (a_sI 1 sf (a_b (fun a b => a * b) a_ir))))), (5, (a_ic 0 (a_sI 1 sf (a_ic 3 (a_b (fun a b => a - b) a_ir)))))] (a_ic 4 a_ir)))
set_option maxRecDepth 100000 in
theorem X6_mostOf_s0 {dd : Nat} {sf : List PV → PH → Option Rs} {z : CZ} (hsf : Gd (xL (X6_mostOf_x dd z)) dd yX6_mostOf cX6_mostOf 1 (some .int) sf) : SK (X6_mostOf_x dd z) 0 (X6_mostOf_b0 sf) := (s_iloadn (pc := 0) dX6_mostOf_0 rfl (s_table (pc := 1) dX6_mostOf_1 (by decide) (by decide) ⟨c_ti_1, ⟨_, by decide, (s_iconst (pc := 36) dX6_mostOf_36 c_ic_0 (s_sI (pc := 37) (run_static hsf (show dd < dd + 10 by omega) cy_X6_mostOf w_637 w_639 dX6_mostOf_37) (s_iconst (pc := 40) dX6_mostOf_40 c_ic_1 (s_iadd (pc := 41) dX6_mostOf_41 (s_ir (pc := 42) rfl dX6_mostOf_42)))))⟩, ⟨c_ti_2, ⟨_, by decide, (s_iconst (pc := 50) dX6_mostOf_50 c_ic_2 (s_ir (pc := 51) rfl dX6_mostOf_51))⟩, ⟨c_ti_3, ⟨_, by decide, (s_iconst (pc := 43) dX6_mostOf_43 c_ic_1 (s_sI (pc := 44) (run_static hsf (show dd < dd + 10 by omega) cy_X6_mostOf w_637 w_639 dX6_mostOf_44) (s_iconst (pc := 47) dX6_mostOf_47 c_ic_2 (s_isub (pc := 48) dX6_mostOf_48 (s_ir (pc := 49) rfl dX6_mostOf_49)))))⟩, ⟨c_ti_4, ⟨_, by decide, (s_iconst (pc := 52) dX6_mostOf_52 c_ic_3 (s_iconst (pc := 53) dX6_mostOf_53 c_ic_2 (s_sI (pc := 54) (run_static hsf (show dd < dd + 10 by omega) cy_X6_mostOf w_637 w_639 dX6_mostOf_54) (s_imul (pc := 57) dX6_mostOf_57 (s_ir (pc := 58) rfl dX6_mostOf_58)))))⟩, ⟨c_ti_5, ⟨_, by decide, (s_iconst (pc := 59) dX6_mostOf_59 c_ic_0 (s_sI (pc := 60) (run_static hsf (show dd < dd + 10 by omega) cy_X6_mostOf w_637 w_639 dX6_mostOf_60) (s_iconst (pc := 63) dX6_mostOf_63 c_ic_3 (s_isub (pc := 64) dX6_mostOf_64 (s_ir (pc := 65) rfl dX6_mostOf_65)))))⟩, trivial⟩⟩⟩⟩⟩ (s_iconst (pc := 66) dX6_mostOf_66 c_ic_4 (s_ir (pc := 67) rfl dX6_mostOf_67))))
noncomputable def X6_mostOf_f0 (sf : List PV → PH → Option Rs) (x0 : Int32) (h : PH) : Option Rs :=
  if x0 = 1 then
    cI (sf [.inl 0] h) fun v2 h1 =>
    some (some (.inl (v2 + 1)), h1)
  else
  if x0 = 2 then
    some (some (.inl 2), h)
  else
  if x0 = 3 then
    cI (sf [.inl 1] h) fun v4 h3 =>
    some (some (.inl (v4 - 2)), h3)
  else
  if x0 = 4 then
    cI (sf [.inl 2] h) fun v6 h5 =>
    some (some (.inl (3 * v6)), h5)
  else
  if x0 = 5 then
    cI (sf [.inl 0] h) fun v8 h7 =>
    some (some (.inl (v8 - 3)), h7)
  else
    some (some (.inl 4), h)
set_option maxRecDepth 100000 in
theorem X6_mostOf_l0 (sf : List PV → PH → Option Rs) (x0 : Int32) (h : PH) : X6_mostOf_b0 sf [some (.inl x0)] [] h = X6_mostOf_f0 sf x0 h := rfl
noncomputable def X6_mostOf_g0 (sf : List PV → PH → Option Rs) (x0 : Int32) (h : PH) : Option Rs := X6_mostOf_f0 sf x0 h
noncomputable def X6_mostOf (sf : List PV → PH → Option Rs) (x0 : Int32) (h : PH) : Option Rs := X6_mostOf_g0 sf x0 h
noncomputable abbrev X6_mostOf_F (sf : List PV → PH → Option Rs) : List PV → PH → Option Rs := FW_I (X6_mostOf sf)
set_option maxRecDepth 100000 in
theorem X6_mostOf_gd {dd : Nat} {sf : List PV → PH → Option Rs} (l : Launch) (hsf : Gd l dd yX6_mostOf cX6_mostOf 1 (some .int) sf) : Gd l (dd + 10) yX6_mostOf cX6_mostOf 1 (some .int) (X6_mostOf_F sf)   := Gd_of (by decide +kernel) (fun z hzl as h r e => by
  subst hzl
  obtain ⟨hst, e⟩ := gL_of e
  obtain ⟨x0, q0, e⟩ := gI_of e
  rw [st_1 hst q0]
  exact ⟨show 1 ≤ 1 by decide, X6_mostOf_s0 hsf _ _ _ _ ((X6_mostOf_l0 sf x0 h).trans e)⟩)
noncomputable def moN : Nat → List PV → PH → Option Rs
  | 0 => fun _ _ => none
  | n + 1 => X6_mostOf_F (moN n)
theorem moN_gd (l : Launch) : ∀ n, Gd l (10 * n) yX6_mostOf cX6_mostOf 1 (some .int) (moN n)
  | 0 => fun _ _ _ _ _ _ _ e => by cases e
  | n + 1 => X6_mostOf_gd (dd := 10 * n) l (moN_gd l n)
noncomputable def mo3 : List PV → PH → Option Rs := moN 3
theorem mo3_gd (l : Launch) : Gd l 30 yX6_mostOf cX6_mostOf 1 (some .int) mo3 := moN_gd l 3
abbrev X6_seenOf_x (dd : Nat) (z : CZ) : CX := mx RX6 cX6_seenOf 1 (dd + 10) (some .int) "seenOf" z
noncomputable def X6_seenOf_b0 (sf : List PV → PH → Option Rs) : Kn := (a_il 0 (a_sw [(1, (a_ic 0 (a_sI 1 sf (a_ic 2 (a_b (fun a b => a + b) a_ir))))), (2, (a_ic 1 a_ir)), (3, (a_ic 1 (a_sI 1 sf a_ir))), (4, (a_ic 2 (a_sI 1 sf a_ir))), (5, (a_ic 2 (a_ic 0 (a_sI 1 sf (a_b (fun a b => a * b) a_ir)))))] (a_ic 3 a_ir)))
set_option maxRecDepth 100000 in
theorem X6_seenOf_s0 {dd : Nat} {sf : List PV → PH → Option Rs} {z : CZ} (hsf : Gd (xL (X6_seenOf_x dd z)) dd yX6_seenOf cX6_seenOf 1 (some .int) sf) : SK (X6_seenOf_x dd z) 0 (X6_seenOf_b0 sf) := (s_iloadn (pc := 0) dX6_seenOf_0 rfl (s_table (pc := 1) dX6_seenOf_1 (by decide) (by decide) ⟨c_ti_1, ⟨_, by decide, (s_iconst (pc := 36) dX6_seenOf_36 c_ic_0 (s_sI (pc := 37) (run_static hsf (show dd < dd + 10 by omega) cy_X6_seenOf w_641 w_643 dX6_seenOf_37) (s_iconst (pc := 40) dX6_seenOf_40 c_ic_2 (s_iadd (pc := 41) dX6_seenOf_41 (s_ir (pc := 42) rfl dX6_seenOf_42)))))⟩, ⟨c_ti_2, ⟨_, by decide, (s_iconst (pc := 48) dX6_seenOf_48 c_ic_1 (s_ir (pc := 49) rfl dX6_seenOf_49))⟩, ⟨c_ti_3, ⟨_, by decide, (s_iconst (pc := 43) dX6_seenOf_43 c_ic_1 (s_sI (pc := 44) (run_static hsf (show dd < dd + 10 by omega) cy_X6_seenOf w_641 w_643 dX6_seenOf_44) (s_ir (pc := 47) rfl dX6_seenOf_47)))⟩, ⟨c_ti_4, ⟨_, by decide, (s_iconst (pc := 50) dX6_seenOf_50 c_ic_2 (s_sI (pc := 51) (run_static hsf (show dd < dd + 10 by omega) cy_X6_seenOf w_641 w_643 dX6_seenOf_51) (s_ir (pc := 54) rfl dX6_seenOf_54)))⟩, ⟨c_ti_5, ⟨_, by decide, (s_iconst (pc := 55) dX6_seenOf_55 c_ic_2 (s_iconst (pc := 56) dX6_seenOf_56 c_ic_0 (s_sI (pc := 57) (run_static hsf (show dd < dd + 10 by omega) cy_X6_seenOf w_641 w_643 dX6_seenOf_57) (s_imul (pc := 60) dX6_seenOf_60 (s_ir (pc := 61) rfl dX6_seenOf_61)))))⟩, trivial⟩⟩⟩⟩⟩ (s_iconst (pc := 62) dX6_seenOf_62 c_ic_3 (s_ir (pc := 63) rfl dX6_seenOf_63))))
noncomputable def X6_seenOf_f0 (sf : List PV → PH → Option Rs) (x0 : Int32) (h : PH) : Option Rs :=
  if x0 = 1 then
    cI (sf [.inl 0] h) fun v2 h1 =>
    some (some (.inl (v2 + 2)), h1)
  else
  if x0 = 2 then
    some (some (.inl 1), h)
  else
  if x0 = 3 then
    cI (sf [.inl 1] h) fun v4 h3 =>
    some (some (.inl v4), h3)
  else
  if x0 = 4 then
    cI (sf [.inl 2] h) fun v6 h5 =>
    some (some (.inl v6), h5)
  else
  if x0 = 5 then
    cI (sf [.inl 0] h) fun v8 h7 =>
    some (some (.inl (2 * v8)), h7)
  else
    some (some (.inl 3), h)
set_option maxRecDepth 100000 in
theorem X6_seenOf_l0 (sf : List PV → PH → Option Rs) (x0 : Int32) (h : PH) : X6_seenOf_b0 sf [some (.inl x0)] [] h = X6_seenOf_f0 sf x0 h := rfl
noncomputable def X6_seenOf_g0 (sf : List PV → PH → Option Rs) (x0 : Int32) (h : PH) : Option Rs := X6_seenOf_f0 sf x0 h
noncomputable def X6_seenOf (sf : List PV → PH → Option Rs) (x0 : Int32) (h : PH) : Option Rs := X6_seenOf_g0 sf x0 h
noncomputable abbrev X6_seenOf_F (sf : List PV → PH → Option Rs) : List PV → PH → Option Rs := FW_I (X6_seenOf sf)
set_option maxRecDepth 100000 in
theorem X6_seenOf_gd {dd : Nat} {sf : List PV → PH → Option Rs} (l : Launch) (hsf : Gd l dd yX6_seenOf cX6_seenOf 1 (some .int) sf) : Gd l (dd + 10) yX6_seenOf cX6_seenOf 1 (some .int) (X6_seenOf_F sf)   := Gd_of (by decide +kernel) (fun z hzl as h r e => by
  subst hzl
  obtain ⟨hst, e⟩ := gL_of e
  obtain ⟨x0, q0, e⟩ := gI_of e
  rw [st_1 hst q0]
  exact ⟨show 1 ≤ 1 by decide, X6_seenOf_s0 hsf _ _ _ _ ((X6_seenOf_l0 sf x0 h).trans e)⟩)
noncomputable def seN : Nat → List PV → PH → Option Rs
  | 0 => fun _ _ => none
  | n + 1 => X6_seenOf_F (seN n)
theorem seN_gd (l : Launch) : ∀ n, Gd l (10 * n) yX6_seenOf cX6_seenOf 1 (some .int) (seN n)
  | 0 => fun _ _ _ _ _ _ _ e => by cases e
  | n + 1 => X6_seenOf_gd (dd := 10 * n) l (seN_gd l n)
noncomputable def se3 : List PV → PH → Option Rs := seN 3
theorem se3_gd (l : Launch) : Gd l 30 yX6_seenOf cX6_seenOf 1 (some .int) se3 := seN_gd l 3
abbrev X6_priceOf_x (dd : Nat) (z : CZ) : CX := mx RX6 cX6_priceOf 2 (dd + 10) (some .int) "priceOf" z
noncomputable def X6_priceOf_b0 (sf : List PV → PH → Option Rs) : Kn := (a_il 0 (a_sw [(1, (a_ic 0 (a_il 1 (a_sI 2 sf (a_ic 5 (a_b (fun a b => a + b) a_ir)))))), (2, (a_ic 0 (a_il 1 (a_sI 2 sf (a_ic 2 (a_div a_ir)))))), (3, (a_ic 2 (a_ic 1 (a_il 1 (a_sI 2 sf (a_b (fun a b => a * b) a_ir)))))), (4, (a_ic 2 (a_il 1 (a_sI 2 sf (a_ic 8 (a_b (fun a b => a + b) a_ir)))))), (5, (a_ic 1 a_ir))] (a_ic 10 (a_ic 2 (a_il 1 (a_b (fun a b => a * b) (a_b (fun a b => a + b) a_ir)))))))
set_option maxRecDepth 100000 in
theorem X6_priceOf_s0 {dd : Nat} {sf : List PV → PH → Option Rs} {z : CZ} (hsf : Gd (xL (X6_priceOf_x dd z)) dd yX6_priceOf cX6_priceOf 2 (some .int) sf) : SK (X6_priceOf_x dd z) 0 (X6_priceOf_b0 sf) := (s_iloadn (pc := 0) dX6_priceOf_0 rfl (s_table (pc := 1) dX6_priceOf_1 (by decide) (by decide) ⟨c_ti_1, ⟨_, by decide, (s_iconst (pc := 36) dX6_priceOf_36 c_ic_0 (s_iloadn (pc := 37) dX6_priceOf_37 rfl (s_sI (pc := 38) (run_static hsf (show dd < dd + 10 by omega) cy_X6_priceOf w_645 w_647 dX6_priceOf_38) (s_iconst (pc := 41) dX6_priceOf_41 c_ic_5 (s_iadd (pc := 42) dX6_priceOf_42 (s_ir (pc := 43) rfl dX6_priceOf_43))))))⟩, ⟨c_ti_2, ⟨_, by decide, (s_iconst (pc := 52) dX6_priceOf_52 c_ic_0 (s_iloadn (pc := 53) dX6_priceOf_53 rfl (s_sI (pc := 54) (run_static hsf (show dd < dd + 10 by omega) cy_X6_priceOf w_645 w_647 dX6_priceOf_54) (s_iconst (pc := 57) dX6_priceOf_57 c_ic_2 (s_idiv (pc := 58) dX6_priceOf_58 (s_ir (pc := 59) rfl dX6_priceOf_59))))))⟩, ⟨c_ti_3, ⟨_, by decide, (s_iconst (pc := 44) dX6_priceOf_44 c_ic_2 (s_iconst (pc := 45) dX6_priceOf_45 c_ic_1 (s_iloadn (pc := 46) dX6_priceOf_46 rfl (s_sI (pc := 47) (run_static hsf (show dd < dd + 10 by omega) cy_X6_priceOf w_645 w_647 dX6_priceOf_47) (s_imul (pc := 50) dX6_priceOf_50 (s_ir (pc := 51) rfl dX6_priceOf_51))))))⟩, ⟨c_ti_4, ⟨_, by decide, (s_iconst (pc := 60) dX6_priceOf_60 c_ic_2 (s_iloadn (pc := 61) dX6_priceOf_61 rfl (s_sI (pc := 62) (run_static hsf (show dd < dd + 10 by omega) cy_X6_priceOf w_645 w_647 dX6_priceOf_62) (s_bipush (pc := 65) dX6_priceOf_65 c_bp_8 (s_iadd (pc := 67) dX6_priceOf_67 (s_ir (pc := 68) rfl dX6_priceOf_68))))))⟩, ⟨c_ti_5, ⟨_, by decide, (s_iconst (pc := 69) dX6_priceOf_69 c_ic_1 (s_ir (pc := 70) rfl dX6_priceOf_70))⟩, trivial⟩⟩⟩⟩⟩ (s_bipush (pc := 71) dX6_priceOf_71 c_bp_10 (s_iconst (pc := 73) dX6_priceOf_73 c_ic_2 (s_iloadn (pc := 74) dX6_priceOf_74 rfl (s_imul (pc := 75) dX6_priceOf_75 (s_iadd (pc := 76) dX6_priceOf_76 (s_ir (pc := 77) rfl dX6_priceOf_77))))))))
noncomputable def X6_priceOf_f0 (sf : List PV → PH → Option Rs) (x0 : Int32) (x1 : Int32) (h : PH) : Option Rs :=
  if x0 = 1 then
    cI (sf [.inl 0, .inl x1] h) fun v2 h1 =>
    some (some (.inl (v2 + 5)), h1)
  else
  if x0 = 2 then
    cI (sf [.inl 0, .inl x1] h) fun v4 h3 =>
    dv 2 <|
    some (some (.inl (v4 / 2)), h3)
  else
  if x0 = 3 then
    cI (sf [.inl 1, .inl x1] h) fun v6 h5 =>
    some (some (.inl (2 * v6)), h5)
  else
  if x0 = 4 then
    cI (sf [.inl 2, .inl x1] h) fun v8 h7 =>
    some (some (.inl (v8 + 8)), h7)
  else
  if x0 = 5 then
    some (some (.inl 1), h)
  else
    some (some (.inl (10 + (2 * x1))), h)
set_option maxRecDepth 100000 in
theorem X6_priceOf_l0 (sf : List PV → PH → Option Rs) (x0 : Int32) (x1 : Int32) (h : PH) : X6_priceOf_b0 sf [some (.inl x0), some (.inl x1)] [] h = X6_priceOf_f0 sf x0 x1 h := rfl
noncomputable def X6_priceOf_g0 (sf : List PV → PH → Option Rs) (x0 : Int32) (x1 : Int32) (h : PH) : Option Rs := X6_priceOf_f0 sf x0 x1 h
noncomputable def X6_priceOf (sf : List PV → PH → Option Rs) (x0 : Int32) (x1 : Int32) (h : PH) : Option Rs := X6_priceOf_g0 sf x0 x1 h
noncomputable abbrev X6_priceOf_F (sf : List PV → PH → Option Rs) : List PV → PH → Option Rs := FW_II (X6_priceOf sf)
set_option maxRecDepth 100000 in
theorem X6_priceOf_gd {dd : Nat} {sf : List PV → PH → Option Rs} (l : Launch) (hsf : Gd l dd yX6_priceOf cX6_priceOf 2 (some .int) sf) : Gd l (dd + 10) yX6_priceOf cX6_priceOf 2 (some .int) (X6_priceOf_F sf)   := Gd_of (by decide +kernel) (fun z hzl as h r e => by
  subst hzl
  obtain ⟨hst, e⟩ := gL_of e
  obtain ⟨x0, q0, e⟩ := gI_of e
  obtain ⟨x1, q1, e⟩ := gI_of e
  rw [st_2 hst q0 q1]
  exact ⟨show 2 ≤ 2 by decide, X6_priceOf_s0 hsf _ _ _ _ ((X6_priceOf_l0 sf x0 x1 h).trans e)⟩)
noncomputable def prN : Nat → List PV → PH → Option Rs
  | 0 => fun _ _ => none
  | n + 1 => X6_priceOf_F (prN n)
theorem prN_gd (l : Launch) : ∀ n, Gd l (10 * n) yX6_priceOf cX6_priceOf 2 (some .int) (prN n)
  | 0 => fun _ _ _ _ _ _ _ e => by cases e
  | n + 1 => X6_priceOf_gd (dd := 10 * n) l (prN_gd l n)
noncomputable def pr3 : List PV → PH → Option Rs := prN 3
theorem pr3_gd (l : Launch) : Gd l 30 yX6_priceOf cX6_priceOf 2 (some .int) pr3 := prN_gd l 3
abbrev X1_isLit_x (z : CZ) : CX := mx RX1 cX1_isLit 3 2 (some .boolean) "isLit" z
noncomputable def X1_isLit_b0 (c_X1_textFor : Nat → Int32 → PH → Option Rs) (c_X8_value : Nat → Int32 → Int32 → Int32 → Int32 → PH → Option Rs) : Kn := (a_al 1 (a_gI 5 321 (a_ic 5 (a_eq (a_al 0 (a_gI 1 79 (a_al 1 (a_gI 5 322 (a_lt (a_ic 1 a_zr) (a_ic 0 a_zr)))))) (a_al 1 (a_gI 5 321 (a_ic 3 (a_eq (a_al 0 (a_ic 0 (a_vR 1 7 1 (FW_T1I c_X1_textFor) (a_as 2 (a_al 2 (a_nu (a_al 0 (a_gI 1 78 (a_ic 18 (a_lt (a_al 0 (a_gI 1 78 (a_ic 6 (a_lt (a_ic 1 a_zr) (a_ic 0 a_zr))))) (a_ic 1 a_zr))))) (a_al 2 (a_al 0 (a_gI 1 78 (a_al 0 (a_gI 1 79 (a_al 1 (a_gI 5 324 (a_ic 0 (a_vI 7 4 (FW_T7IIII c_X8_value) (a_z (a_ic 0 a_zr) (a_ic 1 a_zr))))))))))))))))) (a_ic 1 a_zr)))))))))
set_option maxRecDepth 100000 in
theorem X1_isLit_s0 {z : CZ} : SK (X1_isLit_x z) 0 (X1_isLit_b0 X1_textFor X8_value) := (s_aloadn (pc := 0) dX1_isLit_0 rfl (s_gI (pc := 1) (f := 1) ko_5 (by decide) rfl rfl w_175 dX1_isLit_1 (s_iconst (pc := 4) dX1_isLit_4 c_ic_5 (s_cmpne (pc := 5) dX1_isLit_5 (by decide) (s_aloadn (pc := 25) dX1_isLit_25 rfl (s_gI (pc := 26) (f := 1) ko_5 (by decide) rfl rfl w_175 dX1_isLit_26 (s_iconst (pc := 29) dX1_isLit_29 c_ic_3 (s_cmpeq (pc := 30) dX1_isLit_30 (by decide) (s_aloadn (pc := 35) dX1_isLit_35 rfl (s_iconst (pc := 36) dX1_isLit_36 c_ic_0 (s_vR (pc := 37) (run_virtual (X1_textFor_gd _) (show 1 < 2 by decide) cy_X1_textFor (by decide) rfl w_582 w_s0 w_580 dX1_isLit_37) (s_astoren (pc := 40) dX1_isLit_40 rfl (show 2 < 3 by decide) (s_aloadn (pc := 41) dX1_isLit_41 rfl (s_ifnn (pc := 42) dX1_isLit_42 (by decide) (s_aloadn (pc := 71) dX1_isLit_71 rfl (s_aloadn (pc := 72) dX1_isLit_72 rfl (s_gI (pc := 73) (f := 14) ko_1 (by decide) rfl rfl w_261 dX1_isLit_73 (s_aloadn (pc := 76) dX1_isLit_76 rfl (s_gI (pc := 77) (f := 15) ko_1 (by decide) rfl rfl w_263 dX1_isLit_77 (s_aloadn (pc := 80) dX1_isLit_80 rfl (s_gI (pc := 81) (f := 4) ko_5 (by decide) rfl rfl w_183 dX1_isLit_81 (s_iconst (pc := 84) dX1_isLit_84 c_ic_0 (s_vI (pc := 85) (run_virtual (X8_value_gd _) (show 1 < 2 by decide) cy_X8_value (by decide) rfl w_585 w_586 w_584 dX1_isLit_85) (s_ifeq (pc := 88) dX1_isLit_88 (by decide) (s_iconst (pc := 95) dX1_isLit_95 c_ic_0 (s_zr (pc := 96) rfl dX1_isLit_96)) (s_iconst (pc := 91) dX1_isLit_91 c_ic_1 (s_goto (pc := 92) dX1_isLit_92 (by decide) (s_zr (pc := 96) rfl dX1_isLit_96))))))))))))) (s_aloadn (pc := 45) dX1_isLit_45 rfl (s_gI (pc := 46) (f := 14) ko_1 (by decide) rfl rfl w_261 dX1_isLit_46 (s_bipush (pc := 49) dX1_isLit_49 c_bp_18 (s_cmpge (pc := 51) dX1_isLit_51 (by decide) (s_iconst (pc := 63) dX1_isLit_63 c_ic_1 (s_goto (pc := 64) dX1_isLit_64 (by decide) (s_zr (pc := 96) rfl dX1_isLit_96))) (s_aloadn (pc := 54) dX1_isLit_54 rfl (s_gI (pc := 55) (f := 14) ko_1 (by decide) rfl rfl w_261 dX1_isLit_55 (s_bipush (pc := 58) dX1_isLit_58 c_bp_6 (s_cmpge (pc := 60) dX1_isLit_60 (by decide) (s_iconst (pc := 67) dX1_isLit_67 c_ic_0 (s_goto (pc := 68) dX1_isLit_68 (by decide) (s_zr (pc := 96) rfl dX1_isLit_96))) (s_iconst (pc := 63) dX1_isLit_63 c_ic_1 (s_goto (pc := 64) dX1_isLit_64 (by decide) (s_zr (pc := 96) rfl dX1_isLit_96))))))))))))))))) (s_iconst (pc := 33) dX1_isLit_33 c_ic_1 (s_zr (pc := 34) rfl dX1_isLit_34)))))) (s_aloadn (pc := 8) dX1_isLit_8 rfl (s_gI (pc := 9) (f := 15) ko_1 (by decide) rfl rfl w_263 dX1_isLit_9 (s_aloadn (pc := 12) dX1_isLit_12 rfl (s_gI (pc := 13) (f := 2) ko_5 (by decide) rfl rfl w_178 dX1_isLit_13 (s_cmpge (pc := 16) dX1_isLit_16 (by decide) (s_iconst (pc := 23) dX1_isLit_23 c_ic_0 (s_zr (pc := 24) rfl dX1_isLit_24)) (s_iconst (pc := 19) dX1_isLit_19 c_ic_1 (s_goto (pc := 20) dX1_isLit_20 (by decide) (s_zr (pc := 24) rfl dX1_isLit_24))))))))))))
noncomputable def X1_isLit_f0 (c_X1_textFor : Nat → Int32 → PH → Option Rs) (c_X8_value : Nat → Int32 → Int32 → Int32 → Int32 → PH → Option Rs) (t : Nat) (x1 : Nat) (h : PH) : Option Rs :=
  nn x1 fun r1 =>
  if (hI h 321 r1 0) = 5 then
    nn x1 fun r9 =>
    if (hI h 79 t 0) < (hI h 322 r9 0) then
      bz 1 <|
      some (some (.inl 1), h)
    else
      bz 0 <|
      some (some (.inl 0), h)
  else
    nn x1 fun r2 =>
    if (hI h 321 r2 0) = 3 then
      cR 7 (c_X1_textFor t 0 h) fun r4 h3 =>
      if r4 = 0 then
        if (hI h3 78 t 0) < 18 then
          if (hI h3 78 t 0) < 6 then
            bz 1 <|
            some (some (.inl 1), h3)
          else
            bz 0 <|
            some (some (.inl 0), h3)
        else
          bz 1 <|
          some (some (.inl 1), h3)
      else
        nn x1 fun r5 =>
        nn r4 fun r6 =>
        cI (c_X8_value r6 (hI h3 78 t 0) (hI h3 79 t 0) (hI h3 324 r5 0) 0 h3) fun v8 h7 =>
        if v8 = 0 then
          bz 0 <|
          some (some (.inl 0), h7)
        else
          bz 1 <|
          some (some (.inl 1), h7)
    else
      bz 1 <|
      some (some (.inl 1), h)
set_option maxRecDepth 100000 in
theorem X1_isLit_l0 (c_X1_textFor : Nat → Int32 → PH → Option Rs) (c_X8_value : Nat → Int32 → Int32 → Int32 → Int32 → PH → Option Rs) (t : Nat) (x1 : Nat) (h : PH) : X1_isLit_b0 c_X1_textFor c_X8_value [some (.inr (1, t + 1)), some (.inr (5, x1)), none] [] h = X1_isLit_f0 c_X1_textFor c_X8_value t x1 h := rfl
noncomputable def X1_isLit_g0 (t : Nat) (x1 : Nat) (h : PH) : Option Rs := X1_isLit_f0 X1_textFor X8_value t x1 h
noncomputable def X1_isLit (t : Nat) (x1 : Nat) (h : PH) : Option Rs := X1_isLit_g0 t x1 h
noncomputable abbrev X1_isLit_F : List PV → PH → Option Rs := FW_T1R5 (X1_isLit)
set_option maxRecDepth 100000 in
theorem X1_isLit_gd (l : Launch) : Gd l 2 yX1_isLit cX1_isLit 3 (some .boolean) (X1_isLit_F)   := Gd_of (by decide +kernel) (fun z hzl as h r e => by
  obtain ⟨hst, e⟩ := gL_of e
  obtain ⟨t, q0, e⟩ := gT_of e
  obtain ⟨x1, q1, e⟩ := gR_of e
  rw [st_2 hst q0 q1]
  exact ⟨show 2 ≤ 3 by decide, X1_isLit_s0 _ _ _ _ ((X1_isLit_l0 X1_textFor X8_value t x1 h).trans e)⟩)
abbrev X1_isObeyed_x (z : CZ) : CX := mx RX1 cX1_isObeyed 4 31 (some .boolean) "isObeyed" z
noncomputable def X1_isObeyed_b0 (c_X1_textFor : Nat → Int32 → PH → Option Rs) (c_se3 : List PV → PH → Option Rs) (c_X8_value : Nat → Int32 → Int32 → Int32 → Int32 → PH → Option Rs) : Kn := (a_al 0 (a_ic 2 (a_vR 1 7 1 (FW_T1I c_X1_textFor) (a_as 3 (a_al 3 (a_nu (a_ic 1 a_zr) (a_al 3 (a_al 1 (a_gI 5 321 (a_al 1 (a_gI 5 321 (a_sI 1 c_se3 (a_il 2 (a_al 0 (a_gI 1 78 (a_vI 7 4 (FW_T7IIII c_X8_value) (a_z (a_ic 0 a_zr) (a_ic 1 a_zr))))))))))))))))))
set_option maxRecDepth 100000 in
theorem X1_isObeyed_s0 {z : CZ} : SK (X1_isObeyed_x z) 0 (X1_isObeyed_b0 X1_textFor se3 X8_value) := (s_aloadn (pc := 0) dX1_isObeyed_0 rfl (s_iconst (pc := 1) dX1_isObeyed_1 c_ic_2 (s_vR (pc := 2) (run_virtual (X1_textFor_gd _) (show 1 < 31 by decide) cy_X1_textFor (by decide) rfl w_582 w_s0 w_580 dX1_isObeyed_2) (s_astoren (pc := 5) dX1_isObeyed_5 rfl (show 3 < 4 by decide) (s_aloadn (pc := 6) dX1_isObeyed_6 rfl (s_ifnull (pc := 7) dX1_isObeyed_7 (by decide) (s_iconst (pc := 33) dX1_isObeyed_33 c_ic_1 (s_goto (pc := 34) dX1_isObeyed_34 (by decide) (s_zr (pc := 38) rfl dX1_isObeyed_38))) (s_aloadn (pc := 10) dX1_isObeyed_10 rfl (s_aloadn (pc := 11) dX1_isObeyed_11 rfl (s_gI (pc := 12) (f := 1) ko_5 (by decide) rfl rfl w_175 dX1_isObeyed_12 (s_aloadn (pc := 15) dX1_isObeyed_15 rfl (s_gI (pc := 16) (f := 1) ko_5 (by decide) rfl rfl w_175 dX1_isObeyed_16 (s_sI (pc := 19) (run_staticN (se3_gd _) (show 30 < 31 by decide) cy_X6_seenOf w_641 nw_656 dX1_isObeyed_19) (s_iloadn (pc := 22) dX1_isObeyed_22 rfl (s_aloadn (pc := 23) dX1_isObeyed_23 rfl (s_gI (pc := 24) (f := 14) ko_1 (by decide) rfl rfl w_261 dX1_isObeyed_24 (s_vI (pc := 27) (run_virtual (X8_value_gd _) (show 1 < 31 by decide) cy_X8_value (by decide) rfl w_585 w_586 w_584 dX1_isObeyed_27) (s_ifeq (pc := 30) dX1_isObeyed_30 (by decide) (s_iconst (pc := 37) dX1_isObeyed_37 c_ic_0 (s_zr (pc := 38) rfl dX1_isObeyed_38)) (s_iconst (pc := 33) dX1_isObeyed_33 c_ic_1 (s_goto (pc := 34) dX1_isObeyed_34 (by decide) (s_zr (pc := 38) rfl dX1_isObeyed_38))))))))))))))))))))
noncomputable def X1_isObeyed_f0 (c_X1_textFor : Nat → Int32 → PH → Option Rs) (c_se3 : List PV → PH → Option Rs) (c_X8_value : Nat → Int32 → Int32 → Int32 → Int32 → PH → Option Rs) (t : Nat) (x1 : Nat) (x2 : Int32) (h : PH) : Option Rs :=
  cR 7 (c_X1_textFor t 2 h) fun r2 h1 =>
  if r2 = 0 then
    bz 1 <|
    some (some (.inl 1), h1)
  else
    nn x1 fun r3 =>
    nn x1 fun r4 =>
    cI (c_se3 [.inl (hI h1 321 r4 0)] h1) fun v6 h5 =>
    nn r2 fun r7 =>
    cI (c_X8_value r7 (hI h1 321 r3 0) v6 x2 (hI h5 78 t 0) h5) fun v9 h8 =>
    if v9 = 0 then
      bz 0 <|
      some (some (.inl 0), h8)
    else
      bz 1 <|
      some (some (.inl 1), h8)
set_option maxRecDepth 100000 in
theorem X1_isObeyed_l0 (c_X1_textFor : Nat → Int32 → PH → Option Rs) (c_se3 : List PV → PH → Option Rs) (c_X8_value : Nat → Int32 → Int32 → Int32 → Int32 → PH → Option Rs) (t : Nat) (x1 : Nat) (x2 : Int32) (h : PH) : X1_isObeyed_b0 c_X1_textFor c_se3 c_X8_value [some (.inr (1, t + 1)), some (.inr (5, x1)), some (.inl x2), none] [] h = X1_isObeyed_f0 c_X1_textFor c_se3 c_X8_value t x1 x2 h := rfl
noncomputable def X1_isObeyed_g0 (t : Nat) (x1 : Nat) (x2 : Int32) (h : PH) : Option Rs := X1_isObeyed_f0 X1_textFor se3 X8_value t x1 x2 h
noncomputable def X1_isObeyed (t : Nat) (x1 : Nat) (x2 : Int32) (h : PH) : Option Rs := X1_isObeyed_g0 t x1 x2 h
noncomputable abbrev X1_isObeyed_F : List PV → PH → Option Rs := FW_T1R5I (X1_isObeyed)
set_option maxRecDepth 100000 in
theorem X1_isObeyed_gd (l : Launch) : Gd l 31 yX1_isObeyed cX1_isObeyed 4 (some .boolean) (X1_isObeyed_F)   := Gd_of (by decide +kernel) (fun z hzl as h r e => by
  obtain ⟨hst, e⟩ := gL_of e
  obtain ⟨t, q0, e⟩ := gT_of e
  obtain ⟨x1, q1, e⟩ := gR_of e
  obtain ⟨x2, q2, e⟩ := gI_of e
  rw [st_3 hst q0 q1 q2]
  exact ⟨show 3 ≤ 4 by decide, X1_isObeyed_s0 _ _ _ _ ((X1_isObeyed_l0 X1_textFor se3 X8_value t x1 x2 h).trans e)⟩)
abbrev X11_told_x (z : CZ) : CX := mx RX11 cX11_told 4 32 (some .int) "told" z
noncomputable def X11_told_b0 (c_X1_hasSign : Nat → Int32 → PH → Option Rs) (c_mo3 : List PV → PH → Option Rs) (c_se3 : List PV → PH → Option Rs) (c_pr3 : List PV → PH → Option Rs) (c_X1_isLit : Nat → Nat → PH → Option Rs) (c_X11_bit : Int32 → PH → Option Rs) (c_X1_isObeyed : Nat → Nat → Int32 → PH → Option Rs) : Kn := (a_al 0 (a_gR 10 640 1 (a_il 1 (a_vI 1 1 (FW_T1I c_X1_hasSign) (a_z (a_ic (-1000000001) a_ir) (a_al 0 (a_gR 10 640 1 (a_gR 1 68 18 (a_il 1 (a_rald 18 1152 5 (a_as 3 (a_il 2 (a_sw [(0, (a_al 3 (a_gI 5 320 a_ir))), (1, (a_al 3 (a_gI 5 321 a_ir))), (2, (a_al 3 (a_gI 5 324 a_ir))), (3, (a_al 3 (a_gI 5 321 (a_sI 1 c_mo3 a_ir)))), (4, (a_al 3 (a_gI 5 321 (a_sI 1 c_se3 a_ir)))), (5, (a_al 3 (a_gI 5 321 (a_al 3 (a_gI 5 324 (a_sI 2 c_pr3 a_ir)))))), (6, (a_al 0 (a_gR 10 640 1 (a_al 3 (a_vI 1 1 (FW_T1R5 c_X1_isLit) (a_sI 1 (FW_I c_X11_bit) a_ir)))))), (7, (a_al 3 (a_gI 5 323 a_ir))), (8, (a_al 3 (a_gI 5 322 a_ir))), (9, (a_al 0 (a_gR 10 640 1 (a_al 3 (a_ic 0 (a_vI 1 2 (FW_T1R5I c_X1_isObeyed) (a_sI 1 (FW_I c_X11_bit) a_ir)))))))] (a_ic (-1000000001) a_ir))))))))))))))
set_option maxRecDepth 100000 in
theorem X11_told_s0 {z : CZ} : SK (X11_told_x z) 0 (X11_told_b0 X1_hasSign mo3 se3 pr3 X1_isLit X11_bit X1_isObeyed) := (s_aloadn (pc := 0) dX11_told_0 rfl (s_gR (pc := 1) (f := 0) ko_10 (by decide) rfl rfl w_504 dX11_told_1 (s_iloadn (pc := 4) dX11_told_4 rfl (s_vI (pc := 5) (run_virtual (X1_hasSign_gd _) (show 1 < 32 by decide) cy_X1_hasSign (by decide) rfl w_633 w_634 w_632 dX11_told_5) (s_ifne (pc := 8) dX11_told_8 (by decide) (s_aloadn (pc := 14) dX11_told_14 rfl (s_gR (pc := 15) (f := 0) ko_10 (by decide) rfl rfl w_504 dX11_told_15 (s_gR (pc := 18) (f := 4) ko_1 (by decide) rfl rfl w_233 dX11_told_18 (s_iloadn (pc := 21) dX11_told_21 rfl (s_rald (pc := 22) (by decide) (by decide) rfl rfl rfl dX11_told_22 (s_astoren (pc := 23) dX11_told_23 rfl (show 3 < 4 by decide) (s_iloadn (pc := 24) dX11_told_24 rfl (s_table (pc := 25) dX11_told_25 (by decide) (by decide) ⟨c_ti_0, ⟨_, by decide, (s_aloadn (pc := 80) dX11_told_80 rfl (s_gI (pc := 81) (f := 0) ko_5 (by decide) rfl rfl w_170 dX11_told_81 (s_ir (pc := 84) rfl dX11_told_84)))⟩, ⟨c_ti_1, ⟨_, by decide, (s_aloadn (pc := 85) dX11_told_85 rfl (s_gI (pc := 86) (f := 1) ko_5 (by decide) rfl rfl w_174 dX11_told_86 (s_ir (pc := 89) rfl dX11_told_89)))⟩, ⟨c_ti_2, ⟨_, by decide, (s_aloadn (pc := 90) dX11_told_90 rfl (s_gI (pc := 91) (f := 4) ko_5 (by decide) rfl rfl w_185 dX11_told_91 (s_ir (pc := 94) rfl dX11_told_94)))⟩, ⟨c_ti_3, ⟨_, by decide, (s_aloadn (pc := 95) dX11_told_95 rfl (s_gI (pc := 96) (f := 1) ko_5 (by decide) rfl rfl w_174 dX11_told_96 (s_sI (pc := 99) (run_staticN (mo3_gd _) (show 30 < 32 by decide) cy_X6_mostOf w_637 nw_636 dX11_told_99) (s_ir (pc := 102) rfl dX11_told_102))))⟩, ⟨c_ti_4, ⟨_, by decide, (s_aloadn (pc := 103) dX11_told_103 rfl (s_gI (pc := 104) (f := 1) ko_5 (by decide) rfl rfl w_174 dX11_told_104 (s_sI (pc := 107) (run_staticN (se3_gd _) (show 30 < 32 by decide) cy_X6_seenOf w_641 nw_640 dX11_told_107) (s_ir (pc := 110) rfl dX11_told_110))))⟩, ⟨c_ti_5, ⟨_, by decide, (s_aloadn (pc := 111) dX11_told_111 rfl (s_gI (pc := 112) (f := 1) ko_5 (by decide) rfl rfl w_174 dX11_told_112 (s_aloadn (pc := 115) dX11_told_115 rfl (s_gI (pc := 116) (f := 4) ko_5 (by decide) rfl rfl w_185 dX11_told_116 (s_sI (pc := 119) (run_staticN (pr3_gd _) (show 30 < 32 by decide) cy_X6_priceOf w_645 nw_644 dX11_told_119) (s_ir (pc := 122) rfl dX11_told_122))))))⟩, ⟨c_ti_6, ⟨_, by decide, (s_aloadn (pc := 123) dX11_told_123 rfl (s_gR (pc := 124) (f := 0) ko_10 (by decide) rfl rfl w_504 dX11_told_124 (s_aloadn (pc := 127) dX11_told_127 rfl (s_vI (pc := 128) (run_virtual (X1_isLit_gd _) (show 2 < 32 by decide) cy_X1_isLit (by decide) rfl w_649 w_650 w_648 dX11_told_128) (s_sI (pc := 131) (run_static (X11_bit_gd _) (show 0 < 32 by decide) cy_X11_bit w_574 w_573 dX11_told_131) (s_ir (pc := 134) rfl dX11_told_134))))))⟩, ⟨c_ti_7, ⟨_, by decide, (s_aloadn (pc := 135) dX11_told_135 rfl (s_gI (pc := 136) (f := 3) ko_5 (by decide) rfl rfl w_180 dX11_told_136 (s_ir (pc := 139) rfl dX11_told_139)))⟩, ⟨c_ti_8, ⟨_, by decide, (s_aloadn (pc := 140) dX11_told_140 rfl (s_gI (pc := 141) (f := 2) ko_5 (by decide) rfl rfl w_177 dX11_told_141 (s_ir (pc := 144) rfl dX11_told_144)))⟩, ⟨c_ti_9, ⟨_, by decide, (s_aloadn (pc := 145) dX11_told_145 rfl (s_gR (pc := 146) (f := 0) ko_10 (by decide) rfl rfl w_504 dX11_told_146 (s_aloadn (pc := 149) dX11_told_149 rfl (s_iconst (pc := 150) dX11_told_150 c_ic_0 (s_vI (pc := 151) (run_virtual (X1_isObeyed_gd _) (show 31 < 32 by decide) cy_X1_isObeyed (by decide) rfl w_653 w_654 w_652 dX11_told_151) (s_sI (pc := 154) (run_static (X11_bit_gd _) (show 0 < 32 by decide) cy_X11_bit w_574 w_573 dX11_told_154) (s_ir (pc := 157) rfl dX11_told_157)))))))⟩, trivial⟩⟩⟩⟩⟩⟩⟩⟩⟩⟩ (s_ldc (pc := 158) w_551 dX11_told_158 (s_ir (pc := 160) rfl dX11_told_160)))))))))) (s_ldc (pc := 11) w_551 dX11_told_11 (s_ir (pc := 13) rfl dX11_told_13)))))))
noncomputable def X11_told_f0 (c_X1_hasSign : Nat → Int32 → PH → Option Rs) (c_mo3 : List PV → PH → Option Rs) (c_se3 : List PV → PH → Option Rs) (c_pr3 : List PV → PH → Option Rs) (c_X1_isLit : Nat → Nat → PH → Option Rs) (c_X11_bit : Int32 → PH → Option Rs) (c_X1_isObeyed : Nat → Nat → Int32 → PH → Option Rs) (t : Nat) (x1 : Int32) (x2 : Int32) (h : PH) : Option Rs :=
  nn (hR h 640 t 0) fun r1 =>
  cI (c_X1_hasSign r1 x1 h) fun v3 h2 =>
  if v3 = 0 then
    some (some (.inl (-1000000001)), h2)
  else
    nn (hR h2 640 t 0) fun r4 =>
    nn (hR h2 68 r4 0) fun r5 =>
    ix x1 (hL h2 18 r5) fun j6 =>
    if x2 = 0 then
      nn (hR h2 1152 r5 j6) fun r7 =>
      some (some (.inl (hI h2 320 r7 0)), h2)
    else
    if x2 = 1 then
      nn (hR h2 1152 r5 j6) fun r8 =>
      some (some (.inl (hI h2 321 r8 0)), h2)
    else
    if x2 = 2 then
      nn (hR h2 1152 r5 j6) fun r9 =>
      some (some (.inl (hI h2 324 r9 0)), h2)
    else
    if x2 = 3 then
      nn (hR h2 1152 r5 j6) fun r10 =>
      cI (c_mo3 [.inl (hI h2 321 r10 0)] h2) fun v12 h11 =>
      some (some (.inl v12), h11)
    else
    if x2 = 4 then
      nn (hR h2 1152 r5 j6) fun r13 =>
      cI (c_se3 [.inl (hI h2 321 r13 0)] h2) fun v15 h14 =>
      some (some (.inl v15), h14)
    else
    if x2 = 5 then
      nn (hR h2 1152 r5 j6) fun r16 =>
      nn (hR h2 1152 r5 j6) fun r17 =>
      cI (c_pr3 [.inl (hI h2 321 r16 0), .inl (hI h2 324 r17 0)] h2) fun v19 h18 =>
      some (some (.inl v19), h18)
    else
    if x2 = 6 then
      nn (hR h2 640 t 0) fun r20 =>
      cI (c_X1_isLit r20 (hR h2 1152 r5 j6) h2) fun v22 h21 =>
      cI (c_X11_bit v22 h21) fun v24 h23 =>
      some (some (.inl v24), h23)
    else
    if x2 = 7 then
      nn (hR h2 1152 r5 j6) fun r25 =>
      some (some (.inl (hI h2 323 r25 0)), h2)
    else
    if x2 = 8 then
      nn (hR h2 1152 r5 j6) fun r26 =>
      some (some (.inl (hI h2 322 r26 0)), h2)
    else
    if x2 = 9 then
      nn (hR h2 640 t 0) fun r27 =>
      cI (c_X1_isObeyed r27 (hR h2 1152 r5 j6) 0 h2) fun v29 h28 =>
      cI (c_X11_bit v29 h28) fun v31 h30 =>
      some (some (.inl v31), h30)
    else
      some (some (.inl (-1000000001)), h2)
set_option maxRecDepth 100000 in
theorem X11_told_l0 (c_X1_hasSign : Nat → Int32 → PH → Option Rs) (c_mo3 : List PV → PH → Option Rs) (c_se3 : List PV → PH → Option Rs) (c_pr3 : List PV → PH → Option Rs) (c_X1_isLit : Nat → Nat → PH → Option Rs) (c_X11_bit : Int32 → PH → Option Rs) (c_X1_isObeyed : Nat → Nat → Int32 → PH → Option Rs) (t : Nat) (x1 : Int32) (x2 : Int32) (h : PH) : X11_told_b0 c_X1_hasSign c_mo3 c_se3 c_pr3 c_X1_isLit c_X11_bit c_X1_isObeyed [some (.inr (10, t + 1)), some (.inl x1), some (.inl x2), none] [] h = X11_told_f0 c_X1_hasSign c_mo3 c_se3 c_pr3 c_X1_isLit c_X11_bit c_X1_isObeyed t x1 x2 h := rfl
noncomputable def X11_told_g0 (t : Nat) (x1 : Int32) (x2 : Int32) (h : PH) : Option Rs := X11_told_f0 X1_hasSign mo3 se3 pr3 X1_isLit X11_bit X1_isObeyed t x1 x2 h
noncomputable def X11_told (t : Nat) (x1 : Int32) (x2 : Int32) (h : PH) : Option Rs := X11_told_g0 t x1 x2 h
noncomputable abbrev X11_told_F : List PV → PH → Option Rs := FW_T10II (X11_told)
set_option maxRecDepth 100000 in
theorem X11_told_gd (l : Launch) : Gd l 32 yX11_told cX11_told 4 (some .int) (X11_told_F)   := Gd_of (by decide +kernel) (fun z hzl as h r e => by
  obtain ⟨hst, e⟩ := gL_of e
  obtain ⟨t, q0, e⟩ := gT_of e
  obtain ⟨x1, q1, e⟩ := gI_of e
  obtain ⟨x2, q2, e⟩ := gI_of e
  rw [st_3 hst q0 q1 q2]
  exact ⟨show 3 ≤ 4 by decide, X11_told_s0 _ _ _ _ ((X11_told_l0 X1_hasSign mo3 se3 pr3 X1_isLit X11_bit X1_isObeyed t x1 x2 h).trans e)⟩)
abbrev X6_isOfKind_x (z : CZ) : CX := mx RX6 cX6_isOfKind 4 1 (some .boolean) "isOfKind" z
noncomputable def X6_isOfKind_b0 (k4 : Kn) : Kn := (a_il 0 (a_is 2 (a_ic 0 (a_is 3 k4))))
set_option maxRecDepth 100000 in
theorem X6_isOfKind_s0 {z : CZ} {k4 : Kn} (hk4 : SK (X6_isOfKind_x z) 4 k4) : SK (X6_isOfKind_x z) 0 (X6_isOfKind_b0 k4) := (s_iloadn (pc := 0) dX6_isOfKind_0 rfl (s_istoren (pc := 1) dX6_isOfKind_1 rfl (show 2 < 4 by decide) (s_iconst (pc := 2) dX6_isOfKind_2 c_ic_0 (s_istoren (pc := 3) dX6_isOfKind_3 rfl (show 3 < 4 by decide) hk4))))
noncomputable def X6_isOfKind_b4 (c_X11_isWithin : Int32 → Int32 → PH → Option Rs) (k4 : Kn) : Kn := (a_il 3 (a_ic 6 (a_lt (a_il 2 (a_ic 6 (a_sI 2 (FW_II c_X11_isWithin) (a_z (a_ic 0 a_zr) (a_il 2 (a_il 1 (a_eq (a_ic 1 a_zr) (a_gst (a_il 2 (a_tab (a_is 2 (a_inc 3 1 k4)))))))))))) (a_ic 0 a_zr))))
set_option maxRecDepth 100000 in
theorem X6_isOfKind_s4 {z : CZ} {k4 : Kn} (hk4 : SK (X6_isOfKind_x z) 4 k4) : SK (X6_isOfKind_x z) 4 (X6_isOfKind_b4 X11_isWithin k4) := (s_iloadn (pc := 4) dX6_isOfKind_4 rfl (s_bipush (pc := 5) dX6_isOfKind_5 c_bp_6 (s_cmpge (pc := 7) dX6_isOfKind_7 (by decide) (s_iconst (pc := 38) dX6_isOfKind_38 c_ic_0 (s_zr (pc := 39) rfl dX6_isOfKind_39)) (s_iloadn (pc := 10) dX6_isOfKind_10 rfl (s_bipush (pc := 11) dX6_isOfKind_11 c_bp_6 (s_sI (pc := 13) (run_staticN (X11_isWithin_gd _) (show 0 < 1 by decide) cy_X11_isWithin w_549 nw_664 dX6_isOfKind_13) (s_ifeq (pc := 16) dX6_isOfKind_16 (by decide) (s_iconst (pc := 38) dX6_isOfKind_38 c_ic_0 (s_zr (pc := 39) rfl dX6_isOfKind_39)) (s_iloadn (pc := 19) dX6_isOfKind_19 rfl (s_iloadn (pc := 20) dX6_isOfKind_20 rfl (s_cmpne (pc := 21) dX6_isOfKind_21 (by decide) (s_gst (pc := 26) w_665 dX6_isOfKind_26 (s_iloadn (pc := 29) dX6_isOfKind_29 rfl (s_tab (pc := 30) dX6_isOfKind_30 (s_istoren (pc := 31) dX6_isOfKind_31 rfl (show 2 < 4 by decide) (s_iinc (pc := 32) dX6_isOfKind_32 c_ic_1 (show 3 < 4 by decide) (s_goto (pc := 35) dX6_isOfKind_35 (by decide) hk4)))))) (s_iconst (pc := 24) dX6_isOfKind_24 c_ic_1 (s_zr (pc := 25) rfl dX6_isOfKind_25))))))))))))
noncomputable def X6_isOfKind_u4 (g : Int32 → Int32 → Int32 → PH → Option Rs) : Kn := fun ls st h => gL 0 st (gI ls 1 fun x1 => gI ls 2 fun x2 => gI ls 3 fun x3 => g x1 x2 x3 h)
noncomputable def X6_isOfKind_f0 (g4 : Int32 → Int32 → Int32 → PH → Option Rs) (x0 : Int32) (x1 : Int32) (h : PH) : Option Rs :=
  g4 x1 x0 0 h
set_option maxRecDepth 100000 in
theorem X6_isOfKind_l0 (g4 : Int32 → Int32 → Int32 → PH → Option Rs) (x0 : Int32) (x1 : Int32) (h : PH) : X6_isOfKind_b0 (X6_isOfKind_u4 g4) [some (.inl x0), some (.inl x1), none, none] [] h = X6_isOfKind_f0 g4 x0 x1 h := rfl
theorem X6_isOfKind_m0 {g4 G4 : Int32 → Int32 → Int32 → PH → Option Rs} (hg4 : ∀ a0 a1 a2 a3, Mo (g4 a0 a1 a2 a3) (G4 a0 a1 a2 a3)) (x0 : Int32) (x1 : Int32) (h : PH) : Mo (X6_isOfKind_f0 g4 x0 x1 h) (X6_isOfKind_f0 G4 x0 x1 h) := (hg4 x1 x0 0 h)
noncomputable def X6_isOfKind_f4 (c_X11_isWithin : Int32 → Int32 → PH → Option Rs) (g4 : Int32 → Int32 → Int32 → PH → Option Rs) (x1 : Int32) (x2 : Int32) (x3 : Int32) (h : PH) : Option Rs :=
  if x3 < 6 then
    cI (c_X11_isWithin x2 6 h) fun v2 h1 =>
    if v2 = 0 then
      bz 0 <|
      some (some (.inl 0), h1)
    else
      if x2 = x1 then
        bz 1 <|
        some (some (.inl 1), h1)
      else
        nn 1 fun r3 =>
        ix x2 6 fun j4 =>
        g4 x1 (abv j4) (x3 + 1) h1
  else
    bz 0 <|
    some (some (.inl 0), h)
set_option maxRecDepth 100000 in
theorem X6_isOfKind_l4 (c_X11_isWithin : Int32 → Int32 → PH → Option Rs) (g4 : Int32 → Int32 → Int32 → PH → Option Rs) (x1 : Int32) (x2 : Int32) (x3 : Int32) (h : PH) : X6_isOfKind_b4 c_X11_isWithin (X6_isOfKind_u4 g4) [none, some (.inl x1), some (.inl x2), some (.inl x3)] [] h = X6_isOfKind_f4 c_X11_isWithin g4 x1 x2 x3 h := rfl
theorem X6_isOfKind_m4 {c_X11_isWithin : Int32 → Int32 → PH → Option Rs} {g4 G4 : Int32 → Int32 → Int32 → PH → Option Rs} (hg4 : ∀ a0 a1 a2 a3, Mo (g4 a0 a1 a2 a3) (G4 a0 a1 a2 a3)) (x1 : Int32) (x2 : Int32) (x3 : Int32) (h : PH) : Mo (X6_isOfKind_f4 c_X11_isWithin g4 x1 x2 x3 h) (X6_isOfKind_f4 c_X11_isWithin G4 x1 x2 x3 h) := (mo_if (mo_cI fun v2 h1 => (mo_if (mo_bz mo_rf) (mo_if (mo_bz mo_rf) (mo_nn fun r3 => (mo_ix fun j4 => (hg4 x1 (abv j4) (x3 + 1) h1)))))) (mo_bz mo_rf))
theorem X6_isOfKind_w4 {z : CZ} {g4 : Int32 → Int32 → Int32 → PH → Option Rs} (hk4 : SK (X6_isOfKind_x z) 4 (X6_isOfKind_u4 g4)) : SK (X6_isOfKind_x z) 4 (X6_isOfKind_u4 (X6_isOfKind_f4 X11_isWithin g4)) := by
  intro ls st h r e
  obtain ⟨hst, e⟩ := gL_of e
  obtain ⟨x1, q0, e⟩ := gI_of e
  obtain ⟨x2, q1, e⟩ := gI_of e
  obtain ⟨x3, q2, e⟩ := gI_of e
  rw [st_0 hst]
  exact WK.sub (canon := [none, some (.inl x1), some (.inl x2), some (.inl x3)]) rfl ⟨q0, q1, q2, trivial⟩ (X6_isOfKind_s4 hk4 _ _ _ _ ((X6_isOfKind_l4 X11_isWithin g4 x1 x2 x3 h).trans e))
noncomputable def X6_isOfKind_g0 (G : (Int32 → Int32 → Int32 → PH → Option Rs)) (x0 : Int32) (x1 : Int32) (h : PH) : Option Rs := X6_isOfKind_f0 (G) x0 x1 h
noncomputable def X6_isOfKind_g4 (G : (Int32 → Int32 → Int32 → PH → Option Rs)) (x1 : Int32) (x2 : Int32) (x3 : Int32) (h : PH) : Option Rs := X6_isOfKind_f4 X11_isWithin (G) x1 x2 x3 h
theorem X6_isOfKind_v4 {z : CZ} {G : (Int32 → Int32 → Int32 → PH → Option Rs)} (hG4 : SK (X6_isOfKind_x z) 4 (X6_isOfKind_u4 (G))) : SK (X6_isOfKind_x z) 4 (X6_isOfKind_u4 (X6_isOfKind_g4 G)) := X6_isOfKind_w4 hG4
noncomputable def X6_isOfKind_fam : Nat → (Int32 → Int32 → Int32 → PH → Option Rs)
  | 0 => fun _ _ _ _ => none
  | n + 1 => X6_isOfKind_g4 (X6_isOfKind_fam n)
theorem X6_isOfKind_k {z : CZ} : ∀ n, SK (X6_isOfKind_x z) 4 (X6_isOfKind_u4 (X6_isOfKind_fam n))
  | 0 => (fun ls st h r e => by
      obtain ⟨_, e⟩ := gL_of e
      obtain ⟨_, _, e⟩ := gI_of e
      obtain ⟨_, _, e⟩ := gI_of e
      obtain ⟨_, _, e⟩ := gI_of e
      cases e)
  | n + 1 => by
    obtain ih4 := X6_isOfKind_k n
    exact X6_isOfKind_v4 ih4
theorem X6_isOfKind_n0 {G G' : (Int32 → Int32 → Int32 → PH → Option Rs)} (hg4 : ∀ a0 a1 a2 a3, Mo ((G) a0 a1 a2 a3) ((G') a0 a1 a2 a3)) (x0 : Int32) (x1 : Int32) (h : PH) : Mo (X6_isOfKind_g0 G x0 x1 h) (X6_isOfKind_g0 G' x0 x1 h) := X6_isOfKind_m0 hg4 x0 x1 h
theorem X6_isOfKind_n4 {G G' : (Int32 → Int32 → Int32 → PH → Option Rs)} (hg4 : ∀ a0 a1 a2 a3, Mo ((G) a0 a1 a2 a3) ((G') a0 a1 a2 a3)) (x1 : Int32) (x2 : Int32) (x3 : Int32) (h : PH) : Mo (X6_isOfKind_g4 G x1 x2 x3 h) (X6_isOfKind_g4 G' x1 x2 x3 h) := X6_isOfKind_m4 hg4 x1 x2 x3 h
theorem X6_isOfKind_fm : ∀ n, (∀ a0 a1 a2 a3, Mo ((X6_isOfKind_fam n) a0 a1 a2 a3) ((X6_isOfKind_fam (n + 1)) a0 a1 a2 a3))
  | 0 => fun _ _ _ _ => mo_no
  | n + 1 => by
    obtain ih4 := X6_isOfKind_fm n
    exact fun a0 a1 a2 a3 => X6_isOfKind_n4 ih4 a0 a1 a2 a3
noncomputable def X6_isOfKind (x0 : Int32) (x1 : Int32) (h : PH) : Option Rs := lim (fun n => X6_isOfKind_g0 (X6_isOfKind_fam n) x0 x1 h)
theorem X6_isOfKind_iff {x0 : Int32} {x1 : Int32} {h : PH} {r : Rs} : X6_isOfKind x0 x1 h = some r ↔ ∃ n, X6_isOfKind_g0 (X6_isOfKind_fam n) x0 x1 h = some r := lim_iff (fun n => by
  obtain ih4 := X6_isOfKind_fm n
  exact X6_isOfKind_n0 ih4 x0 x1 h)
noncomputable abbrev X6_isOfKind_F : List PV → PH → Option Rs := FW_II (X6_isOfKind)
set_option maxRecDepth 100000 in
theorem X6_isOfKind_gd (l : Launch) : Gd l 1 yX6_isOfKind cX6_isOfKind 4 (some .boolean) (X6_isOfKind_F)   := Gd_of (by decide +kernel) (fun z hzl as h r e => by
  obtain ⟨hst, e⟩ := gL_of e
  obtain ⟨x0, q0, e⟩ := gI_of e
  obtain ⟨x1, q1, e⟩ := gI_of e
  rw [st_2 hst q0 q1]
  obtain ⟨n, e⟩ := lim_of e
  obtain hG4 := X6_isOfKind_k (z := z) n
  exact ⟨show 2 ≤ 4 by decide, X6_isOfKind_s0 hG4 _ _ _ _ ((X6_isOfKind_l0 (X6_isOfKind_fam n) x0 x1 h).trans e)⟩)
abbrev X11_as_x (z : CZ) : CX := mx RX11 cX11_as 4 2 (some .int) "as" z
noncomputable def X11_as_b0 (c_X1_hasSign : Nat → Int32 → PH → Option Rs) (c_X11_isWithin : Int32 → Int32 → PH → Option Rs) (c_X6_isOfKind : Int32 → Int32 → PH → Option Rs) : Kn := (a_al 0 (a_gR 10 640 1 (a_il 1 (a_vI 1 1 (FW_T1I c_X1_hasSign) (a_z (a_ic (-1000000001) a_ir) (a_il 2 (a_ic 6 (a_sI 2 (FW_II c_X11_isWithin) (a_z (a_ic (-1000000001) a_ir) (a_al 0 (a_gR 10 640 1 (a_gR 1 68 18 (a_il 1 (a_rald 18 1152 5 (a_as 3 (a_al 3 (a_gI 5 321 (a_il 2 (a_sI 2 (FW_II c_X6_isOfKind) (a_z (a_ic (-1000000012) a_ir) (a_al 3 (a_gI 5 324 a_ir))))))))))))))))))))))
set_option maxRecDepth 100000 in
theorem X11_as_s0 {z : CZ} : SK (X11_as_x z) 0 (X11_as_b0 X1_hasSign X11_isWithin X6_isOfKind) := (s_aloadn (pc := 0) dX11_as_0 rfl (s_gR (pc := 1) (f := 0) ko_10 (by decide) rfl rfl w_504 dX11_as_1 (s_iloadn (pc := 4) dX11_as_4 rfl (s_vI (pc := 5) (run_virtual (X1_hasSign_gd _) (show 1 < 2 by decide) cy_X1_hasSign (by decide) rfl w_633 w_634 w_632 dX11_as_5) (s_ifeq (pc := 8) dX11_as_8 (by decide) (s_ldc (pc := 20) w_551 dX11_as_20 (s_ir (pc := 22) rfl dX11_as_22)) (s_iloadn (pc := 11) dX11_as_11 rfl (s_bipush (pc := 12) dX11_as_12 c_bp_6 (s_sI (pc := 14) (run_static (X11_isWithin_gd _) (show 0 < 2 by decide) cy_X11_isWithin w_549 w_552 dX11_as_14) (s_ifne (pc := 17) dX11_as_17 (by decide) (s_aloadn (pc := 23) dX11_as_23 rfl (s_gR (pc := 24) (f := 0) ko_10 (by decide) rfl rfl w_504 dX11_as_24 (s_gR (pc := 27) (f := 4) ko_1 (by decide) rfl rfl w_233 dX11_as_27 (s_iloadn (pc := 30) dX11_as_30 rfl (s_rald (pc := 31) (by decide) (by decide) rfl rfl rfl dX11_as_31 (s_astoren (pc := 32) dX11_as_32 rfl (show 3 < 4 by decide) (s_aloadn (pc := 33) dX11_as_33 rfl (s_gI (pc := 34) (f := 1) ko_5 (by decide) rfl rfl w_174 dX11_as_34 (s_iloadn (pc := 37) dX11_as_37 rfl (s_sI (pc := 38) (run_static (X6_isOfKind_gd _) (show 1 < 2 by decide) cy_X6_isOfKind w_662 w_661 dX11_as_38) (s_ifeq (pc := 41) dX11_as_41 (by decide) (s_ldc (pc := 51) w_667 dX11_as_51 (s_ir (pc := 53) rfl dX11_as_53)) (s_aloadn (pc := 44) dX11_as_44 rfl (s_gI (pc := 45) (f := 4) ko_5 (by decide) rfl rfl w_185 dX11_as_45 (s_goto (pc := 48) dX11_as_48 (by decide) (s_ir (pc := 53) rfl dX11_as_53))))))))))))))) (s_ldc (pc := 20) w_551 dX11_as_20 (s_ir (pc := 22) rfl dX11_as_22)))))))))))
noncomputable def X11_as_f0 (c_X1_hasSign : Nat → Int32 → PH → Option Rs) (c_X11_isWithin : Int32 → Int32 → PH → Option Rs) (c_X6_isOfKind : Int32 → Int32 → PH → Option Rs) (t : Nat) (x1 : Int32) (x2 : Int32) (h : PH) : Option Rs :=
  nn (hR h 640 t 0) fun r1 =>
  cI (c_X1_hasSign r1 x1 h) fun v3 h2 =>
  if v3 = 0 then
    some (some (.inl (-1000000001)), h2)
  else
    cI (c_X11_isWithin x2 6 h2) fun v5 h4 =>
    if v5 = 0 then
      some (some (.inl (-1000000001)), h4)
    else
      nn (hR h4 640 t 0) fun r6 =>
      nn (hR h4 68 r6 0) fun r7 =>
      ix x1 (hL h4 18 r7) fun j8 =>
      nn (hR h4 1152 r7 j8) fun r9 =>
      cI (c_X6_isOfKind (hI h4 321 r9 0) x2 h4) fun v11 h10 =>
      if v11 = 0 then
        some (some (.inl (-1000000012)), h10)
      else
        nn (hR h4 1152 r7 j8) fun r12 =>
        some (some (.inl (hI h10 324 r12 0)), h10)
set_option maxRecDepth 100000 in
theorem X11_as_l0 (c_X1_hasSign : Nat → Int32 → PH → Option Rs) (c_X11_isWithin : Int32 → Int32 → PH → Option Rs) (c_X6_isOfKind : Int32 → Int32 → PH → Option Rs) (t : Nat) (x1 : Int32) (x2 : Int32) (h : PH) : X11_as_b0 c_X1_hasSign c_X11_isWithin c_X6_isOfKind [some (.inr (10, t + 1)), some (.inl x1), some (.inl x2), none] [] h = X11_as_f0 c_X1_hasSign c_X11_isWithin c_X6_isOfKind t x1 x2 h := rfl
noncomputable def X11_as_g0 (t : Nat) (x1 : Int32) (x2 : Int32) (h : PH) : Option Rs := X11_as_f0 X1_hasSign X11_isWithin X6_isOfKind t x1 x2 h
noncomputable def X11_as (t : Nat) (x1 : Int32) (x2 : Int32) (h : PH) : Option Rs := X11_as_g0 t x1 x2 h
noncomputable abbrev X11_as_F : List PV → PH → Option Rs := FW_T10II (X11_as)
set_option maxRecDepth 100000 in
theorem X11_as_gd (l : Launch) : Gd l 2 yX11_as cX11_as 4 (some .int) (X11_as_F)   := Gd_of (by decide +kernel) (fun z hzl as h r e => by
  obtain ⟨hst, e⟩ := gL_of e
  obtain ⟨t, q0, e⟩ := gT_of e
  obtain ⟨x1, q1, e⟩ := gI_of e
  obtain ⟨x2, q2, e⟩ := gI_of e
  rw [st_3 hst q0 q1 q2]
  exact ⟨show 3 ≤ 4 by decide, X11_as_s0 _ _ _ _ ((X11_as_l0 X1_hasSign X11_isWithin X6_isOfKind t x1 x2 h).trans e)⟩)
abbrev X11_turns_x (z : CZ) : CX := mx RX11 cX11_turns 5 2 (some .int) "turns" z
noncomputable def X11_turns_b0 (c_X1_hasSign : Nat → Int32 → PH → Option Rs) (c_X11_isWithin : Int32 → Int32 → PH → Option Rs) : Kn := (a_al 0 (a_gR 10 640 1 (a_il 1 (a_vI 1 1 (FW_T1I c_X1_hasSign) (a_z (a_ic (-1000000001) a_ir) (a_il 2 (a_ic 5 (a_sI 2 (FW_II c_X11_isWithin) (a_z (a_ic (-1000000001) a_ir) (a_al 0 (a_gR 10 640 1 (a_gR 1 68 18 (a_il 1 (a_rald 18 1152 5 (a_as 3 (a_al 3 (a_gI 5 321 (a_is 4 (a_il 4 (a_ic 5 (a_eq (a_ic (-1000000002) a_ir) (a_al 3 (a_il 2 (a_pI 5 321 (a_il 4 a_ir)))))))))))))))))))))))))
set_option maxRecDepth 100000 in
theorem X11_turns_s0 {z : CZ} : SK (X11_turns_x z) 0 (X11_turns_b0 X1_hasSign X11_isWithin) := (s_aloadn (pc := 0) dX11_turns_0 rfl (s_gR (pc := 1) (f := 0) ko_10 (by decide) rfl rfl w_504 dX11_turns_1 (s_iloadn (pc := 4) dX11_turns_4 rfl (s_vI (pc := 5) (run_virtual (X1_hasSign_gd _) (show 1 < 2 by decide) cy_X1_hasSign (by decide) rfl w_633 w_634 w_632 dX11_turns_5) (s_ifeq (pc := 8) dX11_turns_8 (by decide) (s_ldc (pc := 19) w_551 dX11_turns_19 (s_ir (pc := 21) rfl dX11_turns_21)) (s_iloadn (pc := 11) dX11_turns_11 rfl (s_iconst (pc := 12) dX11_turns_12 c_ic_5 (s_sI (pc := 13) (run_static (X11_isWithin_gd _) (show 0 < 2 by decide) cy_X11_isWithin w_549 w_552 dX11_turns_13) (s_ifne (pc := 16) dX11_turns_16 (by decide) (s_aloadn (pc := 22) dX11_turns_22 rfl (s_gR (pc := 23) (f := 0) ko_10 (by decide) rfl rfl w_504 dX11_turns_23 (s_gR (pc := 26) (f := 4) ko_1 (by decide) rfl rfl w_233 dX11_turns_26 (s_iloadn (pc := 29) dX11_turns_29 rfl (s_rald (pc := 30) (by decide) (by decide) rfl rfl rfl dX11_turns_30 (s_astoren (pc := 31) dX11_turns_31 rfl (show 3 < 5 by decide) (s_aloadn (pc := 32) dX11_turns_32 rfl (s_gI (pc := 33) (f := 1) ko_5 (by decide) rfl rfl w_174 dX11_turns_33 (s_istore (pc := 36) dX11_turns_36 (show 4 < 5 by decide) (s_iload (pc := 38) dX11_turns_38 (s_iconst (pc := 40) dX11_turns_40 c_ic_5 (s_cmpne (pc := 41) dX11_turns_41 (by decide) (s_aloadn (pc := 47) dX11_turns_47 rfl (s_iloadn (pc := 48) dX11_turns_48 rfl (s_pI (pc := 49) (f := 1) ko_5 (by decide) rfl rfl rfl (by decide +kernel) w_174 dX11_turns_49 (s_iload (pc := 52) dX11_turns_52 (s_ir (pc := 54) rfl dX11_turns_54))))) (s_ldc (pc := 44) w_563 dX11_turns_44 (s_ir (pc := 46) rfl dX11_turns_46)))))))))))))) (s_ldc (pc := 19) w_551 dX11_turns_19 (s_ir (pc := 21) rfl dX11_turns_21)))))))))))
noncomputable def X11_turns_f0 (c_X1_hasSign : Nat → Int32 → PH → Option Rs) (c_X11_isWithin : Int32 → Int32 → PH → Option Rs) (t : Nat) (x1 : Int32) (x2 : Int32) (h : PH) : Option Rs :=
  nn (hR h 640 t 0) fun r1 =>
  cI (c_X1_hasSign r1 x1 h) fun v3 h2 =>
  if v3 = 0 then
    some (some (.inl (-1000000001)), h2)
  else
    cI (c_X11_isWithin x2 5 h2) fun v5 h4 =>
    if v5 = 0 then
      some (some (.inl (-1000000001)), h4)
    else
      nn (hR h4 640 t 0) fun r6 =>
      nn (hR h4 68 r6 0) fun r7 =>
      ix x1 (hL h4 18 r7) fun j8 =>
      nn (hR h4 1152 r7 j8) fun r9 =>
      if (hI h4 321 r9 0) = 5 then
        some (some (.inl (-1000000002)), h4)
      else
        nn (hR h4 1152 r7 j8) fun r10 =>
        wr (pI h4 321 r10 0 x2) fun h11 =>
        some (some (.inl (hI h4 321 r9 0)), h11)
set_option maxRecDepth 100000 in
theorem X11_turns_l0 (c_X1_hasSign : Nat → Int32 → PH → Option Rs) (c_X11_isWithin : Int32 → Int32 → PH → Option Rs) (t : Nat) (x1 : Int32) (x2 : Int32) (h : PH) : X11_turns_b0 c_X1_hasSign c_X11_isWithin [some (.inr (10, t + 1)), some (.inl x1), some (.inl x2), none, none] [] h = X11_turns_f0 c_X1_hasSign c_X11_isWithin t x1 x2 h := rfl
noncomputable def X11_turns_g0 (t : Nat) (x1 : Int32) (x2 : Int32) (h : PH) : Option Rs := X11_turns_f0 X1_hasSign X11_isWithin t x1 x2 h
noncomputable def X11_turns (t : Nat) (x1 : Int32) (x2 : Int32) (h : PH) : Option Rs := X11_turns_g0 t x1 x2 h
noncomputable abbrev X11_turns_F : List PV → PH → Option Rs := FW_T10II (X11_turns)
set_option maxRecDepth 100000 in
theorem X11_turns_gd (l : Launch) : Gd l 2 yX11_turns cX11_turns 5 (some .int) (X11_turns_F)   := Gd_of (by decide +kernel) (fun z hzl as h r e => by
  obtain ⟨hst, e⟩ := gL_of e
  obtain ⟨t, q0, e⟩ := gT_of e
  obtain ⟨x1, q1, e⟩ := gI_of e
  obtain ⟨x2, q2, e⟩ := gI_of e
  rw [st_3 hst q0 q1 q2]
  exact ⟨show 3 ≤ 5 by decide, X11_turns_s0 _ _ _ _ ((X11_turns_l0 X1_hasSign X11_isWithin t x1 x2 h).trans e)⟩)
