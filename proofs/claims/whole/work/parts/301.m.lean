abbrev X1_addWay_x (z : CZ) : CX := mx RX1 cX1_addWay 6 1 (some .int) "addWay" z
noncomputable def X1_addWay_b0 (k49 : Kn) : Kn := (a_al 0 (a_gR 1 64 14 (a_al 0 (a_gI 1 73 (a_rald 14 896 9 (a_as 5 (a_al 5 (a_il 1 (a_pI 9 576 (a_al 5 (a_il 2 (a_pI 9 577 (a_al 5 (a_il 3 (a_pI 9 578 (a_al 5 (a_il 4 (a_ic 100 (a_div (a_pI 9 579 (a_al 5 (a_il 4 (a_ic 100 (a_rem (a_pI 9 580 k49)))))))))))))))))))))))))
set_option maxRecDepth 100000 in
theorem X1_addWay_s0 {z : CZ} {k49 : Kn} (hk49 : SK (X1_addWay_x z) 49 k49) : SK (X1_addWay_x z) 0 (X1_addWay_b0 k49) := (s_aloadn (pc := 0) dX1_addWay_0 rfl (s_gR (pc := 1) (f := 0) ko_1 (by decide) rfl rfl w_213 dX1_addWay_1 (s_aloadn (pc := 4) dX1_addWay_4 rfl (s_gI (pc := 5) (f := 9) ko_1 (by decide) rfl rfl w_244 dX1_addWay_5 (s_rald (pc := 8) (by decide) (by decide) rfl rfl rfl dX1_addWay_8 (s_astore (pc := 9) dX1_addWay_9 (show 5 < 6 by decide) (s_aload (pc := 11) dX1_addWay_11 (s_iloadn (pc := 13) dX1_addWay_13 rfl (s_pI (pc := 14) (f := 0) ko_9 (by decide) rfl rfl rfl (by decide +kernel) w_129 dX1_addWay_14 (s_aload (pc := 17) dX1_addWay_17 (s_iloadn (pc := 19) dX1_addWay_19 rfl (s_pI (pc := 20) (f := 1) ko_9 (by decide) rfl rfl rfl (by decide +kernel) w_133 dX1_addWay_20 (s_aload (pc := 23) dX1_addWay_23 (s_iloadn (pc := 25) dX1_addWay_25 rfl (s_pI (pc := 26) (f := 2) ko_9 (by decide) rfl rfl rfl (by decide +kernel) w_136 dX1_addWay_26 (s_aload (pc := 29) dX1_addWay_29 (s_iload (pc := 31) dX1_addWay_31 (s_bipush (pc := 33) dX1_addWay_33 c_bp_100 (s_idiv (pc := 35) dX1_addWay_35 (s_pI (pc := 36) (f := 3) ko_9 (by decide) rfl rfl rfl (by decide +kernel) w_139 dX1_addWay_36 (s_aload (pc := 39) dX1_addWay_39 (s_iload (pc := 41) dX1_addWay_41 (s_bipush (pc := 43) dX1_addWay_43 c_bp_100 (s_irem (pc := 45) dX1_addWay_45 (s_pI (pc := 46) (f := 4) ko_9 (by decide) rfl rfl rfl (by decide +kernel) w_144 dX1_addWay_46 hk49)))))))))))))))))))))))))
noncomputable def X1_addWay_b49 (c_X11_opposite : Int32 → PH → Option Rs) : Kn := (a_al 5 (a_ic 0 (a_pZ 9 581 (a_al 0 (a_gR 1 65 15 (a_il 1 (a_ic 8 (a_b (fun a b => a * b) (a_il 3 (a_b (fun a b => a + b) (a_al 0 (a_gI 1 73 (a_ast 15 960 (fun a => a) (a_al 0 (a_gR 1 65 15 (a_il 2 (a_ic 8 (a_b (fun a b => a * b) (a_il 3 (a_sI 1 (FW_I c_X11_opposite) (a_b (fun a b => a + b) (a_al 0 (a_gI 1 73 (a_ast 15 960 (fun a => a) (a_al 0 (a_dup (a_gI 1 73 (a_dupx1 (a_ic 1 (a_b (fun a b => a + b) (a_pI 1 73 a_ir)))))))))))))))))))))))))))))))
set_option maxRecDepth 100000 in
theorem X1_addWay_s49 {z : CZ} : SK (X1_addWay_x z) 49 (X1_addWay_b49 X11_opposite) := (s_aload (pc := 49) dX1_addWay_49 (s_iconst (pc := 51) dX1_addWay_51 c_ic_0 (s_pZ (pc := 52) (f := 5) ko_9 (by decide) rfl rfl rfl (by decide +kernel) w_147 dX1_addWay_52 (s_aloadn (pc := 55) dX1_addWay_55 rfl (s_gR (pc := 56) (f := 1) ko_1 (by decide) rfl rfl w_218 dX1_addWay_56 (s_iloadn (pc := 59) dX1_addWay_59 rfl (s_bipush (pc := 60) dX1_addWay_60 c_bp_8 (s_imul (pc := 62) dX1_addWay_62 (s_iloadn (pc := 63) dX1_addWay_63 rfl (s_iadd (pc := 64) dX1_addWay_64 (s_aloadn (pc := 65) dX1_addWay_65 rfl (s_gI (pc := 66) (f := 9) ko_1 (by decide) rfl rfl w_244 dX1_addWay_66 (s_iast (pc := 69) (by decide) (by decide) rfl rfl rfl dX1_addWay_69 (s_aloadn (pc := 70) dX1_addWay_70 rfl (s_gR (pc := 71) (f := 1) ko_1 (by decide) rfl rfl w_218 dX1_addWay_71 (s_iloadn (pc := 74) dX1_addWay_74 rfl (s_bipush (pc := 75) dX1_addWay_75 c_bp_8 (s_imul (pc := 77) dX1_addWay_77 (s_iloadn (pc := 78) dX1_addWay_78 rfl (s_sI (pc := 79) (run_staticN (X11_opposite_gd _) (show 0 < 1 by decide) cy_X11_opposite w_561 nw_568 dX1_addWay_79) (s_iadd (pc := 82) dX1_addWay_82 (s_aloadn (pc := 83) dX1_addWay_83 rfl (s_gI (pc := 84) (f := 9) ko_1 (by decide) rfl rfl w_244 dX1_addWay_84 (s_iast (pc := 87) (by decide) (by decide) rfl rfl rfl dX1_addWay_87 (s_aloadn (pc := 88) dX1_addWay_88 rfl (s_dup (pc := 89) dX1_addWay_89 (s_gI (pc := 90) (f := 9) ko_1 (by decide) rfl rfl w_244 dX1_addWay_90 (s_dupx1 (pc := 93) dX1_addWay_93 (s_iconst (pc := 94) dX1_addWay_94 c_ic_1 (s_iadd (pc := 95) dX1_addWay_95 (s_pI (pc := 96) (f := 9) ko_1 (by decide) rfl rfl rfl (by decide +kernel) w_244 dX1_addWay_96 (s_ir (pc := 99) rfl dX1_addWay_99))))))))))))))))))))))))))))))))
noncomputable def X1_addWay_u49 (g : Nat → Int32 → Int32 → Int32 → Nat → PH → Option Rs) : Kn := fun ls st h => gL 0 st (gT 1 ls 0 fun t => gI ls 1 fun x1 => gI ls 2 fun x2 => gI ls 3 fun x3 => gR 9 ls 5 fun x5 => g t x1 x2 x3 x5 h)
noncomputable def X1_addWay_f0 (g49 : Nat → Int32 → Int32 → Int32 → Nat → PH → Option Rs) (t : Nat) (x1 : Int32) (x2 : Int32) (x3 : Int32) (x4 : Int32) (h : PH) : Option Rs :=
  nn (hR h 64 t 0) fun r1 =>
  ix (hI h 73 t 0) (hL h 14 r1) fun j2 =>
  nn (hR h 896 r1 j2) fun r3 =>
  wr (pI h 576 r3 0 x1) fun h4 =>
  nn (hR h 896 r1 j2) fun r5 =>
  wr (pI h4 577 r5 0 x2) fun h6 =>
  nn (hR h 896 r1 j2) fun r7 =>
  wr (pI h6 578 r7 0 x3) fun h8 =>
  dv 100 <|
  nn (hR h 896 r1 j2) fun r9 =>
  wr (pI h8 579 r9 0 (x4 / 100)) fun h10 =>
  dv 100 <|
  nn (hR h 896 r1 j2) fun r11 =>
  wr (pI h10 580 r11 0 (jrem x4 100)) fun h12 =>
  g49 t x1 x2 x3 (hR h 896 r1 j2) h12
set_option maxRecDepth 100000 in
theorem X1_addWay_l0 (g49 : Nat → Int32 → Int32 → Int32 → Nat → PH → Option Rs) (t : Nat) (x1 : Int32) (x2 : Int32) (x3 : Int32) (x4 : Int32) (h : PH) : X1_addWay_b0 (X1_addWay_u49 g49) [some (.inr (1, t + 1)), some (.inl x1), some (.inl x2), some (.inl x3), some (.inl x4), none] [] h = X1_addWay_f0 g49 t x1 x2 x3 x4 h := rfl
theorem X1_addWay_m0 {g49 G49 : Nat → Int32 → Int32 → Int32 → Nat → PH → Option Rs} (hg49 : ∀ a0 a1 a2 a3 a4 a5, Mo (g49 a0 a1 a2 a3 a4 a5) (G49 a0 a1 a2 a3 a4 a5)) (t : Nat) (x1 : Int32) (x2 : Int32) (x3 : Int32) (x4 : Int32) (h : PH) : Mo (X1_addWay_f0 g49 t x1 x2 x3 x4 h) (X1_addWay_f0 G49 t x1 x2 x3 x4 h) := (mo_nn fun r1 => (mo_ix fun j2 => (mo_nn fun r3 => (mo_wr fun h4 => (mo_nn fun r5 => (mo_wr fun h6 => (mo_nn fun r7 => (mo_wr fun h8 => (mo_dv (mo_nn fun r9 => (mo_wr fun h10 => (mo_dv (mo_nn fun r11 => (mo_wr fun h12 => (hg49 t x1 x2 x3 (hR h 896 r1 j2) h12)))))))))))))))
noncomputable def X1_addWay_f49 (c_X11_opposite : Int32 → PH → Option Rs) (t : Nat) (x1 : Int32) (x2 : Int32) (x3 : Int32) (x5 : Nat) (h : PH) : Option Rs :=
  nn x5 fun r13 =>
  bz 0 <|
  wr (pI h 581 r13 0 0) fun h14 =>
  nn (hR h14 65 t 0) fun r15 =>
  ix ((x1 * 8) + x3) (hL h14 15 r15) fun j16 =>
  wr (pI h14 960 r15 j16 (hI h14 73 t 0)) fun h17 =>
  cI (c_X11_opposite x3 h17) fun v19 h18 =>
  nn (hR h17 65 t 0) fun r20 =>
  ix ((x2 * 8) + v19) (hL h18 15 r20) fun j21 =>
  wr (pI h18 960 r20 j21 (hI h18 73 t 0)) fun h22 =>
  wr (pI h22 73 t 0 ((hI h22 73 t 0) + 1)) fun h23 =>
  some (some (.inl (hI h22 73 t 0)), h23)
set_option maxRecDepth 100000 in
theorem X1_addWay_l49 (c_X11_opposite : Int32 → PH → Option Rs) (t : Nat) (x1 : Int32) (x2 : Int32) (x3 : Int32) (x5 : Nat) (h : PH) : X1_addWay_b49 c_X11_opposite [some (.inr (1, t + 1)), some (.inl x1), some (.inl x2), some (.inl x3), none, some (.inr (9, x5))] [] h = X1_addWay_f49 c_X11_opposite t x1 x2 x3 x5 h := rfl
theorem X1_addWay_w49 {z : CZ} : SK (X1_addWay_x z) 49 (X1_addWay_u49 (X1_addWay_f49 X11_opposite)) := by
  intro ls st h r e
  obtain ⟨hst, e⟩ := gL_of e
  obtain ⟨t, q0, e⟩ := gT_of e
  obtain ⟨x1, q1, e⟩ := gI_of e
  obtain ⟨x2, q2, e⟩ := gI_of e
  obtain ⟨x3, q3, e⟩ := gI_of e
  obtain ⟨x5, q4, e⟩ := gR_of e
  rw [st_0 hst]
  exact WK.sub (canon := [some (.inr (1, t + 1)), some (.inl x1), some (.inl x2), some (.inl x3), none, some (.inr (9, x5))]) rfl ⟨q0, q1, q2, q3, q4, trivial⟩ (X1_addWay_s49 _ _ _ _ ((X1_addWay_l49 X11_opposite t x1 x2 x3 x5 h).trans e))
noncomputable def X1_addWay_g49 (t : Nat) (x1 : Int32) (x2 : Int32) (x3 : Int32) (x5 : Nat) (h : PH) : Option Rs := X1_addWay_f49 X11_opposite t x1 x2 x3 x5 h
noncomputable def X1_addWay_g0 (t : Nat) (x1 : Int32) (x2 : Int32) (x3 : Int32) (x4 : Int32) (h : PH) : Option Rs := X1_addWay_f0 (X1_addWay_g49) t x1 x2 x3 x4 h
theorem X1_addWay_v49 {z : CZ} : SK (X1_addWay_x z) 49 (X1_addWay_u49 (X1_addWay_g49)) := X1_addWay_w49
noncomputable def X1_addWay (t : Nat) (x1 : Int32) (x2 : Int32) (x3 : Int32) (x4 : Int32) (h : PH) : Option Rs := X1_addWay_g0 t x1 x2 x3 x4 h
noncomputable abbrev X1_addWay_F : List PV → PH → Option Rs := FW_T1IIII (X1_addWay)
set_option maxRecDepth 100000 in
theorem X1_addWay_gd (l : Launch) : Gd l 1 yX1_addWay cX1_addWay 6 (some .int) (X1_addWay_F)   := Gd_of (by decide +kernel) (fun z hzl as h r e => by
  obtain ⟨hst, e⟩ := gL_of e
  obtain ⟨t, q0, e⟩ := gT_of e
  obtain ⟨x1, q1, e⟩ := gI_of e
  obtain ⟨x2, q2, e⟩ := gI_of e
  obtain ⟨x3, q3, e⟩ := gI_of e
  obtain ⟨x4, q4, e⟩ := gI_of e
  rw [st_5 hst q0 q1 q2 q3 q4]
  exact ⟨show 5 ≤ 6 by decide, X1_addWay_s0 (X1_addWay_v49) _ _ _ _ ((X1_addWay_l0 (X1_addWay_g49) t x1 x2 x3 x4 h).trans e)⟩)
abbrev X11_way_x (z : CZ) : CX := mx RX11 cX11_way 5 2 (some .int) "way" z
noncomputable def X11_way_b0 (c_X1_hasPlace : Nat → Int32 → PH → Option Rs) (c_X11_isWithin : Int32 → Int32 → PH → Option Rs) (c_X11_isWaySort : Int32 → PH → Option Rs) (c_X1_wayFrom : Nat → Int32 → Int32 → PH → Option Rs) (c_X11_opposite : Int32 → PH → Option Rs) (c_X1_addWay : Nat → Int32 → Int32 → Int32 → Int32 → PH → Option Rs) : Kn := (a_al 0 (a_gR 10 640 1 (a_il 1 (a_vI 1 1 (FW_T1I c_X1_hasPlace) (a_z (a_ic (-1000000001) a_ir) (a_al 0 (a_gR 10 640 1 (a_il 2 (a_vI 1 1 (FW_T1I c_X1_hasPlace) (a_z (a_ic (-1000000001) a_ir) (a_il 1 (a_il 2 (a_eq (a_ic (-1000000001) a_ir) (a_il 3 (a_ic 8 (a_sI 2 (FW_II c_X11_isWithin) (a_z (a_ic (-1000000001) a_ir) (a_il 4 (a_sI 1 (FW_I c_X11_isWaySort) (a_z (a_ic (-1000000001) a_ir) (a_al 0 (a_gR 10 640 1 (a_gI 1 73 (a_ic 20 (a_lt (a_al 0 (a_gR 10 640 1 (a_il 1 (a_il 3 (a_vI 1 2 (FW_T1II c_X1_wayFrom) (a_ic (-1) (a_eq (a_al 0 (a_gR 10 640 1 (a_il 2 (a_il 3 (a_sI 1 (FW_I c_X11_opposite) (a_vI 1 2 (FW_T1II c_X1_wayFrom) (a_ic (-1) (a_eq (a_al 0 (a_gR 10 640 1 (a_il 1 (a_il 2 (a_il 3 (a_il 4 (a_vI 1 4 (FW_T1IIII c_X1_addWay) a_ir))))))) (a_ic (-1000000002) a_ir))))))))) (a_ic (-1000000002) a_ir)))))))) (a_ic (-1000000003) a_ir))))))))))))))))))))))))))
set_option maxRecDepth 100000 in
theorem X11_way_s0 {z : CZ} : SK (X11_way_x z) 0 (X11_way_b0 X1_hasPlace X11_isWithin X11_isWaySort X1_wayFrom X11_opposite X1_addWay) := (s_aloadn (pc := 0) dX11_way_0 rfl (s_gR (pc := 1) (f := 0) ko_10 (by decide) rfl rfl w_504 dX11_way_1 (s_iloadn (pc := 4) dX11_way_4 rfl (s_vI (pc := 5) (run_virtual (X1_hasPlace_gd _) (show 1 < 2 by decide) cy_X1_hasPlace (by decide) rfl w_545 w_546 w_544 dX11_way_5) (s_ifeq (pc := 8) dX11_way_8 (by decide) (s_ldc (pc := 27) w_551 dX11_way_27 (s_ir (pc := 29) rfl dX11_way_29)) (s_aloadn (pc := 11) dX11_way_11 rfl (s_gR (pc := 12) (f := 0) ko_10 (by decide) rfl rfl w_504 dX11_way_12 (s_iloadn (pc := 15) dX11_way_15 rfl (s_vI (pc := 16) (run_virtual (X1_hasPlace_gd _) (show 1 < 2 by decide) cy_X1_hasPlace (by decide) rfl w_545 w_546 w_544 dX11_way_16) (s_ifeq (pc := 19) dX11_way_19 (by decide) (s_ldc (pc := 27) w_551 dX11_way_27 (s_ir (pc := 29) rfl dX11_way_29)) (s_iloadn (pc := 22) dX11_way_22 rfl (s_iloadn (pc := 23) dX11_way_23 rfl (s_cmpne (pc := 24) dX11_way_24 (by decide) (s_iloadn (pc := 30) dX11_way_30 rfl (s_bipush (pc := 31) dX11_way_31 c_bp_8 (s_sI (pc := 33) (run_static (X11_isWithin_gd _) (show 0 < 2 by decide) cy_X11_isWithin w_549 w_552 dX11_way_33) (s_ifeq (pc := 36) dX11_way_36 (by decide) (s_ldc (pc := 47) w_551 dX11_way_47 (s_ir (pc := 49) rfl dX11_way_49)) (s_iload (pc := 39) dX11_way_39 (s_sI (pc := 41) (run_static (X11_isWaySort_gd _) (show 1 < 2 by decide) cy_X11_isWaySort w_554 w_553 dX11_way_41) (s_ifne (pc := 44) dX11_way_44 (by decide) (s_aloadn (pc := 50) dX11_way_50 rfl (s_gR (pc := 51) (f := 0) ko_10 (by decide) rfl rfl w_504 dX11_way_51 (s_gI (pc := 54) (f := 9) ko_1 (by decide) rfl rfl w_246 dX11_way_54 (s_bipush (pc := 57) dX11_way_57 c_bp_20 (s_cmplt (pc := 59) dX11_way_59 (by decide) (s_aloadn (pc := 65) dX11_way_65 rfl (s_gR (pc := 66) (f := 0) ko_10 (by decide) rfl rfl w_504 dX11_way_66 (s_iloadn (pc := 69) dX11_way_69 rfl (s_iloadn (pc := 70) dX11_way_70 rfl (s_vI (pc := 71) (run_virtual (X1_wayFrom_gd _) (show 0 < 2 by decide) cy_X1_wayFrom (by decide) rfl w_557 w_558 w_556 dX11_way_71) (s_iconst (pc := 74) dX11_way_74 c_ic_m1 (s_cmpne (pc := 75) dX11_way_75 (by decide) (s_ldc (pc := 94) w_563 dX11_way_94 (s_ir (pc := 96) rfl dX11_way_96)) (s_aloadn (pc := 78) dX11_way_78 rfl (s_gR (pc := 79) (f := 0) ko_10 (by decide) rfl rfl w_504 dX11_way_79 (s_iloadn (pc := 82) dX11_way_82 rfl (s_iloadn (pc := 83) dX11_way_83 rfl (s_sI (pc := 84) (run_static (X11_opposite_gd _) (show 0 < 2 by decide) cy_X11_opposite w_561 w_560 dX11_way_84) (s_vI (pc := 87) (run_virtual (X1_wayFrom_gd _) (show 0 < 2 by decide) cy_X1_wayFrom (by decide) rfl w_557 w_558 w_556 dX11_way_87) (s_iconst (pc := 90) dX11_way_90 c_ic_m1 (s_cmpeq (pc := 91) dX11_way_91 (by decide) (s_aloadn (pc := 97) dX11_way_97 rfl (s_gR (pc := 98) (f := 0) ko_10 (by decide) rfl rfl w_504 dX11_way_98 (s_iloadn (pc := 101) dX11_way_101 rfl (s_iloadn (pc := 102) dX11_way_102 rfl (s_iloadn (pc := 103) dX11_way_103 rfl (s_iload (pc := 104) dX11_way_104 (s_vI (pc := 106) (run_virtual (X1_addWay_gd _) (show 1 < 2 by decide) cy_X1_addWay (by decide) rfl w_565 w_566 w_564 dX11_way_106) (s_ir (pc := 109) rfl dX11_way_109)))))))) (s_ldc (pc := 94) w_563 dX11_way_94 (s_ir (pc := 96) rfl dX11_way_96))))))))))))))))) (s_ldc (pc := 62) w_539 dX11_way_62 (s_ir (pc := 64) rfl dX11_way_64))))))) (s_ldc (pc := 47) w_551 dX11_way_47 (s_ir (pc := 49) rfl dX11_way_49))))))))) (s_ldc (pc := 27) w_551 dX11_way_27 (s_ir (pc := 29) rfl dX11_way_29)))))))))))))))
noncomputable def X11_way_f0 (c_X1_hasPlace : Nat → Int32 → PH → Option Rs) (c_X11_isWithin : Int32 → Int32 → PH → Option Rs) (c_X11_isWaySort : Int32 → PH → Option Rs) (c_X1_wayFrom : Nat → Int32 → Int32 → PH → Option Rs) (c_X11_opposite : Int32 → PH → Option Rs) (c_X1_addWay : Nat → Int32 → Int32 → Int32 → Int32 → PH → Option Rs) (t : Nat) (x1 : Int32) (x2 : Int32) (x3 : Int32) (x4 : Int32) (h : PH) : Option Rs :=
  nn (hR h 640 t 0) fun r1 =>
  cI (c_X1_hasPlace r1 x1 h) fun v3 h2 =>
  if v3 = 0 then
    some (some (.inl (-1000000001)), h2)
  else
    nn (hR h2 640 t 0) fun r4 =>
    cI (c_X1_hasPlace r4 x2 h2) fun v6 h5 =>
    if v6 = 0 then
      some (some (.inl (-1000000001)), h5)
    else
      if x1 = x2 then
        some (some (.inl (-1000000001)), h5)
      else
        cI (c_X11_isWithin x3 8 h5) fun v8 h7 =>
        if v8 = 0 then
          some (some (.inl (-1000000001)), h7)
        else
          cI (c_X11_isWaySort x4 h7) fun v10 h9 =>
          if v10 = 0 then
            some (some (.inl (-1000000001)), h9)
          else
            nn (hR h9 640 t 0) fun r11 =>
            if (hI h9 73 r11 0) < 20 then
              nn (hR h9 640 t 0) fun r12 =>
              cI (c_X1_wayFrom r12 x1 x3 h9) fun v14 h13 =>
              if v14 = (-1) then
                cI (c_X11_opposite x3 h13) fun v16 h15 =>
                nn (hR h13 640 t 0) fun r17 =>
                cI (c_X1_wayFrom r17 x2 v16 h15) fun v19 h18 =>
                if v19 = (-1) then
                  nn (hR h18 640 t 0) fun r20 =>
                  cI (c_X1_addWay r20 x1 x2 x3 x4 h18) fun v22 h21 =>
                  some (some (.inl v22), h21)
                else
                  some (some (.inl (-1000000002)), h18)
              else
                some (some (.inl (-1000000002)), h13)
            else
              some (some (.inl (-1000000003)), h9)
set_option maxRecDepth 100000 in
theorem X11_way_l0 (c_X1_hasPlace : Nat → Int32 → PH → Option Rs) (c_X11_isWithin : Int32 → Int32 → PH → Option Rs) (c_X11_isWaySort : Int32 → PH → Option Rs) (c_X1_wayFrom : Nat → Int32 → Int32 → PH → Option Rs) (c_X11_opposite : Int32 → PH → Option Rs) (c_X1_addWay : Nat → Int32 → Int32 → Int32 → Int32 → PH → Option Rs) (t : Nat) (x1 : Int32) (x2 : Int32) (x3 : Int32) (x4 : Int32) (h : PH) : X11_way_b0 c_X1_hasPlace c_X11_isWithin c_X11_isWaySort c_X1_wayFrom c_X11_opposite c_X1_addWay [some (.inr (10, t + 1)), some (.inl x1), some (.inl x2), some (.inl x3), some (.inl x4)] [] h = X11_way_f0 c_X1_hasPlace c_X11_isWithin c_X11_isWaySort c_X1_wayFrom c_X11_opposite c_X1_addWay t x1 x2 x3 x4 h := rfl
noncomputable def X11_way_g0 (t : Nat) (x1 : Int32) (x2 : Int32) (x3 : Int32) (x4 : Int32) (h : PH) : Option Rs := X11_way_f0 X1_hasPlace X11_isWithin X11_isWaySort X1_wayFrom X11_opposite X1_addWay t x1 x2 x3 x4 h
noncomputable def X11_way (t : Nat) (x1 : Int32) (x2 : Int32) (x3 : Int32) (x4 : Int32) (h : PH) : Option Rs := X11_way_g0 t x1 x2 x3 x4 h
noncomputable abbrev X11_way_F : List PV → PH → Option Rs := FW_T10IIII (X11_way)
set_option maxRecDepth 100000 in
theorem X11_way_gd (l : Launch) : Gd l 2 yX11_way cX11_way 5 (some .int) (X11_way_F)   := Gd_of (by decide +kernel) (fun z hzl as h r e => by
  obtain ⟨hst, e⟩ := gL_of e
  obtain ⟨t, q0, e⟩ := gT_of e
  obtain ⟨x1, q1, e⟩ := gI_of e
  obtain ⟨x2, q2, e⟩ := gI_of e
  obtain ⟨x3, q3, e⟩ := gI_of e
  obtain ⟨x4, q4, e⟩ := gI_of e
  rw [st_5 hst q0 q1 q2 q3 q4]
  exact ⟨show 5 ≤ 5 by decide, X11_way_s0 _ _ _ _ ((X11_way_l0 X1_hasPlace X11_isWithin X11_isWaySort X1_wayFrom X11_opposite X1_addWay t x1 x2 x3 x4 h).trans e)⟩)
abbrev X11_bit_x (z : CZ) : CX := mx RX11 cX11_bit 1 0 (some .int) "bit" z
noncomputable def X11_bit_b0 : Kn := (a_il 0 (a_z (a_ic 0 a_ir) (a_ic 1 a_ir)))
set_option maxRecDepth 100000 in
theorem X11_bit_s0 {z : CZ} : SK (X11_bit_x z) 0 (X11_bit_b0) := (s_iloadn (pc := 0) dX11_bit_0 rfl (s_ifeq (pc := 1) dX11_bit_1 (by decide) (s_iconst (pc := 8) dX11_bit_8 c_ic_0 (s_ir (pc := 9) rfl dX11_bit_9)) (s_iconst (pc := 4) dX11_bit_4 c_ic_1 (s_goto (pc := 5) dX11_bit_5 (by decide) (s_ir (pc := 9) rfl dX11_bit_9)))))
noncomputable def X11_bit_f0 (x0 : Int32) (h : PH) : Option Rs :=
  if x0 = 0 then
    some (some (.inl 0), h)
  else
    some (some (.inl 1), h)
set_option maxRecDepth 100000 in
theorem X11_bit_l0 (x0 : Int32) (h : PH) : X11_bit_b0 [some (.inl x0)] [] h = X11_bit_f0 x0 h := rfl
noncomputable def X11_bit_g0 (x0 : Int32) (h : PH) : Option Rs := X11_bit_f0 x0 h
noncomputable def X11_bit (x0 : Int32) (h : PH) : Option Rs := X11_bit_g0 x0 h
noncomputable abbrev X11_bit_F : List PV → PH → Option Rs := FW_I (X11_bit)
set_option maxRecDepth 100000 in
theorem X11_bit_gd (l : Launch) : Gd l 0 yX11_bit cX11_bit 1 (some .int) (X11_bit_F)   := Gd_of (by decide +kernel) (fun z hzl as h r e => by
  obtain ⟨hst, e⟩ := gL_of e
  obtain ⟨x0, q0, e⟩ := gI_of e
  rw [st_1 hst q0]
  exact ⟨show 1 ≤ 1 by decide, X11_bit_s0 _ _ _ _ ((X11_bit_l0 x0 h).trans e)⟩)
abbrev X1_textFor_x (z : CZ) : CX := mx RX1 cX1_textFor 3 1 (some (.object "StrangerSigns$Text")) "textFor" z
noncomputable def X1_textFor_b0 (c_X11_isWithin : Int32 → Int32 → PH → Option Rs) : Kn := (a_al 0 (a_gR 1 70 20 (a_il 1 (a_ald 20 1280 (a_is 2 (a_il 2 (a_al 0 (a_gI 1 76 (a_sI 2 (FW_II c_X11_isWithin) (a_z (a_nul 7 a_ar) (a_al 0 (a_gR 1 69 19 (a_il 2 (a_rald 19 1216 7 a_ar))))))))))))))
set_option maxRecDepth 100000 in
theorem X1_textFor_s0 {z : CZ} : SK (X1_textFor_x z) 0 (X1_textFor_b0 X11_isWithin) := (s_aloadn (pc := 0) dX1_textFor_0 rfl (s_gR (pc := 1) (f := 6) ko_1 (by decide) rfl rfl w_236 dX1_textFor_1 (s_iloadn (pc := 4) dX1_textFor_4 rfl (s_iald (pc := 5) (by decide) (by decide) rfl rfl rfl dX1_textFor_5 (s_istoren (pc := 6) dX1_textFor_6 rfl (show 2 < 3 by decide) (s_iloadn (pc := 7) dX1_textFor_7 rfl (s_aloadn (pc := 8) dX1_textFor_8 rfl (s_gI (pc := 9) (f := 12) ko_1 (by decide) rfl rfl w_256 dX1_textFor_9 (s_sI (pc := 12) (run_staticN (X11_isWithin_gd _) (show 0 < 1 by decide) cy_X11_isWithin w_549 nw_548 dX1_textFor_12) (s_ifeq (pc := 15) dX1_textFor_15 (by decide) (s_nul (pc := 27) dX1_textFor_27 (s_ar (pc := 28) (Or.inl ⟨_, rfl⟩) dX1_textFor_28)) (s_aloadn (pc := 18) dX1_textFor_18 rfl (s_gR (pc := 19) (f := 5) ko_1 (by decide) rfl rfl w_234 dX1_textFor_19 (s_iloadn (pc := 22) dX1_textFor_22 rfl (s_rald (pc := 23) (by decide) (by decide) rfl rfl rfl dX1_textFor_23 (s_goto (pc := 24) dX1_textFor_24 (by decide) (s_ar (pc := 28) (Or.inl ⟨_, rfl⟩) dX1_textFor_28))))))))))))))))
noncomputable def X1_textFor_f0 (c_X11_isWithin : Int32 → Int32 → PH → Option Rs) (t : Nat) (x1 : Int32) (h : PH) : Option Rs :=
  nn (hR h 70 t 0) fun r1 =>
  ix x1 (hL h 20 r1) fun j2 =>
  cI (c_X11_isWithin (hI h 1280 r1 j2) (hI h 76 t 0) h) fun v4 h3 =>
  if v4 = 0 then
    some (some (.inr (7, 0)), h3)
  else
    nn (hR h3 69 t 0) fun r5 =>
    ix (hI h 1280 r1 j2) (hL h3 19 r5) fun j6 =>
    some (some (.inr (7, hR h3 1216 r5 j6)), h3)
set_option maxRecDepth 100000 in
theorem X1_textFor_l0 (c_X11_isWithin : Int32 → Int32 → PH → Option Rs) (t : Nat) (x1 : Int32) (h : PH) : X1_textFor_b0 c_X11_isWithin [some (.inr (1, t + 1)), some (.inl x1), none] [] h = X1_textFor_f0 c_X11_isWithin t x1 h := rfl
noncomputable def X1_textFor_g0 (t : Nat) (x1 : Int32) (h : PH) : Option Rs := X1_textFor_f0 X11_isWithin t x1 h
noncomputable def X1_textFor (t : Nat) (x1 : Int32) (h : PH) : Option Rs := X1_textFor_g0 t x1 h
noncomputable abbrev X1_textFor_F : List PV → PH → Option Rs := FW_T1I (X1_textFor)
set_option maxRecDepth 100000 in
theorem X1_textFor_gd (l : Launch) : Gd l 1 yX1_textFor cX1_textFor 3 (some (.object "StrangerSigns$Text")) (X1_textFor_F)   := Gd_of (by decide +kernel) (fun z hzl as h r e => by
  obtain ⟨hst, e⟩ := gL_of e
  obtain ⟨t, q0, e⟩ := gT_of e
  obtain ⟨x1, q1, e⟩ := gI_of e
  rw [st_2 hst q0 q1]
  exact ⟨show 2 ≤ 3 by decide, X1_textFor_s0 _ _ _ _ ((X1_textFor_l0 X11_isWithin t x1 h).trans e)⟩)
abbrev X8_joined_x (z : CZ) : CX := mx RX8 cX8_joined 3 0 (some .int) "joined" z
noncomputable def X8_joined_b0 : Kn := (a_il 1 (a_sw [(38, (a_il 0 (a_z (a_ic 0 a_ir) (a_il 2 (a_z (a_ic 0 a_ir) (a_ic 1 a_ir)))))), (42, (a_il 0 (a_il 2 (a_b (fun a b => a * b) a_ir)))), (43, (a_il 0 (a_il 2 (a_b (fun a b => a + b) a_ir)))), (45, (a_il 0 (a_il 2 (a_b (fun a b => a - b) a_ir)))), (60, (a_il 0 (a_il 2 (a_lt (a_ic 1 a_ir) (a_ic 0 a_ir))))), (61, (a_il 0 (a_il 2 (a_eq (a_ic 1 a_ir) (a_ic 0 a_ir))))), (62, (a_il 0 (a_il 2 (a_gt (a_ic 1 a_ir) (a_ic 0 a_ir))))), (124, (a_il 0 (a_z (a_il 2 (a_z (a_ic 0 a_ir) (a_ic 1 a_ir))) (a_ic 1 a_ir))))] (a_il 2 (a_z (a_ic 0 a_ir) (a_il 0 (a_il 2 (a_div a_ir)))))))
set_option maxRecDepth 100000 in
theorem X8_joined_s0 {z : CZ} : SK (X8_joined_x z) 0 (X8_joined_b0) := (s_iloadn (pc := 0) dX8_joined_0 rfl (s_lookup (pc := 1) dX8_joined_1 (by decide) (by decide) ⟨c_ti_38, ⟨_, by decide, (s_iloadn (pc := 90) dX8_joined_90 rfl (s_ifeq (pc := 91) dX8_joined_91 (by decide) (s_iconst (pc := 102) dX8_joined_102 c_ic_0 (s_ir (pc := 103) rfl dX8_joined_103)) (s_iloadn (pc := 94) dX8_joined_94 rfl (s_ifeq (pc := 95) dX8_joined_95 (by decide) (s_iconst (pc := 102) dX8_joined_102 c_ic_0 (s_ir (pc := 103) rfl dX8_joined_103)) (s_iconst (pc := 98) dX8_joined_98 c_ic_1 (s_goto (pc := 99) dX8_joined_99 (by decide) (s_ir (pc := 103) rfl dX8_joined_103)))))))⟩, ⟨c_ti_42, ⟨_, by decide, (s_iloadn (pc := 145) dX8_joined_145 rfl (s_iloadn (pc := 146) dX8_joined_146 rfl (s_imul (pc := 147) dX8_joined_147 (s_ir (pc := 148) rfl dX8_joined_148))))⟩, ⟨c_ti_43, ⟨_, by decide, (s_iloadn (pc := 137) dX8_joined_137 rfl (s_iloadn (pc := 138) dX8_joined_138 rfl (s_iadd (pc := 139) dX8_joined_139 (s_ir (pc := 140) rfl dX8_joined_140))))⟩, ⟨c_ti_45, ⟨_, by decide, (s_iloadn (pc := 141) dX8_joined_141 rfl (s_iloadn (pc := 142) dX8_joined_142 rfl (s_isub (pc := 143) dX8_joined_143 (s_ir (pc := 144) rfl dX8_joined_144))))⟩, ⟨c_ti_60, ⟨_, by decide, (s_iloadn (pc := 104) dX8_joined_104 rfl (s_iloadn (pc := 105) dX8_joined_105 rfl (s_cmpge (pc := 106) dX8_joined_106 (by decide) (s_iconst (pc := 113) dX8_joined_113 c_ic_0 (s_ir (pc := 114) rfl dX8_joined_114)) (s_iconst (pc := 109) dX8_joined_109 c_ic_1 (s_goto (pc := 110) dX8_joined_110 (by decide) (s_ir (pc := 114) rfl dX8_joined_114))))))⟩, ⟨c_ti_61, ⟨_, by decide, (s_iloadn (pc := 115) dX8_joined_115 rfl (s_iloadn (pc := 116) dX8_joined_116 rfl (s_cmpne (pc := 117) dX8_joined_117 (by decide) (s_iconst (pc := 124) dX8_joined_124 c_ic_0 (s_ir (pc := 125) rfl dX8_joined_125)) (s_iconst (pc := 120) dX8_joined_120 c_ic_1 (s_goto (pc := 121) dX8_joined_121 (by decide) (s_ir (pc := 125) rfl dX8_joined_125))))))⟩, ⟨c_ti_62, ⟨_, by decide, (s_iloadn (pc := 126) dX8_joined_126 rfl (s_iloadn (pc := 127) dX8_joined_127 rfl (s_cmple (pc := 128) dX8_joined_128 (by decide) (s_iconst (pc := 135) dX8_joined_135 c_ic_0 (s_ir (pc := 136) rfl dX8_joined_136)) (s_iconst (pc := 131) dX8_joined_131 c_ic_1 (s_goto (pc := 132) dX8_joined_132 (by decide) (s_ir (pc := 136) rfl dX8_joined_136))))))⟩, ⟨c_ti_124, ⟨_, by decide, (s_iloadn (pc := 76) dX8_joined_76 rfl (s_ifne (pc := 77) dX8_joined_77 (by decide) (s_iconst (pc := 84) dX8_joined_84 c_ic_1 (s_goto (pc := 85) dX8_joined_85 (by decide) (s_ir (pc := 89) rfl dX8_joined_89))) (s_iloadn (pc := 80) dX8_joined_80 rfl (s_ifeq (pc := 81) dX8_joined_81 (by decide) (s_iconst (pc := 88) dX8_joined_88 c_ic_0 (s_ir (pc := 89) rfl dX8_joined_89)) (s_iconst (pc := 84) dX8_joined_84 c_ic_1 (s_goto (pc := 85) dX8_joined_85 (by decide) (s_ir (pc := 89) rfl dX8_joined_89)))))))⟩, trivial⟩⟩⟩⟩⟩⟩⟩⟩ (s_iloadn (pc := 149) dX8_joined_149 rfl (s_ifne (pc := 150) dX8_joined_150 (by decide) (s_iloadn (pc := 157) dX8_joined_157 rfl (s_iloadn (pc := 158) dX8_joined_158 rfl (s_idiv (pc := 159) dX8_joined_159 (s_ir (pc := 160) rfl dX8_joined_160)))) (s_iconst (pc := 153) dX8_joined_153 c_ic_0 (s_goto (pc := 154) dX8_joined_154 (by decide) (s_ir (pc := 160) rfl dX8_joined_160)))))))
noncomputable def X8_joined_f0 (x0 : Int32) (x1 : Int32) (x2 : Int32) (h : PH) : Option Rs :=
  if x1 = 38 then
    if x0 = 0 then
      some (some (.inl 0), h)
    else
      if x2 = 0 then
        some (some (.inl 0), h)
      else
        some (some (.inl 1), h)
  else
  if x1 = 42 then
    some (some (.inl (x0 * x2)), h)
  else
  if x1 = 43 then
    some (some (.inl (x0 + x2)), h)
  else
  if x1 = 45 then
    some (some (.inl (x0 - x2)), h)
  else
  if x1 = 60 then
    if x0 < x2 then
      some (some (.inl 1), h)
    else
      some (some (.inl 0), h)
  else
  if x1 = 61 then
    if x0 = x2 then
      some (some (.inl 1), h)
    else
      some (some (.inl 0), h)
  else
  if x1 = 62 then
    if x2 < x0 then
      some (some (.inl 1), h)
    else
      some (some (.inl 0), h)
  else
  if x1 = 124 then
    if x0 = 0 then
      if x2 = 0 then
        some (some (.inl 0), h)
      else
        some (some (.inl 1), h)
    else
      some (some (.inl 1), h)
  else
    if x2 = 0 then
      some (some (.inl 0), h)
    else
      dv x2 <|
      some (some (.inl (x0 / x2)), h)
set_option maxRecDepth 100000 in
theorem X8_joined_l0 (x0 : Int32) (x1 : Int32) (x2 : Int32) (h : PH) : X8_joined_b0 [some (.inl x0), some (.inl x1), some (.inl x2)] [] h = X8_joined_f0 x0 x1 x2 h := rfl
noncomputable def X8_joined_g0 (x0 : Int32) (x1 : Int32) (x2 : Int32) (h : PH) : Option Rs := X8_joined_f0 x0 x1 x2 h
noncomputable def X8_joined (x0 : Int32) (x1 : Int32) (x2 : Int32) (h : PH) : Option Rs := X8_joined_g0 x0 x1 x2 h
noncomputable abbrev X8_joined_F : List PV → PH → Option Rs := FW_III (X8_joined)
set_option maxRecDepth 100000 in
theorem X8_joined_gd (l : Launch) : Gd l 0 yX8_joined cX8_joined 3 (some .int) (X8_joined_F)   := Gd_of (by decide +kernel) (fun z hzl as h r e => by
  obtain ⟨hst, e⟩ := gL_of e
  obtain ⟨x0, q0, e⟩ := gI_of e
  obtain ⟨x1, q1, e⟩ := gI_of e
  obtain ⟨x2, q2, e⟩ := gI_of e
  rw [st_3 hst q0 q1 q2]
  exact ⟨show 3 ≤ 3 by decide, X8_joined_s0 _ _ _ _ ((X8_joined_l0 x0 x1 x2 h).trans e)⟩)
abbrev X8_value_x (z : CZ) : CX := mx RX8 cX8_value 8 1 (some .int) "value" z
noncomputable def X8_value_b0 (k6 : Kn) : Kn := (a_ic 0 (a_is 5 (a_ic 0 (a_is 6 k6))))
set_option maxRecDepth 100000 in
theorem X8_value_s0 {z : CZ} {k6 : Kn} (hk6 : SK (X8_value_x z) 6 k6) : SK (X8_value_x z) 0 (X8_value_b0 k6) := (s_iconst (pc := 0) dX8_value_0 c_ic_0 (s_istore (pc := 1) dX8_value_1 (show 5 < 8 by decide) (s_iconst (pc := 3) dX8_value_3 c_ic_0 (s_istore (pc := 4) dX8_value_4 (show 6 < 8 by decide) hk6))))
noncomputable def X8_value_b6 (k92 k99 : Kn) : Kn := (a_il 6 (a_al 0 (a_gR 7 450 29 (a_len 29 (a_lt (a_al 0 (a_gR 7 450 29 (a_il 6 (a_ald 29 1856 (a_is 7 (a_il 7 (a_ic (-4) (a_lt k99 (a_il 5 (a_al 0 (a_gR 7 451 30 (a_len 30 (a_lt (a_al 0 (a_gR 7 451 30 (a_il 5 (a_il 7 (a_n (a_il 7 (a_ic (-1) (a_eq (a_il 1 k92) (a_il 7 (a_ic (-2) (a_eq (a_il 2 k92) (a_il 7 (a_ic (-3) (a_eq (a_il 3 k92) (a_il 4 k92)))))))))) (a_il 7 k92)))))) k99))))))))))))) (a_il 5 (a_ic 1 (a_lt (a_ic 0 a_ir) (a_al 0 (a_gR 7 451 30 (a_ic 0 (a_ald 30 1920 a_ir))))))))))))
set_option maxRecDepth 100000 in
theorem X8_value_s6 {z : CZ} {k92 k99 : Kn} (hk92 : SK (X8_value_x z) 92 k92) (hk99 : SK (X8_value_x z) 99 k99) : SK (X8_value_x z) 6 (X8_value_b6 k92 k99) := (s_iload (pc := 6) dX8_value_6 (s_aloadn (pc := 8) dX8_value_8 rfl (s_gR (pc := 9) (f := 2) ko_7 (by decide) rfl rfl w_928 dX8_value_9 (s_len (pc := 12) (by decide) (by decide) rfl dX8_value_12 (s_cmpge (pc := 13) dX8_value_13 (by decide) (s_iload (pc := 190) dX8_value_190 (s_iconst (pc := 192) dX8_value_192 c_ic_1 (s_cmplt (pc := 193) dX8_value_193 (by decide) (s_iconst (pc := 205) dX8_value_205 c_ic_0 (s_ir (pc := 206) rfl dX8_value_206)) (s_aloadn (pc := 196) dX8_value_196 rfl (s_gR (pc := 197) (f := 3) ko_7 (by decide) rfl rfl w_929 dX8_value_197 (s_iconst (pc := 200) dX8_value_200 c_ic_0 (s_iald (pc := 201) (by decide) (by decide) rfl rfl rfl dX8_value_201 (s_goto (pc := 202) dX8_value_202 (by decide) (s_ir (pc := 206) rfl dX8_value_206))))))))) (s_aloadn (pc := 16) dX8_value_16 rfl (s_gR (pc := 17) (f := 2) ko_7 (by decide) rfl rfl w_928 dX8_value_17 (s_iload (pc := 20) dX8_value_20 (s_iald (pc := 22) (by decide) (by decide) rfl rfl rfl dX8_value_22 (s_istore (pc := 23) dX8_value_23 (show 7 < 8 by decide) (s_iload (pc := 25) dX8_value_25 (s_bipush (pc := 27) dX8_value_27 c_bp_m4 (s_cmplt (pc := 29) dX8_value_29 (by decide) hk99 (s_iload (pc := 32) dX8_value_32 (s_aloadn (pc := 34) dX8_value_34 rfl (s_gR (pc := 35) (f := 3) ko_7 (by decide) rfl rfl w_929 dX8_value_35 (s_len (pc := 38) (by decide) (by decide) rfl dX8_value_38 (s_cmpge (pc := 39) dX8_value_39 (by decide) hk99 (s_aloadn (pc := 42) dX8_value_42 rfl (s_gR (pc := 43) (f := 3) ko_7 (by decide) rfl rfl w_929 dX8_value_43 (s_iload (pc := 46) dX8_value_46 (s_iload (pc := 48) dX8_value_48 (s_iflt (pc := 50) dX8_value_50 (by decide) (s_iload (pc := 58) dX8_value_58 (s_iconst (pc := 60) dX8_value_60 c_ic_m1 (s_cmpne (pc := 61) dX8_value_61 (by decide) (s_iload (pc := 68) dX8_value_68 (s_bipush (pc := 70) dX8_value_70 c_bp_m2 (s_cmpne (pc := 72) dX8_value_72 (by decide) (s_iload (pc := 79) dX8_value_79 (s_bipush (pc := 81) dX8_value_81 c_bp_m3 (s_cmpne (pc := 83) dX8_value_83 (by decide) (s_iload (pc := 90) dX8_value_90 hk92) (s_iloadn (pc := 86) dX8_value_86 rfl (s_goto (pc := 87) dX8_value_87 (by decide) hk92))))) (s_iloadn (pc := 75) dX8_value_75 rfl (s_goto (pc := 76) dX8_value_76 (by decide) hk92))))) (s_iloadn (pc := 64) dX8_value_64 rfl (s_goto (pc := 65) dX8_value_65 (by decide) hk92))))) (s_iload (pc := 53) dX8_value_53 (s_goto (pc := 55) dX8_value_55 (by decide) hk92)))))))))))))))))))))))))
noncomputable def X8_value_b92 (k184 : Kn) : Kn := (a_ast 30 1920 (fun a => a) (a_inc 5 1 k184))
set_option maxRecDepth 100000 in
theorem X8_value_s92 {z : CZ} {k184 : Kn} (hk184 : SK (X8_value_x z) 184 k184) : SK (X8_value_x z) 92 (X8_value_b92 k184) := (s_iast (pc := 92) (by decide) (by decide) rfl rfl rfl dX8_value_92 (s_iinc (pc := 93) dX8_value_93 c_ic_1 (show 5 < 8 by decide) (s_goto (pc := 96) dX8_value_96 (by decide) hk184)))
noncomputable def X8_value_b99 (k137 k144 : Kn) : Kn := (a_il 7 (a_ic (-33) (a_eq (a_il 5 (a_ic 1 (a_lt k144 (a_al 0 (a_gR 7 451 30 (a_il 5 (a_ic 1 (a_b (fun a b => a - b) (a_al 0 (a_gR 7 451 30 (a_il 5 (a_ic 1 (a_b (fun a b => a - b) (a_ald 30 1920 (a_z (a_ic 1 k137) (a_ic 0 k137)))))))))))))))) k144)))
set_option maxRecDepth 100000 in
theorem X8_value_s99 {z : CZ} {k137 k144 : Kn} (hk137 : SK (X8_value_x z) 137 k137) (hk144 : SK (X8_value_x z) 144 k144) : SK (X8_value_x z) 99 (X8_value_b99 k137 k144) := (s_iload (pc := 99) dX8_value_99 (s_bipush (pc := 101) dX8_value_101 c_bp_m33 (s_cmpne (pc := 103) dX8_value_103 (by decide) hk144 (s_iload (pc := 106) dX8_value_106 (s_iconst (pc := 108) dX8_value_108 c_ic_1 (s_cmplt (pc := 109) dX8_value_109 (by decide) hk144 (s_aloadn (pc := 112) dX8_value_112 rfl (s_gR (pc := 113) (f := 3) ko_7 (by decide) rfl rfl w_929 dX8_value_113 (s_iload (pc := 116) dX8_value_116 (s_iconst (pc := 118) dX8_value_118 c_ic_1 (s_isub (pc := 119) dX8_value_119 (s_aloadn (pc := 120) dX8_value_120 rfl (s_gR (pc := 121) (f := 3) ko_7 (by decide) rfl rfl w_929 dX8_value_121 (s_iload (pc := 124) dX8_value_124 (s_iconst (pc := 126) dX8_value_126 c_ic_1 (s_isub (pc := 127) dX8_value_127 (s_iald (pc := 128) (by decide) (by decide) rfl rfl rfl dX8_value_128 (s_ifne (pc := 129) dX8_value_129 (by decide) (s_iconst (pc := 136) dX8_value_136 c_ic_0 hk137) (s_iconst (pc := 132) dX8_value_132 c_ic_1 (s_goto (pc := 133) dX8_value_133 (by decide) hk137))))))))))))))))))))
noncomputable def X8_value_b137 (c_X11_bit : Int32 → PH → Option Rs) (k184 : Kn) : Kn := (a_sI 1 (FW_I c_X11_bit) (a_ast 30 1920 (fun a => a) k184))
set_option maxRecDepth 100000 in
theorem X8_value_s137 {z : CZ} {k184 : Kn} (hk184 : SK (X8_value_x z) 184 k184) : SK (X8_value_x z) 137 (X8_value_b137 X11_bit k184) := (s_sI (pc := 137) (run_staticN (X11_bit_gd _) (show 0 < 1 by decide) cy_X11_bit w_574 nw_588 dX8_value_137) (s_iast (pc := 140) (by decide) (by decide) rfl rfl rfl dX8_value_140 (s_goto (pc := 141) dX8_value_141 (by decide) hk184)))
noncomputable def X8_value_b144 (c_X8_joined : Int32 → Int32 → Int32 → PH → Option Rs) (k184 : Kn) : Kn := (a_il 5 (a_ic 2 (a_lt k184 (a_inc 5 (-1) (a_al 0 (a_gR 7 451 30 (a_il 5 (a_ic 1 (a_b (fun a b => a - b) (a_al 0 (a_gR 7 451 30 (a_il 5 (a_ic 1 (a_b (fun a b => a - b) (a_ald 30 1920 (a_il 7 (a_u (fun a => -a) (a_al 0 (a_gR 7 451 30 (a_il 5 (a_ald 30 1920 (a_sI 3 (FW_III c_X8_joined) (a_ast 30 1920 (fun a => a) k184)))))))))))))))))))))))
set_option maxRecDepth 100000 in
theorem X8_value_s144 {z : CZ} {k184 : Kn} (hk184 : SK (X8_value_x z) 184 k184) : SK (X8_value_x z) 144 (X8_value_b144 X8_joined k184) := (s_iload (pc := 144) dX8_value_144 (s_iconst (pc := 146) dX8_value_146 c_ic_2 (s_cmplt (pc := 147) dX8_value_147 (by decide) hk184 (s_iinc (pc := 150) dX8_value_150 c_ic_m1 (show 5 < 8 by decide) (s_aloadn (pc := 153) dX8_value_153 rfl (s_gR (pc := 154) (f := 3) ko_7 (by decide) rfl rfl w_929 dX8_value_154 (s_iload (pc := 157) dX8_value_157 (s_iconst (pc := 159) dX8_value_159 c_ic_1 (s_isub (pc := 160) dX8_value_160 (s_aloadn (pc := 161) dX8_value_161 rfl (s_gR (pc := 162) (f := 3) ko_7 (by decide) rfl rfl w_929 dX8_value_162 (s_iload (pc := 165) dX8_value_165 (s_iconst (pc := 167) dX8_value_167 c_ic_1 (s_isub (pc := 168) dX8_value_168 (s_iald (pc := 169) (by decide) (by decide) rfl rfl rfl dX8_value_169 (s_iload (pc := 170) dX8_value_170 (s_ineg (pc := 172) dX8_value_172 (s_aloadn (pc := 173) dX8_value_173 rfl (s_gR (pc := 174) (f := 3) ko_7 (by decide) rfl rfl w_929 dX8_value_174 (s_iload (pc := 177) dX8_value_177 (s_iald (pc := 179) (by decide) (by decide) rfl rfl rfl dX8_value_179 (s_sI (pc := 180) (run_static (X8_joined_gd _) (show 0 < 1 by decide) cy_X8_joined w_590 w_589 dX8_value_180) (s_iast (pc := 183) (by decide) (by decide) rfl rfl rfl dX8_value_183 hk184)))))))))))))))))))))))
noncomputable def X8_value_b184 (k6 : Kn) : Kn := (a_inc 6 1 k6)
set_option maxRecDepth 100000 in
theorem X8_value_s184 {z : CZ} {k6 : Kn} (hk6 : SK (X8_value_x z) 6 k6) : SK (X8_value_x z) 184 (X8_value_b184 k6) := (s_iinc (pc := 184) dX8_value_184 c_ic_1 (show 6 < 8 by decide) (s_goto (pc := 187) dX8_value_187 (by decide) hk6))
noncomputable def X8_value_u6 (g : Nat → Int32 → Int32 → Int32 → Int32 → Int32 → Int32 → PH → Option Rs) : Kn := fun ls st h => gL 0 st (gT 7 ls 0 fun t => gI ls 1 fun x1 => gI ls 2 fun x2 => gI ls 3 fun x3 => gI ls 4 fun x4 => gI ls 5 fun x5 => gI ls 6 fun x6 => g t x1 x2 x3 x4 x5 x6 h)
noncomputable def X8_value_u92 (g : Nat → Int32 → Int32 → Int32 → Int32 → Int32 → Int32 → Int32 → Int32 → Nat → PH → Option Rs) : Kn := fun ls st h => gL 3 st (gT 7 ls 0 fun t => gI ls 1 fun x1 => gI ls 2 fun x2 => gI ls 3 fun x3 => gI ls 4 fun x4 => gI ls 5 fun x5 => gI ls 6 fun x6 => gI (st.map some) 0 fun s0 => gI (st.map some) 1 fun s1 => gR 30 (st.map some) 2 fun s2 => g t x1 x2 x3 x4 x5 x6 s0 s1 s2 h)
noncomputable def X8_value_u99 (g : Nat → Int32 → Int32 → Int32 → Int32 → Int32 → Int32 → Int32 → PH → Option Rs) : Kn := fun ls st h => gL 0 st (gT 7 ls 0 fun t => gI ls 1 fun x1 => gI ls 2 fun x2 => gI ls 3 fun x3 => gI ls 4 fun x4 => gI ls 5 fun x5 => gI ls 6 fun x6 => gI ls 7 fun x7 => g t x1 x2 x3 x4 x5 x6 x7 h)
noncomputable def X8_value_u137 (g : Nat → Int32 → Int32 → Int32 → Int32 → Int32 → Int32 → Int32 → Int32 → Nat → PH → Option Rs) : Kn := fun ls st h => gL 3 st (gT 7 ls 0 fun t => gI ls 1 fun x1 => gI ls 2 fun x2 => gI ls 3 fun x3 => gI ls 4 fun x4 => gI ls 5 fun x5 => gI ls 6 fun x6 => gI (st.map some) 0 fun s0 => gI (st.map some) 1 fun s1 => gR 30 (st.map some) 2 fun s2 => g t x1 x2 x3 x4 x5 x6 s0 s1 s2 h)
noncomputable def X8_value_u144 (g : Nat → Int32 → Int32 → Int32 → Int32 → Int32 → Int32 → Int32 → PH → Option Rs) : Kn := fun ls st h => gL 0 st (gT 7 ls 0 fun t => gI ls 1 fun x1 => gI ls 2 fun x2 => gI ls 3 fun x3 => gI ls 4 fun x4 => gI ls 5 fun x5 => gI ls 6 fun x6 => gI ls 7 fun x7 => g t x1 x2 x3 x4 x5 x6 x7 h)
noncomputable def X8_value_u184 (g : Nat → Int32 → Int32 → Int32 → Int32 → Int32 → Int32 → PH → Option Rs) : Kn := fun ls st h => gL 0 st (gT 7 ls 0 fun t => gI ls 1 fun x1 => gI ls 2 fun x2 => gI ls 3 fun x3 => gI ls 4 fun x4 => gI ls 5 fun x5 => gI ls 6 fun x6 => g t x1 x2 x3 x4 x5 x6 h)
noncomputable def X8_value_f0 (g6 : Nat → Int32 → Int32 → Int32 → Int32 → Int32 → Int32 → PH → Option Rs) (t : Nat) (x1 : Int32) (x2 : Int32) (x3 : Int32) (x4 : Int32) (h : PH) : Option Rs :=
  g6 t x1 x2 x3 x4 0 0 h
set_option maxRecDepth 100000 in
theorem X8_value_l0 (g6 : Nat → Int32 → Int32 → Int32 → Int32 → Int32 → Int32 → PH → Option Rs) (t : Nat) (x1 : Int32) (x2 : Int32) (x3 : Int32) (x4 : Int32) (h : PH) : X8_value_b0 (X8_value_u6 g6) [some (.inr (7, t + 1)), some (.inl x1), some (.inl x2), some (.inl x3), some (.inl x4), none, none, none] [] h = X8_value_f0 g6 t x1 x2 x3 x4 h := rfl
theorem X8_value_m0 {g6 G6 : Nat → Int32 → Int32 → Int32 → Int32 → Int32 → Int32 → PH → Option Rs} (hg6 : ∀ a0 a1 a2 a3 a4 a5 a6 a7, Mo (g6 a0 a1 a2 a3 a4 a5 a6 a7) (G6 a0 a1 a2 a3 a4 a5 a6 a7)) (t : Nat) (x1 : Int32) (x2 : Int32) (x3 : Int32) (x4 : Int32) (h : PH) : Mo (X8_value_f0 g6 t x1 x2 x3 x4 h) (X8_value_f0 G6 t x1 x2 x3 x4 h) := (hg6 t x1 x2 x3 x4 0 0 h)
noncomputable def X8_value_f6 (g92 : Nat → Int32 → Int32 → Int32 → Int32 → Int32 → Int32 → Int32 → Int32 → Nat → PH → Option Rs) (g99 : Nat → Int32 → Int32 → Int32 → Int32 → Int32 → Int32 → Int32 → PH → Option Rs) (t : Nat) (x1 : Int32) (x2 : Int32) (x3 : Int32) (x4 : Int32) (x5 : Int32) (x6 : Int32) (h : PH) : Option Rs :=
  nn (hR h 450 t 0) fun r1 =>
  if x6 < (Int32.ofNat (hL h 29 r1)) then
    nn (hR h 450 t 0) fun r4 =>
    ix x6 (hL h 29 r4) fun j5 =>
    if (hI h 1856 r4 j5) < (-4) then
      g99 t x1 x2 x3 x4 x5 x6 (hI h 1856 r4 j5) h
    else
      nn (hR h 451 t 0) fun r6 =>
      if x5 < (Int32.ofNat (hL h 30 r6)) then
        if (hI h 1856 r4 j5) < 0 then
          if (hI h 1856 r4 j5) = (-1) then
            g92 t x1 x2 x3 x4 x5 x6 x1 x5 (hR h 451 t 0) h
          else
            if (hI h 1856 r4 j5) = (-2) then
              g92 t x1 x2 x3 x4 x5 x6 x2 x5 (hR h 451 t 0) h
            else
              if (hI h 1856 r4 j5) = (-3) then
                g92 t x1 x2 x3 x4 x5 x6 x3 x5 (hR h 451 t 0) h
              else
                g92 t x1 x2 x3 x4 x5 x6 x4 x5 (hR h 451 t 0) h
        else
          g92 t x1 x2 x3 x4 x5 x6 (hI h 1856 r4 j5) x5 (hR h 451 t 0) h
      else
        g99 t x1 x2 x3 x4 x5 x6 (hI h 1856 r4 j5) h
  else
    if x5 < 1 then
      some (some (.inl 0), h)
    else
      nn (hR h 451 t 0) fun r2 =>
      ix 0 (hL h 30 r2) fun j3 =>
      some (some (.inl (hI h 1920 r2 j3)), h)
set_option maxRecDepth 100000 in
theorem X8_value_l6 (g92 : Nat → Int32 → Int32 → Int32 → Int32 → Int32 → Int32 → Int32 → Int32 → Nat → PH → Option Rs) (g99 : Nat → Int32 → Int32 → Int32 → Int32 → Int32 → Int32 → Int32 → PH → Option Rs) (t : Nat) (x1 : Int32) (x2 : Int32) (x3 : Int32) (x4 : Int32) (x5 : Int32) (x6 : Int32) (h : PH) : X8_value_b6 (X8_value_u92 g92) (X8_value_u99 g99) [some (.inr (7, t + 1)), some (.inl x1), some (.inl x2), some (.inl x3), some (.inl x4), some (.inl x5), some (.inl x6), none] [] h = X8_value_f6 g92 g99 t x1 x2 x3 x4 x5 x6 h := rfl
theorem X8_value_m6 {g92 G92 : Nat → Int32 → Int32 → Int32 → Int32 → Int32 → Int32 → Int32 → Int32 → Nat → PH → Option Rs} {g99 G99 : Nat → Int32 → Int32 → Int32 → Int32 → Int32 → Int32 → Int32 → PH → Option Rs} (hg92 : ∀ a0 a1 a2 a3 a4 a5 a6 a7 a8 a9 a10, Mo (g92 a0 a1 a2 a3 a4 a5 a6 a7 a8 a9 a10) (G92 a0 a1 a2 a3 a4 a5 a6 a7 a8 a9 a10)) (hg99 : ∀ a0 a1 a2 a3 a4 a5 a6 a7 a8, Mo (g99 a0 a1 a2 a3 a4 a5 a6 a7 a8) (G99 a0 a1 a2 a3 a4 a5 a6 a7 a8)) (t : Nat) (x1 : Int32) (x2 : Int32) (x3 : Int32) (x4 : Int32) (x5 : Int32) (x6 : Int32) (h : PH) : Mo (X8_value_f6 g92 g99 t x1 x2 x3 x4 x5 x6 h) (X8_value_f6 G92 G99 t x1 x2 x3 x4 x5 x6 h) := (mo_nn fun r1 => (mo_if (mo_nn fun r4 => (mo_ix fun j5 => (mo_if (hg99 t x1 x2 x3 x4 x5 x6 (hI h 1856 r4 j5) h) (mo_nn fun r6 => (mo_if (mo_if (mo_if (hg92 t x1 x2 x3 x4 x5 x6 x1 x5 (hR h 451 t 0) h) (mo_if (hg92 t x1 x2 x3 x4 x5 x6 x2 x5 (hR h 451 t 0) h) (mo_if (hg92 t x1 x2 x3 x4 x5 x6 x3 x5 (hR h 451 t 0) h) (hg92 t x1 x2 x3 x4 x5 x6 x4 x5 (hR h 451 t 0) h)))) (hg92 t x1 x2 x3 x4 x5 x6 (hI h 1856 r4 j5) x5 (hR h 451 t 0) h)) (hg99 t x1 x2 x3 x4 x5 x6 (hI h 1856 r4 j5) h)))))) (mo_if mo_rf (mo_nn fun r2 => (mo_ix fun j3 => mo_rf)))))
theorem X8_value_w6 {z : CZ} {g92 : Nat → Int32 → Int32 → Int32 → Int32 → Int32 → Int32 → Int32 → Int32 → Nat → PH → Option Rs} {g99 : Nat → Int32 → Int32 → Int32 → Int32 → Int32 → Int32 → Int32 → PH → Option Rs} (hk92 : SK (X8_value_x z) 92 (X8_value_u92 g92)) (hk99 : SK (X8_value_x z) 99 (X8_value_u99 g99)) : SK (X8_value_x z) 6 (X8_value_u6 (X8_value_f6 g92 g99)) := by
  intro ls st h r e
  obtain ⟨hst, e⟩ := gL_of e
  obtain ⟨t, q0, e⟩ := gT_of e
  obtain ⟨x1, q1, e⟩ := gI_of e
  obtain ⟨x2, q2, e⟩ := gI_of e
  obtain ⟨x3, q3, e⟩ := gI_of e
  obtain ⟨x4, q4, e⟩ := gI_of e
  obtain ⟨x5, q5, e⟩ := gI_of e
  obtain ⟨x6, q6, e⟩ := gI_of e
  rw [st_0 hst]
  exact WK.sub (canon := [some (.inr (7, t + 1)), some (.inl x1), some (.inl x2), some (.inl x3), some (.inl x4), some (.inl x5), some (.inl x6), none]) rfl ⟨q0, q1, q2, q3, q4, q5, q6, trivial⟩ (X8_value_s6 hk92 hk99 _ _ _ _ ((X8_value_l6 g92 g99 t x1 x2 x3 x4 x5 x6 h).trans e))
noncomputable def X8_value_f92 (g184 : Nat → Int32 → Int32 → Int32 → Int32 → Int32 → Int32 → PH → Option Rs) (t : Nat) (x1 : Int32) (x2 : Int32) (x3 : Int32) (x4 : Int32) (x5 : Int32) (x6 : Int32) (s0 : Int32) (s1 : Int32) (s2 : Nat) (h : PH) : Option Rs :=
  nn s2 fun r7 =>
  ix s1 (hL h 30 r7) fun j8 =>
  wr (pI h 1920 r7 j8 s0) fun h9 =>
  g184 t x1 x2 x3 x4 (x5 + 1) x6 h9
set_option maxRecDepth 100000 in
theorem X8_value_l92 (g184 : Nat → Int32 → Int32 → Int32 → Int32 → Int32 → Int32 → PH → Option Rs) (t : Nat) (x1 : Int32) (x2 : Int32) (x3 : Int32) (x4 : Int32) (x5 : Int32) (x6 : Int32) (s0 : Int32) (s1 : Int32) (s2 : Nat) (h : PH) : X8_value_b92 (X8_value_u184 g184) [some (.inr (7, t + 1)), some (.inl x1), some (.inl x2), some (.inl x3), some (.inl x4), some (.inl x5), some (.inl x6), none] [.inl s0, .inl s1, .inr (30, s2)] h = X8_value_f92 g184 t x1 x2 x3 x4 x5 x6 s0 s1 s2 h := rfl
theorem X8_value_m92 {g184 G184 : Nat → Int32 → Int32 → Int32 → Int32 → Int32 → Int32 → PH → Option Rs} (hg184 : ∀ a0 a1 a2 a3 a4 a5 a6 a7, Mo (g184 a0 a1 a2 a3 a4 a5 a6 a7) (G184 a0 a1 a2 a3 a4 a5 a6 a7)) (t : Nat) (x1 : Int32) (x2 : Int32) (x3 : Int32) (x4 : Int32) (x5 : Int32) (x6 : Int32) (s0 : Int32) (s1 : Int32) (s2 : Nat) (h : PH) : Mo (X8_value_f92 g184 t x1 x2 x3 x4 x5 x6 s0 s1 s2 h) (X8_value_f92 G184 t x1 x2 x3 x4 x5 x6 s0 s1 s2 h) := (mo_nn fun r7 => (mo_ix fun j8 => (mo_wr fun h9 => (hg184 t x1 x2 x3 x4 (x5 + 1) x6 h9))))
theorem X8_value_w92 {z : CZ} {g184 : Nat → Int32 → Int32 → Int32 → Int32 → Int32 → Int32 → PH → Option Rs} (hk184 : SK (X8_value_x z) 184 (X8_value_u184 g184)) : SK (X8_value_x z) 92 (X8_value_u92 (X8_value_f92 g184)) := by
  intro ls st h r e
  obtain ⟨hst, e⟩ := gL_of e
  obtain ⟨t, q0, e⟩ := gT_of e
  obtain ⟨x1, q1, e⟩ := gI_of e
  obtain ⟨x2, q2, e⟩ := gI_of e
  obtain ⟨x3, q3, e⟩ := gI_of e
  obtain ⟨x4, q4, e⟩ := gI_of e
  obtain ⟨x5, q5, e⟩ := gI_of e
  obtain ⟨x6, q6, e⟩ := gI_of e
  obtain ⟨s0, q7, e⟩ := gI_of e
  obtain ⟨s1, q8, e⟩ := gI_of e
  obtain ⟨s2, q9, e⟩ := gR_of e
  rw [st_3 hst q7 q8 q9]
  exact WK.sub (canon := [some (.inr (7, t + 1)), some (.inl x1), some (.inl x2), some (.inl x3), some (.inl x4), some (.inl x5), some (.inl x6), none]) rfl ⟨q0, q1, q2, q3, q4, q5, q6, trivial⟩ (X8_value_s92 hk184 _ _ _ _ ((X8_value_l92 g184 t x1 x2 x3 x4 x5 x6 s0 s1 s2 h).trans e))
noncomputable def X8_value_f99 (g137 : Nat → Int32 → Int32 → Int32 → Int32 → Int32 → Int32 → Int32 → Int32 → Nat → PH → Option Rs) (g144 : Nat → Int32 → Int32 → Int32 → Int32 → Int32 → Int32 → Int32 → PH → Option Rs) (t : Nat) (x1 : Int32) (x2 : Int32) (x3 : Int32) (x4 : Int32) (x5 : Int32) (x6 : Int32) (x7 : Int32) (h : PH) : Option Rs :=
  if x7 = (-33) then
    if x5 < 1 then
      g144 t x1 x2 x3 x4 x5 x6 x7 h
    else
      nn (hR h 451 t 0) fun r10 =>
      ix (x5 - 1) (hL h 30 r10) fun j11 =>
      if (hI h 1920 r10 j11) = 0 then
        g137 t x1 x2 x3 x4 x5 x6 1 (x5 - 1) (hR h 451 t 0) h
      else
        g137 t x1 x2 x3 x4 x5 x6 0 (x5 - 1) (hR h 451 t 0) h
  else
    g144 t x1 x2 x3 x4 x5 x6 x7 h
set_option maxRecDepth 100000 in
theorem X8_value_l99 (g137 : Nat → Int32 → Int32 → Int32 → Int32 → Int32 → Int32 → Int32 → Int32 → Nat → PH → Option Rs) (g144 : Nat → Int32 → Int32 → Int32 → Int32 → Int32 → Int32 → Int32 → PH → Option Rs) (t : Nat) (x1 : Int32) (x2 : Int32) (x3 : Int32) (x4 : Int32) (x5 : Int32) (x6 : Int32) (x7 : Int32) (h : PH) : X8_value_b99 (X8_value_u137 g137) (X8_value_u144 g144) [some (.inr (7, t + 1)), some (.inl x1), some (.inl x2), some (.inl x3), some (.inl x4), some (.inl x5), some (.inl x6), some (.inl x7)] [] h = X8_value_f99 g137 g144 t x1 x2 x3 x4 x5 x6 x7 h := rfl
theorem X8_value_m99 {g137 G137 : Nat → Int32 → Int32 → Int32 → Int32 → Int32 → Int32 → Int32 → Int32 → Nat → PH → Option Rs} {g144 G144 : Nat → Int32 → Int32 → Int32 → Int32 → Int32 → Int32 → Int32 → PH → Option Rs} (hg137 : ∀ a0 a1 a2 a3 a4 a5 a6 a7 a8 a9 a10, Mo (g137 a0 a1 a2 a3 a4 a5 a6 a7 a8 a9 a10) (G137 a0 a1 a2 a3 a4 a5 a6 a7 a8 a9 a10)) (hg144 : ∀ a0 a1 a2 a3 a4 a5 a6 a7 a8, Mo (g144 a0 a1 a2 a3 a4 a5 a6 a7 a8) (G144 a0 a1 a2 a3 a4 a5 a6 a7 a8)) (t : Nat) (x1 : Int32) (x2 : Int32) (x3 : Int32) (x4 : Int32) (x5 : Int32) (x6 : Int32) (x7 : Int32) (h : PH) : Mo (X8_value_f99 g137 g144 t x1 x2 x3 x4 x5 x6 x7 h) (X8_value_f99 G137 G144 t x1 x2 x3 x4 x5 x6 x7 h) := (mo_if (mo_if (hg144 t x1 x2 x3 x4 x5 x6 x7 h) (mo_nn fun r10 => (mo_ix fun j11 => (mo_if (hg137 t x1 x2 x3 x4 x5 x6 1 (x5 - 1) (hR h 451 t 0) h) (hg137 t x1 x2 x3 x4 x5 x6 0 (x5 - 1) (hR h 451 t 0) h))))) (hg144 t x1 x2 x3 x4 x5 x6 x7 h))
theorem X8_value_w99 {z : CZ} {g137 : Nat → Int32 → Int32 → Int32 → Int32 → Int32 → Int32 → Int32 → Int32 → Nat → PH → Option Rs} {g144 : Nat → Int32 → Int32 → Int32 → Int32 → Int32 → Int32 → Int32 → PH → Option Rs} (hk137 : SK (X8_value_x z) 137 (X8_value_u137 g137)) (hk144 : SK (X8_value_x z) 144 (X8_value_u144 g144)) : SK (X8_value_x z) 99 (X8_value_u99 (X8_value_f99 g137 g144)) := by
  intro ls st h r e
  obtain ⟨hst, e⟩ := gL_of e
  obtain ⟨t, q0, e⟩ := gT_of e
  obtain ⟨x1, q1, e⟩ := gI_of e
  obtain ⟨x2, q2, e⟩ := gI_of e
  obtain ⟨x3, q3, e⟩ := gI_of e
  obtain ⟨x4, q4, e⟩ := gI_of e
  obtain ⟨x5, q5, e⟩ := gI_of e
  obtain ⟨x6, q6, e⟩ := gI_of e
  obtain ⟨x7, q7, e⟩ := gI_of e
  rw [st_0 hst]
  exact WK.sub (canon := [some (.inr (7, t + 1)), some (.inl x1), some (.inl x2), some (.inl x3), some (.inl x4), some (.inl x5), some (.inl x6), some (.inl x7)]) rfl ⟨q0, q1, q2, q3, q4, q5, q6, q7, trivial⟩ (X8_value_s99 hk137 hk144 _ _ _ _ ((X8_value_l99 g137 g144 t x1 x2 x3 x4 x5 x6 x7 h).trans e))
noncomputable def X8_value_f137 (c_X11_bit : Int32 → PH → Option Rs) (g184 : Nat → Int32 → Int32 → Int32 → Int32 → Int32 → Int32 → PH → Option Rs) (t : Nat) (x1 : Int32) (x2 : Int32) (x3 : Int32) (x4 : Int32) (x5 : Int32) (x6 : Int32) (s0 : Int32) (s1 : Int32) (s2 : Nat) (h : PH) : Option Rs :=
  cI (c_X11_bit s0 h) fun v13 h12 =>
  nn s2 fun r14 =>
  ix s1 (hL h12 30 r14) fun j15 =>
  wr (pI h12 1920 r14 j15 v13) fun h16 =>
  g184 t x1 x2 x3 x4 x5 x6 h16
set_option maxRecDepth 100000 in
theorem X8_value_l137 (c_X11_bit : Int32 → PH → Option Rs) (g184 : Nat → Int32 → Int32 → Int32 → Int32 → Int32 → Int32 → PH → Option Rs) (t : Nat) (x1 : Int32) (x2 : Int32) (x3 : Int32) (x4 : Int32) (x5 : Int32) (x6 : Int32) (s0 : Int32) (s1 : Int32) (s2 : Nat) (h : PH) : X8_value_b137 c_X11_bit (X8_value_u184 g184) [some (.inr (7, t + 1)), some (.inl x1), some (.inl x2), some (.inl x3), some (.inl x4), some (.inl x5), some (.inl x6), none] [.inl s0, .inl s1, .inr (30, s2)] h = X8_value_f137 c_X11_bit g184 t x1 x2 x3 x4 x5 x6 s0 s1 s2 h := rfl
theorem X8_value_m137 {c_X11_bit : Int32 → PH → Option Rs} {g184 G184 : Nat → Int32 → Int32 → Int32 → Int32 → Int32 → Int32 → PH → Option Rs} (hg184 : ∀ a0 a1 a2 a3 a4 a5 a6 a7, Mo (g184 a0 a1 a2 a3 a4 a5 a6 a7) (G184 a0 a1 a2 a3 a4 a5 a6 a7)) (t : Nat) (x1 : Int32) (x2 : Int32) (x3 : Int32) (x4 : Int32) (x5 : Int32) (x6 : Int32) (s0 : Int32) (s1 : Int32) (s2 : Nat) (h : PH) : Mo (X8_value_f137 c_X11_bit g184 t x1 x2 x3 x4 x5 x6 s0 s1 s2 h) (X8_value_f137 c_X11_bit G184 t x1 x2 x3 x4 x5 x6 s0 s1 s2 h) := (mo_cI fun v13 h12 => (mo_nn fun r14 => (mo_ix fun j15 => (mo_wr fun h16 => (hg184 t x1 x2 x3 x4 x5 x6 h16)))))
theorem X8_value_w137 {z : CZ} {g184 : Nat → Int32 → Int32 → Int32 → Int32 → Int32 → Int32 → PH → Option Rs} (hk184 : SK (X8_value_x z) 184 (X8_value_u184 g184)) : SK (X8_value_x z) 137 (X8_value_u137 (X8_value_f137 X11_bit g184)) := by
  intro ls st h r e
  obtain ⟨hst, e⟩ := gL_of e
  obtain ⟨t, q0, e⟩ := gT_of e
  obtain ⟨x1, q1, e⟩ := gI_of e
  obtain ⟨x2, q2, e⟩ := gI_of e
  obtain ⟨x3, q3, e⟩ := gI_of e
  obtain ⟨x4, q4, e⟩ := gI_of e
  obtain ⟨x5, q5, e⟩ := gI_of e
  obtain ⟨x6, q6, e⟩ := gI_of e
  obtain ⟨s0, q7, e⟩ := gI_of e
  obtain ⟨s1, q8, e⟩ := gI_of e
  obtain ⟨s2, q9, e⟩ := gR_of e
  rw [st_3 hst q7 q8 q9]
  exact WK.sub (canon := [some (.inr (7, t + 1)), some (.inl x1), some (.inl x2), some (.inl x3), some (.inl x4), some (.inl x5), some (.inl x6), none]) rfl ⟨q0, q1, q2, q3, q4, q5, q6, trivial⟩ (X8_value_s137 hk184 _ _ _ _ ((X8_value_l137 X11_bit g184 t x1 x2 x3 x4 x5 x6 s0 s1 s2 h).trans e))
noncomputable def X8_value_f144 (c_X8_joined : Int32 → Int32 → Int32 → PH → Option Rs) (g184 : Nat → Int32 → Int32 → Int32 → Int32 → Int32 → Int32 → PH → Option Rs) (t : Nat) (x1 : Int32) (x2 : Int32) (x3 : Int32) (x4 : Int32) (x5 : Int32) (x6 : Int32) (x7 : Int32) (h : PH) : Option Rs :=
  if x5 < 2 then
    g184 t x1 x2 x3 x4 x5 x6 h
  else
    nn (hR h 451 t 0) fun r17 =>
    ix ((x5 + (-1)) - 1) (hL h 30 r17) fun j18 =>
    nn (hR h 451 t 0) fun r19 =>
    ix (x5 + (-1)) (hL h 30 r19) fun j20 =>
    cI (c_X8_joined (hI h 1920 r17 j18) (-x7) (hI h 1920 r19 j20) h) fun v22 h21 =>
    nn (hR h 451 t 0) fun r23 =>
    ix ((x5 + (-1)) - 1) (hL h21 30 r23) fun j24 =>
    wr (pI h21 1920 r23 j24 v22) fun h25 =>
    g184 t x1 x2 x3 x4 (x5 + (-1)) x6 h25
set_option maxRecDepth 100000 in
theorem X8_value_l144 (c_X8_joined : Int32 → Int32 → Int32 → PH → Option Rs) (g184 : Nat → Int32 → Int32 → Int32 → Int32 → Int32 → Int32 → PH → Option Rs) (t : Nat) (x1 : Int32) (x2 : Int32) (x3 : Int32) (x4 : Int32) (x5 : Int32) (x6 : Int32) (x7 : Int32) (h : PH) : X8_value_b144 c_X8_joined (X8_value_u184 g184) [some (.inr (7, t + 1)), some (.inl x1), some (.inl x2), some (.inl x3), some (.inl x4), some (.inl x5), some (.inl x6), some (.inl x7)] [] h = X8_value_f144 c_X8_joined g184 t x1 x2 x3 x4 x5 x6 x7 h := rfl
theorem X8_value_m144 {c_X8_joined : Int32 → Int32 → Int32 → PH → Option Rs} {g184 G184 : Nat → Int32 → Int32 → Int32 → Int32 → Int32 → Int32 → PH → Option Rs} (hg184 : ∀ a0 a1 a2 a3 a4 a5 a6 a7, Mo (g184 a0 a1 a2 a3 a4 a5 a6 a7) (G184 a0 a1 a2 a3 a4 a5 a6 a7)) (t : Nat) (x1 : Int32) (x2 : Int32) (x3 : Int32) (x4 : Int32) (x5 : Int32) (x6 : Int32) (x7 : Int32) (h : PH) : Mo (X8_value_f144 c_X8_joined g184 t x1 x2 x3 x4 x5 x6 x7 h) (X8_value_f144 c_X8_joined G184 t x1 x2 x3 x4 x5 x6 x7 h) := (mo_if (hg184 t x1 x2 x3 x4 x5 x6 h) (mo_nn fun r17 => (mo_ix fun j18 => (mo_nn fun r19 => (mo_ix fun j20 => (mo_cI fun v22 h21 => (mo_nn fun r23 => (mo_ix fun j24 => (mo_wr fun h25 => (hg184 t x1 x2 x3 x4 (x5 + (-1)) x6 h25))))))))))
theorem X8_value_w144 {z : CZ} {g184 : Nat → Int32 → Int32 → Int32 → Int32 → Int32 → Int32 → PH → Option Rs} (hk184 : SK (X8_value_x z) 184 (X8_value_u184 g184)) : SK (X8_value_x z) 144 (X8_value_u144 (X8_value_f144 X8_joined g184)) := by
  intro ls st h r e
  obtain ⟨hst, e⟩ := gL_of e
  obtain ⟨t, q0, e⟩ := gT_of e
  obtain ⟨x1, q1, e⟩ := gI_of e
  obtain ⟨x2, q2, e⟩ := gI_of e
  obtain ⟨x3, q3, e⟩ := gI_of e
  obtain ⟨x4, q4, e⟩ := gI_of e
  obtain ⟨x5, q5, e⟩ := gI_of e
  obtain ⟨x6, q6, e⟩ := gI_of e
  obtain ⟨x7, q7, e⟩ := gI_of e
  rw [st_0 hst]
  exact WK.sub (canon := [some (.inr (7, t + 1)), some (.inl x1), some (.inl x2), some (.inl x3), some (.inl x4), some (.inl x5), some (.inl x6), some (.inl x7)]) rfl ⟨q0, q1, q2, q3, q4, q5, q6, q7, trivial⟩ (X8_value_s144 hk184 _ _ _ _ ((X8_value_l144 X8_joined g184 t x1 x2 x3 x4 x5 x6 x7 h).trans e))
noncomputable def X8_value_f184 (g6 : Nat → Int32 → Int32 → Int32 → Int32 → Int32 → Int32 → PH → Option Rs) (t : Nat) (x1 : Int32) (x2 : Int32) (x3 : Int32) (x4 : Int32) (x5 : Int32) (x6 : Int32) (h : PH) : Option Rs :=
  g6 t x1 x2 x3 x4 x5 (x6 + 1) h
set_option maxRecDepth 100000 in
theorem X8_value_l184 (g6 : Nat → Int32 → Int32 → Int32 → Int32 → Int32 → Int32 → PH → Option Rs) (t : Nat) (x1 : Int32) (x2 : Int32) (x3 : Int32) (x4 : Int32) (x5 : Int32) (x6 : Int32) (h : PH) : X8_value_b184 (X8_value_u6 g6) [some (.inr (7, t + 1)), some (.inl x1), some (.inl x2), some (.inl x3), some (.inl x4), some (.inl x5), some (.inl x6), none] [] h = X8_value_f184 g6 t x1 x2 x3 x4 x5 x6 h := rfl
theorem X8_value_m184 {g6 G6 : Nat → Int32 → Int32 → Int32 → Int32 → Int32 → Int32 → PH → Option Rs} (hg6 : ∀ a0 a1 a2 a3 a4 a5 a6 a7, Mo (g6 a0 a1 a2 a3 a4 a5 a6 a7) (G6 a0 a1 a2 a3 a4 a5 a6 a7)) (t : Nat) (x1 : Int32) (x2 : Int32) (x3 : Int32) (x4 : Int32) (x5 : Int32) (x6 : Int32) (h : PH) : Mo (X8_value_f184 g6 t x1 x2 x3 x4 x5 x6 h) (X8_value_f184 G6 t x1 x2 x3 x4 x5 x6 h) := (hg6 t x1 x2 x3 x4 x5 (x6 + 1) h)
theorem X8_value_w184 {z : CZ} {g6 : Nat → Int32 → Int32 → Int32 → Int32 → Int32 → Int32 → PH → Option Rs} (hk6 : SK (X8_value_x z) 6 (X8_value_u6 g6)) : SK (X8_value_x z) 184 (X8_value_u184 (X8_value_f184 g6)) := by
  intro ls st h r e
  obtain ⟨hst, e⟩ := gL_of e
  obtain ⟨t, q0, e⟩ := gT_of e
  obtain ⟨x1, q1, e⟩ := gI_of e
  obtain ⟨x2, q2, e⟩ := gI_of e
  obtain ⟨x3, q3, e⟩ := gI_of e
  obtain ⟨x4, q4, e⟩ := gI_of e
  obtain ⟨x5, q5, e⟩ := gI_of e
  obtain ⟨x6, q6, e⟩ := gI_of e
  rw [st_0 hst]
  exact WK.sub (canon := [some (.inr (7, t + 1)), some (.inl x1), some (.inl x2), some (.inl x3), some (.inl x4), some (.inl x5), some (.inl x6), none]) rfl ⟨q0, q1, q2, q3, q4, q5, q6, trivial⟩ (X8_value_s184 hk6 _ _ _ _ ((X8_value_l184 g6 t x1 x2 x3 x4 x5 x6 h).trans e))
noncomputable def X8_value_g0 (G : (Nat → Int32 → Int32 → Int32 → Int32 → Int32 → Int32 → PH → Option Rs)) (t : Nat) (x1 : Int32) (x2 : Int32) (x3 : Int32) (x4 : Int32) (h : PH) : Option Rs := X8_value_f0 (G) t x1 x2 x3 x4 h
noncomputable def X8_value_g184 (G : (Nat → Int32 → Int32 → Int32 → Int32 → Int32 → Int32 → PH → Option Rs)) (t : Nat) (x1 : Int32) (x2 : Int32) (x3 : Int32) (x4 : Int32) (x5 : Int32) (x6 : Int32) (h : PH) : Option Rs := X8_value_f184 (G) t x1 x2 x3 x4 x5 x6 h
noncomputable def X8_value_g92 (G : (Nat → Int32 → Int32 → Int32 → Int32 → Int32 → Int32 → PH → Option Rs)) (t : Nat) (x1 : Int32) (x2 : Int32) (x3 : Int32) (x4 : Int32) (x5 : Int32) (x6 : Int32) (s0 : Int32) (s1 : Int32) (s2 : Nat) (h : PH) : Option Rs := X8_value_f92 (X8_value_g184 G) t x1 x2 x3 x4 x5 x6 s0 s1 s2 h
noncomputable def X8_value_g137 (G : (Nat → Int32 → Int32 → Int32 → Int32 → Int32 → Int32 → PH → Option Rs)) (t : Nat) (x1 : Int32) (x2 : Int32) (x3 : Int32) (x4 : Int32) (x5 : Int32) (x6 : Int32) (s0 : Int32) (s1 : Int32) (s2 : Nat) (h : PH) : Option Rs := X8_value_f137 X11_bit (X8_value_g184 G) t x1 x2 x3 x4 x5 x6 s0 s1 s2 h
noncomputable def X8_value_g144 (G : (Nat → Int32 → Int32 → Int32 → Int32 → Int32 → Int32 → PH → Option Rs)) (t : Nat) (x1 : Int32) (x2 : Int32) (x3 : Int32) (x4 : Int32) (x5 : Int32) (x6 : Int32) (x7 : Int32) (h : PH) : Option Rs := X8_value_f144 X8_joined (X8_value_g184 G) t x1 x2 x3 x4 x5 x6 x7 h
noncomputable def X8_value_g99 (G : (Nat → Int32 → Int32 → Int32 → Int32 → Int32 → Int32 → PH → Option Rs)) (t : Nat) (x1 : Int32) (x2 : Int32) (x3 : Int32) (x4 : Int32) (x5 : Int32) (x6 : Int32) (x7 : Int32) (h : PH) : Option Rs := X8_value_f99 (X8_value_g137 G) (X8_value_g144 G) t x1 x2 x3 x4 x5 x6 x7 h
noncomputable def X8_value_g6 (G : (Nat → Int32 → Int32 → Int32 → Int32 → Int32 → Int32 → PH → Option Rs)) (t : Nat) (x1 : Int32) (x2 : Int32) (x3 : Int32) (x4 : Int32) (x5 : Int32) (x6 : Int32) (h : PH) : Option Rs := X8_value_f6 (X8_value_g92 G) (X8_value_g99 G) t x1 x2 x3 x4 x5 x6 h
theorem X8_value_v184 {z : CZ} {G : (Nat → Int32 → Int32 → Int32 → Int32 → Int32 → Int32 → PH → Option Rs)} (hG6 : SK (X8_value_x z) 6 (X8_value_u6 (G))) : SK (X8_value_x z) 184 (X8_value_u184 (X8_value_g184 G)) := X8_value_w184 hG6
theorem X8_value_v92 {z : CZ} {G : (Nat → Int32 → Int32 → Int32 → Int32 → Int32 → Int32 → PH → Option Rs)} (hG6 : SK (X8_value_x z) 6 (X8_value_u6 (G))) : SK (X8_value_x z) 92 (X8_value_u92 (X8_value_g92 G)) := X8_value_w92 (X8_value_v184 hG6)
theorem X8_value_v137 {z : CZ} {G : (Nat → Int32 → Int32 → Int32 → Int32 → Int32 → Int32 → PH → Option Rs)} (hG6 : SK (X8_value_x z) 6 (X8_value_u6 (G))) : SK (X8_value_x z) 137 (X8_value_u137 (X8_value_g137 G)) := X8_value_w137 (X8_value_v184 hG6)
theorem X8_value_v144 {z : CZ} {G : (Nat → Int32 → Int32 → Int32 → Int32 → Int32 → Int32 → PH → Option Rs)} (hG6 : SK (X8_value_x z) 6 (X8_value_u6 (G))) : SK (X8_value_x z) 144 (X8_value_u144 (X8_value_g144 G)) := X8_value_w144 (X8_value_v184 hG6)
theorem X8_value_v99 {z : CZ} {G : (Nat → Int32 → Int32 → Int32 → Int32 → Int32 → Int32 → PH → Option Rs)} (hG6 : SK (X8_value_x z) 6 (X8_value_u6 (G))) : SK (X8_value_x z) 99 (X8_value_u99 (X8_value_g99 G)) := X8_value_w99 (X8_value_v137 hG6) (X8_value_v144 hG6)
theorem X8_value_v6 {z : CZ} {G : (Nat → Int32 → Int32 → Int32 → Int32 → Int32 → Int32 → PH → Option Rs)} (hG6 : SK (X8_value_x z) 6 (X8_value_u6 (G))) : SK (X8_value_x z) 6 (X8_value_u6 (X8_value_g6 G)) := X8_value_w6 (X8_value_v92 hG6) (X8_value_v99 hG6)
noncomputable def X8_value_fam : Nat → (Nat → Int32 → Int32 → Int32 → Int32 → Int32 → Int32 → PH → Option Rs)
  | 0 => fun _ _ _ _ _ _ _ _ => none
  | n + 1 => X8_value_g6 (X8_value_fam n)
theorem X8_value_k {z : CZ} : ∀ n, SK (X8_value_x z) 6 (X8_value_u6 (X8_value_fam n))
  | 0 => (fun ls st h r e => by
      obtain ⟨_, e⟩ := gL_of e
      obtain ⟨_, _, e⟩ := gT_of e
      obtain ⟨_, _, e⟩ := gI_of e
      obtain ⟨_, _, e⟩ := gI_of e
      obtain ⟨_, _, e⟩ := gI_of e
      obtain ⟨_, _, e⟩ := gI_of e
      obtain ⟨_, _, e⟩ := gI_of e
      obtain ⟨_, _, e⟩ := gI_of e
      cases e)
  | n + 1 => by
    obtain ih6 := X8_value_k n
    exact X8_value_v6 ih6
theorem X8_value_n0 {G G' : (Nat → Int32 → Int32 → Int32 → Int32 → Int32 → Int32 → PH → Option Rs)} (hg6 : ∀ a0 a1 a2 a3 a4 a5 a6 a7, Mo ((G) a0 a1 a2 a3 a4 a5 a6 a7) ((G') a0 a1 a2 a3 a4 a5 a6 a7)) (t : Nat) (x1 : Int32) (x2 : Int32) (x3 : Int32) (x4 : Int32) (h : PH) : Mo (X8_value_g0 G t x1 x2 x3 x4 h) (X8_value_g0 G' t x1 x2 x3 x4 h) := X8_value_m0 hg6 t x1 x2 x3 x4 h
theorem X8_value_n184 {G G' : (Nat → Int32 → Int32 → Int32 → Int32 → Int32 → Int32 → PH → Option Rs)} (hg6 : ∀ a0 a1 a2 a3 a4 a5 a6 a7, Mo ((G) a0 a1 a2 a3 a4 a5 a6 a7) ((G') a0 a1 a2 a3 a4 a5 a6 a7)) (t : Nat) (x1 : Int32) (x2 : Int32) (x3 : Int32) (x4 : Int32) (x5 : Int32) (x6 : Int32) (h : PH) : Mo (X8_value_g184 G t x1 x2 x3 x4 x5 x6 h) (X8_value_g184 G' t x1 x2 x3 x4 x5 x6 h) := X8_value_m184 hg6 t x1 x2 x3 x4 x5 x6 h
theorem X8_value_n92 {G G' : (Nat → Int32 → Int32 → Int32 → Int32 → Int32 → Int32 → PH → Option Rs)} (hg6 : ∀ a0 a1 a2 a3 a4 a5 a6 a7, Mo ((G) a0 a1 a2 a3 a4 a5 a6 a7) ((G') a0 a1 a2 a3 a4 a5 a6 a7)) (t : Nat) (x1 : Int32) (x2 : Int32) (x3 : Int32) (x4 : Int32) (x5 : Int32) (x6 : Int32) (s0 : Int32) (s1 : Int32) (s2 : Nat) (h : PH) : Mo (X8_value_g92 G t x1 x2 x3 x4 x5 x6 s0 s1 s2 h) (X8_value_g92 G' t x1 x2 x3 x4 x5 x6 s0 s1 s2 h) := X8_value_m92 (fun a0 a1 a2 a3 a4 a5 a6 a7 => X8_value_n184 hg6 a0 a1 a2 a3 a4 a5 a6 a7) t x1 x2 x3 x4 x5 x6 s0 s1 s2 h
theorem X8_value_n137 {G G' : (Nat → Int32 → Int32 → Int32 → Int32 → Int32 → Int32 → PH → Option Rs)} (hg6 : ∀ a0 a1 a2 a3 a4 a5 a6 a7, Mo ((G) a0 a1 a2 a3 a4 a5 a6 a7) ((G') a0 a1 a2 a3 a4 a5 a6 a7)) (t : Nat) (x1 : Int32) (x2 : Int32) (x3 : Int32) (x4 : Int32) (x5 : Int32) (x6 : Int32) (s0 : Int32) (s1 : Int32) (s2 : Nat) (h : PH) : Mo (X8_value_g137 G t x1 x2 x3 x4 x5 x6 s0 s1 s2 h) (X8_value_g137 G' t x1 x2 x3 x4 x5 x6 s0 s1 s2 h) := X8_value_m137 (fun a0 a1 a2 a3 a4 a5 a6 a7 => X8_value_n184 hg6 a0 a1 a2 a3 a4 a5 a6 a7) t x1 x2 x3 x4 x5 x6 s0 s1 s2 h
theorem X8_value_n144 {G G' : (Nat → Int32 → Int32 → Int32 → Int32 → Int32 → Int32 → PH → Option Rs)} (hg6 : ∀ a0 a1 a2 a3 a4 a5 a6 a7, Mo ((G) a0 a1 a2 a3 a4 a5 a6 a7) ((G') a0 a1 a2 a3 a4 a5 a6 a7)) (t : Nat) (x1 : Int32) (x2 : Int32) (x3 : Int32) (x4 : Int32) (x5 : Int32) (x6 : Int32) (x7 : Int32) (h : PH) : Mo (X8_value_g144 G t x1 x2 x3 x4 x5 x6 x7 h) (X8_value_g144 G' t x1 x2 x3 x4 x5 x6 x7 h) := X8_value_m144 (fun a0 a1 a2 a3 a4 a5 a6 a7 => X8_value_n184 hg6 a0 a1 a2 a3 a4 a5 a6 a7) t x1 x2 x3 x4 x5 x6 x7 h
theorem X8_value_n99 {G G' : (Nat → Int32 → Int32 → Int32 → Int32 → Int32 → Int32 → PH → Option Rs)} (hg6 : ∀ a0 a1 a2 a3 a4 a5 a6 a7, Mo ((G) a0 a1 a2 a3 a4 a5 a6 a7) ((G') a0 a1 a2 a3 a4 a5 a6 a7)) (t : Nat) (x1 : Int32) (x2 : Int32) (x3 : Int32) (x4 : Int32) (x5 : Int32) (x6 : Int32) (x7 : Int32) (h : PH) : Mo (X8_value_g99 G t x1 x2 x3 x4 x5 x6 x7 h) (X8_value_g99 G' t x1 x2 x3 x4 x5 x6 x7 h) := X8_value_m99 (fun a0 a1 a2 a3 a4 a5 a6 a7 a8 a9 a10 => X8_value_n137 hg6 a0 a1 a2 a3 a4 a5 a6 a7 a8 a9 a10) (fun a0 a1 a2 a3 a4 a5 a6 a7 a8 => X8_value_n144 hg6 a0 a1 a2 a3 a4 a5 a6 a7 a8) t x1 x2 x3 x4 x5 x6 x7 h
theorem X8_value_n6 {G G' : (Nat → Int32 → Int32 → Int32 → Int32 → Int32 → Int32 → PH → Option Rs)} (hg6 : ∀ a0 a1 a2 a3 a4 a5 a6 a7, Mo ((G) a0 a1 a2 a3 a4 a5 a6 a7) ((G') a0 a1 a2 a3 a4 a5 a6 a7)) (t : Nat) (x1 : Int32) (x2 : Int32) (x3 : Int32) (x4 : Int32) (x5 : Int32) (x6 : Int32) (h : PH) : Mo (X8_value_g6 G t x1 x2 x3 x4 x5 x6 h) (X8_value_g6 G' t x1 x2 x3 x4 x5 x6 h) := X8_value_m6 (fun a0 a1 a2 a3 a4 a5 a6 a7 a8 a9 a10 => X8_value_n92 hg6 a0 a1 a2 a3 a4 a5 a6 a7 a8 a9 a10) (fun a0 a1 a2 a3 a4 a5 a6 a7 a8 => X8_value_n99 hg6 a0 a1 a2 a3 a4 a5 a6 a7 a8) t x1 x2 x3 x4 x5 x6 h
theorem X8_value_fm : ∀ n, (∀ a0 a1 a2 a3 a4 a5 a6 a7, Mo ((X8_value_fam n) a0 a1 a2 a3 a4 a5 a6 a7) ((X8_value_fam (n + 1)) a0 a1 a2 a3 a4 a5 a6 a7))
  | 0 => fun _ _ _ _ _ _ _ _ => mo_no
  | n + 1 => by
    obtain ih6 := X8_value_fm n
    exact fun a0 a1 a2 a3 a4 a5 a6 a7 => X8_value_n6 ih6 a0 a1 a2 a3 a4 a5 a6 a7
noncomputable def X8_value (t : Nat) (x1 : Int32) (x2 : Int32) (x3 : Int32) (x4 : Int32) (h : PH) : Option Rs := lim (fun n => X8_value_g0 (X8_value_fam n) t x1 x2 x3 x4 h)
theorem X8_value_iff {t : Nat} {x1 : Int32} {x2 : Int32} {x3 : Int32} {x4 : Int32} {h : PH} {r : Rs} : X8_value t x1 x2 x3 x4 h = some r ↔ ∃ n, X8_value_g0 (X8_value_fam n) t x1 x2 x3 x4 h = some r := lim_iff (fun n => by
  obtain ih6 := X8_value_fm n
  exact X8_value_n0 ih6 t x1 x2 x3 x4 h)
noncomputable abbrev X8_value_F : List PV → PH → Option Rs := FW_T7IIII (X8_value)
set_option maxRecDepth 100000 in
theorem X8_value_gd (l : Launch) : Gd l 1 yX8_value cX8_value 8 (some .int) (X8_value_F)   := Gd_of (by decide +kernel) (fun z hzl as h r e => by
  obtain ⟨hst, e⟩ := gL_of e
  obtain ⟨t, q0, e⟩ := gT_of e
  obtain ⟨x1, q1, e⟩ := gI_of e
  obtain ⟨x2, q2, e⟩ := gI_of e
  obtain ⟨x3, q3, e⟩ := gI_of e
  obtain ⟨x4, q4, e⟩ := gI_of e
  rw [st_5 hst q0 q1 q2 q3 q4]
  obtain ⟨n, e⟩ := lim_of e
  obtain hG6 := X8_value_k (z := z) n
  exact ⟨show 5 ≤ 8 by decide, X8_value_s0 hG6 _ _ _ _ ((X8_value_l0 (X8_value_fam n) t x1 x2 x3 x4 h).trans e)⟩)
abbrev X1_passes_x (z : CZ) : CX := mx RX1 cX1_passes 4 2 (some .boolean) "passes" z
noncomputable def X1_passes_b0 (k22 : Kn) : Kn := (a_al 1 (a_gI 9 581 (a_z (a_al 1 (a_gI 9 579 (a_ic 1 (a_eq (a_il 2 (a_ic 1 (a_eq (a_ic 0 a_zr) k22))) k22)))) (a_ic 0 a_zr))))
set_option maxRecDepth 100000 in
theorem X1_passes_s0 {z : CZ} {k22 : Kn} (hk22 : SK (X1_passes_x z) 22 k22) : SK (X1_passes_x z) 0 (X1_passes_b0 k22) := (s_aloadn (pc := 0) dX1_passes_0 rfl (s_gI (pc := 1) (f := 5) ko_9 (by decide) rfl rfl w_147 dX1_passes_1 (s_ifne (pc := 4) dX1_passes_4 (by decide) (s_iconst (pc := 20) dX1_passes_20 c_ic_0 (s_zr (pc := 21) rfl dX1_passes_21)) (s_aloadn (pc := 7) dX1_passes_7 rfl (s_gI (pc := 8) (f := 3) ko_9 (by decide) rfl rfl w_139 dX1_passes_8 (s_iconst (pc := 11) dX1_passes_11 c_ic_1 (s_cmpne (pc := 12) dX1_passes_12 (by decide) hk22 (s_iloadn (pc := 15) dX1_passes_15 rfl (s_iconst (pc := 16) dX1_passes_16 c_ic_1 (s_cmpne (pc := 17) dX1_passes_17 (by decide) hk22 (s_iconst (pc := 20) dX1_passes_20 c_ic_0 (s_zr (pc := 21) rfl dX1_passes_21))))))))))))
noncomputable def X1_passes_b22 (c_X1_textFor : Nat → Int32 → PH → Option Rs) (c_X8_value : Nat → Int32 → Int32 → Int32 → Int32 → PH → Option Rs) : Kn := (a_al 1 (a_gI 9 579 (a_ic 3 (a_eq (a_al 0 (a_ic 1 (a_vR 1 7 1 (FW_T1I c_X1_textFor) (a_as 3 (a_al 3 (a_nu (a_al 0 (a_gI 1 78 (a_ic 6 (a_lt (a_ic 0 a_zr) (a_al 0 (a_gI 1 78 (a_ic 21 (a_gt (a_ic 0 a_zr) (a_ic 1 a_zr))))))))) (a_al 3 (a_al 0 (a_gI 1 78 (a_al 0 (a_gI 1 79 (a_al 1 (a_gI 9 580 (a_ic 0 (a_vI 7 4 (FW_T7IIII c_X8_value) (a_z (a_ic 0 a_zr) (a_ic 1 a_zr))))))))))))))))) (a_ic 1 a_zr)))))
set_option maxRecDepth 100000 in
theorem X1_passes_s22 {z : CZ} : SK (X1_passes_x z) 22 (X1_passes_b22 X1_textFor X8_value) := (s_aloadn (pc := 22) dX1_passes_22 rfl (s_gI (pc := 23) (f := 3) ko_9 (by decide) rfl rfl w_139 dX1_passes_23 (s_iconst (pc := 26) dX1_passes_26 c_ic_3 (s_cmpeq (pc := 27) dX1_passes_27 (by decide) (s_aloadn (pc := 32) dX1_passes_32 rfl (s_iconst (pc := 33) dX1_passes_33 c_ic_1 (s_vR (pc := 34) (run_virtual (X1_textFor_gd _) (show 1 < 2 by decide) cy_X1_textFor (by decide) rfl w_582 w_s0 w_580 dX1_passes_34) (s_astoren (pc := 37) dX1_passes_37 rfl (show 3 < 4 by decide) (s_aloadn (pc := 38) dX1_passes_38 rfl (s_ifnn (pc := 39) dX1_passes_39 (by decide) (s_aloadn (pc := 68) dX1_passes_68 rfl (s_aloadn (pc := 69) dX1_passes_69 rfl (s_gI (pc := 70) (f := 14) ko_1 (by decide) rfl rfl w_261 dX1_passes_70 (s_aloadn (pc := 73) dX1_passes_73 rfl (s_gI (pc := 74) (f := 15) ko_1 (by decide) rfl rfl w_263 dX1_passes_74 (s_aloadn (pc := 77) dX1_passes_77 rfl (s_gI (pc := 78) (f := 4) ko_9 (by decide) rfl rfl w_144 dX1_passes_78 (s_iconst (pc := 81) dX1_passes_81 c_ic_0 (s_vI (pc := 82) (run_virtual (X8_value_gd _) (show 1 < 2 by decide) cy_X8_value (by decide) rfl w_585 w_586 w_584 dX1_passes_82) (s_ifeq (pc := 85) dX1_passes_85 (by decide) (s_iconst (pc := 92) dX1_passes_92 c_ic_0 (s_zr (pc := 93) rfl dX1_passes_93)) (s_iconst (pc := 88) dX1_passes_88 c_ic_1 (s_goto (pc := 89) dX1_passes_89 (by decide) (s_zr (pc := 93) rfl dX1_passes_93))))))))))))) (s_aloadn (pc := 42) dX1_passes_42 rfl (s_gI (pc := 43) (f := 14) ko_1 (by decide) rfl rfl w_261 dX1_passes_43 (s_bipush (pc := 46) dX1_passes_46 c_bp_6 (s_cmplt (pc := 48) dX1_passes_48 (by decide) (s_iconst (pc := 64) dX1_passes_64 c_ic_0 (s_goto (pc := 65) dX1_passes_65 (by decide) (s_zr (pc := 93) rfl dX1_passes_93))) (s_aloadn (pc := 51) dX1_passes_51 rfl (s_gI (pc := 52) (f := 14) ko_1 (by decide) rfl rfl w_261 dX1_passes_52 (s_bipush (pc := 55) dX1_passes_55 c_bp_21 (s_cmpgt (pc := 57) dX1_passes_57 (by decide) (s_iconst (pc := 64) dX1_passes_64 c_ic_0 (s_goto (pc := 65) dX1_passes_65 (by decide) (s_zr (pc := 93) rfl dX1_passes_93))) (s_iconst (pc := 60) dX1_passes_60 c_ic_1 (s_goto (pc := 61) dX1_passes_61 (by decide) (s_zr (pc := 93) rfl dX1_passes_93))))))))))))))))) (s_iconst (pc := 30) dX1_passes_30 c_ic_1 (s_zr (pc := 31) rfl dX1_passes_31))))))
noncomputable def X1_passes_u22 (g : Nat → Nat → PH → Option Rs) : Kn := fun ls st h => gL 0 st (gT 1 ls 0 fun t => gR 9 ls 1 fun x1 => g t x1 h)
noncomputable def X1_passes_f0 (g22 : Nat → Nat → PH → Option Rs) (t : Nat) (x1 : Nat) (x2 : Int32) (h : PH) : Option Rs :=
  nn x1 fun r1 =>
  if (hI h 581 r1 0) = 0 then
    nn x1 fun r2 =>
    if (hI h 579 r2 0) = 1 then
      if x2 = 1 then
        bz 0 <|
        some (some (.inl 0), h)
      else
        g22 t x1 h
    else
      g22 t x1 h
  else
    bz 0 <|
    some (some (.inl 0), h)
set_option maxRecDepth 100000 in
theorem X1_passes_l0 (g22 : Nat → Nat → PH → Option Rs) (t : Nat) (x1 : Nat) (x2 : Int32) (h : PH) : X1_passes_b0 (X1_passes_u22 g22) [some (.inr (1, t + 1)), some (.inr (9, x1)), some (.inl x2), none] [] h = X1_passes_f0 g22 t x1 x2 h := rfl
theorem X1_passes_m0 {g22 G22 : Nat → Nat → PH → Option Rs} (hg22 : ∀ a0 a1 a2, Mo (g22 a0 a1 a2) (G22 a0 a1 a2)) (t : Nat) (x1 : Nat) (x2 : Int32) (h : PH) : Mo (X1_passes_f0 g22 t x1 x2 h) (X1_passes_f0 G22 t x1 x2 h) := (mo_nn fun r1 => (mo_if (mo_nn fun r2 => (mo_if (mo_if (mo_bz mo_rf) (hg22 t x1 h)) (hg22 t x1 h))) (mo_bz mo_rf)))
noncomputable def X1_passes_f22 (c_X1_textFor : Nat → Int32 → PH → Option Rs) (c_X8_value : Nat → Int32 → Int32 → Int32 → Int32 → PH → Option Rs) (t : Nat) (x1 : Nat) (h : PH) : Option Rs :=
  nn x1 fun r3 =>
  if (hI h 579 r3 0) = 3 then
    cR 7 (c_X1_textFor t 1 h) fun r5 h4 =>
    if r5 = 0 then
      if (hI h4 78 t 0) < 6 then
        bz 0 <|
        some (some (.inl 0), h4)
      else
        if 21 < (hI h4 78 t 0) then
          bz 0 <|
          some (some (.inl 0), h4)
        else
          bz 1 <|
          some (some (.inl 1), h4)
    else
      nn x1 fun r6 =>
      nn r5 fun r7 =>
      cI (c_X8_value r7 (hI h4 78 t 0) (hI h4 79 t 0) (hI h4 580 r6 0) 0 h4) fun v9 h8 =>
      if v9 = 0 then
        bz 0 <|
        some (some (.inl 0), h8)
      else
        bz 1 <|
        some (some (.inl 1), h8)
  else
    bz 1 <|
    some (some (.inl 1), h)
set_option maxRecDepth 100000 in
theorem X1_passes_l22 (c_X1_textFor : Nat → Int32 → PH → Option Rs) (c_X8_value : Nat → Int32 → Int32 → Int32 → Int32 → PH → Option Rs) (t : Nat) (x1 : Nat) (h : PH) : X1_passes_b22 c_X1_textFor c_X8_value [some (.inr (1, t + 1)), some (.inr (9, x1)), none, none] [] h = X1_passes_f22 c_X1_textFor c_X8_value t x1 h := rfl
theorem X1_passes_w22 {z : CZ} : SK (X1_passes_x z) 22 (X1_passes_u22 (X1_passes_f22 X1_textFor X8_value)) := by
  intro ls st h r e
  obtain ⟨hst, e⟩ := gL_of e
  obtain ⟨t, q0, e⟩ := gT_of e
  obtain ⟨x1, q1, e⟩ := gR_of e
  rw [st_0 hst]
  exact WK.sub (canon := [some (.inr (1, t + 1)), some (.inr (9, x1)), none, none]) rfl ⟨q0, q1, trivial⟩ (X1_passes_s22 _ _ _ _ ((X1_passes_l22 X1_textFor X8_value t x1 h).trans e))
noncomputable def X1_passes_g22 (t : Nat) (x1 : Nat) (h : PH) : Option Rs := X1_passes_f22 X1_textFor X8_value t x1 h
noncomputable def X1_passes_g0 (t : Nat) (x1 : Nat) (x2 : Int32) (h : PH) : Option Rs := X1_passes_f0 (X1_passes_g22) t x1 x2 h
theorem X1_passes_v22 {z : CZ} : SK (X1_passes_x z) 22 (X1_passes_u22 (X1_passes_g22)) := X1_passes_w22
noncomputable def X1_passes (t : Nat) (x1 : Nat) (x2 : Int32) (h : PH) : Option Rs := X1_passes_g0 t x1 x2 h
noncomputable abbrev X1_passes_F : List PV → PH → Option Rs := FW_T1R9I (X1_passes)
set_option maxRecDepth 100000 in
theorem X1_passes_gd (l : Launch) : Gd l 2 yX1_passes cX1_passes 4 (some .boolean) (X1_passes_F)   := Gd_of (by decide +kernel) (fun z hzl as h r e => by
  obtain ⟨hst, e⟩ := gL_of e
  obtain ⟨t, q0, e⟩ := gT_of e
  obtain ⟨x1, q1, e⟩ := gR_of e
  obtain ⟨x2, q2, e⟩ := gI_of e
  rw [st_3 hst q0 q1 q2]
  exact ⟨show 3 ≤ 4 by decide, X1_passes_s0 (X1_passes_v22) _ _ _ _ ((X1_passes_l0 (X1_passes_g22) t x1 x2 h).trans e)⟩)
abbrev X11_wayTold_x (z : CZ) : CX := mx RX11 cX11_wayTold 4 3 (some .int) "wayTold" z
noncomputable def X11_wayTold_b0 (c_X11_isWithin : Int32 → Int32 → PH → Option Rs) (c_X11_bit : Int32 → PH → Option Rs) (c_X1_passes : Nat → Nat → Int32 → PH → Option Rs) : Kn := (a_il 1 (a_al 0 (a_gR 10 640 1 (a_gI 1 73 (a_sI 2 (FW_II c_X11_isWithin) (a_z (a_ic (-1000000001) a_ir) (a_al 0 (a_gR 10 640 1 (a_gR 1 64 14 (a_il 1 (a_rald 14 896 9 (a_as 3 (a_il 2 (a_sw [(0, (a_al 3 (a_gI 9 576 a_ir))), (1, (a_al 3 (a_gI 9 577 a_ir))), (2, (a_al 3 (a_gI 9 578 a_ir))), (3, (a_al 3 (a_gI 9 579 a_ir))), (4, (a_al 3 (a_gI 9 580 a_ir))), (5, (a_al 3 (a_gI 9 581 (a_sI 1 (FW_I c_X11_bit) a_ir)))), (6, (a_al 0 (a_gR 10 640 1 (a_al 3 (a_ic 0 (a_vI 1 2 (FW_T1R9I c_X1_passes) (a_sI 1 (FW_I c_X11_bit) a_ir))))))), (7, (a_al 0 (a_gR 10 640 1 (a_al 3 (a_ic 1 (a_vI 1 2 (FW_T1R9I c_X1_passes) (a_sI 1 (FW_I c_X11_bit) a_ir)))))))] (a_ic (-1000000001) a_ir)))))))))))))))
set_option maxRecDepth 100000 in
theorem X11_wayTold_s0 {z : CZ} : SK (X11_wayTold_x z) 0 (X11_wayTold_b0 X11_isWithin X11_bit X1_passes) := (s_iloadn (pc := 0) dX11_wayTold_0 rfl (s_aloadn (pc := 1) dX11_wayTold_1 rfl (s_gR (pc := 2) (f := 0) ko_10 (by decide) rfl rfl w_504 dX11_wayTold_2 (s_gI (pc := 5) (f := 9) ko_1 (by decide) rfl rfl w_246 dX11_wayTold_5 (s_sI (pc := 8) (run_static (X11_isWithin_gd _) (show 0 < 3 by decide) cy_X11_isWithin w_549 w_552 dX11_wayTold_8) (s_ifne (pc := 11) dX11_wayTold_11 (by decide) (s_aloadn (pc := 17) dX11_wayTold_17 rfl (s_gR (pc := 18) (f := 0) ko_10 (by decide) rfl rfl w_504 dX11_wayTold_18 (s_gR (pc := 21) (f := 0) ko_1 (by decide) rfl rfl w_216 dX11_wayTold_21 (s_iloadn (pc := 24) dX11_wayTold_24 rfl (s_rald (pc := 25) (by decide) (by decide) rfl rfl rfl dX11_wayTold_25 (s_astoren (pc := 26) dX11_wayTold_26 rfl (show 3 < 4 by decide) (s_iloadn (pc := 27) dX11_wayTold_27 rfl (s_table (pc := 28) dX11_wayTold_28 (by decide) (by decide) ⟨c_ti_0, ⟨_, by decide, (s_aloadn (pc := 76) dX11_wayTold_76 rfl (s_gI (pc := 77) (f := 0) ko_9 (by decide) rfl rfl w_127 dX11_wayTold_77 (s_ir (pc := 80) rfl dX11_wayTold_80)))⟩, ⟨c_ti_1, ⟨_, by decide, (s_aloadn (pc := 81) dX11_wayTold_81 rfl (s_gI (pc := 82) (f := 1) ko_9 (by decide) rfl rfl w_131 dX11_wayTold_82 (s_ir (pc := 85) rfl dX11_wayTold_85)))⟩, ⟨c_ti_2, ⟨_, by decide, (s_aloadn (pc := 86) dX11_wayTold_86 rfl (s_gI (pc := 87) (f := 2) ko_9 (by decide) rfl rfl w_135 dX11_wayTold_87 (s_ir (pc := 90) rfl dX11_wayTold_90)))⟩, ⟨c_ti_3, ⟨_, by decide, (s_aloadn (pc := 91) dX11_wayTold_91 rfl (s_gI (pc := 92) (f := 3) ko_9 (by decide) rfl rfl w_138 dX11_wayTold_92 (s_ir (pc := 95) rfl dX11_wayTold_95)))⟩, ⟨c_ti_4, ⟨_, by decide, (s_aloadn (pc := 96) dX11_wayTold_96 rfl (s_gI (pc := 97) (f := 4) ko_9 (by decide) rfl rfl w_141 dX11_wayTold_97 (s_ir (pc := 100) rfl dX11_wayTold_100)))⟩, ⟨c_ti_5, ⟨_, by decide, (s_aloadn (pc := 101) dX11_wayTold_101 rfl (s_gI (pc := 102) (f := 5) ko_9 (by decide) rfl rfl w_146 dX11_wayTold_102 (s_sI (pc := 105) (run_static (X11_bit_gd _) (show 0 < 3 by decide) cy_X11_bit w_574 w_573 dX11_wayTold_105) (s_ir (pc := 108) rfl dX11_wayTold_108))))⟩, ⟨c_ti_6, ⟨_, by decide, (s_aloadn (pc := 109) dX11_wayTold_109 rfl (s_gR (pc := 110) (f := 0) ko_10 (by decide) rfl rfl w_504 dX11_wayTold_110 (s_aloadn (pc := 113) dX11_wayTold_113 rfl (s_iconst (pc := 114) dX11_wayTold_114 c_ic_0 (s_vI (pc := 115) (run_virtual (X1_passes_gd _) (show 2 < 3 by decide) cy_X1_passes (by decide) rfl w_577 w_578 w_576 dX11_wayTold_115) (s_sI (pc := 118) (run_static (X11_bit_gd _) (show 0 < 3 by decide) cy_X11_bit w_574 w_573 dX11_wayTold_118) (s_ir (pc := 121) rfl dX11_wayTold_121)))))))⟩, ⟨c_ti_7, ⟨_, by decide, (s_aloadn (pc := 122) dX11_wayTold_122 rfl (s_gR (pc := 123) (f := 0) ko_10 (by decide) rfl rfl w_504 dX11_wayTold_123 (s_aloadn (pc := 126) dX11_wayTold_126 rfl (s_iconst (pc := 127) dX11_wayTold_127 c_ic_1 (s_vI (pc := 128) (run_virtual (X1_passes_gd _) (show 2 < 3 by decide) cy_X1_passes (by decide) rfl w_577 w_578 w_576 dX11_wayTold_128) (s_sI (pc := 131) (run_static (X11_bit_gd _) (show 0 < 3 by decide) cy_X11_bit w_574 w_573 dX11_wayTold_131) (s_ir (pc := 134) rfl dX11_wayTold_134)))))))⟩, trivial⟩⟩⟩⟩⟩⟩⟩⟩ (s_ldc (pc := 135) w_551 dX11_wayTold_135 (s_ir (pc := 137) rfl dX11_wayTold_137)))))))))) (s_ldc (pc := 14) w_551 dX11_wayTold_14 (s_ir (pc := 16) rfl dX11_wayTold_16))))))))
noncomputable def X11_wayTold_f0 (c_X11_isWithin : Int32 → Int32 → PH → Option Rs) (c_X11_bit : Int32 → PH → Option Rs) (c_X1_passes : Nat → Nat → Int32 → PH → Option Rs) (t : Nat) (x1 : Int32) (x2 : Int32) (h : PH) : Option Rs :=
  nn (hR h 640 t 0) fun r1 =>
  cI (c_X11_isWithin x1 (hI h 73 r1 0) h) fun v3 h2 =>
  if v3 = 0 then
    some (some (.inl (-1000000001)), h2)
  else
    nn (hR h2 640 t 0) fun r4 =>
    nn (hR h2 64 r4 0) fun r5 =>
    ix x1 (hL h2 14 r5) fun j6 =>
    if x2 = 0 then
      nn (hR h2 896 r5 j6) fun r7 =>
      some (some (.inl (hI h2 576 r7 0)), h2)
    else
    if x2 = 1 then
      nn (hR h2 896 r5 j6) fun r8 =>
      some (some (.inl (hI h2 577 r8 0)), h2)
    else
    if x2 = 2 then
      nn (hR h2 896 r5 j6) fun r9 =>
      some (some (.inl (hI h2 578 r9 0)), h2)
    else
    if x2 = 3 then
      nn (hR h2 896 r5 j6) fun r10 =>
      some (some (.inl (hI h2 579 r10 0)), h2)
    else
    if x2 = 4 then
      nn (hR h2 896 r5 j6) fun r11 =>
      some (some (.inl (hI h2 580 r11 0)), h2)
    else
    if x2 = 5 then
      nn (hR h2 896 r5 j6) fun r12 =>
      cI (c_X11_bit (hI h2 581 r12 0) h2) fun v14 h13 =>
      some (some (.inl v14), h13)
    else
    if x2 = 6 then
      nn (hR h2 640 t 0) fun r15 =>
      cI (c_X1_passes r15 (hR h2 896 r5 j6) 0 h2) fun v17 h16 =>
      cI (c_X11_bit v17 h16) fun v19 h18 =>
      some (some (.inl v19), h18)
    else
    if x2 = 7 then
      nn (hR h2 640 t 0) fun r20 =>
      cI (c_X1_passes r20 (hR h2 896 r5 j6) 1 h2) fun v22 h21 =>
      cI (c_X11_bit v22 h21) fun v24 h23 =>
      some (some (.inl v24), h23)
    else
      some (some (.inl (-1000000001)), h2)
set_option maxRecDepth 100000 in
theorem X11_wayTold_l0 (c_X11_isWithin : Int32 → Int32 → PH → Option Rs) (c_X11_bit : Int32 → PH → Option Rs) (c_X1_passes : Nat → Nat → Int32 → PH → Option Rs) (t : Nat) (x1 : Int32) (x2 : Int32) (h : PH) : X11_wayTold_b0 c_X11_isWithin c_X11_bit c_X1_passes [some (.inr (10, t + 1)), some (.inl x1), some (.inl x2), none] [] h = X11_wayTold_f0 c_X11_isWithin c_X11_bit c_X1_passes t x1 x2 h := rfl
noncomputable def X11_wayTold_g0 (t : Nat) (x1 : Int32) (x2 : Int32) (h : PH) : Option Rs := X11_wayTold_f0 X11_isWithin X11_bit X1_passes t x1 x2 h
noncomputable def X11_wayTold (t : Nat) (x1 : Int32) (x2 : Int32) (h : PH) : Option Rs := X11_wayTold_g0 t x1 x2 h
noncomputable abbrev X11_wayTold_F : List PV → PH → Option Rs := FW_T10II (X11_wayTold)
set_option maxRecDepth 100000 in
theorem X11_wayTold_gd (l : Launch) : Gd l 3 yX11_wayTold cX11_wayTold 4 (some .int) (X11_wayTold_F)   := Gd_of (by decide +kernel) (fun z hzl as h r e => by
  obtain ⟨hst, e⟩ := gL_of e
  obtain ⟨t, q0, e⟩ := gT_of e
  obtain ⟨x1, q1, e⟩ := gI_of e
  obtain ⟨x2, q2, e⟩ := gI_of e
  rw [st_3 hst q0 q1 q2]
  exact ⟨show 3 ≤ 4 by decide, X11_wayTold_s0 _ _ _ _ ((X11_wayTold_l0 X11_isWithin X11_bit X1_passes t x1 x2 h).trans e)⟩)
abbrev X11_shut_x (z : CZ) : CX := mx RX11 cX11_shut 5 1 (some .int) "shut" z
noncomputable def X11_shut_b0 (c_X11_isWithin : Int32 → Int32 → PH → Option Rs) (k40 : Kn) : Kn := (a_il 1 (a_al 0 (a_gR 10 640 1 (a_gI 1 73 (a_sI 2 (FW_II c_X11_isWithin) (a_z (a_ic (-1000000001) a_ir) (a_al 0 (a_gR 10 640 1 (a_gR 1 64 14 (a_il 1 (a_rald 14 896 9 (a_as 3 (a_al 3 (a_gI 9 581 (a_il 2 (a_eq (a_ic 0 k40) (a_ic 1 k40)))))))))))))))))
set_option maxRecDepth 100000 in
theorem X11_shut_s0 {z : CZ} {k40 : Kn} (hk40 : SK (X11_shut_x z) 40 k40) : SK (X11_shut_x z) 0 (X11_shut_b0 X11_isWithin k40) := (s_iloadn (pc := 0) dX11_shut_0 rfl (s_aloadn (pc := 1) dX11_shut_1 rfl (s_gR (pc := 2) (f := 0) ko_10 (by decide) rfl rfl w_504 dX11_shut_2 (s_gI (pc := 5) (f := 9) ko_1 (by decide) rfl rfl w_246 dX11_shut_5 (s_sI (pc := 8) (run_static (X11_isWithin_gd _) (show 0 < 1 by decide) cy_X11_isWithin w_549 w_552 dX11_shut_8) (s_ifne (pc := 11) dX11_shut_11 (by decide) (s_aloadn (pc := 17) dX11_shut_17 rfl (s_gR (pc := 18) (f := 0) ko_10 (by decide) rfl rfl w_504 dX11_shut_18 (s_gR (pc := 21) (f := 0) ko_1 (by decide) rfl rfl w_216 dX11_shut_21 (s_iloadn (pc := 24) dX11_shut_24 rfl (s_rald (pc := 25) (by decide) (by decide) rfl rfl rfl dX11_shut_25 (s_astoren (pc := 26) dX11_shut_26 rfl (show 3 < 5 by decide) (s_aloadn (pc := 27) dX11_shut_27 rfl (s_gI (pc := 28) (f := 5) ko_9 (by decide) rfl rfl w_146 dX11_shut_28 (s_iloadn (pc := 31) dX11_shut_31 rfl (s_cmpeq (pc := 32) dX11_shut_32 (by decide) (s_iconst (pc := 39) dX11_shut_39 c_ic_0 hk40) (s_iconst (pc := 35) dX11_shut_35 c_ic_1 (s_goto (pc := 36) dX11_shut_36 (by decide) hk40)))))))))))) (s_ldc (pc := 14) w_551 dX11_shut_14 (s_ir (pc := 16) rfl dX11_shut_16))))))))
noncomputable def X11_shut_b40 (c_X11_bit : Int32 → PH → Option Rs) : Kn := (a_is 4 (a_al 3 (a_il 2 (a_pZ 9 581 (a_il 4 (a_sI 1 (FW_I c_X11_bit) a_ir))))))
set_option maxRecDepth 100000 in
theorem X11_shut_s40 {z : CZ} : SK (X11_shut_x z) 40 (X11_shut_b40 X11_bit) := (s_istore (pc := 40) dX11_shut_40 (show 4 < 5 by decide) (s_aloadn (pc := 42) dX11_shut_42 rfl (s_iloadn (pc := 43) dX11_shut_43 rfl (s_pZ (pc := 44) (f := 5) ko_9 (by decide) rfl rfl rfl (by decide +kernel) w_146 dX11_shut_44 (s_iload (pc := 47) dX11_shut_47 (s_sI (pc := 49) (run_static (X11_bit_gd _) (show 0 < 1 by decide) cy_X11_bit w_574 w_573 dX11_shut_49) (s_ir (pc := 52) rfl dX11_shut_52)))))))
noncomputable def X11_shut_u40 (g : Int32 → Nat → Int32 → PH → Option Rs) : Kn := fun ls st h => gL 1 st (gI ls 2 fun x2 => gR 9 ls 3 fun x3 => gI (st.map some) 0 fun s0 => g x2 x3 s0 h)
noncomputable def X11_shut_f0 (c_X11_isWithin : Int32 → Int32 → PH → Option Rs) (g40 : Int32 → Nat → Int32 → PH → Option Rs) (t : Nat) (x1 : Int32) (x2 : Int32) (h : PH) : Option Rs :=
  nn (hR h 640 t 0) fun r1 =>
  cI (c_X11_isWithin x1 (hI h 73 r1 0) h) fun v3 h2 =>
  if v3 = 0 then
    some (some (.inl (-1000000001)), h2)
  else
    nn (hR h2 640 t 0) fun r4 =>
    nn (hR h2 64 r4 0) fun r5 =>
    ix x1 (hL h2 14 r5) fun j6 =>
    nn (hR h2 896 r5 j6) fun r7 =>
    if (hI h2 581 r7 0) = x2 then
      g40 x2 (hR h2 896 r5 j6) 0 h2
    else
      g40 x2 (hR h2 896 r5 j6) 1 h2
set_option maxRecDepth 100000 in
theorem X11_shut_l0 (c_X11_isWithin : Int32 → Int32 → PH → Option Rs) (g40 : Int32 → Nat → Int32 → PH → Option Rs) (t : Nat) (x1 : Int32) (x2 : Int32) (h : PH) : X11_shut_b0 c_X11_isWithin (X11_shut_u40 g40) [some (.inr (10, t + 1)), some (.inl x1), some (.inl x2), none, none] [] h = X11_shut_f0 c_X11_isWithin g40 t x1 x2 h := rfl
theorem X11_shut_m0 {c_X11_isWithin : Int32 → Int32 → PH → Option Rs} {g40 G40 : Int32 → Nat → Int32 → PH → Option Rs} (hg40 : ∀ a0 a1 a2 a3, Mo (g40 a0 a1 a2 a3) (G40 a0 a1 a2 a3)) (t : Nat) (x1 : Int32) (x2 : Int32) (h : PH) : Mo (X11_shut_f0 c_X11_isWithin g40 t x1 x2 h) (X11_shut_f0 c_X11_isWithin G40 t x1 x2 h) := (mo_nn fun r1 => (mo_cI fun v3 h2 => (mo_if mo_rf (mo_nn fun r4 => (mo_nn fun r5 => (mo_ix fun j6 => (mo_nn fun r7 => (mo_if (hg40 x2 (hR h2 896 r5 j6) 0 h2) (hg40 x2 (hR h2 896 r5 j6) 1 h2)))))))))
noncomputable def X11_shut_f40 (c_X11_bit : Int32 → PH → Option Rs) (x2 : Int32) (x3 : Nat) (s0 : Int32) (h : PH) : Option Rs :=
  nn x3 fun r8 =>
  bz x2 <|
  wr (pI h 581 r8 0 x2) fun h9 =>
  cI (c_X11_bit s0 h9) fun v11 h10 =>
  some (some (.inl v11), h10)
set_option maxRecDepth 100000 in
theorem X11_shut_l40 (c_X11_bit : Int32 → PH → Option Rs) (x2 : Int32) (x3 : Nat) (s0 : Int32) (h : PH) : X11_shut_b40 c_X11_bit [none, none, some (.inl x2), some (.inr (9, x3)), none] [.inl s0] h = X11_shut_f40 c_X11_bit x2 x3 s0 h := rfl
theorem X11_shut_w40 {z : CZ} : SK (X11_shut_x z) 40 (X11_shut_u40 (X11_shut_f40 X11_bit)) := by
  intro ls st h r e
  obtain ⟨hst, e⟩ := gL_of e
  obtain ⟨x2, q0, e⟩ := gI_of e
  obtain ⟨x3, q1, e⟩ := gR_of e
  obtain ⟨s0, q2, e⟩ := gI_of e
  rw [st_1 hst q2]
  exact WK.sub (canon := [none, none, some (.inl x2), some (.inr (9, x3)), none]) rfl ⟨q0, q1, trivial⟩ (X11_shut_s40 _ _ _ _ ((X11_shut_l40 X11_bit x2 x3 s0 h).trans e))
noncomputable def X11_shut_g40 (x2 : Int32) (x3 : Nat) (s0 : Int32) (h : PH) : Option Rs := X11_shut_f40 X11_bit x2 x3 s0 h
noncomputable def X11_shut_g0 (t : Nat) (x1 : Int32) (x2 : Int32) (h : PH) : Option Rs := X11_shut_f0 X11_isWithin (X11_shut_g40) t x1 x2 h
theorem X11_shut_v40 {z : CZ} : SK (X11_shut_x z) 40 (X11_shut_u40 (X11_shut_g40)) := X11_shut_w40
noncomputable def X11_shut (t : Nat) (x1 : Int32) (x2 : Int32) (h : PH) : Option Rs := X11_shut_g0 t x1 x2 h
noncomputable abbrev X11_shut_F : List PV → PH → Option Rs := FW_T10II (X11_shut)
set_option maxRecDepth 100000 in
theorem X11_shut_gd (l : Launch) : Gd l 1 yX11_shut cX11_shut 5 (some .int) (X11_shut_F)   := Gd_of (by decide +kernel) (fun z hzl as h r e => by
  obtain ⟨hst, e⟩ := gL_of e
  obtain ⟨t, q0, e⟩ := gT_of e
  obtain ⟨x1, q1, e⟩ := gI_of e
  obtain ⟨x2, q2, e⟩ := gI_of e
  rw [st_3 hst q0 q1 q2]
  exact ⟨show 3 ≤ 5 by decide, X11_shut_s0 (X11_shut_v40) _ _ _ _ ((X11_shut_l0 X11_isWithin (X11_shut_g40) t x1 x2 h).trans e)⟩)
abbrev X11_goal_x (z : CZ) : CX := mx RX11 cX11_goal 3 2 (some .int) "goal" z
noncomputable def X11_goal_b0 (c_X1_hasPlace : Nat → Int32 → PH → Option Rs) : Kn := (a_al 0 (a_gR 10 640 1 (a_il 1 (a_vI 1 1 (FW_T1I c_X1_hasPlace) (a_z (a_ic (-1000000001) a_ir) (a_il 2 (a_ic (-1) (a_lt (a_ic (-1000000001) a_ir) (a_il 2 (a_ic 4 (a_lt (a_al 0 (a_gR 10 640 1 (a_gI 1 74 (a_ic 10 (a_lt (a_al 0 (a_gR 10 640 1 (a_gR 1 66 16 (a_al 0 (a_gR 10 640 1 (a_gI 1 74 (a_il 1 (a_ast 16 1024 (fun a => a) (a_al 0 (a_gR 10 640 1 (a_gR 1 67 17 (a_al 0 (a_gR 10 640 1 (a_gI 1 74 (a_il 2 (a_ast 17 1088 (fun a => a) (a_al 0 (a_gR 10 640 1 (a_dup (a_gI 1 74 (a_dupx1 (a_ic 1 (a_b (fun a b => a + b) (a_pI 1 74 a_ir)))))))))))))))))))))))) (a_ic (-1000000003) a_ir)))))) (a_ic (-1000000001) a_ir))))))))))))
set_option maxRecDepth 100000 in
theorem X11_goal_s0 {z : CZ} : SK (X11_goal_x z) 0 (X11_goal_b0 X1_hasPlace) := (s_aloadn (pc := 0) dX11_goal_0 rfl (s_gR (pc := 1) (f := 0) ko_10 (by decide) rfl rfl w_504 dX11_goal_1 (s_iloadn (pc := 4) dX11_goal_4 rfl (s_vI (pc := 5) (run_virtual (X1_hasPlace_gd _) (show 1 < 2 by decide) cy_X1_hasPlace (by decide) rfl w_545 w_546 w_544 dX11_goal_5) (s_ifeq (pc := 8) dX11_goal_8 (by decide) (s_ldc (pc := 21) w_551 dX11_goal_21 (s_ir (pc := 23) rfl dX11_goal_23)) (s_iloadn (pc := 11) dX11_goal_11 rfl (s_iconst (pc := 12) dX11_goal_12 c_ic_m1 (s_cmplt (pc := 13) dX11_goal_13 (by decide) (s_ldc (pc := 21) w_551 dX11_goal_21 (s_ir (pc := 23) rfl dX11_goal_23)) (s_iloadn (pc := 16) dX11_goal_16 rfl (s_iconst (pc := 17) dX11_goal_17 c_ic_4 (s_cmplt (pc := 18) dX11_goal_18 (by decide) (s_aloadn (pc := 24) dX11_goal_24 rfl (s_gR (pc := 25) (f := 0) ko_10 (by decide) rfl rfl w_504 dX11_goal_25 (s_gI (pc := 28) (f := 10) ko_1 (by decide) rfl rfl w_250 dX11_goal_28 (s_bipush (pc := 31) dX11_goal_31 c_bp_10 (s_cmplt (pc := 33) dX11_goal_33 (by decide) (s_aloadn (pc := 39) dX11_goal_39 rfl (s_gR (pc := 40) (f := 0) ko_10 (by decide) rfl rfl w_504 dX11_goal_40 (s_gR (pc := 43) (f := 2) ko_1 (by decide) rfl rfl w_223 dX11_goal_43 (s_aloadn (pc := 46) dX11_goal_46 rfl (s_gR (pc := 47) (f := 0) ko_10 (by decide) rfl rfl w_504 dX11_goal_47 (s_gI (pc := 50) (f := 10) ko_1 (by decide) rfl rfl w_250 dX11_goal_50 (s_iloadn (pc := 53) dX11_goal_53 rfl (s_iast (pc := 54) (by decide) (by decide) rfl rfl rfl dX11_goal_54 (s_aloadn (pc := 55) dX11_goal_55 rfl (s_gR (pc := 56) (f := 0) ko_10 (by decide) rfl rfl w_504 dX11_goal_56 (s_gR (pc := 59) (f := 3) ko_1 (by decide) rfl rfl w_226 dX11_goal_59 (s_aloadn (pc := 62) dX11_goal_62 rfl (s_gR (pc := 63) (f := 0) ko_10 (by decide) rfl rfl w_504 dX11_goal_63 (s_gI (pc := 66) (f := 10) ko_1 (by decide) rfl rfl w_250 dX11_goal_66 (s_iloadn (pc := 69) dX11_goal_69 rfl (s_iast (pc := 70) (by decide) (by decide) rfl rfl rfl dX11_goal_70 (s_aloadn (pc := 71) dX11_goal_71 rfl (s_gR (pc := 72) (f := 0) ko_10 (by decide) rfl rfl w_504 dX11_goal_72 (s_dup (pc := 75) dX11_goal_75 (s_gI (pc := 76) (f := 10) ko_1 (by decide) rfl rfl w_250 dX11_goal_76 (s_dupx1 (pc := 79) dX11_goal_79 (s_iconst (pc := 80) dX11_goal_80 c_ic_1 (s_iadd (pc := 81) dX11_goal_81 (s_pI (pc := 82) (f := 10) ko_1 (by decide) rfl rfl rfl (by decide +kernel) w_250 dX11_goal_82 (s_ir (pc := 85) rfl dX11_goal_85))))))))))))))))))))))))) (s_ldc (pc := 36) w_539 dX11_goal_36 (s_ir (pc := 38) rfl dX11_goal_38))))))) (s_ldc (pc := 21) w_551 dX11_goal_21 (s_ir (pc := 23) rfl dX11_goal_23)))))))))))))
noncomputable def X11_goal_f0 (c_X1_hasPlace : Nat → Int32 → PH → Option Rs) (t : Nat) (x1 : Int32) (x2 : Int32) (h : PH) : Option Rs :=
  nn (hR h 640 t 0) fun r1 =>
  cI (c_X1_hasPlace r1 x1 h) fun v3 h2 =>
  if v3 = 0 then
    some (some (.inl (-1000000001)), h2)
  else
    if x2 < (-1) then
      some (some (.inl (-1000000001)), h2)
    else
      if x2 < 4 then
        nn (hR h2 640 t 0) fun r4 =>
        if (hI h2 74 r4 0) < 10 then
          nn (hR h2 640 t 0) fun r5 =>
          nn (hR h2 640 t 0) fun r6 =>
          nn (hR h2 66 r5 0) fun r7 =>
          ix (hI h2 74 r6 0) (hL h2 16 r7) fun j8 =>
          wr (pI h2 1024 r7 j8 x1) fun h9 =>
          nn (hR h9 640 t 0) fun r10 =>
          nn (hR h9 640 t 0) fun r11 =>
          nn (hR h9 67 r10 0) fun r12 =>
          ix (hI h9 74 r11 0) (hL h9 17 r12) fun j13 =>
          wr (pI h9 1088 r12 j13 x2) fun h14 =>
          nn (hR h14 640 t 0) fun r15 =>
          nn (hR h14 640 t 0) fun r16 =>
          wr (pI h14 74 r16 0 ((hI h14 74 r15 0) + 1)) fun h17 =>
          some (some (.inl (hI h14 74 r15 0)), h17)
        else
          some (some (.inl (-1000000003)), h2)
      else
        some (some (.inl (-1000000001)), h2)
set_option maxRecDepth 100000 in
theorem X11_goal_l0 (c_X1_hasPlace : Nat → Int32 → PH → Option Rs) (t : Nat) (x1 : Int32) (x2 : Int32) (h : PH) : X11_goal_b0 c_X1_hasPlace [some (.inr (10, t + 1)), some (.inl x1), some (.inl x2)] [] h = X11_goal_f0 c_X1_hasPlace t x1 x2 h := rfl
noncomputable def X11_goal_g0 (t : Nat) (x1 : Int32) (x2 : Int32) (h : PH) : Option Rs := X11_goal_f0 X1_hasPlace t x1 x2 h
noncomputable def X11_goal (t : Nat) (x1 : Int32) (x2 : Int32) (h : PH) : Option Rs := X11_goal_g0 t x1 x2 h
noncomputable abbrev X11_goal_F : List PV → PH → Option Rs := FW_T10II (X11_goal)
set_option maxRecDepth 100000 in
theorem X11_goal_gd (l : Launch) : Gd l 2 yX11_goal cX11_goal 3 (some .int) (X11_goal_F)   := Gd_of (by decide +kernel) (fun z hzl as h r e => by
  obtain ⟨hst, e⟩ := gL_of e
  obtain ⟨t, q0, e⟩ := gT_of e
  obtain ⟨x1, q1, e⟩ := gI_of e
  obtain ⟨x2, q2, e⟩ := gI_of e
  rw [st_3 hst q0 q1 q2]
  exact ⟨show 3 ≤ 3 by decide, X11_goal_s0 _ _ _ _ ((X11_goal_l0 X1_hasPlace t x1 x2 h).trans e)⟩)
abbrev X1_hasGoal_x (z : CZ) : CX := mx RX1 cX1_hasGoal 2 1 (some .boolean) "hasGoal" z
noncomputable def X1_hasGoal_b0 (c_X11_isWithin : Int32 → Int32 → PH → Option Rs) : Kn := (a_il 1 (a_al 0 (a_gI 1 74 (a_sI 2 (FW_II c_X11_isWithin) a_zr))))
set_option maxRecDepth 100000 in
theorem X1_hasGoal_s0 {z : CZ} : SK (X1_hasGoal_x z) 0 (X1_hasGoal_b0 X11_isWithin) := (s_iloadn (pc := 0) dX1_hasGoal_0 rfl (s_aloadn (pc := 1) dX1_hasGoal_1 rfl (s_gI (pc := 2) (f := 10) ko_1 (by decide) rfl rfl w_247 dX1_hasGoal_2 (s_sI (pc := 5) (run_staticN (X11_isWithin_gd _) (show 0 < 1 by decide) cy_X11_isWithin w_549 nw_548 dX1_hasGoal_5) (s_zr (pc := 8) rfl dX1_hasGoal_8)))))
noncomputable def X1_hasGoal_f0 (c_X11_isWithin : Int32 → Int32 → PH → Option Rs) (t : Nat) (x1 : Int32) (h : PH) : Option Rs :=
  cI (c_X11_isWithin x1 (hI h 74 t 0) h) fun v2 h1 =>
  bz v2 <|
  some (some (.inl v2), h1)
set_option maxRecDepth 100000 in
theorem X1_hasGoal_l0 (c_X11_isWithin : Int32 → Int32 → PH → Option Rs) (t : Nat) (x1 : Int32) (h : PH) : X1_hasGoal_b0 c_X11_isWithin [some (.inr (1, t + 1)), some (.inl x1)] [] h = X1_hasGoal_f0 c_X11_isWithin t x1 h := rfl
noncomputable def X1_hasGoal_g0 (t : Nat) (x1 : Int32) (h : PH) : Option Rs := X1_hasGoal_f0 X11_isWithin t x1 h
noncomputable def X1_hasGoal (t : Nat) (x1 : Int32) (h : PH) : Option Rs := X1_hasGoal_g0 t x1 h
noncomputable abbrev X1_hasGoal_F : List PV → PH → Option Rs := FW_T1I (X1_hasGoal)
set_option maxRecDepth 100000 in
theorem X1_hasGoal_gd (l : Launch) : Gd l 1 yX1_hasGoal cX1_hasGoal 2 (some .boolean) (X1_hasGoal_F)   := Gd_of (by decide +kernel) (fun z hzl as h r e => by
  obtain ⟨hst, e⟩ := gL_of e
  obtain ⟨t, q0, e⟩ := gT_of e
  obtain ⟨x1, q1, e⟩ := gI_of e
  rw [st_2 hst q0 q1]
  exact ⟨show 2 ≤ 2 by decide, X1_hasGoal_s0 _ _ _ _ ((X1_hasGoal_l0 X11_isWithin t x1 h).trans e)⟩)
abbrev X11_orNone_x (z : CZ) : CX := mx RX11 cX11_orNone 1 0 (some .int) "orNone" z
noncomputable def X11_orNone_b0 : Kn := (a_il 0 (a_ic (-1) (a_eq (a_ic (-1000000005) a_ir) (a_il 0 a_ir))))
set_option maxRecDepth 100000 in
theorem X11_orNone_s0 {z : CZ} : SK (X11_orNone_x z) 0 (X11_orNone_b0) := (s_iloadn (pc := 0) dX11_orNone_0 rfl (s_iconst (pc := 1) dX11_orNone_1 c_ic_m1 (s_cmpne (pc := 2) dX11_orNone_2 (by decide) (s_iloadn (pc := 10) dX11_orNone_10 rfl (s_ir (pc := 11) rfl dX11_orNone_11)) (s_ldc (pc := 5) w_611 dX11_orNone_5 (s_goto (pc := 7) dX11_orNone_7 (by decide) (s_ir (pc := 11) rfl dX11_orNone_11))))))
noncomputable def X11_orNone_f0 (x0 : Int32) (h : PH) : Option Rs :=
  if x0 = (-1) then
    some (some (.inl (-1000000005)), h)
  else
    some (some (.inl x0), h)
set_option maxRecDepth 100000 in
theorem X11_orNone_l0 (x0 : Int32) (h : PH) : X11_orNone_b0 [some (.inl x0)] [] h = X11_orNone_f0 x0 h := rfl
noncomputable def X11_orNone_g0 (x0 : Int32) (h : PH) : Option Rs := X11_orNone_f0 x0 h
noncomputable def X11_orNone (x0 : Int32) (h : PH) : Option Rs := X11_orNone_g0 x0 h
noncomputable abbrev X11_orNone_F : List PV → PH → Option Rs := FW_I (X11_orNone)
set_option maxRecDepth 100000 in
theorem X11_orNone_gd (l : Launch) : Gd l 0 yX11_orNone cX11_orNone 1 (some .int) (X11_orNone_F)   := Gd_of (by decide +kernel) (fun z hzl as h r e => by
  obtain ⟨hst, e⟩ := gL_of e
  obtain ⟨x0, q0, e⟩ := gI_of e
  rw [st_1 hst q0]
  exact ⟨show 1 ≤ 1 by decide, X11_orNone_s0 _ _ _ _ ((X11_orNone_l0 x0 h).trans e)⟩)
