abbrev X6_becomeAs_x (z : CZ) : CX := mx RX6 cX6_becomeAs 2 0 none "becomeAs" z
noncomputable def X6_becomeAs_b0 (k40 : Kn) : Kn := (a_al 0 (a_al 1 (a_gI 5 320 (a_pI 5 320 (a_al 0 (a_al 1 (a_gI 5 321 (a_pI 5 321 (a_al 0 (a_al 1 (a_gI 5 322 (a_pI 5 322 (a_al 0 (a_al 1 (a_gI 5 323 (a_pI 5 323 (a_al 0 (a_al 1 (a_gI 5 324 (a_pI 5 324 k40))))))))))))))))))))
set_option maxRecDepth 100000 in
theorem X6_becomeAs_s0 {z : CZ} {k40 : Kn} (hk40 : SK (X6_becomeAs_x z) 40 k40) : SK (X6_becomeAs_x z) 0 (X6_becomeAs_b0 k40) := (s_aloadn (pc := 0) dX6_becomeAs_0 rfl (s_aloadn (pc := 1) dX6_becomeAs_1 rfl (s_gI (pc := 2) (f := 0) ko_5 (by decide) rfl rfl w_169 dX6_becomeAs_2 (s_pI (pc := 5) (f := 0) ko_5 (by decide) rfl rfl rfl (by decide +kernel) w_169 dX6_becomeAs_5 (s_aloadn (pc := 8) dX6_becomeAs_8 rfl (s_aloadn (pc := 9) dX6_becomeAs_9 rfl (s_gI (pc := 10) (f := 1) ko_5 (by decide) rfl rfl w_173 dX6_becomeAs_10 (s_pI (pc := 13) (f := 1) ko_5 (by decide) rfl rfl rfl (by decide +kernel) w_173 dX6_becomeAs_13 (s_aloadn (pc := 16) dX6_becomeAs_16 rfl (s_aloadn (pc := 17) dX6_becomeAs_17 rfl (s_gI (pc := 18) (f := 2) ko_5 (by decide) rfl rfl w_176 dX6_becomeAs_18 (s_pI (pc := 21) (f := 2) ko_5 (by decide) rfl rfl rfl (by decide +kernel) w_176 dX6_becomeAs_21 (s_aloadn (pc := 24) dX6_becomeAs_24 rfl (s_aloadn (pc := 25) dX6_becomeAs_25 rfl (s_gI (pc := 26) (f := 3) ko_5 (by decide) rfl rfl w_179 dX6_becomeAs_26 (s_pI (pc := 29) (f := 3) ko_5 (by decide) rfl rfl rfl (by decide +kernel) w_179 dX6_becomeAs_29 (s_aloadn (pc := 32) dX6_becomeAs_32 rfl (s_aloadn (pc := 33) dX6_becomeAs_33 rfl (s_gI (pc := 34) (f := 4) ko_5 (by decide) rfl rfl w_184 dX6_becomeAs_34 (s_pI (pc := 37) (f := 4) ko_5 (by decide) rfl rfl rfl (by decide +kernel) w_184 dX6_becomeAs_37 hk40))))))))))))))))))))
noncomputable def X6_becomeAs_b40 : Kn := (a_al 1 (a_gR 5 325 27 (a_ic 0 (a_al 0 (a_gR 5 325 27 (a_ic 0 (a_ic 6 (a_cp 27 1728 27 1728 (a_al 1 (a_gR 5 326 28 (a_ic 0 (a_al 0 (a_gR 5 326 28 (a_ic 0 (a_ic 6 (a_cp 28 1792 28 1792 a_vr))))))))))))))))
set_option maxRecDepth 100000 in
theorem X6_becomeAs_s40 {z : CZ} : SK (X6_becomeAs_x z) 40 (X6_becomeAs_b40) := (s_aloadn (pc := 40) dX6_becomeAs_40 rfl (s_gR (pc := 41) (f := 5) ko_5 (by decide) rfl rfl w_186 dX6_becomeAs_41 (s_iconst (pc := 44) dX6_becomeAs_44 c_ic_0 (s_aloadn (pc := 45) dX6_becomeAs_45 rfl (s_gR (pc := 46) (f := 5) ko_5 (by decide) rfl rfl w_186 dX6_becomeAs_46 (s_iconst (pc := 49) dX6_becomeAs_49 c_ic_0 (s_bipush (pc := 50) dX6_becomeAs_50 c_bp_6 (s_cp (pc := 52) (by decide) (by decide) (by decide) (by decide) rfl rfl rfl rfl rfl rfl w_1275 w_919 w_918 w_98 dX6_becomeAs_52 (s_aloadn (pc := 55) dX6_becomeAs_55 rfl (s_gR (pc := 56) (f := 6) ko_5 (by decide) rfl rfl w_190 dX6_becomeAs_56 (s_iconst (pc := 59) dX6_becomeAs_59 c_ic_0 (s_aloadn (pc := 60) dX6_becomeAs_60 rfl (s_gR (pc := 61) (f := 6) ko_5 (by decide) rfl rfl w_190 dX6_becomeAs_61 (s_iconst (pc := 64) dX6_becomeAs_64 c_ic_0 (s_bipush (pc := 65) dX6_becomeAs_65 c_bp_6 (s_cp (pc := 67) (by decide) (by decide) (by decide) (by decide) rfl rfl rfl rfl rfl rfl w_1275 w_919 w_918 w_98 dX6_becomeAs_67 (s_vr (pc := 70) rfl dX6_becomeAs_70)))))))))))))))))
noncomputable def X6_becomeAs_u40 (g : Nat → Nat → PH → Option Rs) : Kn := fun ls st h => gL 0 st (gT 5 ls 0 fun t => gR 5 ls 1 fun x1 => g t x1 h)
noncomputable def X6_becomeAs_f0 (g40 : Nat → Nat → PH → Option Rs) (t : Nat) (x1 : Nat) (h : PH) : Option Rs :=
  nn x1 fun r1 =>
  wr (pI h 320 t 0 (hI h 320 r1 0)) fun h2 =>
  nn x1 fun r3 =>
  wr (pI h2 321 t 0 (hI h2 321 r3 0)) fun h4 =>
  nn x1 fun r5 =>
  wr (pI h4 322 t 0 (hI h4 322 r5 0)) fun h6 =>
  nn x1 fun r7 =>
  wr (pI h6 323 t 0 (hI h6 323 r7 0)) fun h8 =>
  nn x1 fun r9 =>
  wr (pI h8 324 t 0 (hI h8 324 r9 0)) fun h10 =>
  g40 t x1 h10
set_option maxRecDepth 100000 in
theorem X6_becomeAs_l0 (g40 : Nat → Nat → PH → Option Rs) (t : Nat) (x1 : Nat) (h : PH) : X6_becomeAs_b0 (X6_becomeAs_u40 g40) [some (.inr (5, t + 1)), some (.inr (5, x1))] [] h = X6_becomeAs_f0 g40 t x1 h := rfl
theorem X6_becomeAs_m0 {g40 G40 : Nat → Nat → PH → Option Rs} (hg40 : ∀ a0 a1 a2, Mo (g40 a0 a1 a2) (G40 a0 a1 a2)) (t : Nat) (x1 : Nat) (h : PH) : Mo (X6_becomeAs_f0 g40 t x1 h) (X6_becomeAs_f0 G40 t x1 h) := (mo_nn fun r1 => (mo_wr fun h2 => (mo_nn fun r3 => (mo_wr fun h4 => (mo_nn fun r5 => (mo_wr fun h6 => (mo_nn fun r7 => (mo_wr fun h8 => (mo_nn fun r9 => (mo_wr fun h10 => (hg40 t x1 h10)))))))))))
noncomputable def X6_becomeAs_f40 (t : Nat) (x1 : Nat) (h : PH) : Option Rs :=
  nn x1 fun r11 =>
  nn (hR h 325 r11 0) fun r12 =>
  nn (hR h 325 t 0) fun r13 =>
  cpk (hL h 27 r12) (hL h 27 r13) 0 0 6 <|
  wr (pCp h 1728 r12 (0 : Int32).toNatClampNeg 1728 r13 (0 : Int32).toNatClampNeg (6 : Int32).toNatClampNeg) fun h14 =>
  nn x1 fun r15 =>
  nn (hR h14 326 r15 0) fun r16 =>
  nn (hR h14 326 t 0) fun r17 =>
  cpk (hL h14 28 r16) (hL h14 28 r17) 0 0 6 <|
  wr (pCp h14 1792 r16 (0 : Int32).toNatClampNeg 1792 r17 (0 : Int32).toNatClampNeg (6 : Int32).toNatClampNeg) fun h18 =>
  some (none, h18)
set_option maxRecDepth 100000 in
theorem X6_becomeAs_l40 (t : Nat) (x1 : Nat) (h : PH) : X6_becomeAs_b40 [some (.inr (5, t + 1)), some (.inr (5, x1))] [] h = X6_becomeAs_f40 t x1 h := rfl
theorem X6_becomeAs_w40 {z : CZ} : SK (X6_becomeAs_x z) 40 (X6_becomeAs_u40 (X6_becomeAs_f40)) := by
  intro ls st h r e
  obtain ⟨hst, e⟩ := gL_of e
  obtain ⟨t, q0, e⟩ := gT_of e
  obtain ⟨x1, q1, e⟩ := gR_of e
  rw [st_0 hst]
  exact WK.sub (canon := [some (.inr (5, t + 1)), some (.inr (5, x1))]) rfl ⟨q0, q1, trivial⟩ (X6_becomeAs_s40 _ _ _ _ ((X6_becomeAs_l40 t x1 h).trans e))
noncomputable def X6_becomeAs_g40 (t : Nat) (x1 : Nat) (h : PH) : Option Rs := X6_becomeAs_f40 t x1 h
noncomputable def X6_becomeAs_g0 (t : Nat) (x1 : Nat) (h : PH) : Option Rs := X6_becomeAs_f0 (X6_becomeAs_g40) t x1 h
theorem X6_becomeAs_v40 {z : CZ} : SK (X6_becomeAs_x z) 40 (X6_becomeAs_u40 (X6_becomeAs_g40)) := X6_becomeAs_w40
noncomputable def X6_becomeAs (t : Nat) (x1 : Nat) (h : PH) : Option Rs := X6_becomeAs_g0 t x1 h
noncomputable abbrev X6_becomeAs_F : List PV → PH → Option Rs := FW_T5R5 (X6_becomeAs)
set_option maxRecDepth 100000 in
theorem X6_becomeAs_gd (l : Launch) : Gd l 0 yX6_becomeAs cX6_becomeAs 2 none (X6_becomeAs_F)   := Gd_of (by decide +kernel) (fun z hzl as h r e => by
  obtain ⟨hst, e⟩ := gL_of e
  obtain ⟨t, q0, e⟩ := gT_of e
  obtain ⟨x1, q1, e⟩ := gR_of e
  rw [st_2 hst q0 q1]
  exact ⟨show 2 ≤ 2 by decide, X6_becomeAs_s0 (X6_becomeAs_v40) _ _ _ _ ((X6_becomeAs_l0 (X6_becomeAs_g40) t x1 h).trans e)⟩)
abbrev X1_becomeLike_x (z : CZ) : CX := mx RX1 cX1_becomeLike 3 1 none "becomeLike" z
noncomputable def X1_becomeLike_b0 (k2 : Kn) : Kn := (a_ic 0 (a_is 2 k2))
set_option maxRecDepth 100000 in
theorem X1_becomeLike_s0 {z : CZ} {k2 : Kn} (hk2 : SK (X1_becomeLike_x z) 2 k2) : SK (X1_becomeLike_x z) 0 (X1_becomeLike_b0 k2) := (s_iconst (pc := 0) dX1_becomeLike_0 c_ic_0 (s_istoren (pc := 1) dX1_becomeLike_1 rfl (show 2 < 3 by decide) hk2))
noncomputable def X1_becomeLike_b2 (c_X10_becomeAs : Nat → Nat → PH → Option Rs) (k2 k33 : Kn) : Kn := (a_il 2 (a_al 1 (a_gI 1 73 (a_lt (a_al 0 (a_gR 1 64 14 (a_il 2 (a_rald 14 896 9 (a_al 1 (a_gR 1 64 14 (a_il 2 (a_rald 14 896 9 (a_vV 9 1 (FW_T9R9 c_X10_becomeAs) (a_inc 2 1 k2)))))))))) (a_ic 0 (a_is 2 k33))))))
set_option maxRecDepth 100000 in
theorem X1_becomeLike_s2 {z : CZ} {k2 k33 : Kn} (hk2 : SK (X1_becomeLike_x z) 2 k2) (hk33 : SK (X1_becomeLike_x z) 33 k33) : SK (X1_becomeLike_x z) 2 (X1_becomeLike_b2 X10_becomeAs k2 k33) := (s_iloadn (pc := 2) dX1_becomeLike_2 rfl (s_aloadn (pc := 3) dX1_becomeLike_3 rfl (s_gI (pc := 4) (f := 9) ko_1 (by decide) rfl rfl w_244 dX1_becomeLike_4 (s_cmpge (pc := 7) dX1_becomeLike_7 (by decide) (s_iconst (pc := 31) dX1_becomeLike_31 c_ic_0 (s_istoren (pc := 32) dX1_becomeLike_32 rfl (show 2 < 3 by decide) hk33)) (s_aloadn (pc := 10) dX1_becomeLike_10 rfl (s_gR (pc := 11) (f := 0) ko_1 (by decide) rfl rfl w_213 dX1_becomeLike_11 (s_iloadn (pc := 14) dX1_becomeLike_14 rfl (s_rald (pc := 15) (by decide) (by decide) rfl rfl rfl dX1_becomeLike_15 (s_aloadn (pc := 16) dX1_becomeLike_16 rfl (s_gR (pc := 17) (f := 0) ko_1 (by decide) rfl rfl w_213 dX1_becomeLike_17 (s_iloadn (pc := 20) dX1_becomeLike_20 rfl (s_rald (pc := 21) (by decide) (by decide) rfl rfl rfl dX1_becomeLike_21 (s_vV (pc := 22) (run_virtual (X10_becomeAs_gd _) (show 0 < 1 by decide) cy_X10_becomeAs (by decide) rfl w_1268 w_1269 w_1267 dX1_becomeLike_22) (s_iinc (pc := 25) dX1_becomeLike_25 c_ic_1 (show 2 < 3 by decide) (s_goto (pc := 28) dX1_becomeLike_28 (by decide) hk2)))))))))))))))
noncomputable def X1_becomeLike_b33 (c_X6_becomeAs : Nat → Nat → PH → Option Rs) (k33 k64 : Kn) : Kn := (a_il 2 (a_al 1 (a_gI 1 75 (a_lt (a_al 0 (a_gR 1 68 18 (a_il 2 (a_rald 18 1152 5 (a_al 1 (a_gR 1 68 18 (a_il 2 (a_rald 18 1152 5 (a_vV 5 1 (FW_T5R5 c_X6_becomeAs) (a_inc 2 1 k33)))))))))) (a_ic 0 (a_is 2 k64))))))
set_option maxRecDepth 100000 in
theorem X1_becomeLike_s33 {z : CZ} {k33 k64 : Kn} (hk33 : SK (X1_becomeLike_x z) 33 k33) (hk64 : SK (X1_becomeLike_x z) 64 k64) : SK (X1_becomeLike_x z) 33 (X1_becomeLike_b33 X6_becomeAs k33 k64) := (s_iloadn (pc := 33) dX1_becomeLike_33 rfl (s_aloadn (pc := 34) dX1_becomeLike_34 rfl (s_gI (pc := 35) (f := 11) ko_1 (by decide) rfl rfl w_251 dX1_becomeLike_35 (s_cmpge (pc := 38) dX1_becomeLike_38 (by decide) (s_iconst (pc := 62) dX1_becomeLike_62 c_ic_0 (s_istoren (pc := 63) dX1_becomeLike_63 rfl (show 2 < 3 by decide) hk64)) (s_aloadn (pc := 41) dX1_becomeLike_41 rfl (s_gR (pc := 42) (f := 4) ko_1 (by decide) rfl rfl w_229 dX1_becomeLike_42 (s_iloadn (pc := 45) dX1_becomeLike_45 rfl (s_rald (pc := 46) (by decide) (by decide) rfl rfl rfl dX1_becomeLike_46 (s_aloadn (pc := 47) dX1_becomeLike_47 rfl (s_gR (pc := 48) (f := 4) ko_1 (by decide) rfl rfl w_229 dX1_becomeLike_48 (s_iloadn (pc := 51) dX1_becomeLike_51 rfl (s_rald (pc := 52) (by decide) (by decide) rfl rfl rfl dX1_becomeLike_52 (s_vV (pc := 53) (run_virtual (X6_becomeAs_gd _) (show 0 < 1 by decide) cy_X6_becomeAs (by decide) rfl w_1272 w_1273 w_1271 dX1_becomeLike_53) (s_iinc (pc := 56) dX1_becomeLike_56 c_ic_1 (show 2 < 3 by decide) (s_goto (pc := 59) dX1_becomeLike_59 (by decide) hk33)))))))))))))))
noncomputable def X1_becomeLike_b64 (k64 : Kn) : Kn := (a_il 2 (a_al 1 (a_gI 1 76 (a_lt (a_al 0 (a_gR 1 69 19 (a_il 2 (a_al 1 (a_gR 1 69 19 (a_il 2 (a_rald 19 1216 7 (a_rast 19 1216 7 (a_inc 2 1 k64))))))))) (a_al 1 (a_gR 1 65 15 (a_ic 0 (a_al 0 (a_gR 1 65 15 (a_ic 0 (a_ic 96 (a_cp 15 960 15 960 (a_al 1 (a_gR 1 66 16 (a_ic 0 (a_al 0 (a_gR 1 66 16 (a_ic 0 (a_ic 10 (a_cp 16 1024 16 1024 (a_al 1 (a_gR 1 67 17 (a_ic 0 (a_al 0 (a_gR 1 67 17 (a_ic 0 (a_ic 10 (a_cp 17 1088 17 1088 (a_al 1 (a_gR 1 70 20 (a_ic 0 (a_al 0 (a_gR 1 70 20 (a_ic 0 (a_ic 3 (a_cp 20 1280 20 1280 (a_al 1 (a_gR 1 71 21 (a_ic 0 (a_al 0 (a_gR 1 71 21 (a_ic 0 (a_ic 6 (a_cp 21 1344 21 1344 (a_al 0 (a_al 1 (a_gI 1 72 (a_pI 1 72 (a_al 0 (a_al 1 (a_gI 1 73 (a_pI 1 73 (a_al 0 (a_al 1 (a_gI 1 74 (a_pI 1 74 (a_al 0 (a_al 1 (a_gI 1 75 (a_pI 1 75 (a_al 0 (a_al 1 (a_gI 1 76 (a_pI 1 76 (a_al 0 (a_al 1 (a_gI 1 77 (a_pI 1 77 (a_al 0 (a_al 1 (a_gI 1 78 (a_pI 1 78 (a_al 0 (a_al 1 (a_gI 1 79 (a_pI 1 79 (a_al 0 (a_al 1 (a_gI 1 80 (a_pI 1 80 a_vr))))))))))))))))))))))))))))))))))))))))))))))))))))))))))))))))))))))))))))))))
set_option maxRecDepth 100000 in
theorem X1_becomeLike_s64 {z : CZ} {k64 : Kn} (hk64 : SK (X1_becomeLike_x z) 64 k64) : SK (X1_becomeLike_x z) 64 (X1_becomeLike_b64 k64) := (s_iloadn (pc := 64) dX1_becomeLike_64 rfl (s_aloadn (pc := 65) dX1_becomeLike_65 rfl (s_gI (pc := 66) (f := 12) ko_1 (by decide) rfl rfl w_256 dX1_becomeLike_66 (s_cmpge (pc := 69) dX1_becomeLike_69 (by decide) (s_aloadn (pc := 90) dX1_becomeLike_90 rfl (s_gR (pc := 91) (f := 1) ko_1 (by decide) rfl rfl w_218 dX1_becomeLike_91 (s_iconst (pc := 94) dX1_becomeLike_94 c_ic_0 (s_aloadn (pc := 95) dX1_becomeLike_95 rfl (s_gR (pc := 96) (f := 1) ko_1 (by decide) rfl rfl w_218 dX1_becomeLike_96 (s_iconst (pc := 99) dX1_becomeLike_99 c_ic_0 (s_bipush (pc := 100) dX1_becomeLike_100 c_bp_96 (s_cp (pc := 102) (by decide) (by decide) (by decide) (by decide) rfl rfl rfl rfl rfl rfl w_1276 w_919 w_918 w_98 dX1_becomeLike_102 (s_aloadn (pc := 105) dX1_becomeLike_105 rfl (s_gR (pc := 106) (f := 2) ko_1 (by decide) rfl rfl w_219 dX1_becomeLike_106 (s_iconst (pc := 109) dX1_becomeLike_109 c_ic_0 (s_aloadn (pc := 110) dX1_becomeLike_110 rfl (s_gR (pc := 111) (f := 2) ko_1 (by decide) rfl rfl w_219 dX1_becomeLike_111 (s_iconst (pc := 114) dX1_becomeLike_114 c_ic_0 (s_bipush (pc := 115) dX1_becomeLike_115 c_bp_10 (s_cp (pc := 117) (by decide) (by decide) (by decide) (by decide) rfl rfl rfl rfl rfl rfl w_1276 w_919 w_918 w_98 dX1_becomeLike_117 (s_aloadn (pc := 120) dX1_becomeLike_120 rfl (s_gR (pc := 121) (f := 3) ko_1 (by decide) rfl rfl w_224 dX1_becomeLike_121 (s_iconst (pc := 124) dX1_becomeLike_124 c_ic_0 (s_aloadn (pc := 125) dX1_becomeLike_125 rfl (s_gR (pc := 126) (f := 3) ko_1 (by decide) rfl rfl w_224 dX1_becomeLike_126 (s_iconst (pc := 129) dX1_becomeLike_129 c_ic_0 (s_bipush (pc := 130) dX1_becomeLike_130 c_bp_10 (s_cp (pc := 132) (by decide) (by decide) (by decide) (by decide) rfl rfl rfl rfl rfl rfl w_1276 w_919 w_918 w_98 dX1_becomeLike_132 (s_aloadn (pc := 135) dX1_becomeLike_135 rfl (s_gR (pc := 136) (f := 6) ko_1 (by decide) rfl rfl w_236 dX1_becomeLike_136 (s_iconst (pc := 139) dX1_becomeLike_139 c_ic_0 (s_aloadn (pc := 140) dX1_becomeLike_140 rfl (s_gR (pc := 141) (f := 6) ko_1 (by decide) rfl rfl w_236 dX1_becomeLike_141 (s_iconst (pc := 144) dX1_becomeLike_144 c_ic_0 (s_iconst (pc := 145) dX1_becomeLike_145 c_ic_3 (s_cp (pc := 146) (by decide) (by decide) (by decide) (by decide) rfl rfl rfl rfl rfl rfl w_1276 w_919 w_918 w_98 dX1_becomeLike_146 (s_aloadn (pc := 149) dX1_becomeLike_149 rfl (s_gR (pc := 150) (f := 7) ko_1 (by decide) rfl rfl w_238 dX1_becomeLike_150 (s_iconst (pc := 153) dX1_becomeLike_153 c_ic_0 (s_aloadn (pc := 154) dX1_becomeLike_154 rfl (s_gR (pc := 155) (f := 7) ko_1 (by decide) rfl rfl w_238 dX1_becomeLike_155 (s_iconst (pc := 158) dX1_becomeLike_158 c_ic_0 (s_bipush (pc := 159) dX1_becomeLike_159 c_bp_6 (s_cp (pc := 161) (by decide) (by decide) (by decide) (by decide) rfl rfl rfl rfl rfl rfl w_1276 w_919 w_918 w_98 dX1_becomeLike_161 (s_aloadn (pc := 164) dX1_becomeLike_164 rfl (s_aloadn (pc := 165) dX1_becomeLike_165 rfl (s_gI (pc := 166) (f := 8) ko_1 (by decide) rfl rfl w_241 dX1_becomeLike_166 (s_pI (pc := 169) (f := 8) ko_1 (by decide) rfl rfl rfl (by decide +kernel) w_241 dX1_becomeLike_169 (s_aloadn (pc := 172) dX1_becomeLike_172 rfl (s_aloadn (pc := 173) dX1_becomeLike_173 rfl (s_gI (pc := 174) (f := 9) ko_1 (by decide) rfl rfl w_244 dX1_becomeLike_174 (s_pI (pc := 177) (f := 9) ko_1 (by decide) rfl rfl rfl (by decide +kernel) w_244 dX1_becomeLike_177 (s_aloadn (pc := 180) dX1_becomeLike_180 rfl (s_aloadn (pc := 181) dX1_becomeLike_181 rfl (s_gI (pc := 182) (f := 10) ko_1 (by decide) rfl rfl w_247 dX1_becomeLike_182 (s_pI (pc := 185) (f := 10) ko_1 (by decide) rfl rfl rfl (by decide +kernel) w_247 dX1_becomeLike_185 (s_aloadn (pc := 188) dX1_becomeLike_188 rfl (s_aloadn (pc := 189) dX1_becomeLike_189 rfl (s_gI (pc := 190) (f := 11) ko_1 (by decide) rfl rfl w_251 dX1_becomeLike_190 (s_pI (pc := 193) (f := 11) ko_1 (by decide) rfl rfl rfl (by decide +kernel) w_251 dX1_becomeLike_193 (s_aloadn (pc := 196) dX1_becomeLike_196 rfl (s_aloadn (pc := 197) dX1_becomeLike_197 rfl (s_gI (pc := 198) (f := 12) ko_1 (by decide) rfl rfl w_256 dX1_becomeLike_198 (s_pI (pc := 201) (f := 12) ko_1 (by decide) rfl rfl rfl (by decide +kernel) w_256 dX1_becomeLike_201 (s_aloadn (pc := 204) dX1_becomeLike_204 rfl (s_aloadn (pc := 205) dX1_becomeLike_205 rfl (s_gI (pc := 206) (f := 13) ko_1 (by decide) rfl rfl w_258 dX1_becomeLike_206 (s_pI (pc := 209) (f := 13) ko_1 (by decide) rfl rfl rfl (by decide +kernel) w_258 dX1_becomeLike_209 (s_aloadn (pc := 212) dX1_becomeLike_212 rfl (s_aloadn (pc := 213) dX1_becomeLike_213 rfl (s_gI (pc := 214) (f := 14) ko_1 (by decide) rfl rfl w_261 dX1_becomeLike_214 (s_pI (pc := 217) (f := 14) ko_1 (by decide) rfl rfl rfl (by decide +kernel) w_261 dX1_becomeLike_217 (s_aloadn (pc := 220) dX1_becomeLike_220 rfl (s_aloadn (pc := 221) dX1_becomeLike_221 rfl (s_gI (pc := 222) (f := 15) ko_1 (by decide) rfl rfl w_263 dX1_becomeLike_222 (s_pI (pc := 225) (f := 15) ko_1 (by decide) rfl rfl rfl (by decide +kernel) w_263 dX1_becomeLike_225 (s_aloadn (pc := 228) dX1_becomeLike_228 rfl (s_aloadn (pc := 229) dX1_becomeLike_229 rfl (s_gI (pc := 230) (f := 16) ko_1 (by decide) rfl rfl w_265 dX1_becomeLike_230 (s_pI (pc := 233) (f := 16) ko_1 (by decide) rfl rfl rfl (by decide +kernel) w_265 dX1_becomeLike_233 (s_vr (pc := 236) rfl dX1_becomeLike_236))))))))))))))))))))))))))))))))))))))))))))))))))))))))))))))))))))))))))))) (s_aloadn (pc := 72) dX1_becomeLike_72 rfl (s_gR (pc := 73) (f := 5) ko_1 (by decide) rfl rfl w_234 dX1_becomeLike_73 (s_iloadn (pc := 76) dX1_becomeLike_76 rfl (s_aloadn (pc := 77) dX1_becomeLike_77 rfl (s_gR (pc := 78) (f := 5) ko_1 (by decide) rfl rfl w_234 dX1_becomeLike_78 (s_iloadn (pc := 81) dX1_becomeLike_81 rfl (s_rald (pc := 82) (by decide) (by decide) rfl rfl rfl dX1_becomeLike_82 (s_rast (pc := 83) (by decide) (by decide) rfl (by decide) rfl rfl rfl dX1_becomeLike_83 (s_iinc (pc := 84) dX1_becomeLike_84 c_ic_1 (show 2 < 3 by decide) (s_goto (pc := 87) dX1_becomeLike_87 (by decide) hk64))))))))))))))
noncomputable def X1_becomeLike_u2 (g : Nat → Nat → Int32 → PH → Option Rs) : Kn := fun ls st h => gL 0 st (gT 1 ls 0 fun t => gR 1 ls 1 fun x1 => gI ls 2 fun x2 => g t x1 x2 h)
noncomputable def X1_becomeLike_u33 (g : Nat → Nat → Int32 → PH → Option Rs) : Kn := fun ls st h => gL 0 st (gT 1 ls 0 fun t => gR 1 ls 1 fun x1 => gI ls 2 fun x2 => g t x1 x2 h)
noncomputable def X1_becomeLike_u64 (g : Nat → Nat → Int32 → PH → Option Rs) : Kn := fun ls st h => gL 0 st (gT 1 ls 0 fun t => gR 1 ls 1 fun x1 => gI ls 2 fun x2 => g t x1 x2 h)
noncomputable def X1_becomeLike_f0 (g2 : Nat → Nat → Int32 → PH → Option Rs) (t : Nat) (x1 : Nat) (h : PH) : Option Rs :=
  g2 t x1 0 h
set_option maxRecDepth 100000 in
theorem X1_becomeLike_l0 (g2 : Nat → Nat → Int32 → PH → Option Rs) (t : Nat) (x1 : Nat) (h : PH) : X1_becomeLike_b0 (X1_becomeLike_u2 g2) [some (.inr (1, t + 1)), some (.inr (1, x1)), none] [] h = X1_becomeLike_f0 g2 t x1 h := rfl
theorem X1_becomeLike_m0 {g2 G2 : Nat → Nat → Int32 → PH → Option Rs} (hg2 : ∀ a0 a1 a2 a3, Mo (g2 a0 a1 a2 a3) (G2 a0 a1 a2 a3)) (t : Nat) (x1 : Nat) (h : PH) : Mo (X1_becomeLike_f0 g2 t x1 h) (X1_becomeLike_f0 G2 t x1 h) := (hg2 t x1 0 h)
noncomputable def X1_becomeLike_f2 (c_X10_becomeAs : Nat → Nat → PH → Option Rs) (g2 : Nat → Nat → Int32 → PH → Option Rs) (g33 : Nat → Nat → Int32 → PH → Option Rs) (t : Nat) (x1 : Nat) (x2 : Int32) (h : PH) : Option Rs :=
  nn x1 fun r1 =>
  if x2 < (hI h 73 r1 0) then
    nn (hR h 64 t 0) fun r2 =>
    ix x2 (hL h 14 r2) fun j3 =>
    nn x1 fun r4 =>
    nn (hR h 64 r4 0) fun r5 =>
    ix x2 (hL h 14 r5) fun j6 =>
    nn (hR h 896 r2 j3) fun r7 =>
    cV (c_X10_becomeAs r7 (hR h 896 r5 j6) h) fun h8 =>
    g2 t x1 (x2 + 1) h8
  else
    g33 t x1 0 h
set_option maxRecDepth 100000 in
theorem X1_becomeLike_l2 (c_X10_becomeAs : Nat → Nat → PH → Option Rs) (g2 : Nat → Nat → Int32 → PH → Option Rs) (g33 : Nat → Nat → Int32 → PH → Option Rs) (t : Nat) (x1 : Nat) (x2 : Int32) (h : PH) : X1_becomeLike_b2 c_X10_becomeAs (X1_becomeLike_u2 g2) (X1_becomeLike_u33 g33) [some (.inr (1, t + 1)), some (.inr (1, x1)), some (.inl x2)] [] h = X1_becomeLike_f2 c_X10_becomeAs g2 g33 t x1 x2 h := rfl
theorem X1_becomeLike_m2 {c_X10_becomeAs : Nat → Nat → PH → Option Rs} {g2 G2 : Nat → Nat → Int32 → PH → Option Rs} {g33 G33 : Nat → Nat → Int32 → PH → Option Rs} (hg2 : ∀ a0 a1 a2 a3, Mo (g2 a0 a1 a2 a3) (G2 a0 a1 a2 a3)) (hg33 : ∀ a0 a1 a2 a3, Mo (g33 a0 a1 a2 a3) (G33 a0 a1 a2 a3)) (t : Nat) (x1 : Nat) (x2 : Int32) (h : PH) : Mo (X1_becomeLike_f2 c_X10_becomeAs g2 g33 t x1 x2 h) (X1_becomeLike_f2 c_X10_becomeAs G2 G33 t x1 x2 h) := (mo_nn fun r1 => (mo_if (mo_nn fun r2 => (mo_ix fun j3 => (mo_nn fun r4 => (mo_nn fun r5 => (mo_ix fun j6 => (mo_nn fun r7 => (mo_cV fun h8 => (hg2 t x1 (x2 + 1) h8)))))))) (hg33 t x1 0 h)))
theorem X1_becomeLike_w2 {z : CZ} {g2 : Nat → Nat → Int32 → PH → Option Rs} {g33 : Nat → Nat → Int32 → PH → Option Rs} (hk2 : SK (X1_becomeLike_x z) 2 (X1_becomeLike_u2 g2)) (hk33 : SK (X1_becomeLike_x z) 33 (X1_becomeLike_u33 g33)) : SK (X1_becomeLike_x z) 2 (X1_becomeLike_u2 (X1_becomeLike_f2 X10_becomeAs g2 g33)) := by
  intro ls st h r e
  obtain ⟨hst, e⟩ := gL_of e
  obtain ⟨t, q0, e⟩ := gT_of e
  obtain ⟨x1, q1, e⟩ := gR_of e
  obtain ⟨x2, q2, e⟩ := gI_of e
  rw [st_0 hst]
  exact WK.sub (canon := [some (.inr (1, t + 1)), some (.inr (1, x1)), some (.inl x2)]) rfl ⟨q0, q1, q2, trivial⟩ (X1_becomeLike_s2 hk2 hk33 _ _ _ _ ((X1_becomeLike_l2 X10_becomeAs g2 g33 t x1 x2 h).trans e))
noncomputable def X1_becomeLike_f33 (c_X6_becomeAs : Nat → Nat → PH → Option Rs) (g33 : Nat → Nat → Int32 → PH → Option Rs) (g64 : Nat → Nat → Int32 → PH → Option Rs) (t : Nat) (x1 : Nat) (x2 : Int32) (h : PH) : Option Rs :=
  nn x1 fun r9 =>
  if x2 < (hI h 75 r9 0) then
    nn (hR h 68 t 0) fun r10 =>
    ix x2 (hL h 18 r10) fun j11 =>
    nn x1 fun r12 =>
    nn (hR h 68 r12 0) fun r13 =>
    ix x2 (hL h 18 r13) fun j14 =>
    nn (hR h 1152 r10 j11) fun r15 =>
    cV (c_X6_becomeAs r15 (hR h 1152 r13 j14) h) fun h16 =>
    g33 t x1 (x2 + 1) h16
  else
    g64 t x1 0 h
set_option maxRecDepth 100000 in
theorem X1_becomeLike_l33 (c_X6_becomeAs : Nat → Nat → PH → Option Rs) (g33 : Nat → Nat → Int32 → PH → Option Rs) (g64 : Nat → Nat → Int32 → PH → Option Rs) (t : Nat) (x1 : Nat) (x2 : Int32) (h : PH) : X1_becomeLike_b33 c_X6_becomeAs (X1_becomeLike_u33 g33) (X1_becomeLike_u64 g64) [some (.inr (1, t + 1)), some (.inr (1, x1)), some (.inl x2)] [] h = X1_becomeLike_f33 c_X6_becomeAs g33 g64 t x1 x2 h := rfl
theorem X1_becomeLike_m33 {c_X6_becomeAs : Nat → Nat → PH → Option Rs} {g33 G33 : Nat → Nat → Int32 → PH → Option Rs} {g64 G64 : Nat → Nat → Int32 → PH → Option Rs} (hg33 : ∀ a0 a1 a2 a3, Mo (g33 a0 a1 a2 a3) (G33 a0 a1 a2 a3)) (hg64 : ∀ a0 a1 a2 a3, Mo (g64 a0 a1 a2 a3) (G64 a0 a1 a2 a3)) (t : Nat) (x1 : Nat) (x2 : Int32) (h : PH) : Mo (X1_becomeLike_f33 c_X6_becomeAs g33 g64 t x1 x2 h) (X1_becomeLike_f33 c_X6_becomeAs G33 G64 t x1 x2 h) := (mo_nn fun r9 => (mo_if (mo_nn fun r10 => (mo_ix fun j11 => (mo_nn fun r12 => (mo_nn fun r13 => (mo_ix fun j14 => (mo_nn fun r15 => (mo_cV fun h16 => (hg33 t x1 (x2 + 1) h16)))))))) (hg64 t x1 0 h)))
theorem X1_becomeLike_w33 {z : CZ} {g33 : Nat → Nat → Int32 → PH → Option Rs} {g64 : Nat → Nat → Int32 → PH → Option Rs} (hk33 : SK (X1_becomeLike_x z) 33 (X1_becomeLike_u33 g33)) (hk64 : SK (X1_becomeLike_x z) 64 (X1_becomeLike_u64 g64)) : SK (X1_becomeLike_x z) 33 (X1_becomeLike_u33 (X1_becomeLike_f33 X6_becomeAs g33 g64)) := by
  intro ls st h r e
  obtain ⟨hst, e⟩ := gL_of e
  obtain ⟨t, q0, e⟩ := gT_of e
  obtain ⟨x1, q1, e⟩ := gR_of e
  obtain ⟨x2, q2, e⟩ := gI_of e
  rw [st_0 hst]
  exact WK.sub (canon := [some (.inr (1, t + 1)), some (.inr (1, x1)), some (.inl x2)]) rfl ⟨q0, q1, q2, trivial⟩ (X1_becomeLike_s33 hk33 hk64 _ _ _ _ ((X1_becomeLike_l33 X6_becomeAs g33 g64 t x1 x2 h).trans e))
noncomputable def X1_becomeLike_f64 (g64 : Nat → Nat → Int32 → PH → Option Rs) (t : Nat) (x1 : Nat) (x2 : Int32) (h : PH) : Option Rs :=
  nn x1 fun r17 =>
  if x2 < (hI h 76 r17 0) then
    nn x1 fun r56 =>
    nn (hR h 69 r56 0) fun r57 =>
    ix x2 (hL h 19 r57) fun j58 =>
    nn (hR h 69 t 0) fun r59 =>
    ix x2 (hL h 19 r59) fun j60 =>
    wr (pR h 1216 r59 j60 (hR h 1216 r57 j58)) fun h61 =>
    g64 t x1 (x2 + 1) h61
  else
    nn x1 fun r18 =>
    nn (hR h 65 r18 0) fun r19 =>
    nn (hR h 65 t 0) fun r20 =>
    cpk (hL h 15 r19) (hL h 15 r20) 0 0 96 <|
    wr (pCp h 960 r19 (0 : Int32).toNatClampNeg 960 r20 (0 : Int32).toNatClampNeg (96 : Int32).toNatClampNeg) fun h21 =>
    nn x1 fun r22 =>
    nn (hR h21 66 r22 0) fun r23 =>
    nn (hR h21 66 t 0) fun r24 =>
    cpk (hL h21 16 r23) (hL h21 16 r24) 0 0 10 <|
    wr (pCp h21 1024 r23 (0 : Int32).toNatClampNeg 1024 r24 (0 : Int32).toNatClampNeg (10 : Int32).toNatClampNeg) fun h25 =>
    nn x1 fun r26 =>
    nn (hR h25 67 r26 0) fun r27 =>
    nn (hR h25 67 t 0) fun r28 =>
    cpk (hL h25 17 r27) (hL h25 17 r28) 0 0 10 <|
    wr (pCp h25 1088 r27 (0 : Int32).toNatClampNeg 1088 r28 (0 : Int32).toNatClampNeg (10 : Int32).toNatClampNeg) fun h29 =>
    nn x1 fun r30 =>
    nn (hR h29 70 r30 0) fun r31 =>
    nn (hR h29 70 t 0) fun r32 =>
    cpk (hL h29 20 r31) (hL h29 20 r32) 0 0 3 <|
    wr (pCp h29 1280 r31 (0 : Int32).toNatClampNeg 1280 r32 (0 : Int32).toNatClampNeg (3 : Int32).toNatClampNeg) fun h33 =>
    nn x1 fun r34 =>
    nn (hR h33 71 r34 0) fun r35 =>
    nn (hR h33 71 t 0) fun r36 =>
    cpk (hL h33 21 r35) (hL h33 21 r36) 0 0 6 <|
    wr (pCp h33 1344 r35 (0 : Int32).toNatClampNeg 1344 r36 (0 : Int32).toNatClampNeg (6 : Int32).toNatClampNeg) fun h37 =>
    nn x1 fun r38 =>
    wr (pI h37 72 t 0 (hI h37 72 r38 0)) fun h39 =>
    nn x1 fun r40 =>
    wr (pI h39 73 t 0 (hI h39 73 r40 0)) fun h41 =>
    nn x1 fun r42 =>
    wr (pI h41 74 t 0 (hI h41 74 r42 0)) fun h43 =>
    nn x1 fun r44 =>
    wr (pI h43 75 t 0 (hI h43 75 r44 0)) fun h45 =>
    nn x1 fun r46 =>
    wr (pI h45 76 t 0 (hI h45 76 r46 0)) fun h47 =>
    nn x1 fun r48 =>
    wr (pI h47 77 t 0 (hI h47 77 r48 0)) fun h49 =>
    nn x1 fun r50 =>
    wr (pI h49 78 t 0 (hI h49 78 r50 0)) fun h51 =>
    nn x1 fun r52 =>
    wr (pI h51 79 t 0 (hI h51 79 r52 0)) fun h53 =>
    nn x1 fun r54 =>
    wr (pI h53 80 t 0 (hI h53 80 r54 0)) fun h55 =>
    some (none, h55)
set_option maxRecDepth 100000 in
theorem X1_becomeLike_l64 (g64 : Nat → Nat → Int32 → PH → Option Rs) (t : Nat) (x1 : Nat) (x2 : Int32) (h : PH) : X1_becomeLike_b64 (X1_becomeLike_u64 g64) [some (.inr (1, t + 1)), some (.inr (1, x1)), some (.inl x2)] [] h = X1_becomeLike_f64 g64 t x1 x2 h := rfl
theorem X1_becomeLike_m64 {g64 G64 : Nat → Nat → Int32 → PH → Option Rs} (hg64 : ∀ a0 a1 a2 a3, Mo (g64 a0 a1 a2 a3) (G64 a0 a1 a2 a3)) (t : Nat) (x1 : Nat) (x2 : Int32) (h : PH) : Mo (X1_becomeLike_f64 g64 t x1 x2 h) (X1_becomeLike_f64 G64 t x1 x2 h) := (mo_nn fun r17 => (mo_if (mo_nn fun r56 => (mo_nn fun r57 => (mo_ix fun j58 => (mo_nn fun r59 => (mo_ix fun j60 => (mo_wr fun h61 => (hg64 t x1 (x2 + 1) h61))))))) (mo_nn fun r18 => (mo_nn fun r19 => (mo_nn fun r20 => (mo_cpk (mo_wr fun h21 => (mo_nn fun r22 => (mo_nn fun r23 => (mo_nn fun r24 => (mo_cpk (mo_wr fun h25 => (mo_nn fun r26 => (mo_nn fun r27 => (mo_nn fun r28 => (mo_cpk (mo_wr fun h29 => (mo_nn fun r30 => (mo_nn fun r31 => (mo_nn fun r32 => (mo_cpk (mo_wr fun h33 => (mo_nn fun r34 => (mo_nn fun r35 => (mo_nn fun r36 => (mo_cpk (mo_wr fun h37 => (mo_nn fun r38 => (mo_wr fun h39 => (mo_nn fun r40 => (mo_wr fun h41 => (mo_nn fun r42 => (mo_wr fun h43 => (mo_nn fun r44 => (mo_wr fun h45 => (mo_nn fun r46 => (mo_wr fun h47 => (mo_nn fun r48 => (mo_wr fun h49 => (mo_nn fun r50 => (mo_wr fun h51 => (mo_nn fun r52 => (mo_wr fun h53 => (mo_nn fun r54 => (mo_wr fun h55 => mo_rf)))))))))))))))))))))))))))))))))))))))))))))
theorem X1_becomeLike_w64 {z : CZ} {g64 : Nat → Nat → Int32 → PH → Option Rs} (hk64 : SK (X1_becomeLike_x z) 64 (X1_becomeLike_u64 g64)) : SK (X1_becomeLike_x z) 64 (X1_becomeLike_u64 (X1_becomeLike_f64 g64)) := by
  intro ls st h r e
  obtain ⟨hst, e⟩ := gL_of e
  obtain ⟨t, q0, e⟩ := gT_of e
  obtain ⟨x1, q1, e⟩ := gR_of e
  obtain ⟨x2, q2, e⟩ := gI_of e
  rw [st_0 hst]
  exact WK.sub (canon := [some (.inr (1, t + 1)), some (.inr (1, x1)), some (.inl x2)]) rfl ⟨q0, q1, q2, trivial⟩ (X1_becomeLike_s64 hk64 _ _ _ _ ((X1_becomeLike_l64 g64 t x1 x2 h).trans e))
noncomputable def X1_becomeLike_g0 (G : (Nat → Nat → Int32 → PH → Option Rs) × (Nat → Nat → Int32 → PH → Option Rs) × (Nat → Nat → Int32 → PH → Option Rs)) (t : Nat) (x1 : Nat) (h : PH) : Option Rs := X1_becomeLike_f0 (G).1 t x1 h
noncomputable def X1_becomeLike_g2 (G : (Nat → Nat → Int32 → PH → Option Rs) × (Nat → Nat → Int32 → PH → Option Rs) × (Nat → Nat → Int32 → PH → Option Rs)) (t : Nat) (x1 : Nat) (x2 : Int32) (h : PH) : Option Rs := X1_becomeLike_f2 X10_becomeAs (G).1 (G).2.1 t x1 x2 h
noncomputable def X1_becomeLike_g33 (G : (Nat → Nat → Int32 → PH → Option Rs) × (Nat → Nat → Int32 → PH → Option Rs) × (Nat → Nat → Int32 → PH → Option Rs)) (t : Nat) (x1 : Nat) (x2 : Int32) (h : PH) : Option Rs := X1_becomeLike_f33 X6_becomeAs (G).2.1 (G).2.2 t x1 x2 h
noncomputable def X1_becomeLike_g64 (G : (Nat → Nat → Int32 → PH → Option Rs) × (Nat → Nat → Int32 → PH → Option Rs) × (Nat → Nat → Int32 → PH → Option Rs)) (t : Nat) (x1 : Nat) (x2 : Int32) (h : PH) : Option Rs := X1_becomeLike_f64 (G).2.2 t x1 x2 h
theorem X1_becomeLike_v2 {z : CZ} {G : (Nat → Nat → Int32 → PH → Option Rs) × (Nat → Nat → Int32 → PH → Option Rs) × (Nat → Nat → Int32 → PH → Option Rs)} (hG2 : SK (X1_becomeLike_x z) 2 (X1_becomeLike_u2 (G).1)) (hG33 : SK (X1_becomeLike_x z) 33 (X1_becomeLike_u33 (G).2.1)) (hG64 : SK (X1_becomeLike_x z) 64 (X1_becomeLike_u64 (G).2.2)) : SK (X1_becomeLike_x z) 2 (X1_becomeLike_u2 (X1_becomeLike_g2 G)) := X1_becomeLike_w2 hG2 hG33
theorem X1_becomeLike_v33 {z : CZ} {G : (Nat → Nat → Int32 → PH → Option Rs) × (Nat → Nat → Int32 → PH → Option Rs) × (Nat → Nat → Int32 → PH → Option Rs)} (hG2 : SK (X1_becomeLike_x z) 2 (X1_becomeLike_u2 (G).1)) (hG33 : SK (X1_becomeLike_x z) 33 (X1_becomeLike_u33 (G).2.1)) (hG64 : SK (X1_becomeLike_x z) 64 (X1_becomeLike_u64 (G).2.2)) : SK (X1_becomeLike_x z) 33 (X1_becomeLike_u33 (X1_becomeLike_g33 G)) := X1_becomeLike_w33 hG33 hG64
theorem X1_becomeLike_v64 {z : CZ} {G : (Nat → Nat → Int32 → PH → Option Rs) × (Nat → Nat → Int32 → PH → Option Rs) × (Nat → Nat → Int32 → PH → Option Rs)} (hG2 : SK (X1_becomeLike_x z) 2 (X1_becomeLike_u2 (G).1)) (hG33 : SK (X1_becomeLike_x z) 33 (X1_becomeLike_u33 (G).2.1)) (hG64 : SK (X1_becomeLike_x z) 64 (X1_becomeLike_u64 (G).2.2)) : SK (X1_becomeLike_x z) 64 (X1_becomeLike_u64 (X1_becomeLike_g64 G)) := X1_becomeLike_w64 hG64
noncomputable def X1_becomeLike_fam : Nat → (Nat → Nat → Int32 → PH → Option Rs) × (Nat → Nat → Int32 → PH → Option Rs) × (Nat → Nat → Int32 → PH → Option Rs)
  | 0 => (fun _ _ _ _ => none, fun _ _ _ _ => none, fun _ _ _ _ => none)
  | n + 1 => (X1_becomeLike_g2 (X1_becomeLike_fam n), X1_becomeLike_g33 (X1_becomeLike_fam n), X1_becomeLike_g64 (X1_becomeLike_fam n))
theorem X1_becomeLike_k {z : CZ} : ∀ n, SK (X1_becomeLike_x z) 2 (X1_becomeLike_u2 (X1_becomeLike_fam n).1) ∧ SK (X1_becomeLike_x z) 33 (X1_becomeLike_u33 (X1_becomeLike_fam n).2.1) ∧ SK (X1_becomeLike_x z) 64 (X1_becomeLike_u64 (X1_becomeLike_fam n).2.2)
  | 0 => ⟨(fun ls st h r e => by
      obtain ⟨_, e⟩ := gL_of e
      obtain ⟨_, _, e⟩ := gT_of e
      obtain ⟨_, _, e⟩ := gR_of e
      obtain ⟨_, _, e⟩ := gI_of e
      cases e), (fun ls st h r e => by
      obtain ⟨_, e⟩ := gL_of e
      obtain ⟨_, _, e⟩ := gT_of e
      obtain ⟨_, _, e⟩ := gR_of e
      obtain ⟨_, _, e⟩ := gI_of e
      cases e), (fun ls st h r e => by
      obtain ⟨_, e⟩ := gL_of e
      obtain ⟨_, _, e⟩ := gT_of e
      obtain ⟨_, _, e⟩ := gR_of e
      obtain ⟨_, _, e⟩ := gI_of e
      cases e)⟩
  | n + 1 => by
    obtain ⟨ih2, ih33, ih64⟩ := X1_becomeLike_k n
    exact ⟨X1_becomeLike_v2 ih2 ih33 ih64, X1_becomeLike_v33 ih2 ih33 ih64, X1_becomeLike_v64 ih2 ih33 ih64⟩
theorem X1_becomeLike_n0 {G G' : (Nat → Nat → Int32 → PH → Option Rs) × (Nat → Nat → Int32 → PH → Option Rs) × (Nat → Nat → Int32 → PH → Option Rs)} (hg2 : ∀ a0 a1 a2 a3, Mo ((G).1 a0 a1 a2 a3) ((G').1 a0 a1 a2 a3)) (hg33 : ∀ a0 a1 a2 a3, Mo ((G).2.1 a0 a1 a2 a3) ((G').2.1 a0 a1 a2 a3)) (hg64 : ∀ a0 a1 a2 a3, Mo ((G).2.2 a0 a1 a2 a3) ((G').2.2 a0 a1 a2 a3)) (t : Nat) (x1 : Nat) (h : PH) : Mo (X1_becomeLike_g0 G t x1 h) (X1_becomeLike_g0 G' t x1 h) := X1_becomeLike_m0 hg2 t x1 h
theorem X1_becomeLike_n2 {G G' : (Nat → Nat → Int32 → PH → Option Rs) × (Nat → Nat → Int32 → PH → Option Rs) × (Nat → Nat → Int32 → PH → Option Rs)} (hg2 : ∀ a0 a1 a2 a3, Mo ((G).1 a0 a1 a2 a3) ((G').1 a0 a1 a2 a3)) (hg33 : ∀ a0 a1 a2 a3, Mo ((G).2.1 a0 a1 a2 a3) ((G').2.1 a0 a1 a2 a3)) (hg64 : ∀ a0 a1 a2 a3, Mo ((G).2.2 a0 a1 a2 a3) ((G').2.2 a0 a1 a2 a3)) (t : Nat) (x1 : Nat) (x2 : Int32) (h : PH) : Mo (X1_becomeLike_g2 G t x1 x2 h) (X1_becomeLike_g2 G' t x1 x2 h) := X1_becomeLike_m2 hg2 hg33 t x1 x2 h
theorem X1_becomeLike_n33 {G G' : (Nat → Nat → Int32 → PH → Option Rs) × (Nat → Nat → Int32 → PH → Option Rs) × (Nat → Nat → Int32 → PH → Option Rs)} (hg2 : ∀ a0 a1 a2 a3, Mo ((G).1 a0 a1 a2 a3) ((G').1 a0 a1 a2 a3)) (hg33 : ∀ a0 a1 a2 a3, Mo ((G).2.1 a0 a1 a2 a3) ((G').2.1 a0 a1 a2 a3)) (hg64 : ∀ a0 a1 a2 a3, Mo ((G).2.2 a0 a1 a2 a3) ((G').2.2 a0 a1 a2 a3)) (t : Nat) (x1 : Nat) (x2 : Int32) (h : PH) : Mo (X1_becomeLike_g33 G t x1 x2 h) (X1_becomeLike_g33 G' t x1 x2 h) := X1_becomeLike_m33 hg33 hg64 t x1 x2 h
theorem X1_becomeLike_n64 {G G' : (Nat → Nat → Int32 → PH → Option Rs) × (Nat → Nat → Int32 → PH → Option Rs) × (Nat → Nat → Int32 → PH → Option Rs)} (hg2 : ∀ a0 a1 a2 a3, Mo ((G).1 a0 a1 a2 a3) ((G').1 a0 a1 a2 a3)) (hg33 : ∀ a0 a1 a2 a3, Mo ((G).2.1 a0 a1 a2 a3) ((G').2.1 a0 a1 a2 a3)) (hg64 : ∀ a0 a1 a2 a3, Mo ((G).2.2 a0 a1 a2 a3) ((G').2.2 a0 a1 a2 a3)) (t : Nat) (x1 : Nat) (x2 : Int32) (h : PH) : Mo (X1_becomeLike_g64 G t x1 x2 h) (X1_becomeLike_g64 G' t x1 x2 h) := X1_becomeLike_m64 hg64 t x1 x2 h
theorem X1_becomeLike_fm : ∀ n, (∀ a0 a1 a2 a3, Mo ((X1_becomeLike_fam n).1 a0 a1 a2 a3) ((X1_becomeLike_fam (n + 1)).1 a0 a1 a2 a3)) ∧ (∀ a0 a1 a2 a3, Mo ((X1_becomeLike_fam n).2.1 a0 a1 a2 a3) ((X1_becomeLike_fam (n + 1)).2.1 a0 a1 a2 a3)) ∧ (∀ a0 a1 a2 a3, Mo ((X1_becomeLike_fam n).2.2 a0 a1 a2 a3) ((X1_becomeLike_fam (n + 1)).2.2 a0 a1 a2 a3))
  | 0 => ⟨fun _ _ _ _ => mo_no, fun _ _ _ _ => mo_no, fun _ _ _ _ => mo_no⟩
  | n + 1 => by
    obtain ⟨ih2, ih33, ih64⟩ := X1_becomeLike_fm n
    exact ⟨fun a0 a1 a2 a3 => X1_becomeLike_n2 ih2 ih33 ih64 a0 a1 a2 a3, fun a0 a1 a2 a3 => X1_becomeLike_n33 ih2 ih33 ih64 a0 a1 a2 a3, fun a0 a1 a2 a3 => X1_becomeLike_n64 ih2 ih33 ih64 a0 a1 a2 a3⟩
noncomputable def X1_becomeLike (t : Nat) (x1 : Nat) (h : PH) : Option Rs := lim (fun n => X1_becomeLike_g0 (X1_becomeLike_fam n) t x1 h)
theorem X1_becomeLike_iff {t : Nat} {x1 : Nat} {h : PH} {r : Rs} : X1_becomeLike t x1 h = some r ↔ ∃ n, X1_becomeLike_g0 (X1_becomeLike_fam n) t x1 h = some r := lim_iff (fun n => by
  obtain ⟨ih2, ih33, ih64⟩ := X1_becomeLike_fm n
  exact X1_becomeLike_n0 ih2 ih33 ih64 t x1 h)
noncomputable abbrev X1_becomeLike_F : List PV → PH → Option Rs := FW_T1R1 (X1_becomeLike)
set_option maxRecDepth 100000 in
theorem X1_becomeLike_gd (l : Launch) : Gd l 1 yX1_becomeLike cX1_becomeLike 3 none (X1_becomeLike_F)   := Gd_of (by decide +kernel) (fun z hzl as h r e => by
  obtain ⟨hst, e⟩ := gL_of e
  obtain ⟨t, q0, e⟩ := gT_of e
  obtain ⟨x1, q1, e⟩ := gR_of e
  rw [st_2 hst q0 q1]
  obtain ⟨n, e⟩ := lim_of e
  obtain ⟨hG2, hG33, hG64⟩ := X1_becomeLike_k (z := z) n
  exact ⟨show 2 ≤ 3 by decide, X1_becomeLike_s0 hG2 _ _ _ _ ((X1_becomeLike_l0 (X1_becomeLike_fam n).1 t x1 h).trans e)⟩)
abbrev X11_keep_x (z : CZ) : CX := mx RX11 cX11_keep 1 2 (some .int) "keep" z
noncomputable def X11_keep_b0 (c_X1_becomeLike : Nat → Nat → PH → Option Rs) : Kn := (a_al 0 (a_gR 10 641 1 (a_al 0 (a_gR 10 640 1 (a_vV 1 1 (FW_T1R1 c_X1_becomeLike) (a_al 0 (a_ic 1 (a_pZ 10 642 (a_al 0 (a_gR 10 640 1 (a_gI 1 75 a_ir)))))))))))
set_option maxRecDepth 100000 in
theorem X11_keep_s0 {z : CZ} : SK (X11_keep_x z) 0 (X11_keep_b0 X1_becomeLike) := (s_aloadn (pc := 0) dX11_keep_0 rfl (s_gR (pc := 1) (f := 1) ko_10 (by decide) rfl rfl w_505 dX11_keep_1 (s_aloadn (pc := 4) dX11_keep_4 rfl (s_gR (pc := 5) (f := 0) ko_10 (by decide) rfl rfl w_504 dX11_keep_5 (s_vV (pc := 8) (run_virtual (X1_becomeLike_gd _) (show 1 < 2 by decide) cy_X1_becomeLike (by decide) rfl w_1264 w_1265 w_1263 dX11_keep_8) (s_aloadn (pc := 11) dX11_keep_11 rfl (s_iconst (pc := 12) dX11_keep_12 c_ic_1 (s_pZ (pc := 13) (f := 2) ko_10 (by decide) rfl rfl rfl (by decide +kernel) w_506 dX11_keep_13 (s_aloadn (pc := 16) dX11_keep_16 rfl (s_gR (pc := 17) (f := 0) ko_10 (by decide) rfl rfl w_504 dX11_keep_17 (s_gI (pc := 20) (f := 11) ko_1 (by decide) rfl rfl w_255 dX11_keep_20 (s_ir (pc := 23) rfl dX11_keep_23))))))))))))
noncomputable def X11_keep_f0 (c_X1_becomeLike : Nat → Nat → PH → Option Rs) (t : Nat) (h : PH) : Option Rs :=
  nn (hR h 641 t 0) fun r1 =>
  cV (c_X1_becomeLike r1 (hR h 640 t 0) h) fun h2 =>
  bz 1 <|
  wr (pI h2 642 t 0 1) fun h3 =>
  nn (hR h3 640 t 0) fun r4 =>
  some (some (.inl (hI h3 75 r4 0)), h3)
set_option maxRecDepth 100000 in
theorem X11_keep_l0 (c_X1_becomeLike : Nat → Nat → PH → Option Rs) (t : Nat) (h : PH) : X11_keep_b0 c_X1_becomeLike [some (.inr (10, t + 1))] [] h = X11_keep_f0 c_X1_becomeLike t h := rfl
noncomputable def X11_keep_g0 (t : Nat) (h : PH) : Option Rs := X11_keep_f0 X1_becomeLike t h
noncomputable def X11_keep (t : Nat) (h : PH) : Option Rs := X11_keep_g0 t h
noncomputable abbrev X11_keep_F : List PV → PH → Option Rs := FW_T10 (X11_keep)
set_option maxRecDepth 100000 in
theorem X11_keep_gd (l : Launch) : Gd l 2 yX11_keep cX11_keep 1 (some .int) (X11_keep_F)   := Gd_of (by decide +kernel) (fun z hzl as h r e => by
  obtain ⟨hst, e⟩ := gL_of e
  obtain ⟨t, q0, e⟩ := gT_of e
  rw [st_1 hst q0]
  exact ⟨show 1 ≤ 1 by decide, X11_keep_s0 _ _ _ _ ((X11_keep_l0 X1_becomeLike t h).trans e)⟩)
abbrev X11_back_x (z : CZ) : CX := mx RX11 cX11_back 1 2 (some .int) "back" z
noncomputable def X11_back_b0 (c_X1_becomeLike : Nat → Nat → PH → Option Rs) (c_X0_forget : Nat → PH → Option Rs) : Kn := (a_al 0 (a_gI 10 642 (a_z (a_ic (-1000000002) a_ir) (a_al 0 (a_gR 10 640 1 (a_al 0 (a_gR 10 641 1 (a_vV 1 1 (FW_T1R1 c_X1_becomeLike) (a_al 0 (a_gR 10 644 0 (a_vV 0 0 (FW_T0 c_X0_forget) (a_al 0 (a_gR 10 640 1 (a_gI 1 75 a_ir))))))))))))))
set_option maxRecDepth 100000 in
theorem X11_back_s0 {z : CZ} : SK (X11_back_x z) 0 (X11_back_b0 X1_becomeLike X0_forget) := (s_aloadn (pc := 0) dX11_back_0 rfl (s_gI (pc := 1) (f := 2) ko_10 (by decide) rfl rfl w_506 dX11_back_1 (s_ifne (pc := 4) dX11_back_4 (by decide) (s_aloadn (pc := 10) dX11_back_10 rfl (s_gR (pc := 11) (f := 0) ko_10 (by decide) rfl rfl w_504 dX11_back_11 (s_aloadn (pc := 14) dX11_back_14 rfl (s_gR (pc := 15) (f := 1) ko_10 (by decide) rfl rfl w_505 dX11_back_15 (s_vV (pc := 18) (run_virtual (X1_becomeLike_gd _) (show 1 < 2 by decide) cy_X1_becomeLike (by decide) rfl w_1264 w_1265 w_1263 dX11_back_18) (s_aloadn (pc := 21) dX11_back_21 rfl (s_gR (pc := 22) (f := 4) ko_10 (by decide) rfl rfl w_508 dX11_back_22 (s_vV (pc := 25) (run_virtual (X0_forget_gd _) (show 0 < 2 by decide) cy_X0_forget (by decide) rfl w_625 w_626 w_624 dX11_back_25) (s_aloadn (pc := 28) dX11_back_28 rfl (s_gR (pc := 29) (f := 0) ko_10 (by decide) rfl rfl w_504 dX11_back_29 (s_gI (pc := 32) (f := 11) ko_1 (by decide) rfl rfl w_255 dX11_back_32 (s_ir (pc := 35) rfl dX11_back_35)))))))))))) (s_ldc (pc := 7) w_563 dX11_back_7 (s_ir (pc := 9) rfl dX11_back_9)))))
noncomputable def X11_back_f0 (c_X1_becomeLike : Nat → Nat → PH → Option Rs) (c_X0_forget : Nat → PH → Option Rs) (t : Nat) (h : PH) : Option Rs :=
  if (hI h 642 t 0) = 0 then
    some (some (.inl (-1000000002)), h)
  else
    nn (hR h 640 t 0) fun r1 =>
    cV (c_X1_becomeLike r1 (hR h 641 t 0) h) fun h2 =>
    nn (hR h2 644 t 0) fun r3 =>
    cV (c_X0_forget r3 h2) fun h4 =>
    nn (hR h4 640 t 0) fun r5 =>
    some (some (.inl (hI h4 75 r5 0)), h4)
set_option maxRecDepth 100000 in
theorem X11_back_l0 (c_X1_becomeLike : Nat → Nat → PH → Option Rs) (c_X0_forget : Nat → PH → Option Rs) (t : Nat) (h : PH) : X11_back_b0 c_X1_becomeLike c_X0_forget [some (.inr (10, t + 1))] [] h = X11_back_f0 c_X1_becomeLike c_X0_forget t h := rfl
noncomputable def X11_back_g0 (t : Nat) (h : PH) : Option Rs := X11_back_f0 X1_becomeLike X0_forget t h
noncomputable def X11_back (t : Nat) (h : PH) : Option Rs := X11_back_g0 t h
noncomputable abbrev X11_back_F : List PV → PH → Option Rs := FW_T10 (X11_back)
set_option maxRecDepth 100000 in
theorem X11_back_gd (l : Launch) : Gd l 2 yX11_back cX11_back 1 (some .int) (X11_back_F)   := Gd_of (by decide +kernel) (fun z hzl as h r e => by
  obtain ⟨hst, e⟩ := gL_of e
  obtain ⟨t, q0, e⟩ := gT_of e
  rw [st_1 hst q0]
  exact ⟨show 1 ≤ 1 by decide, X11_back_s0 _ _ _ _ ((X11_back_l0 X1_becomeLike X0_forget t h).trans e)⟩)
abbrev X1_rowsOfAll_x (z : CZ) : CX := mx RX1 cX1_rowsOfAll 3 0 (some .int) "rowsOfAll" z
noncomputable def X1_rowsOfAll_b0 (k4 : Kn) : Kn := (a_ic 0 (a_is 1 (a_ic 0 (a_is 2 k4))))
set_option maxRecDepth 100000 in
theorem X1_rowsOfAll_s0 {z : CZ} {k4 : Kn} (hk4 : SK (X1_rowsOfAll_x z) 4 k4) : SK (X1_rowsOfAll_x z) 0 (X1_rowsOfAll_b0 k4) := (s_iconst (pc := 0) dX1_rowsOfAll_0 c_ic_0 (s_istoren (pc := 1) dX1_rowsOfAll_1 rfl (show 1 < 3 by decide) (s_iconst (pc := 2) dX1_rowsOfAll_2 c_ic_0 (s_istoren (pc := 3) dX1_rowsOfAll_3 rfl (show 2 < 3 by decide) hk4))))
noncomputable def X1_rowsOfAll_b4 (k4 : Kn) : Kn := (a_il 2 (a_al 0 (a_gI 1 75 (a_lt (a_il 1 (a_al 0 (a_gR 1 68 18 (a_il 2 (a_rald 18 1152 5 (a_gI 5 324 (a_b (fun a b => a + b) (a_is 1 (a_inc 2 1 k4))))))))) (a_il 1 a_ir)))))
set_option maxRecDepth 100000 in
theorem X1_rowsOfAll_s4 {z : CZ} {k4 : Kn} (hk4 : SK (X1_rowsOfAll_x z) 4 k4) : SK (X1_rowsOfAll_x z) 4 (X1_rowsOfAll_b4 k4) := (s_iloadn (pc := 4) dX1_rowsOfAll_4 rfl (s_aloadn (pc := 5) dX1_rowsOfAll_5 rfl (s_gI (pc := 6) (f := 11) ko_1 (by decide) rfl rfl w_251 dX1_rowsOfAll_6 (s_cmpge (pc := 9) dX1_rowsOfAll_9 (by decide) (s_iloadn (pc := 30) dX1_rowsOfAll_30 rfl (s_ir (pc := 31) rfl dX1_rowsOfAll_31)) (s_iloadn (pc := 12) dX1_rowsOfAll_12 rfl (s_aloadn (pc := 13) dX1_rowsOfAll_13 rfl (s_gR (pc := 14) (f := 4) ko_1 (by decide) rfl rfl w_229 dX1_rowsOfAll_14 (s_iloadn (pc := 17) dX1_rowsOfAll_17 rfl (s_rald (pc := 18) (by decide) (by decide) rfl rfl rfl dX1_rowsOfAll_18 (s_gI (pc := 19) (f := 4) ko_5 (by decide) rfl rfl w_183 dX1_rowsOfAll_19 (s_iadd (pc := 22) dX1_rowsOfAll_22 (s_istoren (pc := 23) dX1_rowsOfAll_23 rfl (show 1 < 3 by decide) (s_iinc (pc := 24) dX1_rowsOfAll_24 c_ic_1 (show 2 < 3 by decide) (s_goto (pc := 27) dX1_rowsOfAll_27 (by decide) hk4))))))))))))))
noncomputable def X1_rowsOfAll_u4 (g : Nat → Int32 → Int32 → PH → Option Rs) : Kn := fun ls st h => gL 0 st (gT 1 ls 0 fun t => gI ls 1 fun x1 => gI ls 2 fun x2 => g t x1 x2 h)
noncomputable def X1_rowsOfAll_f0 (g4 : Nat → Int32 → Int32 → PH → Option Rs) (t : Nat) (h : PH) : Option Rs :=
  g4 t 0 0 h
set_option maxRecDepth 100000 in
theorem X1_rowsOfAll_l0 (g4 : Nat → Int32 → Int32 → PH → Option Rs) (t : Nat) (h : PH) : X1_rowsOfAll_b0 (X1_rowsOfAll_u4 g4) [some (.inr (1, t + 1)), none, none] [] h = X1_rowsOfAll_f0 g4 t h := rfl
theorem X1_rowsOfAll_m0 {g4 G4 : Nat → Int32 → Int32 → PH → Option Rs} (hg4 : ∀ a0 a1 a2 a3, Mo (g4 a0 a1 a2 a3) (G4 a0 a1 a2 a3)) (t : Nat) (h : PH) : Mo (X1_rowsOfAll_f0 g4 t h) (X1_rowsOfAll_f0 G4 t h) := (hg4 t 0 0 h)
noncomputable def X1_rowsOfAll_f4 (g4 : Nat → Int32 → Int32 → PH → Option Rs) (t : Nat) (x1 : Int32) (x2 : Int32) (h : PH) : Option Rs :=
  if x2 < (hI h 75 t 0) then
    nn (hR h 68 t 0) fun r1 =>
    ix x2 (hL h 18 r1) fun j2 =>
    nn (hR h 1152 r1 j2) fun r3 =>
    g4 t (x1 + (hI h 324 r3 0)) (x2 + 1) h
  else
    some (some (.inl x1), h)
set_option maxRecDepth 100000 in
theorem X1_rowsOfAll_l4 (g4 : Nat → Int32 → Int32 → PH → Option Rs) (t : Nat) (x1 : Int32) (x2 : Int32) (h : PH) : X1_rowsOfAll_b4 (X1_rowsOfAll_u4 g4) [some (.inr (1, t + 1)), some (.inl x1), some (.inl x2)] [] h = X1_rowsOfAll_f4 g4 t x1 x2 h := rfl
theorem X1_rowsOfAll_m4 {g4 G4 : Nat → Int32 → Int32 → PH → Option Rs} (hg4 : ∀ a0 a1 a2 a3, Mo (g4 a0 a1 a2 a3) (G4 a0 a1 a2 a3)) (t : Nat) (x1 : Int32) (x2 : Int32) (h : PH) : Mo (X1_rowsOfAll_f4 g4 t x1 x2 h) (X1_rowsOfAll_f4 G4 t x1 x2 h) := (mo_if (mo_nn fun r1 => (mo_ix fun j2 => (mo_nn fun r3 => (hg4 t (x1 + (hI h 324 r3 0)) (x2 + 1) h)))) mo_rf)
theorem X1_rowsOfAll_w4 {z : CZ} {g4 : Nat → Int32 → Int32 → PH → Option Rs} (hk4 : SK (X1_rowsOfAll_x z) 4 (X1_rowsOfAll_u4 g4)) : SK (X1_rowsOfAll_x z) 4 (X1_rowsOfAll_u4 (X1_rowsOfAll_f4 g4)) := by
  intro ls st h r e
  obtain ⟨hst, e⟩ := gL_of e
  obtain ⟨t, q0, e⟩ := gT_of e
  obtain ⟨x1, q1, e⟩ := gI_of e
  obtain ⟨x2, q2, e⟩ := gI_of e
  rw [st_0 hst]
  exact WK.sub (canon := [some (.inr (1, t + 1)), some (.inl x1), some (.inl x2)]) rfl ⟨q0, q1, q2, trivial⟩ (X1_rowsOfAll_s4 hk4 _ _ _ _ ((X1_rowsOfAll_l4 g4 t x1 x2 h).trans e))
noncomputable def X1_rowsOfAll_g0 (G : (Nat → Int32 → Int32 → PH → Option Rs)) (t : Nat) (h : PH) : Option Rs := X1_rowsOfAll_f0 (G) t h
noncomputable def X1_rowsOfAll_g4 (G : (Nat → Int32 → Int32 → PH → Option Rs)) (t : Nat) (x1 : Int32) (x2 : Int32) (h : PH) : Option Rs := X1_rowsOfAll_f4 (G) t x1 x2 h
theorem X1_rowsOfAll_v4 {z : CZ} {G : (Nat → Int32 → Int32 → PH → Option Rs)} (hG4 : SK (X1_rowsOfAll_x z) 4 (X1_rowsOfAll_u4 (G))) : SK (X1_rowsOfAll_x z) 4 (X1_rowsOfAll_u4 (X1_rowsOfAll_g4 G)) := X1_rowsOfAll_w4 hG4
noncomputable def X1_rowsOfAll_fam : Nat → (Nat → Int32 → Int32 → PH → Option Rs)
  | 0 => fun _ _ _ _ => none
  | n + 1 => X1_rowsOfAll_g4 (X1_rowsOfAll_fam n)
theorem X1_rowsOfAll_k {z : CZ} : ∀ n, SK (X1_rowsOfAll_x z) 4 (X1_rowsOfAll_u4 (X1_rowsOfAll_fam n))
  | 0 => (fun ls st h r e => by
      obtain ⟨_, e⟩ := gL_of e
      obtain ⟨_, _, e⟩ := gT_of e
      obtain ⟨_, _, e⟩ := gI_of e
      obtain ⟨_, _, e⟩ := gI_of e
      cases e)
  | n + 1 => by
    obtain ih4 := X1_rowsOfAll_k n
    exact X1_rowsOfAll_v4 ih4
theorem X1_rowsOfAll_n0 {G G' : (Nat → Int32 → Int32 → PH → Option Rs)} (hg4 : ∀ a0 a1 a2 a3, Mo ((G) a0 a1 a2 a3) ((G') a0 a1 a2 a3)) (t : Nat) (h : PH) : Mo (X1_rowsOfAll_g0 G t h) (X1_rowsOfAll_g0 G' t h) := X1_rowsOfAll_m0 hg4 t h
theorem X1_rowsOfAll_n4 {G G' : (Nat → Int32 → Int32 → PH → Option Rs)} (hg4 : ∀ a0 a1 a2 a3, Mo ((G) a0 a1 a2 a3) ((G') a0 a1 a2 a3)) (t : Nat) (x1 : Int32) (x2 : Int32) (h : PH) : Mo (X1_rowsOfAll_g4 G t x1 x2 h) (X1_rowsOfAll_g4 G' t x1 x2 h) := X1_rowsOfAll_m4 hg4 t x1 x2 h
theorem X1_rowsOfAll_fm : ∀ n, (∀ a0 a1 a2 a3, Mo ((X1_rowsOfAll_fam n) a0 a1 a2 a3) ((X1_rowsOfAll_fam (n + 1)) a0 a1 a2 a3))
  | 0 => fun _ _ _ _ => mo_no
  | n + 1 => by
    obtain ih4 := X1_rowsOfAll_fm n
    exact fun a0 a1 a2 a3 => X1_rowsOfAll_n4 ih4 a0 a1 a2 a3
noncomputable def X1_rowsOfAll (t : Nat) (h : PH) : Option Rs := lim (fun n => X1_rowsOfAll_g0 (X1_rowsOfAll_fam n) t h)
theorem X1_rowsOfAll_iff {t : Nat} {h : PH} {r : Rs} : X1_rowsOfAll t h = some r ↔ ∃ n, X1_rowsOfAll_g0 (X1_rowsOfAll_fam n) t h = some r := lim_iff (fun n => by
  obtain ih4 := X1_rowsOfAll_fm n
  exact X1_rowsOfAll_n0 ih4 t h)
noncomputable abbrev X1_rowsOfAll_F : List PV → PH → Option Rs := FW_T1 (X1_rowsOfAll)
set_option maxRecDepth 100000 in
theorem X1_rowsOfAll_gd (l : Launch) : Gd l 0 yX1_rowsOfAll cX1_rowsOfAll 3 (some .int) (X1_rowsOfAll_F)   := Gd_of (by decide +kernel) (fun z hzl as h r e => by
  obtain ⟨hst, e⟩ := gL_of e
  obtain ⟨t, q0, e⟩ := gT_of e
  rw [st_1 hst q0]
  obtain ⟨n, e⟩ := lim_of e
  obtain hG4 := X1_rowsOfAll_k (z := z) n
  exact ⟨show 1 ≤ 3 by decide, X1_rowsOfAll_s0 hG4 _ _ _ _ ((X1_rowsOfAll_l0 (X1_rowsOfAll_fam n) t h).trans e)⟩)
abbrev X11_count_x (z : CZ) : CX := mx RX11 cX11_count 2 1 (some .int) "count" z
noncomputable def X11_count_b0 (c_X1_rowsOfAll : Nat → PH → Option Rs) : Kn := (a_il 1 (a_sw [(0, (a_al 0 (a_gR 10 640 1 (a_gI 1 72 a_ir)))), (1, (a_al 0 (a_gR 10 640 1 (a_gI 1 73 a_ir)))), (2, (a_al 0 (a_gR 10 640 1 (a_gI 1 74 a_ir)))), (3, (a_al 0 (a_gR 10 640 1 (a_gI 1 75 a_ir)))), (4, (a_al 0 (a_gR 10 640 1 (a_vI 1 0 (FW_T1 c_X1_rowsOfAll) a_ir)))), (5, (a_al 0 (a_gR 10 640 1 (a_gI 1 76 a_ir)))), (6, (a_al 0 (a_gR 10 640 1 (a_gI 1 77 a_ir)))), (7, (a_al 0 (a_gR 10 644 0 (a_gI 0 2 a_ir)))), (8, (a_al 0 (a_gI 10 649 a_ir))), (9, (a_al 0 (a_gR 10 645 2 (a_gI 2 129 a_ir)))), (10, (a_al 0 (a_gR 10 640 1 (a_gI 1 78 a_ir)))), (11, (a_al 0 (a_gR 10 640 1 (a_gI 1 79 a_ir)))), (12, (a_al 0 (a_gR 10 640 1 (a_gI 1 80 a_ir))))] (a_ic (-1000000001) a_ir)))
set_option maxRecDepth 100000 in
theorem X11_count_s0 {z : CZ} : SK (X11_count_x z) 0 (X11_count_b0 X1_rowsOfAll) := (s_iloadn (pc := 0) dX11_count_0 rfl (s_table (pc := 1) dX11_count_1 (by decide) (by decide) ⟨c_ti_0, ⟨_, by decide, (s_aloadn (pc := 68) dX11_count_68 rfl (s_gR (pc := 69) (f := 0) ko_10 (by decide) rfl rfl w_504 dX11_count_69 (s_gI (pc := 72) (f := 8) ko_1 (by decide) rfl rfl w_242 dX11_count_72 (s_ir (pc := 75) rfl dX11_count_75))))⟩, ⟨c_ti_1, ⟨_, by decide, (s_aloadn (pc := 76) dX11_count_76 rfl (s_gR (pc := 77) (f := 0) ko_10 (by decide) rfl rfl w_504 dX11_count_77 (s_gI (pc := 80) (f := 9) ko_1 (by decide) rfl rfl w_246 dX11_count_80 (s_ir (pc := 83) rfl dX11_count_83))))⟩, ⟨c_ti_2, ⟨_, by decide, (s_aloadn (pc := 84) dX11_count_84 rfl (s_gR (pc := 85) (f := 0) ko_10 (by decide) rfl rfl w_504 dX11_count_85 (s_gI (pc := 88) (f := 10) ko_1 (by decide) rfl rfl w_250 dX11_count_88 (s_ir (pc := 91) rfl dX11_count_91))))⟩, ⟨c_ti_3, ⟨_, by decide, (s_aloadn (pc := 92) dX11_count_92 rfl (s_gR (pc := 93) (f := 0) ko_10 (by decide) rfl rfl w_504 dX11_count_93 (s_gI (pc := 96) (f := 11) ko_1 (by decide) rfl rfl w_255 dX11_count_96 (s_ir (pc := 99) rfl dX11_count_99))))⟩, ⟨c_ti_4, ⟨_, by decide, (s_aloadn (pc := 100) dX11_count_100 rfl (s_gR (pc := 101) (f := 0) ko_10 (by decide) rfl rfl w_504 dX11_count_101 (s_vI (pc := 104) (run_virtual (X1_rowsOfAll_gd _) (show 0 < 1 by decide) cy_X1_rowsOfAll (by decide) rfl w_1286 w_1287 w_1285 dX11_count_104) (s_ir (pc := 107) rfl dX11_count_107))))⟩, ⟨c_ti_5, ⟨_, by decide, (s_aloadn (pc := 108) dX11_count_108 rfl (s_gR (pc := 109) (f := 0) ko_10 (by decide) rfl rfl w_504 dX11_count_109 (s_gI (pc := 112) (f := 12) ko_1 (by decide) rfl rfl w_257 dX11_count_112 (s_ir (pc := 115) rfl dX11_count_115))))⟩, ⟨c_ti_6, ⟨_, by decide, (s_aloadn (pc := 116) dX11_count_116 rfl (s_gR (pc := 117) (f := 0) ko_10 (by decide) rfl rfl w_504 dX11_count_117 (s_gI (pc := 120) (f := 13) ko_1 (by decide) rfl rfl w_260 dX11_count_120 (s_ir (pc := 123) rfl dX11_count_123))))⟩, ⟨c_ti_7, ⟨_, by decide, (s_aloadn (pc := 124) dX11_count_124 rfl (s_gR (pc := 125) (f := 4) ko_10 (by decide) rfl rfl w_508 dX11_count_125 (s_gI (pc := 128) (f := 2) ko_0 (by decide) rfl rfl w_398 dX11_count_128 (s_ir (pc := 131) rfl dX11_count_131))))⟩, ⟨c_ti_8, ⟨_, by decide, (s_aloadn (pc := 132) dX11_count_132 rfl (s_gI (pc := 133) (f := 9) ko_10 (by decide) rfl rfl w_513 dX11_count_133 (s_ir (pc := 136) rfl dX11_count_136)))⟩, ⟨c_ti_9, ⟨_, by decide, (s_aloadn (pc := 137) dX11_count_137 rfl (s_gR (pc := 138) (f := 5) ko_10 (by decide) rfl rfl w_509 dX11_count_138 (s_gI (pc := 141) (f := 1) ko_2 (by decide) rfl rfl w_414 dX11_count_141 (s_ir (pc := 144) rfl dX11_count_144))))⟩, ⟨c_ti_10, ⟨_, by decide, (s_aloadn (pc := 145) dX11_count_145 rfl (s_gR (pc := 146) (f := 0) ko_10 (by decide) rfl rfl w_504 dX11_count_146 (s_gI (pc := 149) (f := 14) ko_1 (by decide) rfl rfl w_262 dX11_count_149 (s_ir (pc := 152) rfl dX11_count_152))))⟩, ⟨c_ti_11, ⟨_, by decide, (s_aloadn (pc := 153) dX11_count_153 rfl (s_gR (pc := 154) (f := 0) ko_10 (by decide) rfl rfl w_504 dX11_count_154 (s_gI (pc := 157) (f := 15) ko_1 (by decide) rfl rfl w_264 dX11_count_157 (s_ir (pc := 160) rfl dX11_count_160))))⟩, ⟨c_ti_12, ⟨_, by decide, (s_aloadn (pc := 161) dX11_count_161 rfl (s_gR (pc := 162) (f := 0) ko_10 (by decide) rfl rfl w_504 dX11_count_162 (s_gI (pc := 165) (f := 16) ko_1 (by decide) rfl rfl w_266 dX11_count_165 (s_ir (pc := 168) rfl dX11_count_168))))⟩, trivial⟩⟩⟩⟩⟩⟩⟩⟩⟩⟩⟩⟩⟩ (s_ldc (pc := 169) w_551 dX11_count_169 (s_ir (pc := 171) rfl dX11_count_171))))
noncomputable def X11_count_f0 (c_X1_rowsOfAll : Nat → PH → Option Rs) (t : Nat) (x1 : Int32) (h : PH) : Option Rs :=
  if x1 = 0 then
    nn (hR h 640 t 0) fun r1 =>
    some (some (.inl (hI h 72 r1 0)), h)
  else
  if x1 = 1 then
    nn (hR h 640 t 0) fun r2 =>
    some (some (.inl (hI h 73 r2 0)), h)
  else
  if x1 = 2 then
    nn (hR h 640 t 0) fun r3 =>
    some (some (.inl (hI h 74 r3 0)), h)
  else
  if x1 = 3 then
    nn (hR h 640 t 0) fun r4 =>
    some (some (.inl (hI h 75 r4 0)), h)
  else
  if x1 = 4 then
    nn (hR h 640 t 0) fun r5 =>
    cI (c_X1_rowsOfAll r5 h) fun v7 h6 =>
    some (some (.inl v7), h6)
  else
  if x1 = 5 then
    nn (hR h 640 t 0) fun r8 =>
    some (some (.inl (hI h 76 r8 0)), h)
  else
  if x1 = 6 then
    nn (hR h 640 t 0) fun r9 =>
    some (some (.inl (hI h 77 r9 0)), h)
  else
  if x1 = 7 then
    nn (hR h 644 t 0) fun r10 =>
    some (some (.inl (hI h 2 r10 0)), h)
  else
  if x1 = 8 then
    some (some (.inl (hI h 649 t 0)), h)
  else
  if x1 = 9 then
    nn (hR h 645 t 0) fun r11 =>
    some (some (.inl (hI h 129 r11 0)), h)
  else
  if x1 = 10 then
    nn (hR h 640 t 0) fun r12 =>
    some (some (.inl (hI h 78 r12 0)), h)
  else
  if x1 = 11 then
    nn (hR h 640 t 0) fun r13 =>
    some (some (.inl (hI h 79 r13 0)), h)
  else
  if x1 = 12 then
    nn (hR h 640 t 0) fun r14 =>
    some (some (.inl (hI h 80 r14 0)), h)
  else
    some (some (.inl (-1000000001)), h)
set_option maxRecDepth 100000 in
theorem X11_count_l0 (c_X1_rowsOfAll : Nat → PH → Option Rs) (t : Nat) (x1 : Int32) (h : PH) : X11_count_b0 c_X1_rowsOfAll [some (.inr (10, t + 1)), some (.inl x1)] [] h = X11_count_f0 c_X1_rowsOfAll t x1 h := rfl
noncomputable def X11_count_g0 (t : Nat) (x1 : Int32) (h : PH) : Option Rs := X11_count_f0 X1_rowsOfAll t x1 h
noncomputable def X11_count (t : Nat) (x1 : Int32) (h : PH) : Option Rs := X11_count_g0 t x1 h
noncomputable abbrev X11_count_F : List PV → PH → Option Rs := FW_T10I (X11_count)
set_option maxRecDepth 100000 in
theorem X11_count_gd (l : Launch) : Gd l 1 yX11_count cX11_count 2 (some .int) (X11_count_F)   := Gd_of (by decide +kernel) (fun z hzl as h r e => by
  obtain ⟨hst, e⟩ := gL_of e
  obtain ⟨t, q0, e⟩ := gT_of e
  obtain ⟨x1, q1, e⟩ := gI_of e
  rw [st_2 hst q0 q1]
  exact ⟨show 2 ≤ 2 by decide, X11_count_s0 _ _ _ _ ((X11_count_l0 X1_rowsOfAll t x1 h).trans e)⟩)
abbrev X12_init_x (z : CZ) : CX := mx RX12 cX12_init 1 0 none "<init>" z
noncomputable def X12_init_b0 (k31 : Kn) : Kn := (a_al 0 (a_oi (a_al 0 (a_ic 1765 (a_nwa 41 (a_pR 11 704 41 (a_al 0 (a_ic 1765 (a_nwa 42 (a_pR 11 705 42 (a_al 0 (a_ic 1765 (a_nwa 43 (a_pR 11 706 43 k31))))))))))))))
set_option maxRecDepth 100000 in
theorem X12_init_s0 {z : CZ} {k31 : Kn} (hk31 : SK (X12_init_x z) 31 k31) : SK (X12_init_x z) 0 (X12_init_b0 k31) := (s_aloadn (pc := 0) dX12_init_0 rfl (s_oi (pc := 1) w_1294 w_107 w_108 dX12_init_1 (s_aloadn (pc := 4) dX12_init_4 rfl (s_sipush (pc := 5) dX12_init_5 c_sp_1765 (s_nwa (pc := 8) (at0 := .int) (by decide) (by decide) rfl rfl rfl (by decide) w_161 dX12_init_8 (s_pRF (pc := 10) (f := 0) ko_11 (by decide) rfl rfl rfl rfl rfl (tyX12_ok 0 (by decide)) rfl w_1295 dX12_init_10 (s_aloadn (pc := 13) dX12_init_13 rfl (s_sipush (pc := 14) dX12_init_14 c_sp_1765 (s_nwa (pc := 17) (at0 := .int) (by decide) (by decide) rfl rfl rfl (by decide) w_161 dX12_init_17 (s_pRF (pc := 19) (f := 1) ko_11 (by decide) rfl rfl rfl rfl rfl (tyX12_ok 1 (by decide)) rfl w_1296 dX12_init_19 (s_aloadn (pc := 22) dX12_init_22 rfl (s_sipush (pc := 23) dX12_init_23 c_sp_1765 (s_nwa (pc := 26) (at0 := .int) (by decide) (by decide) rfl rfl rfl (by decide) w_161 dX12_init_26 (s_pRF (pc := 28) (f := 2) ko_11 (by decide) rfl rfl rfl rfl rfl (tyX12_ok 2 (by decide)) rfl w_1297 dX12_init_28 hk31))))))))))))))
noncomputable def X12_init_b31 (k128 : Kn) : Kn := (a_al 0 (a_ic 2912 (a_nwa 44 (a_pR 11 708 44 (a_al 0 (a_ic 96 (a_nwa 45 (a_pR 11 710 45 (a_al 0 (a_ic 13 (a_nwa 46 (a_dup (a_ic 0 (a_ic 108 (a_ast 46 2944 (vp_nar .char) (a_dup (a_ic 1 (a_ic 105 (a_ast 46 2944 (vp_nar .char) (a_dup (a_ic 2 (a_ic 103 (a_ast 46 2944 (vp_nar .char) (a_dup (a_ic 3 (a_ic 104 (a_ast 46 2944 (vp_nar .char) (a_dup (a_ic 4 (a_ic 116 (a_ast 46 2944 (vp_nar .char) (a_dup (a_ic 5 (a_ic 103 (a_ast 46 2944 (vp_nar .char) (a_dup (a_ic 6 (a_ic 97 (a_ast 46 2944 (vp_nar .char) (a_dup (a_ic 7 (a_ic 116 (a_ast 46 2944 (vp_nar .char) (a_dup (a_ic 8 (a_ic 101 (a_ast 46 2944 (vp_nar .char) (a_dup (a_ic 9 (a_ic 111 (a_ast 46 2944 (vp_nar .char) (a_dup (a_ic 10 (a_ic 98 (a_ast 46 2944 (vp_nar .char) (a_dup (a_ic 11 (a_ic 101 (a_ast 46 2944 (vp_nar .char) (a_dup (a_ic 12 (a_ic 121 (a_ast 46 2944 (vp_nar .char) (a_pR 11 718 46 k128))))))))))))))))))))))))))))))))))))))))))))))))))))))))))))))))
set_option maxRecDepth 100000 in
theorem X12_init_s31 {z : CZ} {k128 : Kn} (hk128 : SK (X12_init_x z) 128 k128) : SK (X12_init_x z) 31 (X12_init_b31 k128) := (s_aloadn (pc := 31) dX12_init_31 rfl (s_sipush (pc := 32) dX12_init_32 c_sp_2912 (s_nwa (pc := 35) (at0 := .int) (by decide) (by decide) rfl rfl rfl (by decide) w_161 dX12_init_35 (s_pRF (pc := 37) (f := 4) ko_11 (by decide) rfl rfl rfl rfl rfl (tyX12_ok 4 (by decide)) rfl w_1299 dX12_init_37 (s_aloadn (pc := 40) dX12_init_40 rfl (s_bipush (pc := 41) dX12_init_41 c_bp_96 (s_nwa (pc := 43) (at0 := .int) (by decide) (by decide) rfl rfl rfl (by decide) w_161 dX12_init_43 (s_pRF (pc := 45) (f := 6) ko_11 (by decide) rfl rfl rfl rfl rfl (tyX12_ok 6 (by decide)) rfl w_1301 dX12_init_45 (s_aloadn (pc := 48) dX12_init_48 rfl (s_bipush (pc := 49) dX12_init_49 c_bp_13 (s_nwa (pc := 51) (at0 := .char) (by decide) (by decide) rfl rfl rfl (by decide) w_1449 dX12_init_51 (s_dup (pc := 53) dX12_init_53 (s_iconst (pc := 54) dX12_init_54 c_ic_0 (s_bipush (pc := 55) dX12_init_55 c_bp_108 (s_cast (pc := 57) (by decide) (by decide) rfl rfl rfl dX12_init_57 (s_dup (pc := 58) dX12_init_58 (s_iconst (pc := 59) dX12_init_59 c_ic_1 (s_bipush (pc := 60) dX12_init_60 c_bp_105 (s_cast (pc := 62) (by decide) (by decide) rfl rfl rfl dX12_init_62 (s_dup (pc := 63) dX12_init_63 (s_iconst (pc := 64) dX12_init_64 c_ic_2 (s_bipush (pc := 65) dX12_init_65 c_bp_103 (s_cast (pc := 67) (by decide) (by decide) rfl rfl rfl dX12_init_67 (s_dup (pc := 68) dX12_init_68 (s_iconst (pc := 69) dX12_init_69 c_ic_3 (s_bipush (pc := 70) dX12_init_70 c_bp_104 (s_cast (pc := 72) (by decide) (by decide) rfl rfl rfl dX12_init_72 (s_dup (pc := 73) dX12_init_73 (s_iconst (pc := 74) dX12_init_74 c_ic_4 (s_bipush (pc := 75) dX12_init_75 c_bp_116 (s_cast (pc := 77) (by decide) (by decide) rfl rfl rfl dX12_init_77 (s_dup (pc := 78) dX12_init_78 (s_iconst (pc := 79) dX12_init_79 c_ic_5 (s_bipush (pc := 80) dX12_init_80 c_bp_103 (s_cast (pc := 82) (by decide) (by decide) rfl rfl rfl dX12_init_82 (s_dup (pc := 83) dX12_init_83 (s_bipush (pc := 84) dX12_init_84 c_bp_6 (s_bipush (pc := 86) dX12_init_86 c_bp_97 (s_cast (pc := 88) (by decide) (by decide) rfl rfl rfl dX12_init_88 (s_dup (pc := 89) dX12_init_89 (s_bipush (pc := 90) dX12_init_90 c_bp_7 (s_bipush (pc := 92) dX12_init_92 c_bp_116 (s_cast (pc := 94) (by decide) (by decide) rfl rfl rfl dX12_init_94 (s_dup (pc := 95) dX12_init_95 (s_bipush (pc := 96) dX12_init_96 c_bp_8 (s_bipush (pc := 98) dX12_init_98 c_bp_101 (s_cast (pc := 100) (by decide) (by decide) rfl rfl rfl dX12_init_100 (s_dup (pc := 101) dX12_init_101 (s_bipush (pc := 102) dX12_init_102 c_bp_9 (s_bipush (pc := 104) dX12_init_104 c_bp_111 (s_cast (pc := 106) (by decide) (by decide) rfl rfl rfl dX12_init_106 (s_dup (pc := 107) dX12_init_107 (s_bipush (pc := 108) dX12_init_108 c_bp_10 (s_bipush (pc := 110) dX12_init_110 c_bp_98 (s_cast (pc := 112) (by decide) (by decide) rfl rfl rfl dX12_init_112 (s_dup (pc := 113) dX12_init_113 (s_bipush (pc := 114) dX12_init_114 c_bp_11 (s_bipush (pc := 116) dX12_init_116 c_bp_101 (s_cast (pc := 118) (by decide) (by decide) rfl rfl rfl dX12_init_118 (s_dup (pc := 119) dX12_init_119 (s_bipush (pc := 120) dX12_init_120 c_bp_12 (s_bipush (pc := 122) dX12_init_122 c_bp_121 (s_cast (pc := 124) (by decide) (by decide) rfl rfl rfl dX12_init_124 (s_pRF (pc := 125) (f := 14) ko_11 (by decide) rfl rfl rfl rfl rfl (tyX12_ok 14 (by decide)) rfl w_1309 dX12_init_125 hk128))))))))))))))))))))))))))))))))))))))))))))))))))))))))))))))))
noncomputable def X12_init_b128 (k153 : Kn) : Kn := (a_al 0 (a_ic 4 (a_nwa 47 (a_dup (a_ic 0 (a_ic 0 (a_ast 47 3008 (fun a => a) (a_dup (a_ic 1 (a_ic 5 (a_ast 47 3008 (fun a => a) (a_dup (a_ic 2 (a_ic 9 (a_ast 47 3008 (fun a => a) (a_dup (a_ic 3 (a_ic 13 (a_ast 47 3008 (fun a => a) (a_pR 11 719 47 k153))))))))))))))))))))
set_option maxRecDepth 100000 in
theorem X12_init_s128 {z : CZ} {k153 : Kn} (hk153 : SK (X12_init_x z) 153 k153) : SK (X12_init_x z) 128 (X12_init_b128 k153) := (s_aloadn (pc := 128) dX12_init_128 rfl (s_iconst (pc := 129) dX12_init_129 c_ic_4 (s_nwa (pc := 130) (at0 := .int) (by decide) (by decide) rfl rfl rfl (by decide) w_161 dX12_init_130 (s_dup (pc := 132) dX12_init_132 (s_iconst (pc := 133) dX12_init_133 c_ic_0 (s_iconst (pc := 134) dX12_init_134 c_ic_0 (s_iast (pc := 135) (by decide) (by decide) rfl rfl rfl dX12_init_135 (s_dup (pc := 136) dX12_init_136 (s_iconst (pc := 137) dX12_init_137 c_ic_1 (s_iconst (pc := 138) dX12_init_138 c_ic_5 (s_iast (pc := 139) (by decide) (by decide) rfl rfl rfl dX12_init_139 (s_dup (pc := 140) dX12_init_140 (s_iconst (pc := 141) dX12_init_141 c_ic_2 (s_bipush (pc := 142) dX12_init_142 c_bp_9 (s_iast (pc := 144) (by decide) (by decide) rfl rfl rfl dX12_init_144 (s_dup (pc := 145) dX12_init_145 (s_iconst (pc := 146) dX12_init_146 c_ic_3 (s_bipush (pc := 147) dX12_init_147 c_bp_13 (s_iast (pc := 149) (by decide) (by decide) rfl rfl rfl dX12_init_149 (s_pRF (pc := 150) (f := 15) ko_11 (by decide) rfl rfl rfl rfl rfl (tyX12_ok 15 (by decide)) rfl w_1310 dX12_init_150 hk153))))))))))))))))))))
noncomputable def X12_init_b153 (k177 : Kn) : Kn := (a_al 0 (a_ic 96 (a_nwa 48 (a_pR 11 720 48 (a_al 0 (a_ic 96 (a_nwa 49 (a_pR 11 723 49 (a_al 0 (a_ic 10 (a_nwa 50 (a_pR 11 725 50 k177))))))))))))
set_option maxRecDepth 100000 in
theorem X12_init_s153 {z : CZ} {k177 : Kn} (hk177 : SK (X12_init_x z) 177 k177) : SK (X12_init_x z) 153 (X12_init_b153 k177) := (s_aloadn (pc := 153) dX12_init_153 rfl (s_bipush (pc := 154) dX12_init_154 c_bp_96 (s_nwa (pc := 156) (at0 := .int) (by decide) (by decide) rfl rfl rfl (by decide) w_161 dX12_init_156 (s_pRF (pc := 158) (f := 16) ko_11 (by decide) rfl rfl rfl rfl rfl (tyX12_ok 16 (by decide)) rfl w_1311 dX12_init_158 (s_aloadn (pc := 161) dX12_init_161 rfl (s_bipush (pc := 162) dX12_init_162 c_bp_96 (s_nwa (pc := 164) (at0 := .int) (by decide) (by decide) rfl rfl rfl (by decide) w_161 dX12_init_164 (s_pRF (pc := 166) (f := 19) ko_11 (by decide) rfl rfl rfl rfl rfl (tyX12_ok 19 (by decide)) rfl w_1314 dX12_init_166 (s_aloadn (pc := 169) dX12_init_169 rfl (s_bipush (pc := 170) dX12_init_170 c_bp_10 (s_nwa (pc := 172) (at0 := .boolean) (by decide) (by decide) rfl rfl rfl (by decide) w_326 dX12_init_172 (s_pRF (pc := 174) (f := 21) ko_11 (by decide) rfl rfl rfl rfl rfl (tyX12_ok 21 (by decide)) rfl w_1316 dX12_init_174 hk177))))))))))))
noncomputable def X12_init_b177 (k200 : Kn) : Kn := (a_al 0 (a_ic 96 (a_nwa 51 (a_pR 11 726 51 (a_al 0 (a_ic 4 (a_nwa 52 (a_pR 11 727 52 (a_al 0 (a_ic 20 (a_nwa 53 (a_pR 11 728 53 k200))))))))))))
set_option maxRecDepth 100000 in
theorem X12_init_s177 {z : CZ} {k200 : Kn} (hk200 : SK (X12_init_x z) 200 k200) : SK (X12_init_x z) 177 (X12_init_b177 k200) := (s_aloadn (pc := 177) dX12_init_177 rfl (s_bipush (pc := 178) dX12_init_178 c_bp_96 (s_nwa (pc := 180) (at0 := .int) (by decide) (by decide) rfl rfl rfl (by decide) w_161 dX12_init_180 (s_pRF (pc := 182) (f := 22) ko_11 (by decide) rfl rfl rfl rfl rfl (tyX12_ok 22 (by decide)) rfl w_1317 dX12_init_182 (s_aloadn (pc := 185) dX12_init_185 rfl (s_iconst (pc := 186) dX12_init_186 c_ic_4 (s_nwa (pc := 187) (at0 := .int) (by decide) (by decide) rfl rfl rfl (by decide) w_161 dX12_init_187 (s_pRF (pc := 189) (f := 23) ko_11 (by decide) rfl rfl rfl rfl rfl (tyX12_ok 23 (by decide)) rfl w_1318 dX12_init_189 (s_aloadn (pc := 192) dX12_init_192 rfl (s_bipush (pc := 193) dX12_init_193 c_bp_20 (s_nwa (pc := 195) (at0 := .boolean) (by decide) (by decide) rfl rfl rfl (by decide) w_326 dX12_init_195 (s_pRF (pc := 197) (f := 24) ko_11 (by decide) rfl rfl rfl rfl rfl (tyX12_ok 24 (by decide)) rfl w_1319 dX12_init_197 hk200))))))))))))
noncomputable def X12_init_b200 (k224 : Kn) : Kn := (a_al 0 (a_ic 14 (a_nwa 54 (a_pR 11 729 54 (a_al 0 (a_ic 12 (a_nwa 55 (a_pR 11 730 55 (a_al 0 (a_ic 120 (a_nwa 56 (a_pR 11 735 56 k224))))))))))))
set_option maxRecDepth 100000 in
theorem X12_init_s200 {z : CZ} {k224 : Kn} (hk224 : SK (X12_init_x z) 224 k224) : SK (X12_init_x z) 200 (X12_init_b200 k224) := (s_aloadn (pc := 200) dX12_init_200 rfl (s_bipush (pc := 201) dX12_init_201 c_bp_14 (s_nwa (pc := 203) (at0 := .boolean) (by decide) (by decide) rfl rfl rfl (by decide) w_326 dX12_init_203 (s_pRF (pc := 205) (f := 25) ko_11 (by decide) rfl rfl rfl rfl rfl (tyX12_ok 25 (by decide)) rfl w_1320 dX12_init_205 (s_aloadn (pc := 208) dX12_init_208 rfl (s_bipush (pc := 209) dX12_init_209 c_bp_12 (s_nwa (pc := 211) (at0 := .int) (by decide) (by decide) rfl rfl rfl (by decide) w_161 dX12_init_211 (s_pRF (pc := 213) (f := 26) ko_11 (by decide) rfl rfl rfl rfl rfl (tyX12_ok 26 (by decide)) rfl w_1321 dX12_init_213 (s_aloadn (pc := 216) dX12_init_216 rfl (s_bipush (pc := 217) dX12_init_217 c_bp_120 (s_nwa (pc := 219) (at0 := .int) (by decide) (by decide) rfl rfl rfl (by decide) w_161 dX12_init_219 (s_pRF (pc := 221) (f := 31) ko_11 (by decide) rfl rfl rfl rfl rfl (tyX12_ok 31 (by decide)) rfl w_1326 dX12_init_221 hk224))))))))))))
noncomputable def X12_init_b224 (k248 : Kn) : Kn := (a_al 0 (a_ic 96 (a_nwa 57 (a_pR 11 736 57 (a_al 0 (a_ic 12 (a_nwa 58 (a_pR 11 738 58 (a_al 0 (a_ic 120 (a_nwa 59 (a_pR 11 742 59 k248))))))))))))
set_option maxRecDepth 100000 in
theorem X12_init_s224 {z : CZ} {k248 : Kn} (hk248 : SK (X12_init_x z) 248 k248) : SK (X12_init_x z) 224 (X12_init_b224 k248) := (s_aloadn (pc := 224) dX12_init_224 rfl (s_bipush (pc := 225) dX12_init_225 c_bp_96 (s_nwa (pc := 227) (at0 := .boolean) (by decide) (by decide) rfl rfl rfl (by decide) w_326 dX12_init_227 (s_pRF (pc := 229) (f := 32) ko_11 (by decide) rfl rfl rfl rfl rfl (tyX12_ok 32 (by decide)) rfl w_1327 dX12_init_229 (s_aloadn (pc := 232) dX12_init_232 rfl (s_bipush (pc := 233) dX12_init_233 c_bp_12 (s_nwa (pc := 235) (at0 := .int) (by decide) (by decide) rfl rfl rfl (by decide) w_161 dX12_init_235 (s_pRF (pc := 237) (f := 34) ko_11 (by decide) rfl rfl rfl rfl rfl (tyX12_ok 34 (by decide)) rfl w_1329 dX12_init_237 (s_aloadn (pc := 240) dX12_init_240 rfl (s_bipush (pc := 241) dX12_init_241 c_bp_120 (s_nwa (pc := 243) (at0 := .int) (by decide) (by decide) rfl rfl rfl (by decide) w_161 dX12_init_243 (s_pRF (pc := 245) (f := 38) ko_11 (by decide) rfl rfl rfl rfl rfl (tyX12_ok 38 (by decide)) rfl w_1333 dX12_init_245 hk248))))))))))))
noncomputable def X12_init_b248 (k287 : Kn) : Kn := (a_al 0 (a_ic 120 (a_nwa 60 (a_pR 11 743 60 (a_al 0 (a_ic 10 (a_nwa 61 (a_pR 11 744 61 (a_al 0 (a_ic 4 (a_nwa 62 (a_dup (a_ic 0 (a_ic (-1) (a_ast 62 3968 (fun a => a) (a_dup (a_ic 1 (a_ic (-1) (a_ast 62 3968 (fun a => a) (a_dup (a_ic 2 (a_ic (-1) (a_ast 62 3968 (fun a => a) (a_dup (a_ic 3 (a_ic (-1) (a_ast 62 3968 (fun a => a) (a_pR 11 745 62 k287))))))))))))))))))))))))))))
set_option maxRecDepth 100000 in
theorem X12_init_s248 {z : CZ} {k287 : Kn} (hk287 : SK (X12_init_x z) 287 k287) : SK (X12_init_x z) 248 (X12_init_b248 k287) := (s_aloadn (pc := 248) dX12_init_248 rfl (s_bipush (pc := 249) dX12_init_249 c_bp_120 (s_nwa (pc := 251) (at0 := .int) (by decide) (by decide) rfl rfl rfl (by decide) w_161 dX12_init_251 (s_pRF (pc := 253) (f := 39) ko_11 (by decide) rfl rfl rfl rfl rfl (tyX12_ok 39 (by decide)) rfl w_1334 dX12_init_253 (s_aloadn (pc := 256) dX12_init_256 rfl (s_bipush (pc := 257) dX12_init_257 c_bp_10 (s_nwa (pc := 259) (at0 := .int) (by decide) (by decide) rfl rfl rfl (by decide) w_161 dX12_init_259 (s_pRF (pc := 261) (f := 40) ko_11 (by decide) rfl rfl rfl rfl rfl (tyX12_ok 40 (by decide)) rfl w_1335 dX12_init_261 (s_aloadn (pc := 264) dX12_init_264 rfl (s_iconst (pc := 265) dX12_init_265 c_ic_4 (s_nwa (pc := 266) (at0 := .int) (by decide) (by decide) rfl rfl rfl (by decide) w_161 dX12_init_266 (s_dup (pc := 268) dX12_init_268 (s_iconst (pc := 269) dX12_init_269 c_ic_0 (s_iconst (pc := 270) dX12_init_270 c_ic_m1 (s_iast (pc := 271) (by decide) (by decide) rfl rfl rfl dX12_init_271 (s_dup (pc := 272) dX12_init_272 (s_iconst (pc := 273) dX12_init_273 c_ic_1 (s_iconst (pc := 274) dX12_init_274 c_ic_m1 (s_iast (pc := 275) (by decide) (by decide) rfl rfl rfl dX12_init_275 (s_dup (pc := 276) dX12_init_276 (s_iconst (pc := 277) dX12_init_277 c_ic_2 (s_iconst (pc := 278) dX12_init_278 c_ic_m1 (s_iast (pc := 279) (by decide) (by decide) rfl rfl rfl dX12_init_279 (s_dup (pc := 280) dX12_init_280 (s_iconst (pc := 281) dX12_init_281 c_ic_3 (s_iconst (pc := 282) dX12_init_282 c_ic_m1 (s_iast (pc := 283) (by decide) (by decide) rfl rfl rfl dX12_init_283 (s_pRF (pc := 284) (f := 41) ko_11 (by decide) rfl rfl rfl rfl rfl (tyX12_ok 41 (by decide)) rfl w_1336 dX12_init_284 hk287))))))))))))))))))))))))))))
noncomputable def X12_init_b287 (k309 : Kn) : Kn := (a_al 0 (a_ic 4 (a_nwa 63 (a_pR 11 746 63 (a_al 0 (a_ic 96 (a_nwa 64 (a_pR 11 747 64 (a_al 0 (a_ic 5 (a_nwa 65 (a_pR 11 748 65 k309))))))))))))
set_option maxRecDepth 100000 in
theorem X12_init_s287 {z : CZ} {k309 : Kn} (hk309 : SK (X12_init_x z) 309 k309) : SK (X12_init_x z) 287 (X12_init_b287 k309) := (s_aloadn (pc := 287) dX12_init_287 rfl (s_iconst (pc := 288) dX12_init_288 c_ic_4 (s_nwa (pc := 289) (at0 := .int) (by decide) (by decide) rfl rfl rfl (by decide) w_161 dX12_init_289 (s_pRF (pc := 291) (f := 42) ko_11 (by decide) rfl rfl rfl rfl rfl (tyX12_ok 42 (by decide)) rfl w_1337 dX12_init_291 (s_aloadn (pc := 294) dX12_init_294 rfl (s_bipush (pc := 295) dX12_init_295 c_bp_96 (s_nwa (pc := 297) (at0 := .int) (by decide) (by decide) rfl rfl rfl (by decide) w_161 dX12_init_297 (s_pRF (pc := 299) (f := 43) ko_11 (by decide) rfl rfl rfl rfl rfl (tyX12_ok 43 (by decide)) rfl w_1338 dX12_init_299 (s_aloadn (pc := 302) dX12_init_302 rfl (s_iconst (pc := 303) dX12_init_303 c_ic_5 (s_nwa (pc := 304) (at0 := .int) (by decide) (by decide) rfl rfl rfl (by decide) w_161 dX12_init_304 (s_pRF (pc := 306) (f := 44) ko_11 (by decide) rfl rfl rfl rfl rfl (tyX12_ok 44 (by decide)) rfl w_1339 dX12_init_306 hk309))))))))))))
noncomputable def X12_init_b309 (k331 : Kn) : Kn := (a_al 0 (a_ic 5 (a_nwa 66 (a_pR 11 749 66 (a_al 0 (a_ic 5 (a_nwa 67 (a_pR 11 750 67 (a_al 0 (a_ic 120 (a_nwa 68 (a_pR 11 751 68 k331))))))))))))
set_option maxRecDepth 100000 in
theorem X12_init_s309 {z : CZ} {k331 : Kn} (hk331 : SK (X12_init_x z) 331 k331) : SK (X12_init_x z) 309 (X12_init_b309 k331) := (s_aloadn (pc := 309) dX12_init_309 rfl (s_iconst (pc := 310) dX12_init_310 c_ic_5 (s_nwa (pc := 311) (at0 := .int) (by decide) (by decide) rfl rfl rfl (by decide) w_161 dX12_init_311 (s_pRF (pc := 313) (f := 45) ko_11 (by decide) rfl rfl rfl rfl rfl (tyX12_ok 45 (by decide)) rfl w_1340 dX12_init_313 (s_aloadn (pc := 316) dX12_init_316 rfl (s_iconst (pc := 317) dX12_init_317 c_ic_5 (s_nwa (pc := 318) (at0 := .int) (by decide) (by decide) rfl rfl rfl (by decide) w_161 dX12_init_318 (s_pRF (pc := 320) (f := 46) ko_11 (by decide) rfl rfl rfl rfl rfl (tyX12_ok 46 (by decide)) rfl w_1341 dX12_init_320 (s_aloadn (pc := 323) dX12_init_323 rfl (s_bipush (pc := 324) dX12_init_324 c_bp_120 (s_nwa (pc := 326) (at0 := .int) (by decide) (by decide) rfl rfl rfl (by decide) w_161 dX12_init_326 (s_pRF (pc := 328) (f := 47) ko_11 (by decide) rfl rfl rfl rfl rfl (tyX12_ok 47 (by decide)) rfl w_1342 dX12_init_328 hk331))))))))))))
noncomputable def X12_init_b331 (k354 : Kn) : Kn := (a_al 0 (a_ic 24 (a_nwa 69 (a_pR 11 752 69 (a_al 0 (a_ic 60 (a_nwa 70 (a_pR 11 753 70 (a_al 0 (a_gR 11 704 41 (a_ic 0 (a_ic 1 (a_ast 41 2624 (fun a => a) k354)))))))))))))
set_option maxRecDepth 100000 in
theorem X12_init_s331 {z : CZ} {k354 : Kn} (hk354 : SK (X12_init_x z) 354 k354) : SK (X12_init_x z) 331 (X12_init_b331 k354) := (s_aloadn (pc := 331) dX12_init_331 rfl (s_bipush (pc := 332) dX12_init_332 c_bp_24 (s_nwa (pc := 334) (at0 := .int) (by decide) (by decide) rfl rfl rfl (by decide) w_161 dX12_init_334 (s_pRF (pc := 336) (f := 48) ko_11 (by decide) rfl rfl rfl rfl rfl (tyX12_ok 48 (by decide)) rfl w_1343 dX12_init_336 (s_aloadn (pc := 339) dX12_init_339 rfl (s_bipush (pc := 340) dX12_init_340 c_bp_60 (s_nwa (pc := 342) (at0 := .int) (by decide) (by decide) rfl rfl rfl (by decide) w_161 dX12_init_342 (s_pRF (pc := 344) (f := 49) ko_11 (by decide) rfl rfl rfl rfl rfl (tyX12_ok 49 (by decide)) rfl w_1344 dX12_init_344 (s_aloadn (pc := 347) dX12_init_347 rfl (s_gR (pc := 348) (f := 0) ko_11 (by decide) rfl rfl w_1295 dX12_init_348 (s_iconst (pc := 351) dX12_init_351 c_ic_0 (s_iconst (pc := 352) dX12_init_352 c_ic_1 (s_iast (pc := 353) (by decide) (by decide) rfl rfl rfl dX12_init_353 hk354)))))))))))))
noncomputable def X12_init_b354 : Kn := (a_al 0 (a_gR 11 704 41 (a_ic 1 (a_ic 8 (a_ast 41 2624 (fun a => a) a_vr)))))
set_option maxRecDepth 100000 in
theorem X12_init_s354 {z : CZ} : SK (X12_init_x z) 354 (X12_init_b354) := (s_aloadn (pc := 354) dX12_init_354 rfl (s_gR (pc := 355) (f := 0) ko_11 (by decide) rfl rfl w_1295 dX12_init_355 (s_iconst (pc := 358) dX12_init_358 c_ic_1 (s_bipush (pc := 359) dX12_init_359 c_bp_8 (s_iast (pc := 361) (by decide) (by decide) rfl rfl rfl dX12_init_361 (s_vr (pc := 362) rfl dX12_init_362))))))
noncomputable def X12_init_u31 (g : Nat → PH → Option Rs) : Kn := fun ls st h => gL 0 st (gT 11 ls 0 fun t => g t h)
noncomputable def X12_init_u128 (g : Nat → PH → Option Rs) : Kn := fun ls st h => gL 0 st (gT 11 ls 0 fun t => g t h)
noncomputable def X12_init_u153 (g : Nat → PH → Option Rs) : Kn := fun ls st h => gL 0 st (gT 11 ls 0 fun t => g t h)
noncomputable def X12_init_u177 (g : Nat → PH → Option Rs) : Kn := fun ls st h => gL 0 st (gT 11 ls 0 fun t => g t h)
noncomputable def X12_init_u200 (g : Nat → PH → Option Rs) : Kn := fun ls st h => gL 0 st (gT 11 ls 0 fun t => g t h)
noncomputable def X12_init_u224 (g : Nat → PH → Option Rs) : Kn := fun ls st h => gL 0 st (gT 11 ls 0 fun t => g t h)
noncomputable def X12_init_u248 (g : Nat → PH → Option Rs) : Kn := fun ls st h => gL 0 st (gT 11 ls 0 fun t => g t h)
noncomputable def X12_init_u287 (g : Nat → PH → Option Rs) : Kn := fun ls st h => gL 0 st (gT 11 ls 0 fun t => g t h)
noncomputable def X12_init_u309 (g : Nat → PH → Option Rs) : Kn := fun ls st h => gL 0 st (gT 11 ls 0 fun t => g t h)
noncomputable def X12_init_u331 (g : Nat → PH → Option Rs) : Kn := fun ls st h => gL 0 st (gT 11 ls 0 fun t => g t h)
noncomputable def X12_init_u354 (g : Nat → PH → Option Rs) : Kn := fun ls st h => gL 0 st (gT 11 ls 0 fun t => g t h)
noncomputable def X12_init_f0 (g31 : Nat → PH → Option Rs) (t : Nat) (h : PH) : Option Rs :=
  nl 1765 fun n1 =>
  wr (nw h 41 n1 n1) fun h2 =>
  wr (pR h2 704 t 0 (hN h 41 + 1)) fun h3 =>
  nl 1765 fun n4 =>
  wr (nw h3 42 n4 n4) fun h5 =>
  wr (pR h5 705 t 0 (hN h3 42 + 1)) fun h6 =>
  nl 1765 fun n7 =>
  wr (nw h6 43 n7 n7) fun h8 =>
  wr (pR h8 706 t 0 (hN h6 43 + 1)) fun h9 =>
  g31 t h9
set_option maxRecDepth 100000 in
theorem X12_init_l0 (g31 : Nat → PH → Option Rs) (t : Nat) (h : PH) : X12_init_b0 (X12_init_u31 g31) [some (.inr (11, t + 1))] [] h = X12_init_f0 g31 t h := rfl
theorem X12_init_m0 {g31 G31 : Nat → PH → Option Rs} (hg31 : ∀ a0 a1, Mo (g31 a0 a1) (G31 a0 a1)) (t : Nat) (h : PH) : Mo (X12_init_f0 g31 t h) (X12_init_f0 G31 t h) := (mo_nl fun n1 => (mo_wr fun h2 => (mo_wr fun h3 => (mo_nl fun n4 => (mo_wr fun h5 => (mo_wr fun h6 => (mo_nl fun n7 => (mo_wr fun h8 => (mo_wr fun h9 => (hg31 t h9))))))))))
noncomputable def X12_init_f31 (g128 : Nat → PH → Option Rs) (t : Nat) (h : PH) : Option Rs :=
  nl 2912 fun n10 =>
  wr (nw h 44 n10 n10) fun h11 =>
  wr (pR h11 708 t 0 (hN h 44 + 1)) fun h12 =>
  nl 96 fun n13 =>
  wr (nw h12 45 n13 n13) fun h14 =>
  wr (pR h14 710 t 0 (hN h12 45 + 1)) fun h15 =>
  nl 13 fun n16 =>
  wr (nw h15 46 n16 n16) fun h17 =>
  nn (hN h15 46 + 1) fun r18 =>
  ix 0 (hL h17 46 r18) fun j19 =>
  wr (pI h17 2944 r18 j19 (vp_nar .char 108)) fun h20 =>
  nn (hN h15 46 + 1) fun r21 =>
  ix 1 (hL h20 46 r21) fun j22 =>
  wr (pI h20 2944 r21 j22 (vp_nar .char 105)) fun h23 =>
  nn (hN h15 46 + 1) fun r24 =>
  ix 2 (hL h23 46 r24) fun j25 =>
  wr (pI h23 2944 r24 j25 (vp_nar .char 103)) fun h26 =>
  nn (hN h15 46 + 1) fun r27 =>
  ix 3 (hL h26 46 r27) fun j28 =>
  wr (pI h26 2944 r27 j28 (vp_nar .char 104)) fun h29 =>
  nn (hN h15 46 + 1) fun r30 =>
  ix 4 (hL h29 46 r30) fun j31 =>
  wr (pI h29 2944 r30 j31 (vp_nar .char 116)) fun h32 =>
  nn (hN h15 46 + 1) fun r33 =>
  ix 5 (hL h32 46 r33) fun j34 =>
  wr (pI h32 2944 r33 j34 (vp_nar .char 103)) fun h35 =>
  nn (hN h15 46 + 1) fun r36 =>
  ix 6 (hL h35 46 r36) fun j37 =>
  wr (pI h35 2944 r36 j37 (vp_nar .char 97)) fun h38 =>
  nn (hN h15 46 + 1) fun r39 =>
  ix 7 (hL h38 46 r39) fun j40 =>
  wr (pI h38 2944 r39 j40 (vp_nar .char 116)) fun h41 =>
  nn (hN h15 46 + 1) fun r42 =>
  ix 8 (hL h41 46 r42) fun j43 =>
  wr (pI h41 2944 r42 j43 (vp_nar .char 101)) fun h44 =>
  nn (hN h15 46 + 1) fun r45 =>
  ix 9 (hL h44 46 r45) fun j46 =>
  wr (pI h44 2944 r45 j46 (vp_nar .char 111)) fun h47 =>
  nn (hN h15 46 + 1) fun r48 =>
  ix 10 (hL h47 46 r48) fun j49 =>
  wr (pI h47 2944 r48 j49 (vp_nar .char 98)) fun h50 =>
  nn (hN h15 46 + 1) fun r51 =>
  ix 11 (hL h50 46 r51) fun j52 =>
  wr (pI h50 2944 r51 j52 (vp_nar .char 101)) fun h53 =>
  nn (hN h15 46 + 1) fun r54 =>
  ix 12 (hL h53 46 r54) fun j55 =>
  wr (pI h53 2944 r54 j55 (vp_nar .char 121)) fun h56 =>
  wr (pR h56 718 t 0 (hN h15 46 + 1)) fun h57 =>
  g128 t h57
set_option maxRecDepth 100000 in
theorem X12_init_l31 (g128 : Nat → PH → Option Rs) (t : Nat) (h : PH) : X12_init_b31 (X12_init_u128 g128) [some (.inr (11, t + 1))] [] h = X12_init_f31 g128 t h := rfl
theorem X12_init_m31 {g128 G128 : Nat → PH → Option Rs} (hg128 : ∀ a0 a1, Mo (g128 a0 a1) (G128 a0 a1)) (t : Nat) (h : PH) : Mo (X12_init_f31 g128 t h) (X12_init_f31 G128 t h) := (mo_nl fun n10 => (mo_wr fun h11 => (mo_wr fun h12 => (mo_nl fun n13 => (mo_wr fun h14 => (mo_wr fun h15 => (mo_nl fun n16 => (mo_wr fun h17 => (mo_nn fun r18 => (mo_ix fun j19 => (mo_wr fun h20 => (mo_nn fun r21 => (mo_ix fun j22 => (mo_wr fun h23 => (mo_nn fun r24 => (mo_ix fun j25 => (mo_wr fun h26 => (mo_nn fun r27 => (mo_ix fun j28 => (mo_wr fun h29 => (mo_nn fun r30 => (mo_ix fun j31 => (mo_wr fun h32 => (mo_nn fun r33 => (mo_ix fun j34 => (mo_wr fun h35 => (mo_nn fun r36 => (mo_ix fun j37 => (mo_wr fun h38 => (mo_nn fun r39 => (mo_ix fun j40 => (mo_wr fun h41 => (mo_nn fun r42 => (mo_ix fun j43 => (mo_wr fun h44 => (mo_nn fun r45 => (mo_ix fun j46 => (mo_wr fun h47 => (mo_nn fun r48 => (mo_ix fun j49 => (mo_wr fun h50 => (mo_nn fun r51 => (mo_ix fun j52 => (mo_wr fun h53 => (mo_nn fun r54 => (mo_ix fun j55 => (mo_wr fun h56 => (mo_wr fun h57 => (hg128 t h57)))))))))))))))))))))))))))))))))))))))))))))))))
theorem X12_init_w31 {z : CZ} {g128 : Nat → PH → Option Rs} (hk128 : SK (X12_init_x z) 128 (X12_init_u128 g128)) : SK (X12_init_x z) 31 (X12_init_u31 (X12_init_f31 g128)) := by
  intro ls st h r e
  obtain ⟨hst, e⟩ := gL_of e
  obtain ⟨t, q0, e⟩ := gT_of e
  rw [st_0 hst]
  exact WK.sub (canon := [some (.inr (11, t + 1))]) rfl ⟨q0, trivial⟩ (X12_init_s31 hk128 _ _ _ _ ((X12_init_l31 g128 t h).trans e))
noncomputable def X12_init_f128 (g153 : Nat → PH → Option Rs) (t : Nat) (h : PH) : Option Rs :=
  nl 4 fun n58 =>
  wr (nw h 47 n58 n58) fun h59 =>
  nn (hN h 47 + 1) fun r60 =>
  ix 0 (hL h59 47 r60) fun j61 =>
  wr (pI h59 3008 r60 j61 0) fun h62 =>
  nn (hN h 47 + 1) fun r63 =>
  ix 1 (hL h62 47 r63) fun j64 =>
  wr (pI h62 3008 r63 j64 5) fun h65 =>
  nn (hN h 47 + 1) fun r66 =>
  ix 2 (hL h65 47 r66) fun j67 =>
  wr (pI h65 3008 r66 j67 9) fun h68 =>
  nn (hN h 47 + 1) fun r69 =>
  ix 3 (hL h68 47 r69) fun j70 =>
  wr (pI h68 3008 r69 j70 13) fun h71 =>
  wr (pR h71 719 t 0 (hN h 47 + 1)) fun h72 =>
  g153 t h72
set_option maxRecDepth 100000 in
theorem X12_init_l128 (g153 : Nat → PH → Option Rs) (t : Nat) (h : PH) : X12_init_b128 (X12_init_u153 g153) [some (.inr (11, t + 1))] [] h = X12_init_f128 g153 t h := rfl
theorem X12_init_m128 {g153 G153 : Nat → PH → Option Rs} (hg153 : ∀ a0 a1, Mo (g153 a0 a1) (G153 a0 a1)) (t : Nat) (h : PH) : Mo (X12_init_f128 g153 t h) (X12_init_f128 G153 t h) := (mo_nl fun n58 => (mo_wr fun h59 => (mo_nn fun r60 => (mo_ix fun j61 => (mo_wr fun h62 => (mo_nn fun r63 => (mo_ix fun j64 => (mo_wr fun h65 => (mo_nn fun r66 => (mo_ix fun j67 => (mo_wr fun h68 => (mo_nn fun r69 => (mo_ix fun j70 => (mo_wr fun h71 => (mo_wr fun h72 => (hg153 t h72))))))))))))))))
theorem X12_init_w128 {z : CZ} {g153 : Nat → PH → Option Rs} (hk153 : SK (X12_init_x z) 153 (X12_init_u153 g153)) : SK (X12_init_x z) 128 (X12_init_u128 (X12_init_f128 g153)) := by
  intro ls st h r e
  obtain ⟨hst, e⟩ := gL_of e
  obtain ⟨t, q0, e⟩ := gT_of e
  rw [st_0 hst]
  exact WK.sub (canon := [some (.inr (11, t + 1))]) rfl ⟨q0, trivial⟩ (X12_init_s128 hk153 _ _ _ _ ((X12_init_l128 g153 t h).trans e))
noncomputable def X12_init_f153 (g177 : Nat → PH → Option Rs) (t : Nat) (h : PH) : Option Rs :=
  nl 96 fun n73 =>
  wr (nw h 48 n73 n73) fun h74 =>
  wr (pR h74 720 t 0 (hN h 48 + 1)) fun h75 =>
  nl 96 fun n76 =>
  wr (nw h75 49 n76 n76) fun h77 =>
  wr (pR h77 723 t 0 (hN h75 49 + 1)) fun h78 =>
  nl 10 fun n79 =>
  wr (nw h78 50 n79 n79) fun h80 =>
  wr (pR h80 725 t 0 (hN h78 50 + 1)) fun h81 =>
  g177 t h81
set_option maxRecDepth 100000 in
theorem X12_init_l153 (g177 : Nat → PH → Option Rs) (t : Nat) (h : PH) : X12_init_b153 (X12_init_u177 g177) [some (.inr (11, t + 1))] [] h = X12_init_f153 g177 t h := rfl
theorem X12_init_m153 {g177 G177 : Nat → PH → Option Rs} (hg177 : ∀ a0 a1, Mo (g177 a0 a1) (G177 a0 a1)) (t : Nat) (h : PH) : Mo (X12_init_f153 g177 t h) (X12_init_f153 G177 t h) := (mo_nl fun n73 => (mo_wr fun h74 => (mo_wr fun h75 => (mo_nl fun n76 => (mo_wr fun h77 => (mo_wr fun h78 => (mo_nl fun n79 => (mo_wr fun h80 => (mo_wr fun h81 => (hg177 t h81))))))))))
theorem X12_init_w153 {z : CZ} {g177 : Nat → PH → Option Rs} (hk177 : SK (X12_init_x z) 177 (X12_init_u177 g177)) : SK (X12_init_x z) 153 (X12_init_u153 (X12_init_f153 g177)) := by
  intro ls st h r e
  obtain ⟨hst, e⟩ := gL_of e
  obtain ⟨t, q0, e⟩ := gT_of e
  rw [st_0 hst]
  exact WK.sub (canon := [some (.inr (11, t + 1))]) rfl ⟨q0, trivial⟩ (X12_init_s153 hk177 _ _ _ _ ((X12_init_l153 g177 t h).trans e))
noncomputable def X12_init_f177 (g200 : Nat → PH → Option Rs) (t : Nat) (h : PH) : Option Rs :=
  nl 96 fun n82 =>
  wr (nw h 51 n82 n82) fun h83 =>
  wr (pR h83 726 t 0 (hN h 51 + 1)) fun h84 =>
  nl 4 fun n85 =>
  wr (nw h84 52 n85 n85) fun h86 =>
  wr (pR h86 727 t 0 (hN h84 52 + 1)) fun h87 =>
  nl 20 fun n88 =>
  wr (nw h87 53 n88 n88) fun h89 =>
  wr (pR h89 728 t 0 (hN h87 53 + 1)) fun h90 =>
  g200 t h90
set_option maxRecDepth 100000 in
theorem X12_init_l177 (g200 : Nat → PH → Option Rs) (t : Nat) (h : PH) : X12_init_b177 (X12_init_u200 g200) [some (.inr (11, t + 1))] [] h = X12_init_f177 g200 t h := rfl
theorem X12_init_m177 {g200 G200 : Nat → PH → Option Rs} (hg200 : ∀ a0 a1, Mo (g200 a0 a1) (G200 a0 a1)) (t : Nat) (h : PH) : Mo (X12_init_f177 g200 t h) (X12_init_f177 G200 t h) := (mo_nl fun n82 => (mo_wr fun h83 => (mo_wr fun h84 => (mo_nl fun n85 => (mo_wr fun h86 => (mo_wr fun h87 => (mo_nl fun n88 => (mo_wr fun h89 => (mo_wr fun h90 => (hg200 t h90))))))))))
theorem X12_init_w177 {z : CZ} {g200 : Nat → PH → Option Rs} (hk200 : SK (X12_init_x z) 200 (X12_init_u200 g200)) : SK (X12_init_x z) 177 (X12_init_u177 (X12_init_f177 g200)) := by
  intro ls st h r e
  obtain ⟨hst, e⟩ := gL_of e
  obtain ⟨t, q0, e⟩ := gT_of e
  rw [st_0 hst]
  exact WK.sub (canon := [some (.inr (11, t + 1))]) rfl ⟨q0, trivial⟩ (X12_init_s177 hk200 _ _ _ _ ((X12_init_l177 g200 t h).trans e))
noncomputable def X12_init_f200 (g224 : Nat → PH → Option Rs) (t : Nat) (h : PH) : Option Rs :=
  nl 14 fun n91 =>
  wr (nw h 54 n91 n91) fun h92 =>
  wr (pR h92 729 t 0 (hN h 54 + 1)) fun h93 =>
  nl 12 fun n94 =>
  wr (nw h93 55 n94 n94) fun h95 =>
  wr (pR h95 730 t 0 (hN h93 55 + 1)) fun h96 =>
  nl 120 fun n97 =>
  wr (nw h96 56 n97 n97) fun h98 =>
  wr (pR h98 735 t 0 (hN h96 56 + 1)) fun h99 =>
  g224 t h99
set_option maxRecDepth 100000 in
theorem X12_init_l200 (g224 : Nat → PH → Option Rs) (t : Nat) (h : PH) : X12_init_b200 (X12_init_u224 g224) [some (.inr (11, t + 1))] [] h = X12_init_f200 g224 t h := rfl
theorem X12_init_m200 {g224 G224 : Nat → PH → Option Rs} (hg224 : ∀ a0 a1, Mo (g224 a0 a1) (G224 a0 a1)) (t : Nat) (h : PH) : Mo (X12_init_f200 g224 t h) (X12_init_f200 G224 t h) := (mo_nl fun n91 => (mo_wr fun h92 => (mo_wr fun h93 => (mo_nl fun n94 => (mo_wr fun h95 => (mo_wr fun h96 => (mo_nl fun n97 => (mo_wr fun h98 => (mo_wr fun h99 => (hg224 t h99))))))))))
theorem X12_init_w200 {z : CZ} {g224 : Nat → PH → Option Rs} (hk224 : SK (X12_init_x z) 224 (X12_init_u224 g224)) : SK (X12_init_x z) 200 (X12_init_u200 (X12_init_f200 g224)) := by
  intro ls st h r e
  obtain ⟨hst, e⟩ := gL_of e
  obtain ⟨t, q0, e⟩ := gT_of e
  rw [st_0 hst]
  exact WK.sub (canon := [some (.inr (11, t + 1))]) rfl ⟨q0, trivial⟩ (X12_init_s200 hk224 _ _ _ _ ((X12_init_l200 g224 t h).trans e))
noncomputable def X12_init_f224 (g248 : Nat → PH → Option Rs) (t : Nat) (h : PH) : Option Rs :=
  nl 96 fun n100 =>
  wr (nw h 57 n100 n100) fun h101 =>
  wr (pR h101 736 t 0 (hN h 57 + 1)) fun h102 =>
  nl 12 fun n103 =>
  wr (nw h102 58 n103 n103) fun h104 =>
  wr (pR h104 738 t 0 (hN h102 58 + 1)) fun h105 =>
  nl 120 fun n106 =>
  wr (nw h105 59 n106 n106) fun h107 =>
  wr (pR h107 742 t 0 (hN h105 59 + 1)) fun h108 =>
  g248 t h108
set_option maxRecDepth 100000 in
theorem X12_init_l224 (g248 : Nat → PH → Option Rs) (t : Nat) (h : PH) : X12_init_b224 (X12_init_u248 g248) [some (.inr (11, t + 1))] [] h = X12_init_f224 g248 t h := rfl
theorem X12_init_m224 {g248 G248 : Nat → PH → Option Rs} (hg248 : ∀ a0 a1, Mo (g248 a0 a1) (G248 a0 a1)) (t : Nat) (h : PH) : Mo (X12_init_f224 g248 t h) (X12_init_f224 G248 t h) := (mo_nl fun n100 => (mo_wr fun h101 => (mo_wr fun h102 => (mo_nl fun n103 => (mo_wr fun h104 => (mo_wr fun h105 => (mo_nl fun n106 => (mo_wr fun h107 => (mo_wr fun h108 => (hg248 t h108))))))))))
theorem X12_init_w224 {z : CZ} {g248 : Nat → PH → Option Rs} (hk248 : SK (X12_init_x z) 248 (X12_init_u248 g248)) : SK (X12_init_x z) 224 (X12_init_u224 (X12_init_f224 g248)) := by
  intro ls st h r e
  obtain ⟨hst, e⟩ := gL_of e
  obtain ⟨t, q0, e⟩ := gT_of e
  rw [st_0 hst]
  exact WK.sub (canon := [some (.inr (11, t + 1))]) rfl ⟨q0, trivial⟩ (X12_init_s224 hk248 _ _ _ _ ((X12_init_l224 g248 t h).trans e))
noncomputable def X12_init_f248 (g287 : Nat → PH → Option Rs) (t : Nat) (h : PH) : Option Rs :=
  nl 120 fun n109 =>
  wr (nw h 60 n109 n109) fun h110 =>
  wr (pR h110 743 t 0 (hN h 60 + 1)) fun h111 =>
  nl 10 fun n112 =>
  wr (nw h111 61 n112 n112) fun h113 =>
  wr (pR h113 744 t 0 (hN h111 61 + 1)) fun h114 =>
  nl 4 fun n115 =>
  wr (nw h114 62 n115 n115) fun h116 =>
  nn (hN h114 62 + 1) fun r117 =>
  ix 0 (hL h116 62 r117) fun j118 =>
  wr (pI h116 3968 r117 j118 (-1)) fun h119 =>
  nn (hN h114 62 + 1) fun r120 =>
  ix 1 (hL h119 62 r120) fun j121 =>
  wr (pI h119 3968 r120 j121 (-1)) fun h122 =>
  nn (hN h114 62 + 1) fun r123 =>
  ix 2 (hL h122 62 r123) fun j124 =>
  wr (pI h122 3968 r123 j124 (-1)) fun h125 =>
  nn (hN h114 62 + 1) fun r126 =>
  ix 3 (hL h125 62 r126) fun j127 =>
  wr (pI h125 3968 r126 j127 (-1)) fun h128 =>
  wr (pR h128 745 t 0 (hN h114 62 + 1)) fun h129 =>
  g287 t h129
set_option maxRecDepth 100000 in
theorem X12_init_l248 (g287 : Nat → PH → Option Rs) (t : Nat) (h : PH) : X12_init_b248 (X12_init_u287 g287) [some (.inr (11, t + 1))] [] h = X12_init_f248 g287 t h := rfl
theorem X12_init_m248 {g287 G287 : Nat → PH → Option Rs} (hg287 : ∀ a0 a1, Mo (g287 a0 a1) (G287 a0 a1)) (t : Nat) (h : PH) : Mo (X12_init_f248 g287 t h) (X12_init_f248 G287 t h) := (mo_nl fun n109 => (mo_wr fun h110 => (mo_wr fun h111 => (mo_nl fun n112 => (mo_wr fun h113 => (mo_wr fun h114 => (mo_nl fun n115 => (mo_wr fun h116 => (mo_nn fun r117 => (mo_ix fun j118 => (mo_wr fun h119 => (mo_nn fun r120 => (mo_ix fun j121 => (mo_wr fun h122 => (mo_nn fun r123 => (mo_ix fun j124 => (mo_wr fun h125 => (mo_nn fun r126 => (mo_ix fun j127 => (mo_wr fun h128 => (mo_wr fun h129 => (hg287 t h129))))))))))))))))))))))
theorem X12_init_w248 {z : CZ} {g287 : Nat → PH → Option Rs} (hk287 : SK (X12_init_x z) 287 (X12_init_u287 g287)) : SK (X12_init_x z) 248 (X12_init_u248 (X12_init_f248 g287)) := by
  intro ls st h r e
  obtain ⟨hst, e⟩ := gL_of e
  obtain ⟨t, q0, e⟩ := gT_of e
  rw [st_0 hst]
  exact WK.sub (canon := [some (.inr (11, t + 1))]) rfl ⟨q0, trivial⟩ (X12_init_s248 hk287 _ _ _ _ ((X12_init_l248 g287 t h).trans e))
noncomputable def X12_init_f287 (g309 : Nat → PH → Option Rs) (t : Nat) (h : PH) : Option Rs :=
  nl 4 fun n130 =>
  wr (nw h 63 n130 n130) fun h131 =>
  wr (pR h131 746 t 0 (hN h 63 + 1)) fun h132 =>
  nl 96 fun n133 =>
  wr (nw h132 64 n133 n133) fun h134 =>
  wr (pR h134 747 t 0 (hN h132 64 + 1)) fun h135 =>
  nl 5 fun n136 =>
  wr (nw h135 65 n136 n136) fun h137 =>
  wr (pR h137 748 t 0 (hN h135 65 + 1)) fun h138 =>
  g309 t h138
set_option maxRecDepth 100000 in
theorem X12_init_l287 (g309 : Nat → PH → Option Rs) (t : Nat) (h : PH) : X12_init_b287 (X12_init_u309 g309) [some (.inr (11, t + 1))] [] h = X12_init_f287 g309 t h := rfl
theorem X12_init_m287 {g309 G309 : Nat → PH → Option Rs} (hg309 : ∀ a0 a1, Mo (g309 a0 a1) (G309 a0 a1)) (t : Nat) (h : PH) : Mo (X12_init_f287 g309 t h) (X12_init_f287 G309 t h) := (mo_nl fun n130 => (mo_wr fun h131 => (mo_wr fun h132 => (mo_nl fun n133 => (mo_wr fun h134 => (mo_wr fun h135 => (mo_nl fun n136 => (mo_wr fun h137 => (mo_wr fun h138 => (hg309 t h138))))))))))
theorem X12_init_w287 {z : CZ} {g309 : Nat → PH → Option Rs} (hk309 : SK (X12_init_x z) 309 (X12_init_u309 g309)) : SK (X12_init_x z) 287 (X12_init_u287 (X12_init_f287 g309)) := by
  intro ls st h r e
  obtain ⟨hst, e⟩ := gL_of e
  obtain ⟨t, q0, e⟩ := gT_of e
  rw [st_0 hst]
  exact WK.sub (canon := [some (.inr (11, t + 1))]) rfl ⟨q0, trivial⟩ (X12_init_s287 hk309 _ _ _ _ ((X12_init_l287 g309 t h).trans e))
noncomputable def X12_init_f309 (g331 : Nat → PH → Option Rs) (t : Nat) (h : PH) : Option Rs :=
  nl 5 fun n139 =>
  wr (nw h 66 n139 n139) fun h140 =>
  wr (pR h140 749 t 0 (hN h 66 + 1)) fun h141 =>
  nl 5 fun n142 =>
  wr (nw h141 67 n142 n142) fun h143 =>
  wr (pR h143 750 t 0 (hN h141 67 + 1)) fun h144 =>
  nl 120 fun n145 =>
  wr (nw h144 68 n145 n145) fun h146 =>
  wr (pR h146 751 t 0 (hN h144 68 + 1)) fun h147 =>
  g331 t h147
set_option maxRecDepth 100000 in
theorem X12_init_l309 (g331 : Nat → PH → Option Rs) (t : Nat) (h : PH) : X12_init_b309 (X12_init_u331 g331) [some (.inr (11, t + 1))] [] h = X12_init_f309 g331 t h := rfl
theorem X12_init_m309 {g331 G331 : Nat → PH → Option Rs} (hg331 : ∀ a0 a1, Mo (g331 a0 a1) (G331 a0 a1)) (t : Nat) (h : PH) : Mo (X12_init_f309 g331 t h) (X12_init_f309 G331 t h) := (mo_nl fun n139 => (mo_wr fun h140 => (mo_wr fun h141 => (mo_nl fun n142 => (mo_wr fun h143 => (mo_wr fun h144 => (mo_nl fun n145 => (mo_wr fun h146 => (mo_wr fun h147 => (hg331 t h147))))))))))
theorem X12_init_w309 {z : CZ} {g331 : Nat → PH → Option Rs} (hk331 : SK (X12_init_x z) 331 (X12_init_u331 g331)) : SK (X12_init_x z) 309 (X12_init_u309 (X12_init_f309 g331)) := by
  intro ls st h r e
  obtain ⟨hst, e⟩ := gL_of e
  obtain ⟨t, q0, e⟩ := gT_of e
  rw [st_0 hst]
  exact WK.sub (canon := [some (.inr (11, t + 1))]) rfl ⟨q0, trivial⟩ (X12_init_s309 hk331 _ _ _ _ ((X12_init_l309 g331 t h).trans e))
noncomputable def X12_init_f331 (g354 : Nat → PH → Option Rs) (t : Nat) (h : PH) : Option Rs :=
  nl 24 fun n148 =>
  wr (nw h 69 n148 n148) fun h149 =>
  wr (pR h149 752 t 0 (hN h 69 + 1)) fun h150 =>
  nl 60 fun n151 =>
  wr (nw h150 70 n151 n151) fun h152 =>
  wr (pR h152 753 t 0 (hN h150 70 + 1)) fun h153 =>
  nn (hR h153 704 t 0) fun r154 =>
  ix 0 (hL h153 41 r154) fun j155 =>
  wr (pI h153 2624 r154 j155 1) fun h156 =>
  g354 t h156
set_option maxRecDepth 100000 in
theorem X12_init_l331 (g354 : Nat → PH → Option Rs) (t : Nat) (h : PH) : X12_init_b331 (X12_init_u354 g354) [some (.inr (11, t + 1))] [] h = X12_init_f331 g354 t h := rfl
theorem X12_init_m331 {g354 G354 : Nat → PH → Option Rs} (hg354 : ∀ a0 a1, Mo (g354 a0 a1) (G354 a0 a1)) (t : Nat) (h : PH) : Mo (X12_init_f331 g354 t h) (X12_init_f331 G354 t h) := (mo_nl fun n148 => (mo_wr fun h149 => (mo_wr fun h150 => (mo_nl fun n151 => (mo_wr fun h152 => (mo_wr fun h153 => (mo_nn fun r154 => (mo_ix fun j155 => (mo_wr fun h156 => (hg354 t h156))))))))))
theorem X12_init_w331 {z : CZ} {g354 : Nat → PH → Option Rs} (hk354 : SK (X12_init_x z) 354 (X12_init_u354 g354)) : SK (X12_init_x z) 331 (X12_init_u331 (X12_init_f331 g354)) := by
  intro ls st h r e
  obtain ⟨hst, e⟩ := gL_of e
  obtain ⟨t, q0, e⟩ := gT_of e
  rw [st_0 hst]
  exact WK.sub (canon := [some (.inr (11, t + 1))]) rfl ⟨q0, trivial⟩ (X12_init_s331 hk354 _ _ _ _ ((X12_init_l331 g354 t h).trans e))
noncomputable def X12_init_f354 (t : Nat) (h : PH) : Option Rs :=
  nn (hR h 704 t 0) fun r157 =>
  ix 1 (hL h 41 r157) fun j158 =>
  wr (pI h 2624 r157 j158 8) fun h159 =>
  some (none, h159)
set_option maxRecDepth 100000 in
theorem X12_init_l354 (t : Nat) (h : PH) : X12_init_b354 [some (.inr (11, t + 1))] [] h = X12_init_f354 t h := rfl
theorem X12_init_w354 {z : CZ} : SK (X12_init_x z) 354 (X12_init_u354 (X12_init_f354)) := by
  intro ls st h r e
  obtain ⟨hst, e⟩ := gL_of e
  obtain ⟨t, q0, e⟩ := gT_of e
  rw [st_0 hst]
  exact WK.sub (canon := [some (.inr (11, t + 1))]) rfl ⟨q0, trivial⟩ (X12_init_s354 _ _ _ _ ((X12_init_l354 t h).trans e))
noncomputable def X12_init_g354 (t : Nat) (h : PH) : Option Rs := X12_init_f354 t h
noncomputable def X12_init_g331 (t : Nat) (h : PH) : Option Rs := X12_init_f331 (X12_init_g354) t h
noncomputable def X12_init_g309 (t : Nat) (h : PH) : Option Rs := X12_init_f309 (X12_init_g331) t h
noncomputable def X12_init_g287 (t : Nat) (h : PH) : Option Rs := X12_init_f287 (X12_init_g309) t h
noncomputable def X12_init_g248 (t : Nat) (h : PH) : Option Rs := X12_init_f248 (X12_init_g287) t h
noncomputable def X12_init_g224 (t : Nat) (h : PH) : Option Rs := X12_init_f224 (X12_init_g248) t h
noncomputable def X12_init_g200 (t : Nat) (h : PH) : Option Rs := X12_init_f200 (X12_init_g224) t h
noncomputable def X12_init_g177 (t : Nat) (h : PH) : Option Rs := X12_init_f177 (X12_init_g200) t h
noncomputable def X12_init_g153 (t : Nat) (h : PH) : Option Rs := X12_init_f153 (X12_init_g177) t h
noncomputable def X12_init_g128 (t : Nat) (h : PH) : Option Rs := X12_init_f128 (X12_init_g153) t h
noncomputable def X12_init_g31 (t : Nat) (h : PH) : Option Rs := X12_init_f31 (X12_init_g128) t h
noncomputable def X12_init_g0 (t : Nat) (h : PH) : Option Rs := X12_init_f0 (X12_init_g31) t h
theorem X12_init_v354 {z : CZ} : SK (X12_init_x z) 354 (X12_init_u354 (X12_init_g354)) := X12_init_w354
theorem X12_init_v331 {z : CZ} : SK (X12_init_x z) 331 (X12_init_u331 (X12_init_g331)) := X12_init_w331 (X12_init_v354)
theorem X12_init_v309 {z : CZ} : SK (X12_init_x z) 309 (X12_init_u309 (X12_init_g309)) := X12_init_w309 (X12_init_v331)
theorem X12_init_v287 {z : CZ} : SK (X12_init_x z) 287 (X12_init_u287 (X12_init_g287)) := X12_init_w287 (X12_init_v309)
theorem X12_init_v248 {z : CZ} : SK (X12_init_x z) 248 (X12_init_u248 (X12_init_g248)) := X12_init_w248 (X12_init_v287)
theorem X12_init_v224 {z : CZ} : SK (X12_init_x z) 224 (X12_init_u224 (X12_init_g224)) := X12_init_w224 (X12_init_v248)
theorem X12_init_v200 {z : CZ} : SK (X12_init_x z) 200 (X12_init_u200 (X12_init_g200)) := X12_init_w200 (X12_init_v224)
theorem X12_init_v177 {z : CZ} : SK (X12_init_x z) 177 (X12_init_u177 (X12_init_g177)) := X12_init_w177 (X12_init_v200)
theorem X12_init_v153 {z : CZ} : SK (X12_init_x z) 153 (X12_init_u153 (X12_init_g153)) := X12_init_w153 (X12_init_v177)
theorem X12_init_v128 {z : CZ} : SK (X12_init_x z) 128 (X12_init_u128 (X12_init_g128)) := X12_init_w128 (X12_init_v153)
theorem X12_init_v31 {z : CZ} : SK (X12_init_x z) 31 (X12_init_u31 (X12_init_g31)) := X12_init_w31 (X12_init_v128)
noncomputable def X12_init (t : Nat) (h : PH) : Option Rs := X12_init_g0 t h
noncomputable abbrev X12_init_F : List PV → PH → Option Rs := FW_T11 (X12_init)
set_option maxRecDepth 100000 in
theorem X12_init_gd (l : Launch) : Gd l 0 yX12_init cX12_init 1 none (X12_init_F)   := Gd_of (by decide +kernel) (fun z hzl as h r e => by
  obtain ⟨hst, e⟩ := gL_of e
  obtain ⟨t, q0, e⟩ := gT_of e
  rw [st_1 hst q0]
  exact ⟨show 1 ≤ 1 by decide, X12_init_s0 (X12_init_v31) _ _ _ _ ((X12_init_l0 (X12_init_g31) t h).trans e)⟩)
