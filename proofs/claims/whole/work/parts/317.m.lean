abbrev X12_takesE_x (z : CZ) : CX := mx RX12 cX12_takesE 5 3 (some .boolean) "takesE" z
noncomputable def X12_takesE_b0 (k28 : Kn) : Kn := (a_ic 0 (a_is 1 (a_ic 0 (a_is 2 (a_ic 1 (a_is 3 (a_al 0 (a_ic 0 (a_pI 11 721 (a_al 0 (a_ic 0 (a_pI 11 722 (a_al 0 (a_ic 0 (a_pI 11 724 (a_al 0 (a_gR 11 725 50 (a_ic 0 (a_ic 0 (a_ast 50 3200 (vp_nar .boolean) k28))))))))))))))))))))
set_option maxRecDepth 100000 in
theorem X12_takesE_s0 {z : CZ} {k28 : Kn} (hk28 : SK (X12_takesE_x z) 28 k28) : SK (X12_takesE_x z) 0 (X12_takesE_b0 k28) := (s_iconst (pc := 0) dX12_takesE_0 c_ic_0 (s_istoren (pc := 1) dX12_takesE_1 rfl (show 1 < 5 by decide) (s_iconst (pc := 2) dX12_takesE_2 c_ic_0 (s_istoren (pc := 3) dX12_takesE_3 rfl (show 2 < 5 by decide) (s_iconst (pc := 4) dX12_takesE_4 c_ic_1 (s_istoren (pc := 5) dX12_takesE_5 rfl (show 3 < 5 by decide) (s_aloadn (pc := 6) dX12_takesE_6 rfl (s_iconst (pc := 7) dX12_takesE_7 c_ic_0 (s_pI (pc := 8) (f := 17) ko_11 (by decide) rfl rfl rfl (by decide +kernel) w_1312 dX12_takesE_8 (s_aloadn (pc := 11) dX12_takesE_11 rfl (s_iconst (pc := 12) dX12_takesE_12 c_ic_0 (s_pI (pc := 13) (f := 18) ko_11 (by decide) rfl rfl rfl (by decide +kernel) w_1313 dX12_takesE_13 (s_aloadn (pc := 16) dX12_takesE_16 rfl (s_iconst (pc := 17) dX12_takesE_17 c_ic_0 (s_pI (pc := 18) (f := 20) ko_11 (by decide) rfl rfl rfl (by decide +kernel) w_1315 dX12_takesE_18 (s_aloadn (pc := 21) dX12_takesE_21 rfl (s_gR (pc := 22) (f := 21) ko_11 (by decide) rfl rfl w_1316 dX12_takesE_22 (s_iconst (pc := 25) dX12_takesE_25 c_ic_0 (s_iconst (pc := 26) dX12_takesE_26 c_ic_0 (s_zast (pc := 27) (by decide) (by decide) rfl rfl rfl dX12_takesE_27 hk28))))))))))))))))))))
noncomputable def X12_takesE_b28 (c_X12_settle : Nat → Int32 → PH → Option Rs) (k39 : Kn) : Kn := (a_il 3 (a_z (a_al 0 (a_gI 11 714 (a_z (a_al 0 (a_ic 0 (a_vV 11 1 (FW_T11I c_X12_settle) (a_il 1 (a_z (a_ic 1 a_zr) (a_ic 0 a_zr)))))) k39))) k39))
set_option maxRecDepth 100000 in
theorem X12_takesE_s28 {z : CZ} {k39 : Kn} (hk39 : SK (X12_takesE_x z) 39 k39) : SK (X12_takesE_x z) 28 (X12_takesE_b28 X12_settle k39) := (s_iloadn (pc := 28) dX12_takesE_28 rfl (s_ifne (pc := 29) dX12_takesE_29 (by decide) hk39 (s_aloadn (pc := 32) dX12_takesE_32 rfl (s_gI (pc := 33) (f := 10) ko_11 (by decide) rfl rfl w_1305 dX12_takesE_33 (s_ifeq (pc := 36) dX12_takesE_36 (by decide) (s_aloadn (pc := 345) dX12_takesE_345 rfl (s_iconst (pc := 346) dX12_takesE_346 c_ic_0 (s_vV (pc := 347) (run_virtual (X12_settle_gd _) (show 1 < 3 by decide) cy_X12_settle (by decide) rfl w_1647 w_s53 w_1645 dX12_takesE_347) (s_iloadn (pc := 350) dX12_takesE_350 rfl (s_ifne (pc := 351) dX12_takesE_351 (by decide) (s_iconst (pc := 358) dX12_takesE_358 c_ic_0 (s_zr (pc := 359) rfl dX12_takesE_359)) (s_iconst (pc := 354) dX12_takesE_354 c_ic_1 (s_goto (pc := 355) dX12_takesE_355 (by decide) (s_zr (pc := 359) rfl dX12_takesE_359)))))))) hk39)))))
noncomputable def X12_takesE_b39 (c_X12_settle : Nat → Int32 → PH → Option Rs) (c_X12_notsOpen : Nat → PH → Option Rs) (c_X12_go : Nat → PH → Option Rs) (k28 k97 k172 k237 : Kn) : Kn := (a_il 3 (a_z (a_al 0 (a_gI 11 714 (a_ic 3 (a_eq (a_al 0 (a_gI 11 715 (a_ic 41 (a_eq (a_il 1 (a_p (a_al 0 (a_ic 0 (a_vV 11 1 (FW_T11I c_X12_settle) (a_al 0 (a_dup (a_gI 11 724 (a_ic 1 (a_b (fun a b => a - b) (a_pI 11 724 (a_inc 1 (-1) (a_al 0 (a_ic 6 (a_vV 11 1 (FW_T11I c_X12_settle) (a_al 0 (a_vI 11 0 (FW_T11 c_X12_notsOpen) (a_is 2 (a_al 0 (a_vV 11 0 (FW_T11 c_X12_go) k28)))))))))))))))))) k237)) k237)))) k237)))) (a_al 0 (a_gI 11 714 (a_ic 3 (a_eq (a_al 0 (a_gI 11 715 (a_ic 33 (a_eq (a_il 2 (a_ic 8 (a_lt (a_al 0 (a_gR 11 723 49 (a_al 0 (a_gI 11 724 (a_ic (-10) (a_ast 49 3136 (fun a => a) (a_al 0 (a_dup (a_gI 11 724 (a_ic 1 (a_b (fun a b => a + b) (a_pI 11 724 (a_inc 2 1 (a_al 0 (a_vV 11 0 (FW_T11 c_X12_go) k172))))))))))))))) k97))) k97)))) k97))))))
set_option maxRecDepth 100000 in
theorem X12_takesE_s39 {z : CZ} {k28 k97 k172 k237 : Kn} (hk28 : SK (X12_takesE_x z) 28 k28) (hk97 : SK (X12_takesE_x z) 97 k97) (hk172 : SK (X12_takesE_x z) 172 k172) (hk237 : SK (X12_takesE_x z) 237 k237) : SK (X12_takesE_x z) 39 (X12_takesE_b39 X12_settle X12_notsOpen X12_go k28 k97 k172 k237) := (s_iloadn (pc := 39) dX12_takesE_39 rfl (s_ifeq (pc := 40) dX12_takesE_40 (by decide) (s_aloadn (pc := 180) dX12_takesE_180 rfl (s_gI (pc := 181) (f := 10) ko_11 (by decide) rfl rfl w_1305 dX12_takesE_181 (s_iconst (pc := 184) dX12_takesE_184 c_ic_3 (s_cmpne (pc := 185) dX12_takesE_185 (by decide) hk237 (s_aloadn (pc := 188) dX12_takesE_188 rfl (s_gI (pc := 189) (f := 11) ko_11 (by decide) rfl rfl w_1306 dX12_takesE_189 (s_bipush (pc := 192) dX12_takesE_192 c_bp_41 (s_cmpne (pc := 194) dX12_takesE_194 (by decide) hk237 (s_iloadn (pc := 197) dX12_takesE_197 rfl (s_ifle (pc := 198) dX12_takesE_198 (by decide) hk237 (s_aloadn (pc := 201) dX12_takesE_201 rfl (s_iconst (pc := 202) dX12_takesE_202 c_ic_0 (s_vV (pc := 203) (run_virtual (X12_settle_gd _) (show 1 < 3 by decide) cy_X12_settle (by decide) rfl w_1647 w_s53 w_1645 dX12_takesE_203) (s_aloadn (pc := 206) dX12_takesE_206 rfl (s_dup (pc := 207) dX12_takesE_207 (s_gI (pc := 208) (f := 20) ko_11 (by decide) rfl rfl w_1315 dX12_takesE_208 (s_iconst (pc := 211) dX12_takesE_211 c_ic_1 (s_isub (pc := 212) dX12_takesE_212 (s_pI (pc := 213) (f := 20) ko_11 (by decide) rfl rfl rfl (by decide +kernel) w_1315 dX12_takesE_213 (s_iinc (pc := 216) dX12_takesE_216 c_ic_m1 (show 1 < 5 by decide) (s_aloadn (pc := 219) dX12_takesE_219 rfl (s_bipush (pc := 220) dX12_takesE_220 c_bp_6 (s_vV (pc := 222) (run_virtual (X12_settle_gd _) (show 1 < 3 by decide) cy_X12_settle (by decide) rfl w_1647 w_s53 w_1645 dX12_takesE_222) (s_aloadn (pc := 225) dX12_takesE_225 rfl (s_vI (pc := 226) (run_virtual (X12_notsOpen_gd _) (show 0 < 3 by decide) cy_X12_notsOpen (by decide) rfl w_1654 w_s54 w_1652 dX12_takesE_226) (s_istoren (pc := 229) dX12_takesE_229 rfl (show 2 < 5 by decide) (s_aloadn (pc := 230) dX12_takesE_230 rfl (s_vV (pc := 231) (run_virtual (X12_go_gd _) (show 1 < 3 by decide) cy_X12_go (by decide) rfl w_1619 w_s46 w_1617 dX12_takesE_231) (s_goto (pc := 234) dX12_takesE_234 (by decide) hk28))))))))))))))))))))))))))))) (s_aloadn (pc := 43) dX12_takesE_43 rfl (s_gI (pc := 44) (f := 10) ko_11 (by decide) rfl rfl w_1305 dX12_takesE_44 (s_iconst (pc := 47) dX12_takesE_47 c_ic_3 (s_cmpne (pc := 48) dX12_takesE_48 (by decide) hk97 (s_aloadn (pc := 51) dX12_takesE_51 rfl (s_gI (pc := 52) (f := 11) ko_11 (by decide) rfl rfl w_1306 dX12_takesE_52 (s_bipush (pc := 55) dX12_takesE_55 c_bp_33 (s_cmpne (pc := 57) dX12_takesE_57 (by decide) hk97 (s_iloadn (pc := 60) dX12_takesE_60 rfl (s_bipush (pc := 61) dX12_takesE_61 c_bp_8 (s_cmpge (pc := 63) dX12_takesE_63 (by decide) hk97 (s_aloadn (pc := 66) dX12_takesE_66 rfl (s_gR (pc := 67) (f := 19) ko_11 (by decide) rfl rfl w_1314 dX12_takesE_67 (s_aloadn (pc := 70) dX12_takesE_70 rfl (s_gI (pc := 71) (f := 20) ko_11 (by decide) rfl rfl w_1315 dX12_takesE_71 (s_bipush (pc := 74) dX12_takesE_74 c_bp_m10 (s_iast (pc := 76) (by decide) (by decide) rfl rfl rfl dX12_takesE_76 (s_aloadn (pc := 77) dX12_takesE_77 rfl (s_dup (pc := 78) dX12_takesE_78 (s_gI (pc := 79) (f := 20) ko_11 (by decide) rfl rfl w_1315 dX12_takesE_79 (s_iconst (pc := 82) dX12_takesE_82 c_ic_1 (s_iadd (pc := 83) dX12_takesE_83 (s_pI (pc := 84) (f := 20) ko_11 (by decide) rfl rfl rfl (by decide +kernel) w_1315 dX12_takesE_84 (s_iinc (pc := 87) dX12_takesE_87 c_ic_1 (show 2 < 5 by decide) (s_aloadn (pc := 90) dX12_takesE_90 rfl (s_vV (pc := 91) (run_virtual (X12_go_gd _) (show 1 < 3 by decide) cy_X12_go (by decide) rfl w_1619 w_s46 w_1617 dX12_takesE_91) (s_goto (pc := 94) dX12_takesE_94 (by decide) hk172)))))))))))))))))))))))))))))
noncomputable def X12_takesE_b97 (c_X12_go : Nat → PH → Option Rs) (k158 k172 : Kn) : Kn := (a_al 0 (a_gI 11 714 (a_ic 3 (a_eq (a_al 0 (a_gI 11 715 (a_ic 40 (a_eq (a_il 1 (a_ic 8 (a_lt (a_al 0 (a_gR 11 723 49 (a_al 0 (a_gI 11 724 (a_ic (-11) (a_ast 49 3136 (fun a => a) (a_al 0 (a_dup (a_gI 11 724 (a_ic 1 (a_b (fun a b => a + b) (a_pI 11 724 (a_inc 1 1 (a_al 0 (a_gR 11 725 50 (a_il 1 (a_ic 0 (a_ast 50 3200 (vp_nar .boolean) (a_al 0 (a_vV 11 0 (FW_T11 c_X12_go) k172)))))))))))))))))))) k158))) k158)))) k158))))
set_option maxRecDepth 100000 in
theorem X12_takesE_s97 {z : CZ} {k158 k172 : Kn} (hk158 : SK (X12_takesE_x z) 158 k158) (hk172 : SK (X12_takesE_x z) 172 k172) : SK (X12_takesE_x z) 97 (X12_takesE_b97 X12_go k158 k172) := (s_aloadn (pc := 97) dX12_takesE_97 rfl (s_gI (pc := 98) (f := 10) ko_11 (by decide) rfl rfl w_1305 dX12_takesE_98 (s_iconst (pc := 101) dX12_takesE_101 c_ic_3 (s_cmpne (pc := 102) dX12_takesE_102 (by decide) hk158 (s_aloadn (pc := 105) dX12_takesE_105 rfl (s_gI (pc := 106) (f := 11) ko_11 (by decide) rfl rfl w_1306 dX12_takesE_106 (s_bipush (pc := 109) dX12_takesE_109 c_bp_40 (s_cmpne (pc := 111) dX12_takesE_111 (by decide) hk158 (s_iloadn (pc := 114) dX12_takesE_114 rfl (s_bipush (pc := 115) dX12_takesE_115 c_bp_8 (s_cmpge (pc := 117) dX12_takesE_117 (by decide) hk158 (s_aloadn (pc := 120) dX12_takesE_120 rfl (s_gR (pc := 121) (f := 19) ko_11 (by decide) rfl rfl w_1314 dX12_takesE_121 (s_aloadn (pc := 124) dX12_takesE_124 rfl (s_gI (pc := 125) (f := 20) ko_11 (by decide) rfl rfl w_1315 dX12_takesE_125 (s_bipush (pc := 128) dX12_takesE_128 c_bp_m11 (s_iast (pc := 130) (by decide) (by decide) rfl rfl rfl dX12_takesE_130 (s_aloadn (pc := 131) dX12_takesE_131 rfl (s_dup (pc := 132) dX12_takesE_132 (s_gI (pc := 133) (f := 20) ko_11 (by decide) rfl rfl w_1315 dX12_takesE_133 (s_iconst (pc := 136) dX12_takesE_136 c_ic_1 (s_iadd (pc := 137) dX12_takesE_137 (s_pI (pc := 138) (f := 20) ko_11 (by decide) rfl rfl rfl (by decide +kernel) w_1315 dX12_takesE_138 (s_iinc (pc := 141) dX12_takesE_141 c_ic_1 (show 1 < 5 by decide) (s_aloadn (pc := 144) dX12_takesE_144 rfl (s_gR (pc := 145) (f := 21) ko_11 (by decide) rfl rfl w_1316 dX12_takesE_145 (s_iloadn (pc := 148) dX12_takesE_148 rfl (s_iconst (pc := 149) dX12_takesE_149 c_ic_0 (s_zast (pc := 150) (by decide) (by decide) rfl rfl rfl dX12_takesE_150 (s_aloadn (pc := 151) dX12_takesE_151 rfl (s_vV (pc := 152) (run_virtual (X12_go_gd _) (show 1 < 3 by decide) cy_X12_go (by decide) rfl w_1619 w_s46 w_1617 dX12_takesE_152) (s_goto (pc := 155) dX12_takesE_155 (by decide) hk172))))))))))))))))))))))))))))))))
noncomputable def X12_takesE_b158 (c_X12_takesPart : Nat → PH → Option Rs) (k172 : Kn) : Kn := (a_al 0 (a_vI 11 0 (FW_T11 c_X12_takesPart) (a_z (a_ic 0 a_zr) (a_ic 0 (a_is 3 k172)))))
set_option maxRecDepth 100000 in
theorem X12_takesE_s158 {z : CZ} {k172 : Kn} (hk172 : SK (X12_takesE_x z) 172 k172) : SK (X12_takesE_x z) 158 (X12_takesE_b158 X12_takesPart k172) := (s_aloadn (pc := 158) dX12_takesE_158 rfl (s_vI (pc := 159) (run_virtual (X12_takesPart_gd _) (show 2 < 3 by decide) cy_X12_takesPart (by decide) rfl w_1639 w_s51 w_1637 dX12_takesE_159) (s_ifeq (pc := 162) dX12_takesE_162 (by decide) (s_iconst (pc := 170) dX12_takesE_170 c_ic_0 (s_zr (pc := 171) rfl dX12_takesE_171)) (s_iconst (pc := 165) dX12_takesE_165 c_ic_0 (s_istoren (pc := 166) dX12_takesE_166 rfl (show 3 < 5 by decide) (s_goto (pc := 167) dX12_takesE_167 (by decide) hk172))))))
noncomputable def X12_takesE_b172 (c_X12_notsOpen : Nat → PH → Option Rs) (k28 : Kn) : Kn := (a_al 0 (a_vI 11 0 (FW_T11 c_X12_notsOpen) (a_is 2 k28)))
set_option maxRecDepth 100000 in
theorem X12_takesE_s172 {z : CZ} {k28 : Kn} (hk28 : SK (X12_takesE_x z) 28 k28) : SK (X12_takesE_x z) 172 (X12_takesE_b172 X12_notsOpen k28) := (s_aloadn (pc := 172) dX12_takesE_172 rfl (s_vI (pc := 173) (run_virtual (X12_notsOpen_gd _) (show 0 < 3 by decide) cy_X12_notsOpen (by decide) rfl w_1654 w_s54 w_1652 dX12_takesE_173) (s_istoren (pc := 176) dX12_takesE_176 rfl (show 2 < 5 by decide) (s_goto (pc := 177) dX12_takesE_177 (by decide) hk28))))
noncomputable def X12_takesE_b237 (c_X12_signHere : Nat → PH → Option Rs) (c_X12_rank : Int32 → PH → Option Rs) (k268 : Kn) : Kn := (a_al 0 (a_vI 11 0 (FW_T11 c_X12_signHere) (a_is 4 (a_il 4 (a_z (a_ic 0 a_zr) (a_il 4 (a_sI 1 (FW_I c_X12_rank) (a_ic 3 (a_eq (a_al 0 (a_gR 11 725 50 (a_il 1 (a_ald 50 3200 (a_z k268 (a_ic 0 a_zr)))))) k268)))))))))
set_option maxRecDepth 100000 in
theorem X12_takesE_s237 {z : CZ} {k268 : Kn} (hk268 : SK (X12_takesE_x z) 268 k268) : SK (X12_takesE_x z) 237 (X12_takesE_b237 X12_signHere X12_rank k268) := (s_aloadn (pc := 237) dX12_takesE_237 rfl (s_vI (pc := 238) (run_virtual (X12_signHere_gd _) (show 0 < 3 by decide) cy_X12_signHere (by decide) rfl w_1658 w_s55 w_1656 dX12_takesE_238) (s_istore (pc := 241) dX12_takesE_241 (show 4 < 5 by decide) (s_iload (pc := 243) dX12_takesE_243 (s_ifeq (pc := 245) dX12_takesE_245 (by decide) (s_iconst (pc := 266) dX12_takesE_266 c_ic_0 (s_zr (pc := 267) rfl dX12_takesE_267)) (s_iload (pc := 248) dX12_takesE_248 (s_sI (pc := 250) (run_static (X12_rank_gd _) (show 0 < 3 by decide) cy_X12_rank w_1650 w_1649 dX12_takesE_250) (s_iconst (pc := 253) dX12_takesE_253 c_ic_3 (s_cmpne (pc := 254) dX12_takesE_254 (by decide) hk268 (s_aloadn (pc := 257) dX12_takesE_257 rfl (s_gR (pc := 258) (f := 21) ko_11 (by decide) rfl rfl w_1316 dX12_takesE_258 (s_iloadn (pc := 261) dX12_takesE_261 rfl (s_zald (pc := 262) (by decide) (by decide) rfl rfl rfl dX12_takesE_262 (s_ifeq (pc := 263) dX12_takesE_263 (by decide) hk268 (s_iconst (pc := 266) dX12_takesE_266 c_ic_0 (s_zr (pc := 267) rfl dX12_takesE_267))))))))))))))))
noncomputable def X12_takesE_b268 (c_X12_rank : Int32 → PH → Option Rs) (k305 : Kn) : Kn := (a_al 0 (a_gR 11 725 50 (a_il 1 (a_il 4 (a_sI 1 (FW_I c_X12_rank) (a_ic 3 (a_eq (a_ic 1 k305) (a_il 4 (a_sI 1 (FW_I c_X12_rank) (a_ic 3 (a_gt (a_al 0 (a_gR 11 725 50 (a_il 1 (a_ald 50 3200 (a_z (a_ic 0 k305) (a_ic 1 k305)))))) (a_ic 0 k305))))))))))))
set_option maxRecDepth 100000 in
theorem X12_takesE_s268 {z : CZ} {k305 : Kn} (hk305 : SK (X12_takesE_x z) 305 k305) : SK (X12_takesE_x z) 268 (X12_takesE_b268 X12_rank k305) := (s_aloadn (pc := 268) dX12_takesE_268 rfl (s_gR (pc := 269) (f := 21) ko_11 (by decide) rfl rfl w_1316 dX12_takesE_269 (s_iloadn (pc := 272) dX12_takesE_272 rfl (s_iload (pc := 273) dX12_takesE_273 (s_sI (pc := 275) (run_static (X12_rank_gd _) (show 0 < 3 by decide) cy_X12_rank w_1650 w_1649 dX12_takesE_275) (s_iconst (pc := 278) dX12_takesE_278 c_ic_3 (s_cmpeq (pc := 279) dX12_takesE_279 (by decide) (s_iconst (pc := 300) dX12_takesE_300 c_ic_1 (s_goto (pc := 301) dX12_takesE_301 (by decide) hk305)) (s_iload (pc := 282) dX12_takesE_282 (s_sI (pc := 284) (run_static (X12_rank_gd _) (show 0 < 3 by decide) cy_X12_rank w_1650 w_1649 dX12_takesE_284) (s_iconst (pc := 287) dX12_takesE_287 c_ic_3 (s_cmple (pc := 288) dX12_takesE_288 (by decide) (s_iconst (pc := 304) dX12_takesE_304 c_ic_0 hk305) (s_aloadn (pc := 291) dX12_takesE_291 rfl (s_gR (pc := 292) (f := 21) ko_11 (by decide) rfl rfl w_1316 dX12_takesE_292 (s_iloadn (pc := 295) dX12_takesE_295 rfl (s_zald (pc := 296) (by decide) (by decide) rfl rfl rfl dX12_takesE_296 (s_ifeq (pc := 297) dX12_takesE_297 (by decide) (s_iconst (pc := 304) dX12_takesE_304 c_ic_0 hk305) (s_iconst (pc := 300) dX12_takesE_300 c_ic_1 (s_goto (pc := 301) dX12_takesE_301 (by decide) hk305))))))))))))))))))
noncomputable def X12_takesE_b305 (c_X12_rank : Int32 → PH → Option Rs) (c_X12_settle : Nat → Int32 → PH → Option Rs) (c_X12_go : Nat → PH → Option Rs) (k28 : Kn) : Kn := (a_ast 50 3200 (vp_nar .boolean) (a_al 0 (a_il 4 (a_sI 1 (FW_I c_X12_rank) (a_vV 11 1 (FW_T11I c_X12_settle) (a_al 0 (a_gR 11 723 49 (a_al 0 (a_gI 11 724 (a_il 4 (a_ast 49 3136 (fun a => a) (a_al 0 (a_dup (a_gI 11 724 (a_ic 1 (a_b (fun a b => a + b) (a_pI 11 724 (a_ic 1 (a_is 3 (a_al 0 (a_vV 11 0 (FW_T11 c_X12_go) k28)))))))))))))))))))))
set_option maxRecDepth 100000 in
theorem X12_takesE_s305 {z : CZ} {k28 : Kn} (hk28 : SK (X12_takesE_x z) 28 k28) : SK (X12_takesE_x z) 305 (X12_takesE_b305 X12_rank X12_settle X12_go k28) := (s_zast (pc := 305) (by decide) (by decide) rfl rfl rfl dX12_takesE_305 (s_aloadn (pc := 306) dX12_takesE_306 rfl (s_iload (pc := 307) dX12_takesE_307 (s_sI (pc := 309) (run_static (X12_rank_gd _) (show 0 < 3 by decide) cy_X12_rank w_1650 w_1649 dX12_takesE_309) (s_vV (pc := 312) (run_virtual (X12_settle_gd _) (show 1 < 3 by decide) cy_X12_settle (by decide) rfl w_1647 w_s53 w_1645 dX12_takesE_312) (s_aloadn (pc := 315) dX12_takesE_315 rfl (s_gR (pc := 316) (f := 19) ko_11 (by decide) rfl rfl w_1314 dX12_takesE_316 (s_aloadn (pc := 319) dX12_takesE_319 rfl (s_gI (pc := 320) (f := 20) ko_11 (by decide) rfl rfl w_1315 dX12_takesE_320 (s_iload (pc := 323) dX12_takesE_323 (s_iast (pc := 325) (by decide) (by decide) rfl rfl rfl dX12_takesE_325 (s_aloadn (pc := 326) dX12_takesE_326 rfl (s_dup (pc := 327) dX12_takesE_327 (s_gI (pc := 328) (f := 20) ko_11 (by decide) rfl rfl w_1315 dX12_takesE_328 (s_iconst (pc := 331) dX12_takesE_331 c_ic_1 (s_iadd (pc := 332) dX12_takesE_332 (s_pI (pc := 333) (f := 20) ko_11 (by decide) rfl rfl rfl (by decide +kernel) w_1315 dX12_takesE_333 (s_iconst (pc := 336) dX12_takesE_336 c_ic_1 (s_istoren (pc := 337) dX12_takesE_337 rfl (show 3 < 5 by decide) (s_aloadn (pc := 338) dX12_takesE_338 rfl (s_vV (pc := 339) (run_virtual (X12_go_gd _) (show 1 < 3 by decide) cy_X12_go (by decide) rfl w_1619 w_s46 w_1617 dX12_takesE_339) (s_goto (pc := 342) dX12_takesE_342 (by decide) hk28))))))))))))))))))))))
noncomputable def X12_takesE_u28 (g : Nat → Int32 → Int32 → Int32 → PH → Option Rs) : Kn := fun ls st h => gL 0 st (gT 11 ls 0 fun t => gI ls 1 fun x1 => gI ls 2 fun x2 => gI ls 3 fun x3 => g t x1 x2 x3 h)
noncomputable def X12_takesE_u39 (g : Nat → Int32 → Int32 → Int32 → PH → Option Rs) : Kn := fun ls st h => gL 0 st (gT 11 ls 0 fun t => gI ls 1 fun x1 => gI ls 2 fun x2 => gI ls 3 fun x3 => g t x1 x2 x3 h)
noncomputable def X12_takesE_u97 (g : Nat → Int32 → Int32 → PH → Option Rs) : Kn := fun ls st h => gL 0 st (gT 11 ls 0 fun t => gI ls 1 fun x1 => gI ls 3 fun x3 => g t x1 x3 h)
noncomputable def X12_takesE_u158 (g : Nat → Int32 → PH → Option Rs) : Kn := fun ls st h => gL 0 st (gT 11 ls 0 fun t => gI ls 1 fun x1 => g t x1 h)
noncomputable def X12_takesE_u172 (g : Nat → Int32 → Int32 → PH → Option Rs) : Kn := fun ls st h => gL 0 st (gT 11 ls 0 fun t => gI ls 1 fun x1 => gI ls 3 fun x3 => g t x1 x3 h)
noncomputable def X12_takesE_u237 (g : Nat → Int32 → Int32 → PH → Option Rs) : Kn := fun ls st h => gL 0 st (gT 11 ls 0 fun t => gI ls 1 fun x1 => gI ls 2 fun x2 => g t x1 x2 h)
noncomputable def X12_takesE_u268 (g : Nat → Int32 → Int32 → Int32 → PH → Option Rs) : Kn := fun ls st h => gL 0 st (gT 11 ls 0 fun t => gI ls 1 fun x1 => gI ls 2 fun x2 => gI ls 4 fun x4 => g t x1 x2 x4 h)
noncomputable def X12_takesE_u305 (g : Nat → Int32 → Int32 → Int32 → Int32 → Int32 → Nat → PH → Option Rs) : Kn := fun ls st h => gL 3 st (gT 11 ls 0 fun t => gI ls 1 fun x1 => gI ls 2 fun x2 => gI ls 4 fun x4 => gI (st.map some) 0 fun s0 => gI (st.map some) 1 fun s1 => gR 50 (st.map some) 2 fun s2 => g t x1 x2 x4 s0 s1 s2 h)
noncomputable def X12_takesE_f0 (g28 : Nat → Int32 → Int32 → Int32 → PH → Option Rs) (t : Nat) (h : PH) : Option Rs :=
  wr (pI h 721 t 0 0) fun h1 =>
  wr (pI h1 722 t 0 0) fun h2 =>
  wr (pI h2 724 t 0 0) fun h3 =>
  nn (hR h3 725 t 0) fun r4 =>
  ix 0 (hL h3 50 r4) fun j5 =>
  wr (pI h3 3200 r4 j5 (vp_nar .boolean 0)) fun h6 =>
  g28 t 0 0 1 h6
set_option maxRecDepth 100000 in
theorem X12_takesE_l0 (g28 : Nat → Int32 → Int32 → Int32 → PH → Option Rs) (t : Nat) (h : PH) : X12_takesE_b0 (X12_takesE_u28 g28) [some (.inr (11, t + 1)), none, none, none, none] [] h = X12_takesE_f0 g28 t h := rfl
theorem X12_takesE_m0 {g28 G28 : Nat → Int32 → Int32 → Int32 → PH → Option Rs} (hg28 : ∀ a0 a1 a2 a3 a4, Mo (g28 a0 a1 a2 a3 a4) (G28 a0 a1 a2 a3 a4)) (t : Nat) (h : PH) : Mo (X12_takesE_f0 g28 t h) (X12_takesE_f0 G28 t h) := (mo_wr fun h1 => (mo_wr fun h2 => (mo_wr fun h3 => (mo_nn fun r4 => (mo_ix fun j5 => (mo_wr fun h6 => (hg28 t 0 0 1 h6)))))))
noncomputable def X12_takesE_f28 (c_X12_settle : Nat → Int32 → PH → Option Rs) (g39 : Nat → Int32 → Int32 → Int32 → PH → Option Rs) (t : Nat) (x1 : Int32) (x2 : Int32) (x3 : Int32) (h : PH) : Option Rs :=
  if x3 = 0 then
    if (hI h 714 t 0) = 0 then
      cV (c_X12_settle t 0 h) fun h7 =>
      if x1 = 0 then
        bz 1 <|
        some (some (.inl 1), h7)
      else
        bz 0 <|
        some (some (.inl 0), h7)
    else
      g39 t x1 x2 x3 h
  else
    g39 t x1 x2 x3 h
set_option maxRecDepth 100000 in
theorem X12_takesE_l28 (c_X12_settle : Nat → Int32 → PH → Option Rs) (g39 : Nat → Int32 → Int32 → Int32 → PH → Option Rs) (t : Nat) (x1 : Int32) (x2 : Int32) (x3 : Int32) (h : PH) : X12_takesE_b28 c_X12_settle (X12_takesE_u39 g39) [some (.inr (11, t + 1)), some (.inl x1), some (.inl x2), some (.inl x3), none] [] h = X12_takesE_f28 c_X12_settle g39 t x1 x2 x3 h := rfl
theorem X12_takesE_m28 {c_X12_settle : Nat → Int32 → PH → Option Rs} {g39 G39 : Nat → Int32 → Int32 → Int32 → PH → Option Rs} (hg39 : ∀ a0 a1 a2 a3 a4, Mo (g39 a0 a1 a2 a3 a4) (G39 a0 a1 a2 a3 a4)) (t : Nat) (x1 : Int32) (x2 : Int32) (x3 : Int32) (h : PH) : Mo (X12_takesE_f28 c_X12_settle g39 t x1 x2 x3 h) (X12_takesE_f28 c_X12_settle G39 t x1 x2 x3 h) := (mo_if (mo_if (mo_cV fun h7 => (mo_if (mo_bz mo_rf) (mo_bz mo_rf))) (hg39 t x1 x2 x3 h)) (hg39 t x1 x2 x3 h))
theorem X12_takesE_w28 {z : CZ} {g39 : Nat → Int32 → Int32 → Int32 → PH → Option Rs} (hk39 : SK (X12_takesE_x z) 39 (X12_takesE_u39 g39)) : SK (X12_takesE_x z) 28 (X12_takesE_u28 (X12_takesE_f28 X12_settle g39)) := by
  intro ls st h r e
  obtain ⟨hst, e⟩ := gL_of e
  obtain ⟨t, q0, e⟩ := gT_of e
  obtain ⟨x1, q1, e⟩ := gI_of e
  obtain ⟨x2, q2, e⟩ := gI_of e
  obtain ⟨x3, q3, e⟩ := gI_of e
  rw [st_0 hst]
  exact WK.sub (canon := [some (.inr (11, t + 1)), some (.inl x1), some (.inl x2), some (.inl x3), none]) rfl ⟨q0, q1, q2, q3, trivial⟩ (X12_takesE_s28 hk39 _ _ _ _ ((X12_takesE_l28 X12_settle g39 t x1 x2 x3 h).trans e))
noncomputable def X12_takesE_f39 (c_X12_settle : Nat → Int32 → PH → Option Rs) (c_X12_notsOpen : Nat → PH → Option Rs) (c_X12_go : Nat → PH → Option Rs) (g28 : Nat → Int32 → Int32 → Int32 → PH → Option Rs) (g97 : Nat → Int32 → Int32 → PH → Option Rs) (g172 : Nat → Int32 → Int32 → PH → Option Rs) (g237 : Nat → Int32 → Int32 → PH → Option Rs) (t : Nat) (x1 : Int32) (x2 : Int32) (x3 : Int32) (h : PH) : Option Rs :=
  if x3 = 0 then
    if (hI h 714 t 0) = 3 then
      if (hI h 715 t 0) = 41 then
        if 0 < x1 then
          cV (c_X12_settle t 0 h) fun h8 =>
          wr (pI h8 724 t 0 ((hI h8 724 t 0) - 1)) fun h9 =>
          cV (c_X12_settle t 6 h9) fun h10 =>
          cI (c_X12_notsOpen t h10) fun v12 h11 =>
          cV (c_X12_go t h11) fun h13 =>
          g28 t (x1 + (-1)) v12 x3 h13
        else
          g237 t x1 x2 h
      else
        g237 t x1 x2 h
    else
      g237 t x1 x2 h
  else
    if (hI h 714 t 0) = 3 then
      if (hI h 715 t 0) = 33 then
        if x2 < 8 then
          nn (hR h 723 t 0) fun r14 =>
          ix (hI h 724 t 0) (hL h 49 r14) fun j15 =>
          wr (pI h 3136 r14 j15 (-10)) fun h16 =>
          wr (pI h16 724 t 0 ((hI h16 724 t 0) + 1)) fun h17 =>
          cV (c_X12_go t h17) fun h18 =>
          g172 t x1 x3 h18
        else
          g97 t x1 x3 h
      else
        g97 t x1 x3 h
    else
      g97 t x1 x3 h
set_option maxRecDepth 100000 in
theorem X12_takesE_l39 (c_X12_settle : Nat → Int32 → PH → Option Rs) (c_X12_notsOpen : Nat → PH → Option Rs) (c_X12_go : Nat → PH → Option Rs) (g28 : Nat → Int32 → Int32 → Int32 → PH → Option Rs) (g97 : Nat → Int32 → Int32 → PH → Option Rs) (g172 : Nat → Int32 → Int32 → PH → Option Rs) (g237 : Nat → Int32 → Int32 → PH → Option Rs) (t : Nat) (x1 : Int32) (x2 : Int32) (x3 : Int32) (h : PH) : X12_takesE_b39 c_X12_settle c_X12_notsOpen c_X12_go (X12_takesE_u28 g28) (X12_takesE_u97 g97) (X12_takesE_u172 g172) (X12_takesE_u237 g237) [some (.inr (11, t + 1)), some (.inl x1), some (.inl x2), some (.inl x3), none] [] h = X12_takesE_f39 c_X12_settle c_X12_notsOpen c_X12_go g28 g97 g172 g237 t x1 x2 x3 h := rfl
theorem X12_takesE_m39 {c_X12_settle : Nat → Int32 → PH → Option Rs} {c_X12_notsOpen : Nat → PH → Option Rs} {c_X12_go : Nat → PH → Option Rs} {g28 G28 : Nat → Int32 → Int32 → Int32 → PH → Option Rs} {g97 G97 : Nat → Int32 → Int32 → PH → Option Rs} {g172 G172 : Nat → Int32 → Int32 → PH → Option Rs} {g237 G237 : Nat → Int32 → Int32 → PH → Option Rs} (hg28 : ∀ a0 a1 a2 a3 a4, Mo (g28 a0 a1 a2 a3 a4) (G28 a0 a1 a2 a3 a4)) (hg97 : ∀ a0 a1 a2 a3, Mo (g97 a0 a1 a2 a3) (G97 a0 a1 a2 a3)) (hg172 : ∀ a0 a1 a2 a3, Mo (g172 a0 a1 a2 a3) (G172 a0 a1 a2 a3)) (hg237 : ∀ a0 a1 a2 a3, Mo (g237 a0 a1 a2 a3) (G237 a0 a1 a2 a3)) (t : Nat) (x1 : Int32) (x2 : Int32) (x3 : Int32) (h : PH) : Mo (X12_takesE_f39 c_X12_settle c_X12_notsOpen c_X12_go g28 g97 g172 g237 t x1 x2 x3 h) (X12_takesE_f39 c_X12_settle c_X12_notsOpen c_X12_go G28 G97 G172 G237 t x1 x2 x3 h) := (mo_if (mo_if (mo_if (mo_if (mo_cV fun h8 => (mo_wr fun h9 => (mo_cV fun h10 => (mo_cI fun v12 h11 => (mo_cV fun h13 => (hg28 t (x1 + (-1)) v12 x3 h13)))))) (hg237 t x1 x2 h)) (hg237 t x1 x2 h)) (hg237 t x1 x2 h)) (mo_if (mo_if (mo_if (mo_nn fun r14 => (mo_ix fun j15 => (mo_wr fun h16 => (mo_wr fun h17 => (mo_cV fun h18 => (hg172 t x1 x3 h18)))))) (hg97 t x1 x3 h)) (hg97 t x1 x3 h)) (hg97 t x1 x3 h)))
theorem X12_takesE_w39 {z : CZ} {g28 : Nat → Int32 → Int32 → Int32 → PH → Option Rs} {g97 : Nat → Int32 → Int32 → PH → Option Rs} {g172 : Nat → Int32 → Int32 → PH → Option Rs} {g237 : Nat → Int32 → Int32 → PH → Option Rs} (hk28 : SK (X12_takesE_x z) 28 (X12_takesE_u28 g28)) (hk97 : SK (X12_takesE_x z) 97 (X12_takesE_u97 g97)) (hk172 : SK (X12_takesE_x z) 172 (X12_takesE_u172 g172)) (hk237 : SK (X12_takesE_x z) 237 (X12_takesE_u237 g237)) : SK (X12_takesE_x z) 39 (X12_takesE_u39 (X12_takesE_f39 X12_settle X12_notsOpen X12_go g28 g97 g172 g237)) := by
  intro ls st h r e
  obtain ⟨hst, e⟩ := gL_of e
  obtain ⟨t, q0, e⟩ := gT_of e
  obtain ⟨x1, q1, e⟩ := gI_of e
  obtain ⟨x2, q2, e⟩ := gI_of e
  obtain ⟨x3, q3, e⟩ := gI_of e
  rw [st_0 hst]
  exact WK.sub (canon := [some (.inr (11, t + 1)), some (.inl x1), some (.inl x2), some (.inl x3), none]) rfl ⟨q0, q1, q2, q3, trivial⟩ (X12_takesE_s39 hk28 hk97 hk172 hk237 _ _ _ _ ((X12_takesE_l39 X12_settle X12_notsOpen X12_go g28 g97 g172 g237 t x1 x2 x3 h).trans e))
noncomputable def X12_takesE_f97 (c_X12_go : Nat → PH → Option Rs) (g158 : Nat → Int32 → PH → Option Rs) (g172 : Nat → Int32 → Int32 → PH → Option Rs) (t : Nat) (x1 : Int32) (x3 : Int32) (h : PH) : Option Rs :=
  if (hI h 714 t 0) = 3 then
    if (hI h 715 t 0) = 40 then
      if x1 < 8 then
        nn (hR h 723 t 0) fun r19 =>
        ix (hI h 724 t 0) (hL h 49 r19) fun j20 =>
        wr (pI h 3136 r19 j20 (-11)) fun h21 =>
        wr (pI h21 724 t 0 ((hI h21 724 t 0) + 1)) fun h22 =>
        nn (hR h22 725 t 0) fun r23 =>
        ix (x1 + 1) (hL h22 50 r23) fun j24 =>
        wr (pI h22 3200 r23 j24 (vp_nar .boolean 0)) fun h25 =>
        cV (c_X12_go t h25) fun h26 =>
        g172 t (x1 + 1) x3 h26
      else
        g158 t x1 h
    else
      g158 t x1 h
  else
    g158 t x1 h
set_option maxRecDepth 100000 in
theorem X12_takesE_l97 (c_X12_go : Nat → PH → Option Rs) (g158 : Nat → Int32 → PH → Option Rs) (g172 : Nat → Int32 → Int32 → PH → Option Rs) (t : Nat) (x1 : Int32) (x3 : Int32) (h : PH) : X12_takesE_b97 c_X12_go (X12_takesE_u158 g158) (X12_takesE_u172 g172) [some (.inr (11, t + 1)), some (.inl x1), none, some (.inl x3), none] [] h = X12_takesE_f97 c_X12_go g158 g172 t x1 x3 h := rfl
theorem X12_takesE_m97 {c_X12_go : Nat → PH → Option Rs} {g158 G158 : Nat → Int32 → PH → Option Rs} {g172 G172 : Nat → Int32 → Int32 → PH → Option Rs} (hg158 : ∀ a0 a1 a2, Mo (g158 a0 a1 a2) (G158 a0 a1 a2)) (hg172 : ∀ a0 a1 a2 a3, Mo (g172 a0 a1 a2 a3) (G172 a0 a1 a2 a3)) (t : Nat) (x1 : Int32) (x3 : Int32) (h : PH) : Mo (X12_takesE_f97 c_X12_go g158 g172 t x1 x3 h) (X12_takesE_f97 c_X12_go G158 G172 t x1 x3 h) := (mo_if (mo_if (mo_if (mo_nn fun r19 => (mo_ix fun j20 => (mo_wr fun h21 => (mo_wr fun h22 => (mo_nn fun r23 => (mo_ix fun j24 => (mo_wr fun h25 => (mo_cV fun h26 => (hg172 t (x1 + 1) x3 h26))))))))) (hg158 t x1 h)) (hg158 t x1 h)) (hg158 t x1 h))
theorem X12_takesE_w97 {z : CZ} {g158 : Nat → Int32 → PH → Option Rs} {g172 : Nat → Int32 → Int32 → PH → Option Rs} (hk158 : SK (X12_takesE_x z) 158 (X12_takesE_u158 g158)) (hk172 : SK (X12_takesE_x z) 172 (X12_takesE_u172 g172)) : SK (X12_takesE_x z) 97 (X12_takesE_u97 (X12_takesE_f97 X12_go g158 g172)) := by
  intro ls st h r e
  obtain ⟨hst, e⟩ := gL_of e
  obtain ⟨t, q0, e⟩ := gT_of e
  obtain ⟨x1, q1, e⟩ := gI_of e
  obtain ⟨x3, q2, e⟩ := gI_of e
  rw [st_0 hst]
  exact WK.sub (canon := [some (.inr (11, t + 1)), some (.inl x1), none, some (.inl x3), none]) rfl ⟨q0, q1, q2, trivial⟩ (X12_takesE_s97 hk158 hk172 _ _ _ _ ((X12_takesE_l97 X12_go g158 g172 t x1 x3 h).trans e))
noncomputable def X12_takesE_f158 (c_X12_takesPart : Nat → PH → Option Rs) (g172 : Nat → Int32 → Int32 → PH → Option Rs) (t : Nat) (x1 : Int32) (h : PH) : Option Rs :=
  cI (c_X12_takesPart t h) fun v28 h27 =>
  if v28 = 0 then
    bz 0 <|
    some (some (.inl 0), h27)
  else
    g172 t x1 0 h27
set_option maxRecDepth 100000 in
theorem X12_takesE_l158 (c_X12_takesPart : Nat → PH → Option Rs) (g172 : Nat → Int32 → Int32 → PH → Option Rs) (t : Nat) (x1 : Int32) (h : PH) : X12_takesE_b158 c_X12_takesPart (X12_takesE_u172 g172) [some (.inr (11, t + 1)), some (.inl x1), none, none, none] [] h = X12_takesE_f158 c_X12_takesPart g172 t x1 h := rfl
theorem X12_takesE_m158 {c_X12_takesPart : Nat → PH → Option Rs} {g172 G172 : Nat → Int32 → Int32 → PH → Option Rs} (hg172 : ∀ a0 a1 a2 a3, Mo (g172 a0 a1 a2 a3) (G172 a0 a1 a2 a3)) (t : Nat) (x1 : Int32) (h : PH) : Mo (X12_takesE_f158 c_X12_takesPart g172 t x1 h) (X12_takesE_f158 c_X12_takesPart G172 t x1 h) := (mo_cI fun v28 h27 => (mo_if (mo_bz mo_rf) (hg172 t x1 0 h27)))
theorem X12_takesE_w158 {z : CZ} {g172 : Nat → Int32 → Int32 → PH → Option Rs} (hk172 : SK (X12_takesE_x z) 172 (X12_takesE_u172 g172)) : SK (X12_takesE_x z) 158 (X12_takesE_u158 (X12_takesE_f158 X12_takesPart g172)) := by
  intro ls st h r e
  obtain ⟨hst, e⟩ := gL_of e
  obtain ⟨t, q0, e⟩ := gT_of e
  obtain ⟨x1, q1, e⟩ := gI_of e
  rw [st_0 hst]
  exact WK.sub (canon := [some (.inr (11, t + 1)), some (.inl x1), none, none, none]) rfl ⟨q0, q1, trivial⟩ (X12_takesE_s158 hk172 _ _ _ _ ((X12_takesE_l158 X12_takesPart g172 t x1 h).trans e))
noncomputable def X12_takesE_f172 (c_X12_notsOpen : Nat → PH → Option Rs) (g28 : Nat → Int32 → Int32 → Int32 → PH → Option Rs) (t : Nat) (x1 : Int32) (x3 : Int32) (h : PH) : Option Rs :=
  cI (c_X12_notsOpen t h) fun v30 h29 =>
  g28 t x1 v30 x3 h29
set_option maxRecDepth 100000 in
theorem X12_takesE_l172 (c_X12_notsOpen : Nat → PH → Option Rs) (g28 : Nat → Int32 → Int32 → Int32 → PH → Option Rs) (t : Nat) (x1 : Int32) (x3 : Int32) (h : PH) : X12_takesE_b172 c_X12_notsOpen (X12_takesE_u28 g28) [some (.inr (11, t + 1)), some (.inl x1), none, some (.inl x3), none] [] h = X12_takesE_f172 c_X12_notsOpen g28 t x1 x3 h := rfl
theorem X12_takesE_m172 {c_X12_notsOpen : Nat → PH → Option Rs} {g28 G28 : Nat → Int32 → Int32 → Int32 → PH → Option Rs} (hg28 : ∀ a0 a1 a2 a3 a4, Mo (g28 a0 a1 a2 a3 a4) (G28 a0 a1 a2 a3 a4)) (t : Nat) (x1 : Int32) (x3 : Int32) (h : PH) : Mo (X12_takesE_f172 c_X12_notsOpen g28 t x1 x3 h) (X12_takesE_f172 c_X12_notsOpen G28 t x1 x3 h) := (mo_cI fun v30 h29 => (hg28 t x1 v30 x3 h29))
theorem X12_takesE_w172 {z : CZ} {g28 : Nat → Int32 → Int32 → Int32 → PH → Option Rs} (hk28 : SK (X12_takesE_x z) 28 (X12_takesE_u28 g28)) : SK (X12_takesE_x z) 172 (X12_takesE_u172 (X12_takesE_f172 X12_notsOpen g28)) := by
  intro ls st h r e
  obtain ⟨hst, e⟩ := gL_of e
  obtain ⟨t, q0, e⟩ := gT_of e
  obtain ⟨x1, q1, e⟩ := gI_of e
  obtain ⟨x3, q2, e⟩ := gI_of e
  rw [st_0 hst]
  exact WK.sub (canon := [some (.inr (11, t + 1)), some (.inl x1), none, some (.inl x3), none]) rfl ⟨q0, q1, q2, trivial⟩ (X12_takesE_s172 hk28 _ _ _ _ ((X12_takesE_l172 X12_notsOpen g28 t x1 x3 h).trans e))
noncomputable def X12_takesE_f237 (c_X12_signHere : Nat → PH → Option Rs) (c_X12_rank : Int32 → PH → Option Rs) (g268 : Nat → Int32 → Int32 → Int32 → PH → Option Rs) (t : Nat) (x1 : Int32) (x2 : Int32) (h : PH) : Option Rs :=
  cI (c_X12_signHere t h) fun v32 h31 =>
  if v32 = 0 then
    bz 0 <|
    some (some (.inl 0), h31)
  else
    cI (c_X12_rank v32 h31) fun v34 h33 =>
    if v34 = 3 then
      nn (hR h33 725 t 0) fun r35 =>
      ix x1 (hL h33 50 r35) fun j36 =>
      if (hI h33 3200 r35 j36) = 0 then
        g268 t x1 x2 v32 h33
      else
        bz 0 <|
        some (some (.inl 0), h33)
    else
      g268 t x1 x2 v32 h33
set_option maxRecDepth 100000 in
theorem X12_takesE_l237 (c_X12_signHere : Nat → PH → Option Rs) (c_X12_rank : Int32 → PH → Option Rs) (g268 : Nat → Int32 → Int32 → Int32 → PH → Option Rs) (t : Nat) (x1 : Int32) (x2 : Int32) (h : PH) : X12_takesE_b237 c_X12_signHere c_X12_rank (X12_takesE_u268 g268) [some (.inr (11, t + 1)), some (.inl x1), some (.inl x2), none, none] [] h = X12_takesE_f237 c_X12_signHere c_X12_rank g268 t x1 x2 h := rfl
theorem X12_takesE_m237 {c_X12_signHere : Nat → PH → Option Rs} {c_X12_rank : Int32 → PH → Option Rs} {g268 G268 : Nat → Int32 → Int32 → Int32 → PH → Option Rs} (hg268 : ∀ a0 a1 a2 a3 a4, Mo (g268 a0 a1 a2 a3 a4) (G268 a0 a1 a2 a3 a4)) (t : Nat) (x1 : Int32) (x2 : Int32) (h : PH) : Mo (X12_takesE_f237 c_X12_signHere c_X12_rank g268 t x1 x2 h) (X12_takesE_f237 c_X12_signHere c_X12_rank G268 t x1 x2 h) := (mo_cI fun v32 h31 => (mo_if (mo_bz mo_rf) (mo_cI fun v34 h33 => (mo_if (mo_nn fun r35 => (mo_ix fun j36 => (mo_if (hg268 t x1 x2 v32 h33) (mo_bz mo_rf)))) (hg268 t x1 x2 v32 h33)))))
theorem X12_takesE_w237 {z : CZ} {g268 : Nat → Int32 → Int32 → Int32 → PH → Option Rs} (hk268 : SK (X12_takesE_x z) 268 (X12_takesE_u268 g268)) : SK (X12_takesE_x z) 237 (X12_takesE_u237 (X12_takesE_f237 X12_signHere X12_rank g268)) := by
  intro ls st h r e
  obtain ⟨hst, e⟩ := gL_of e
  obtain ⟨t, q0, e⟩ := gT_of e
  obtain ⟨x1, q1, e⟩ := gI_of e
  obtain ⟨x2, q2, e⟩ := gI_of e
  rw [st_0 hst]
  exact WK.sub (canon := [some (.inr (11, t + 1)), some (.inl x1), some (.inl x2), none, none]) rfl ⟨q0, q1, q2, trivial⟩ (X12_takesE_s237 hk268 _ _ _ _ ((X12_takesE_l237 X12_signHere X12_rank g268 t x1 x2 h).trans e))
noncomputable def X12_takesE_f268 (c_X12_rank : Int32 → PH → Option Rs) (g305 : Nat → Int32 → Int32 → Int32 → Int32 → Int32 → Nat → PH → Option Rs) (t : Nat) (x1 : Int32) (x2 : Int32) (x4 : Int32) (h : PH) : Option Rs :=
  cI (c_X12_rank x4 h) fun v38 h37 =>
  if v38 = 3 then
    g305 t x1 x2 x4 1 x1 (hR h 725 t 0) h37
  else
    cI (c_X12_rank x4 h37) fun v40 h39 =>
    if 3 < v40 then
      nn (hR h39 725 t 0) fun r41 =>
      ix x1 (hL h39 50 r41) fun j42 =>
      if (hI h39 3200 r41 j42) = 0 then
        g305 t x1 x2 x4 0 x1 (hR h 725 t 0) h39
      else
        g305 t x1 x2 x4 1 x1 (hR h 725 t 0) h39
    else
      g305 t x1 x2 x4 0 x1 (hR h 725 t 0) h39
set_option maxRecDepth 100000 in
theorem X12_takesE_l268 (c_X12_rank : Int32 → PH → Option Rs) (g305 : Nat → Int32 → Int32 → Int32 → Int32 → Int32 → Nat → PH → Option Rs) (t : Nat) (x1 : Int32) (x2 : Int32) (x4 : Int32) (h : PH) : X12_takesE_b268 c_X12_rank (X12_takesE_u305 g305) [some (.inr (11, t + 1)), some (.inl x1), some (.inl x2), none, some (.inl x4)] [] h = X12_takesE_f268 c_X12_rank g305 t x1 x2 x4 h := rfl
theorem X12_takesE_m268 {c_X12_rank : Int32 → PH → Option Rs} {g305 G305 : Nat → Int32 → Int32 → Int32 → Int32 → Int32 → Nat → PH → Option Rs} (hg305 : ∀ a0 a1 a2 a3 a4 a5 a6 a7, Mo (g305 a0 a1 a2 a3 a4 a5 a6 a7) (G305 a0 a1 a2 a3 a4 a5 a6 a7)) (t : Nat) (x1 : Int32) (x2 : Int32) (x4 : Int32) (h : PH) : Mo (X12_takesE_f268 c_X12_rank g305 t x1 x2 x4 h) (X12_takesE_f268 c_X12_rank G305 t x1 x2 x4 h) := (mo_cI fun v38 h37 => (mo_if (hg305 t x1 x2 x4 1 x1 (hR h 725 t 0) h37) (mo_cI fun v40 h39 => (mo_if (mo_nn fun r41 => (mo_ix fun j42 => (mo_if (hg305 t x1 x2 x4 0 x1 (hR h 725 t 0) h39) (hg305 t x1 x2 x4 1 x1 (hR h 725 t 0) h39)))) (hg305 t x1 x2 x4 0 x1 (hR h 725 t 0) h39)))))
theorem X12_takesE_w268 {z : CZ} {g305 : Nat → Int32 → Int32 → Int32 → Int32 → Int32 → Nat → PH → Option Rs} (hk305 : SK (X12_takesE_x z) 305 (X12_takesE_u305 g305)) : SK (X12_takesE_x z) 268 (X12_takesE_u268 (X12_takesE_f268 X12_rank g305)) := by
  intro ls st h r e
  obtain ⟨hst, e⟩ := gL_of e
  obtain ⟨t, q0, e⟩ := gT_of e
  obtain ⟨x1, q1, e⟩ := gI_of e
  obtain ⟨x2, q2, e⟩ := gI_of e
  obtain ⟨x4, q3, e⟩ := gI_of e
  rw [st_0 hst]
  exact WK.sub (canon := [some (.inr (11, t + 1)), some (.inl x1), some (.inl x2), none, some (.inl x4)]) rfl ⟨q0, q1, q2, q3, trivial⟩ (X12_takesE_s268 hk305 _ _ _ _ ((X12_takesE_l268 X12_rank g305 t x1 x2 x4 h).trans e))
noncomputable def X12_takesE_f305 (c_X12_rank : Int32 → PH → Option Rs) (c_X12_settle : Nat → Int32 → PH → Option Rs) (c_X12_go : Nat → PH → Option Rs) (g28 : Nat → Int32 → Int32 → Int32 → PH → Option Rs) (t : Nat) (x1 : Int32) (x2 : Int32) (x4 : Int32) (s0 : Int32) (s1 : Int32) (s2 : Nat) (h : PH) : Option Rs :=
  nn s2 fun r43 =>
  ix s1 (hL h 50 r43) fun j44 =>
  wr (pI h 3200 r43 j44 (vp_nar .boolean s0)) fun h45 =>
  cI (c_X12_rank x4 h45) fun v47 h46 =>
  cV (c_X12_settle t v47 h46) fun h48 =>
  nn (hR h48 723 t 0) fun r49 =>
  ix (hI h48 724 t 0) (hL h48 49 r49) fun j50 =>
  wr (pI h48 3136 r49 j50 x4) fun h51 =>
  wr (pI h51 724 t 0 ((hI h51 724 t 0) + 1)) fun h52 =>
  cV (c_X12_go t h52) fun h53 =>
  g28 t x1 x2 1 h53
set_option maxRecDepth 100000 in
theorem X12_takesE_l305 (c_X12_rank : Int32 → PH → Option Rs) (c_X12_settle : Nat → Int32 → PH → Option Rs) (c_X12_go : Nat → PH → Option Rs) (g28 : Nat → Int32 → Int32 → Int32 → PH → Option Rs) (t : Nat) (x1 : Int32) (x2 : Int32) (x4 : Int32) (s0 : Int32) (s1 : Int32) (s2 : Nat) (h : PH) : X12_takesE_b305 c_X12_rank c_X12_settle c_X12_go (X12_takesE_u28 g28) [some (.inr (11, t + 1)), some (.inl x1), some (.inl x2), none, some (.inl x4)] [.inl s0, .inl s1, .inr (50, s2)] h = X12_takesE_f305 c_X12_rank c_X12_settle c_X12_go g28 t x1 x2 x4 s0 s1 s2 h := rfl
theorem X12_takesE_m305 {c_X12_rank : Int32 → PH → Option Rs} {c_X12_settle : Nat → Int32 → PH → Option Rs} {c_X12_go : Nat → PH → Option Rs} {g28 G28 : Nat → Int32 → Int32 → Int32 → PH → Option Rs} (hg28 : ∀ a0 a1 a2 a3 a4, Mo (g28 a0 a1 a2 a3 a4) (G28 a0 a1 a2 a3 a4)) (t : Nat) (x1 : Int32) (x2 : Int32) (x4 : Int32) (s0 : Int32) (s1 : Int32) (s2 : Nat) (h : PH) : Mo (X12_takesE_f305 c_X12_rank c_X12_settle c_X12_go g28 t x1 x2 x4 s0 s1 s2 h) (X12_takesE_f305 c_X12_rank c_X12_settle c_X12_go G28 t x1 x2 x4 s0 s1 s2 h) := (mo_nn fun r43 => (mo_ix fun j44 => (mo_wr fun h45 => (mo_cI fun v47 h46 => (mo_cV fun h48 => (mo_nn fun r49 => (mo_ix fun j50 => (mo_wr fun h51 => (mo_wr fun h52 => (mo_cV fun h53 => (hg28 t x1 x2 1 h53)))))))))))
theorem X12_takesE_w305 {z : CZ} {g28 : Nat → Int32 → Int32 → Int32 → PH → Option Rs} (hk28 : SK (X12_takesE_x z) 28 (X12_takesE_u28 g28)) : SK (X12_takesE_x z) 305 (X12_takesE_u305 (X12_takesE_f305 X12_rank X12_settle X12_go g28)) := by
  intro ls st h r e
  obtain ⟨hst, e⟩ := gL_of e
  obtain ⟨t, q0, e⟩ := gT_of e
  obtain ⟨x1, q1, e⟩ := gI_of e
  obtain ⟨x2, q2, e⟩ := gI_of e
  obtain ⟨x4, q3, e⟩ := gI_of e
  obtain ⟨s0, q4, e⟩ := gI_of e
  obtain ⟨s1, q5, e⟩ := gI_of e
  obtain ⟨s2, q6, e⟩ := gR_of e
  rw [st_3 hst q4 q5 q6]
  exact WK.sub (canon := [some (.inr (11, t + 1)), some (.inl x1), some (.inl x2), none, some (.inl x4)]) rfl ⟨q0, q1, q2, q3, trivial⟩ (X12_takesE_s305 hk28 _ _ _ _ ((X12_takesE_l305 X12_rank X12_settle X12_go g28 t x1 x2 x4 s0 s1 s2 h).trans e))
noncomputable def X12_takesE_g0 (G : (Nat → Int32 → Int32 → Int32 → PH → Option Rs)) (t : Nat) (h : PH) : Option Rs := X12_takesE_f0 (G) t h
noncomputable def X12_takesE_g172 (G : (Nat → Int32 → Int32 → Int32 → PH → Option Rs)) (t : Nat) (x1 : Int32) (x3 : Int32) (h : PH) : Option Rs := X12_takesE_f172 X12_notsOpen (G) t x1 x3 h
noncomputable def X12_takesE_g158 (G : (Nat → Int32 → Int32 → Int32 → PH → Option Rs)) (t : Nat) (x1 : Int32) (h : PH) : Option Rs := X12_takesE_f158 X12_takesPart (X12_takesE_g172 G) t x1 h
noncomputable def X12_takesE_g97 (G : (Nat → Int32 → Int32 → Int32 → PH → Option Rs)) (t : Nat) (x1 : Int32) (x3 : Int32) (h : PH) : Option Rs := X12_takesE_f97 X12_go (X12_takesE_g158 G) (X12_takesE_g172 G) t x1 x3 h
noncomputable def X12_takesE_g305 (G : (Nat → Int32 → Int32 → Int32 → PH → Option Rs)) (t : Nat) (x1 : Int32) (x2 : Int32) (x4 : Int32) (s0 : Int32) (s1 : Int32) (s2 : Nat) (h : PH) : Option Rs := X12_takesE_f305 X12_rank X12_settle X12_go (G) t x1 x2 x4 s0 s1 s2 h
noncomputable def X12_takesE_g268 (G : (Nat → Int32 → Int32 → Int32 → PH → Option Rs)) (t : Nat) (x1 : Int32) (x2 : Int32) (x4 : Int32) (h : PH) : Option Rs := X12_takesE_f268 X12_rank (X12_takesE_g305 G) t x1 x2 x4 h
noncomputable def X12_takesE_g237 (G : (Nat → Int32 → Int32 → Int32 → PH → Option Rs)) (t : Nat) (x1 : Int32) (x2 : Int32) (h : PH) : Option Rs := X12_takesE_f237 X12_signHere X12_rank (X12_takesE_g268 G) t x1 x2 h
noncomputable def X12_takesE_g39 (G : (Nat → Int32 → Int32 → Int32 → PH → Option Rs)) (t : Nat) (x1 : Int32) (x2 : Int32) (x3 : Int32) (h : PH) : Option Rs := X12_takesE_f39 X12_settle X12_notsOpen X12_go (G) (X12_takesE_g97 G) (X12_takesE_g172 G) (X12_takesE_g237 G) t x1 x2 x3 h
noncomputable def X12_takesE_g28 (G : (Nat → Int32 → Int32 → Int32 → PH → Option Rs)) (t : Nat) (x1 : Int32) (x2 : Int32) (x3 : Int32) (h : PH) : Option Rs := X12_takesE_f28 X12_settle (X12_takesE_g39 G) t x1 x2 x3 h
theorem X12_takesE_v172 {z : CZ} {G : (Nat → Int32 → Int32 → Int32 → PH → Option Rs)} (hG28 : SK (X12_takesE_x z) 28 (X12_takesE_u28 (G))) : SK (X12_takesE_x z) 172 (X12_takesE_u172 (X12_takesE_g172 G)) := X12_takesE_w172 hG28
theorem X12_takesE_v158 {z : CZ} {G : (Nat → Int32 → Int32 → Int32 → PH → Option Rs)} (hG28 : SK (X12_takesE_x z) 28 (X12_takesE_u28 (G))) : SK (X12_takesE_x z) 158 (X12_takesE_u158 (X12_takesE_g158 G)) := X12_takesE_w158 (X12_takesE_v172 hG28)
theorem X12_takesE_v97 {z : CZ} {G : (Nat → Int32 → Int32 → Int32 → PH → Option Rs)} (hG28 : SK (X12_takesE_x z) 28 (X12_takesE_u28 (G))) : SK (X12_takesE_x z) 97 (X12_takesE_u97 (X12_takesE_g97 G)) := X12_takesE_w97 (X12_takesE_v158 hG28) (X12_takesE_v172 hG28)
theorem X12_takesE_v305 {z : CZ} {G : (Nat → Int32 → Int32 → Int32 → PH → Option Rs)} (hG28 : SK (X12_takesE_x z) 28 (X12_takesE_u28 (G))) : SK (X12_takesE_x z) 305 (X12_takesE_u305 (X12_takesE_g305 G)) := X12_takesE_w305 hG28
theorem X12_takesE_v268 {z : CZ} {G : (Nat → Int32 → Int32 → Int32 → PH → Option Rs)} (hG28 : SK (X12_takesE_x z) 28 (X12_takesE_u28 (G))) : SK (X12_takesE_x z) 268 (X12_takesE_u268 (X12_takesE_g268 G)) := X12_takesE_w268 (X12_takesE_v305 hG28)
theorem X12_takesE_v237 {z : CZ} {G : (Nat → Int32 → Int32 → Int32 → PH → Option Rs)} (hG28 : SK (X12_takesE_x z) 28 (X12_takesE_u28 (G))) : SK (X12_takesE_x z) 237 (X12_takesE_u237 (X12_takesE_g237 G)) := X12_takesE_w237 (X12_takesE_v268 hG28)
theorem X12_takesE_v39 {z : CZ} {G : (Nat → Int32 → Int32 → Int32 → PH → Option Rs)} (hG28 : SK (X12_takesE_x z) 28 (X12_takesE_u28 (G))) : SK (X12_takesE_x z) 39 (X12_takesE_u39 (X12_takesE_g39 G)) := X12_takesE_w39 hG28 (X12_takesE_v97 hG28) (X12_takesE_v172 hG28) (X12_takesE_v237 hG28)
theorem X12_takesE_v28 {z : CZ} {G : (Nat → Int32 → Int32 → Int32 → PH → Option Rs)} (hG28 : SK (X12_takesE_x z) 28 (X12_takesE_u28 (G))) : SK (X12_takesE_x z) 28 (X12_takesE_u28 (X12_takesE_g28 G)) := X12_takesE_w28 (X12_takesE_v39 hG28)
noncomputable def X12_takesE_fam : Nat → (Nat → Int32 → Int32 → Int32 → PH → Option Rs)
  | 0 => fun _ _ _ _ _ => none
  | n + 1 => X12_takesE_g28 (X12_takesE_fam n)
theorem X12_takesE_k {z : CZ} : ∀ n, SK (X12_takesE_x z) 28 (X12_takesE_u28 (X12_takesE_fam n))
  | 0 => (fun ls st h r e => by
      obtain ⟨_, e⟩ := gL_of e
      obtain ⟨_, _, e⟩ := gT_of e
      obtain ⟨_, _, e⟩ := gI_of e
      obtain ⟨_, _, e⟩ := gI_of e
      obtain ⟨_, _, e⟩ := gI_of e
      cases e)
  | n + 1 => by
    obtain ih28 := X12_takesE_k n
    exact X12_takesE_v28 ih28
theorem X12_takesE_n0 {G G' : (Nat → Int32 → Int32 → Int32 → PH → Option Rs)} (hg28 : ∀ a0 a1 a2 a3 a4, Mo ((G) a0 a1 a2 a3 a4) ((G') a0 a1 a2 a3 a4)) (t : Nat) (h : PH) : Mo (X12_takesE_g0 G t h) (X12_takesE_g0 G' t h) := X12_takesE_m0 hg28 t h
theorem X12_takesE_n172 {G G' : (Nat → Int32 → Int32 → Int32 → PH → Option Rs)} (hg28 : ∀ a0 a1 a2 a3 a4, Mo ((G) a0 a1 a2 a3 a4) ((G') a0 a1 a2 a3 a4)) (t : Nat) (x1 : Int32) (x3 : Int32) (h : PH) : Mo (X12_takesE_g172 G t x1 x3 h) (X12_takesE_g172 G' t x1 x3 h) := X12_takesE_m172 hg28 t x1 x3 h
theorem X12_takesE_n158 {G G' : (Nat → Int32 → Int32 → Int32 → PH → Option Rs)} (hg28 : ∀ a0 a1 a2 a3 a4, Mo ((G) a0 a1 a2 a3 a4) ((G') a0 a1 a2 a3 a4)) (t : Nat) (x1 : Int32) (h : PH) : Mo (X12_takesE_g158 G t x1 h) (X12_takesE_g158 G' t x1 h) := X12_takesE_m158 (fun a0 a1 a2 a3 => X12_takesE_n172 hg28 a0 a1 a2 a3) t x1 h
theorem X12_takesE_n97 {G G' : (Nat → Int32 → Int32 → Int32 → PH → Option Rs)} (hg28 : ∀ a0 a1 a2 a3 a4, Mo ((G) a0 a1 a2 a3 a4) ((G') a0 a1 a2 a3 a4)) (t : Nat) (x1 : Int32) (x3 : Int32) (h : PH) : Mo (X12_takesE_g97 G t x1 x3 h) (X12_takesE_g97 G' t x1 x3 h) := X12_takesE_m97 (fun a0 a1 a2 => X12_takesE_n158 hg28 a0 a1 a2) (fun a0 a1 a2 a3 => X12_takesE_n172 hg28 a0 a1 a2 a3) t x1 x3 h
theorem X12_takesE_n305 {G G' : (Nat → Int32 → Int32 → Int32 → PH → Option Rs)} (hg28 : ∀ a0 a1 a2 a3 a4, Mo ((G) a0 a1 a2 a3 a4) ((G') a0 a1 a2 a3 a4)) (t : Nat) (x1 : Int32) (x2 : Int32) (x4 : Int32) (s0 : Int32) (s1 : Int32) (s2 : Nat) (h : PH) : Mo (X12_takesE_g305 G t x1 x2 x4 s0 s1 s2 h) (X12_takesE_g305 G' t x1 x2 x4 s0 s1 s2 h) := X12_takesE_m305 hg28 t x1 x2 x4 s0 s1 s2 h
theorem X12_takesE_n268 {G G' : (Nat → Int32 → Int32 → Int32 → PH → Option Rs)} (hg28 : ∀ a0 a1 a2 a3 a4, Mo ((G) a0 a1 a2 a3 a4) ((G') a0 a1 a2 a3 a4)) (t : Nat) (x1 : Int32) (x2 : Int32) (x4 : Int32) (h : PH) : Mo (X12_takesE_g268 G t x1 x2 x4 h) (X12_takesE_g268 G' t x1 x2 x4 h) := X12_takesE_m268 (fun a0 a1 a2 a3 a4 a5 a6 a7 => X12_takesE_n305 hg28 a0 a1 a2 a3 a4 a5 a6 a7) t x1 x2 x4 h
theorem X12_takesE_n237 {G G' : (Nat → Int32 → Int32 → Int32 → PH → Option Rs)} (hg28 : ∀ a0 a1 a2 a3 a4, Mo ((G) a0 a1 a2 a3 a4) ((G') a0 a1 a2 a3 a4)) (t : Nat) (x1 : Int32) (x2 : Int32) (h : PH) : Mo (X12_takesE_g237 G t x1 x2 h) (X12_takesE_g237 G' t x1 x2 h) := X12_takesE_m237 (fun a0 a1 a2 a3 a4 => X12_takesE_n268 hg28 a0 a1 a2 a3 a4) t x1 x2 h
theorem X12_takesE_n39 {G G' : (Nat → Int32 → Int32 → Int32 → PH → Option Rs)} (hg28 : ∀ a0 a1 a2 a3 a4, Mo ((G) a0 a1 a2 a3 a4) ((G') a0 a1 a2 a3 a4)) (t : Nat) (x1 : Int32) (x2 : Int32) (x3 : Int32) (h : PH) : Mo (X12_takesE_g39 G t x1 x2 x3 h) (X12_takesE_g39 G' t x1 x2 x3 h) := X12_takesE_m39 hg28 (fun a0 a1 a2 a3 => X12_takesE_n97 hg28 a0 a1 a2 a3) (fun a0 a1 a2 a3 => X12_takesE_n172 hg28 a0 a1 a2 a3) (fun a0 a1 a2 a3 => X12_takesE_n237 hg28 a0 a1 a2 a3) t x1 x2 x3 h
theorem X12_takesE_n28 {G G' : (Nat → Int32 → Int32 → Int32 → PH → Option Rs)} (hg28 : ∀ a0 a1 a2 a3 a4, Mo ((G) a0 a1 a2 a3 a4) ((G') a0 a1 a2 a3 a4)) (t : Nat) (x1 : Int32) (x2 : Int32) (x3 : Int32) (h : PH) : Mo (X12_takesE_g28 G t x1 x2 x3 h) (X12_takesE_g28 G' t x1 x2 x3 h) := X12_takesE_m28 (fun a0 a1 a2 a3 a4 => X12_takesE_n39 hg28 a0 a1 a2 a3 a4) t x1 x2 x3 h
theorem X12_takesE_fm : ∀ n, (∀ a0 a1 a2 a3 a4, Mo ((X12_takesE_fam n) a0 a1 a2 a3 a4) ((X12_takesE_fam (n + 1)) a0 a1 a2 a3 a4))
  | 0 => fun _ _ _ _ _ => mo_no
  | n + 1 => by
    obtain ih28 := X12_takesE_fm n
    exact fun a0 a1 a2 a3 a4 => X12_takesE_n28 ih28 a0 a1 a2 a3 a4
noncomputable def X12_takesE (t : Nat) (h : PH) : Option Rs := lim (fun n => X12_takesE_g0 (X12_takesE_fam n) t h)
theorem X12_takesE_iff {t : Nat} {h : PH} {r : Rs} : X12_takesE t h = some r ↔ ∃ n, X12_takesE_g0 (X12_takesE_fam n) t h = some r := lim_iff (fun n => by
  obtain ih28 := X12_takesE_fm n
  exact X12_takesE_n0 ih28 t h)
noncomputable abbrev X12_takesE_F : List PV → PH → Option Rs := FW_T11 (X12_takesE)
set_option maxRecDepth 100000 in
theorem X12_takesE_gd (l : Launch) : Gd l 3 yX12_takesE cX12_takesE 5 (some .boolean) (X12_takesE_F)   := Gd_of (by decide +kernel) (fun z hzl as h r e => by
  obtain ⟨hst, e⟩ := gL_of e
  obtain ⟨t, q0, e⟩ := gT_of e
  rw [st_1 hst q0]
  obtain ⟨n, e⟩ := lim_of e
  obtain hG28 := X12_takesE_k (z := z) n
  exact ⟨show 1 ≤ 5 by decide, X12_takesE_s0 hG28 _ _ _ _ ((X12_takesE_l0 (X12_takesE_fam n) t h).trans e)⟩)
abbrev X12_text_x (z : CZ) : CX := mx RX12 cX12_text 4 4 (some .int) "text" z
noncomputable def X12_text_b0 (c_X12_go : Nat → PH → Option Rs) (c_X12_takesKey : Nat → PH → Option Rs) (c_X12_takesE : Nat → PH → Option Rs) (k33 : Kn) : Kn := (a_al 0 (a_ic 0 (a_pI 11 712 (a_al 0 (a_ic (-1) (a_pI 11 716 (a_al 0 (a_vV 11 0 (FW_T11 c_X12_go) (a_al 0 (a_vI 11 0 (FW_T11 c_X12_takesKey) (a_z (a_ic 0 k33) (a_al 0 (a_vI 11 0 (FW_T11 c_X12_takesE) (a_z (a_ic 0 k33) (a_ic 1 k33)))))))))))))))
set_option maxRecDepth 100000 in
theorem X12_text_s0 {z : CZ} {k33 : Kn} (hk33 : SK (X12_text_x z) 33 k33) : SK (X12_text_x z) 0 (X12_text_b0 X12_go X12_takesKey X12_takesE k33) := (s_aloadn (pc := 0) dX12_text_0 rfl (s_iconst (pc := 1) dX12_text_1 c_ic_0 (s_pI (pc := 2) (f := 8) ko_11 (by decide) rfl rfl rfl (by decide +kernel) w_1303 dX12_text_2 (s_aloadn (pc := 5) dX12_text_5 rfl (s_iconst (pc := 6) dX12_text_6 c_ic_m1 (s_pI (pc := 7) (f := 12) ko_11 (by decide) rfl rfl rfl (by decide +kernel) w_1307 dX12_text_7 (s_aloadn (pc := 10) dX12_text_10 rfl (s_vV (pc := 11) (run_virtual (X12_go_gd _) (show 1 < 4 by decide) cy_X12_go (by decide) rfl w_1619 w_s46 w_1617 dX12_text_11) (s_aloadn (pc := 14) dX12_text_14 rfl (s_vI (pc := 15) (run_virtual (X12_takesKey_gd _) (show 2 < 4 by decide) cy_X12_takesKey (by decide) rfl w_1631 w_s49 w_1629 dX12_text_15) (s_ifeq (pc := 18) dX12_text_18 (by decide) (s_iconst (pc := 32) dX12_text_32 c_ic_0 hk33) (s_aloadn (pc := 21) dX12_text_21 rfl (s_vI (pc := 22) (run_virtual (X12_takesE_gd _) (show 3 < 4 by decide) cy_X12_takesE (by decide) rfl w_1635 w_s50 w_1633 dX12_text_22) (s_ifeq (pc := 25) dX12_text_25 (by decide) (s_iconst (pc := 32) dX12_text_32 c_ic_0 hk33) (s_iconst (pc := 28) dX12_text_28 c_ic_1 (s_goto (pc := 29) dX12_text_29 (by decide) hk33))))))))))))))))
noncomputable def X12_text_b33 (k119 : Kn) : Kn := (a_is 1 (a_al 0 (a_ic 0 (a_pI 11 711 (a_il 1 (a_z (a_ic (-100) (a_al 0 (a_gI 11 713 (a_b (fun a b => a - b) a_ir)))) (a_al 0 (a_gR 11 704 41 (a_ic 8 (a_ald 41 2624 (a_ic 14 (a_eq (a_ic (-1000000003) a_ir) (a_al 0 (a_gR 11 704 41 (a_ic 8 (a_ald 41 2624 (a_is 2 (a_al 0 (a_gR 11 704 41 (a_ic 393 (a_ic 2 (a_il 2 (a_b (fun a b => a * b) (a_b (fun a b => a + b) (a_ic 1000 (a_al 0 (a_gI 11 717 (a_b (fun a b => a * b) (a_al 0 (a_gI 11 721 (a_b (fun a b => a + b) (a_ast 41 2624 (fun a => a) (a_al 0 (a_gR 11 704 41 (a_ic 393 (a_ic 2 (a_il 2 (a_b (fun a b => a * b) (a_b (fun a b => a + b) (a_ic 1 (a_b (fun a b => a + b) (a_al 0 (a_gI 11 722 (a_ast 41 2624 (fun a => a) (a_ic 0 (a_is 3 k119))))))))))))))))))))))))))))))))))))))))))))))
set_option maxRecDepth 100000 in
theorem X12_text_s33 {z : CZ} {k119 : Kn} (hk119 : SK (X12_text_x z) 119 k119) : SK (X12_text_x z) 33 (X12_text_b33 k119) := (s_istoren (pc := 33) dX12_text_33 rfl (show 1 < 4 by decide) (s_aloadn (pc := 34) dX12_text_34 rfl (s_iconst (pc := 35) dX12_text_35 c_ic_0 (s_pI (pc := 36) (f := 7) ko_11 (by decide) rfl rfl rfl (by decide +kernel) w_1302 dX12_text_36 (s_iloadn (pc := 39) dX12_text_39 rfl (s_ifne (pc := 40) dX12_text_40 (by decide) (s_aloadn (pc := 51) dX12_text_51 rfl (s_gR (pc := 52) (f := 0) ko_11 (by decide) rfl rfl w_1295 dX12_text_52 (s_bipush (pc := 55) dX12_text_55 c_bp_8 (s_iald (pc := 57) (by decide) (by decide) rfl rfl rfl dX12_text_57 (s_bipush (pc := 58) dX12_text_58 c_bp_14 (s_cmpne (pc := 60) dX12_text_60 (by decide) (s_aloadn (pc := 66) dX12_text_66 rfl (s_gR (pc := 67) (f := 0) ko_11 (by decide) rfl rfl w_1295 dX12_text_67 (s_bipush (pc := 70) dX12_text_70 c_bp_8 (s_iald (pc := 72) (by decide) (by decide) rfl rfl rfl dX12_text_72 (s_istoren (pc := 73) dX12_text_73 rfl (show 2 < 4 by decide) (s_aloadn (pc := 74) dX12_text_74 rfl (s_gR (pc := 75) (f := 0) ko_11 (by decide) rfl rfl w_1295 dX12_text_75 (s_sipush (pc := 78) dX12_text_78 c_sp_393 (s_iconst (pc := 81) dX12_text_81 c_ic_2 (s_iloadn (pc := 82) dX12_text_82 rfl (s_imul (pc := 83) dX12_text_83 (s_iadd (pc := 84) dX12_text_84 (s_sipush (pc := 85) dX12_text_85 c_sp_1000 (s_aloadn (pc := 88) dX12_text_88 rfl (s_gI (pc := 89) (f := 13) ko_11 (by decide) rfl rfl w_1308 dX12_text_89 (s_imul (pc := 92) dX12_text_92 (s_aloadn (pc := 93) dX12_text_93 rfl (s_gI (pc := 94) (f := 17) ko_11 (by decide) rfl rfl w_1312 dX12_text_94 (s_iadd (pc := 97) dX12_text_97 (s_iast (pc := 98) (by decide) (by decide) rfl rfl rfl dX12_text_98 (s_aloadn (pc := 99) dX12_text_99 rfl (s_gR (pc := 100) (f := 0) ko_11 (by decide) rfl rfl w_1295 dX12_text_100 (s_sipush (pc := 103) dX12_text_103 c_sp_393 (s_iconst (pc := 106) dX12_text_106 c_ic_2 (s_iloadn (pc := 107) dX12_text_107 rfl (s_imul (pc := 108) dX12_text_108 (s_iadd (pc := 109) dX12_text_109 (s_iconst (pc := 110) dX12_text_110 c_ic_1 (s_iadd (pc := 111) dX12_text_111 (s_aloadn (pc := 112) dX12_text_112 rfl (s_gI (pc := 113) (f := 18) ko_11 (by decide) rfl rfl w_1313 dX12_text_113 (s_iast (pc := 116) (by decide) (by decide) rfl rfl rfl dX12_text_116 (s_iconst (pc := 117) dX12_text_117 c_ic_0 (s_istoren (pc := 118) dX12_text_118 rfl (show 3 < 4 by decide) hk119)))))))))))))))))))))))))))))))))) (s_ldc (pc := 63) w_1454 dX12_text_63 (s_ir (pc := 65) rfl dX12_text_65)))))))) (s_bipush (pc := 43) dX12_text_43 c_bp_m100 (s_aloadn (pc := 45) dX12_text_45 rfl (s_gI (pc := 46) (f := 9) ko_11 (by decide) rfl rfl w_1304 dX12_text_46 (s_isub (pc := 49) dX12_text_49 (s_ir (pc := 50) rfl dX12_text_50)))))))))))
noncomputable def X12_text_b119 (k119 : Kn) : Kn := (a_il 3 (a_al 0 (a_gI 11 721 (a_lt (a_al 0 (a_gR 11 704 41 (a_ic 421 (a_ic 96 (a_il 2 (a_b (fun a b => a * b) (a_b (fun a b => a + b) (a_il 3 (a_b (fun a b => a + b) (a_al 0 (a_gR 11 720 48 (a_il 3 (a_ald 48 3072 (a_ast 41 2624 (fun a => a) (a_inc 3 1 k119))))))))))))))) (a_al 0 (a_gR 11 704 41 (a_ic 8 (a_dup2 (a_ald 41 2624 (a_ic 1 (a_b (fun a b => a + b) (a_ast 41 2624 (fun a => a) (a_il 2 a_ir)))))))))))))
set_option maxRecDepth 100000 in
theorem X12_text_s119 {z : CZ} {k119 : Kn} (hk119 : SK (X12_text_x z) 119 k119) : SK (X12_text_x z) 119 (X12_text_b119 k119) := (s_iloadn (pc := 119) dX12_text_119 rfl (s_aloadn (pc := 120) dX12_text_120 rfl (s_gI (pc := 121) (f := 17) ko_11 (by decide) rfl rfl w_1312 dX12_text_121 (s_cmpge (pc := 124) dX12_text_124 (by decide) (s_aloadn (pc := 154) dX12_text_154 rfl (s_gR (pc := 155) (f := 0) ko_11 (by decide) rfl rfl w_1295 dX12_text_155 (s_bipush (pc := 158) dX12_text_158 c_bp_8 (s_dup2 (pc := 160) dX12_text_160 (s_iald (pc := 161) (by decide) (by decide) rfl rfl rfl dX12_text_161 (s_iconst (pc := 162) dX12_text_162 c_ic_1 (s_iadd (pc := 163) dX12_text_163 (s_iast (pc := 164) (by decide) (by decide) rfl rfl rfl dX12_text_164 (s_iloadn (pc := 165) dX12_text_165 rfl (s_ir (pc := 166) rfl dX12_text_166)))))))))) (s_aloadn (pc := 127) dX12_text_127 rfl (s_gR (pc := 128) (f := 0) ko_11 (by decide) rfl rfl w_1295 dX12_text_128 (s_sipush (pc := 131) dX12_text_131 c_sp_421 (s_bipush (pc := 134) dX12_text_134 c_bp_96 (s_iloadn (pc := 136) dX12_text_136 rfl (s_imul (pc := 137) dX12_text_137 (s_iadd (pc := 138) dX12_text_138 (s_iloadn (pc := 139) dX12_text_139 rfl (s_iadd (pc := 140) dX12_text_140 (s_aloadn (pc := 141) dX12_text_141 rfl (s_gR (pc := 142) (f := 16) ko_11 (by decide) rfl rfl w_1311 dX12_text_142 (s_iloadn (pc := 145) dX12_text_145 rfl (s_iald (pc := 146) (by decide) (by decide) rfl rfl rfl dX12_text_146 (s_iast (pc := 147) (by decide) (by decide) rfl rfl rfl dX12_text_147 (s_iinc (pc := 148) dX12_text_148 c_ic_1 (show 3 < 4 by decide) (s_goto (pc := 151) dX12_text_151 (by decide) hk119))))))))))))))))))))
noncomputable def X12_text_u33 (g : Nat → Int32 → PH → Option Rs) : Kn := fun ls st h => gL 1 st (gT 11 ls 0 fun t => gI (st.map some) 0 fun s0 => g t s0 h)
noncomputable def X12_text_u119 (g : Nat → Int32 → Int32 → PH → Option Rs) : Kn := fun ls st h => gL 0 st (gT 11 ls 0 fun t => gI ls 2 fun x2 => gI ls 3 fun x3 => g t x2 x3 h)
noncomputable def X12_text_f0 (c_X12_go : Nat → PH → Option Rs) (c_X12_takesKey : Nat → PH → Option Rs) (c_X12_takesE : Nat → PH → Option Rs) (g33 : Nat → Int32 → PH → Option Rs) (t : Nat) (h : PH) : Option Rs :=
  wr (pI h 712 t 0 0) fun h1 =>
  wr (pI h1 716 t 0 (-1)) fun h2 =>
  cV (c_X12_go t h2) fun h3 =>
  cI (c_X12_takesKey t h3) fun v5 h4 =>
  if v5 = 0 then
    g33 t 0 h4
  else
    cI (c_X12_takesE t h4) fun v7 h6 =>
    if v7 = 0 then
      g33 t 0 h6
    else
      g33 t 1 h6
set_option maxRecDepth 100000 in
theorem X12_text_l0 (c_X12_go : Nat → PH → Option Rs) (c_X12_takesKey : Nat → PH → Option Rs) (c_X12_takesE : Nat → PH → Option Rs) (g33 : Nat → Int32 → PH → Option Rs) (t : Nat) (h : PH) : X12_text_b0 c_X12_go c_X12_takesKey c_X12_takesE (X12_text_u33 g33) [some (.inr (11, t + 1)), none, none, none] [] h = X12_text_f0 c_X12_go c_X12_takesKey c_X12_takesE g33 t h := rfl
theorem X12_text_m0 {c_X12_go : Nat → PH → Option Rs} {c_X12_takesKey : Nat → PH → Option Rs} {c_X12_takesE : Nat → PH → Option Rs} {g33 G33 : Nat → Int32 → PH → Option Rs} (hg33 : ∀ a0 a1 a2, Mo (g33 a0 a1 a2) (G33 a0 a1 a2)) (t : Nat) (h : PH) : Mo (X12_text_f0 c_X12_go c_X12_takesKey c_X12_takesE g33 t h) (X12_text_f0 c_X12_go c_X12_takesKey c_X12_takesE G33 t h) := (mo_wr fun h1 => (mo_wr fun h2 => (mo_cV fun h3 => (mo_cI fun v5 h4 => (mo_if (hg33 t 0 h4) (mo_cI fun v7 h6 => (mo_if (hg33 t 0 h6) (hg33 t 1 h6))))))))
noncomputable def X12_text_f33 (g119 : Nat → Int32 → Int32 → PH → Option Rs) (t : Nat) (s0 : Int32) (h : PH) : Option Rs :=
  wr (pI h 711 t 0 0) fun h8 =>
  if s0 = 0 then
    some (some (.inl ((-100) - (hI h8 713 t 0))), h8)
  else
    nn (hR h8 704 t 0) fun r9 =>
    ix 8 (hL h8 41 r9) fun j10 =>
    if (hI h8 2624 r9 j10) = 14 then
      some (some (.inl (-1000000003)), h8)
    else
      nn (hR h8 704 t 0) fun r11 =>
      ix 8 (hL h8 41 r11) fun j12 =>
      nn (hR h8 704 t 0) fun r13 =>
      ix (393 + (2 * (hI h8 2624 r11 j12))) (hL h8 41 r13) fun j14 =>
      wr (pI h8 2624 r13 j14 ((1000 * (hI h8 717 t 0)) + (hI h8 721 t 0))) fun h15 =>
      nn (hR h15 704 t 0) fun r16 =>
      ix ((393 + (2 * (hI h8 2624 r11 j12))) + 1) (hL h15 41 r16) fun j17 =>
      wr (pI h15 2624 r16 j17 (hI h15 722 t 0)) fun h18 =>
      g119 t (hI h8 2624 r11 j12) 0 h18
set_option maxRecDepth 100000 in
theorem X12_text_l33 (g119 : Nat → Int32 → Int32 → PH → Option Rs) (t : Nat) (s0 : Int32) (h : PH) : X12_text_b33 (X12_text_u119 g119) [some (.inr (11, t + 1)), none, none, none] [.inl s0] h = X12_text_f33 g119 t s0 h := rfl
theorem X12_text_m33 {g119 G119 : Nat → Int32 → Int32 → PH → Option Rs} (hg119 : ∀ a0 a1 a2 a3, Mo (g119 a0 a1 a2 a3) (G119 a0 a1 a2 a3)) (t : Nat) (s0 : Int32) (h : PH) : Mo (X12_text_f33 g119 t s0 h) (X12_text_f33 G119 t s0 h) := (mo_wr fun h8 => (mo_if mo_rf (mo_nn fun r9 => (mo_ix fun j10 => (mo_if mo_rf (mo_nn fun r11 => (mo_ix fun j12 => (mo_nn fun r13 => (mo_ix fun j14 => (mo_wr fun h15 => (mo_nn fun r16 => (mo_ix fun j17 => (mo_wr fun h18 => (hg119 t (hI h8 2624 r11 j12) 0 h18))))))))))))))
theorem X12_text_w33 {z : CZ} {g119 : Nat → Int32 → Int32 → PH → Option Rs} (hk119 : SK (X12_text_x z) 119 (X12_text_u119 g119)) : SK (X12_text_x z) 33 (X12_text_u33 (X12_text_f33 g119)) := by
  intro ls st h r e
  obtain ⟨hst, e⟩ := gL_of e
  obtain ⟨t, q0, e⟩ := gT_of e
  obtain ⟨s0, q1, e⟩ := gI_of e
  rw [st_1 hst q1]
  exact WK.sub (canon := [some (.inr (11, t + 1)), none, none, none]) rfl ⟨q0, trivial⟩ (X12_text_s33 hk119 _ _ _ _ ((X12_text_l33 g119 t s0 h).trans e))
noncomputable def X12_text_f119 (g119 : Nat → Int32 → Int32 → PH → Option Rs) (t : Nat) (x2 : Int32) (x3 : Int32) (h : PH) : Option Rs :=
  if x3 < (hI h 721 t 0) then
    nn (hR h 720 t 0) fun r24 =>
    ix x3 (hL h 48 r24) fun j25 =>
    nn (hR h 704 t 0) fun r26 =>
    ix ((421 + (96 * x2)) + x3) (hL h 41 r26) fun j27 =>
    wr (pI h 2624 r26 j27 (hI h 3072 r24 j25)) fun h28 =>
    g119 t x2 (x3 + 1) h28
  else
    nn (hR h 704 t 0) fun r19 =>
    ix 8 (hL h 41 r19) fun j20 =>
    nn (hR h 704 t 0) fun r21 =>
    ix 8 (hL h 41 r21) fun j22 =>
    wr (pI h 2624 r21 j22 ((hI h 2624 r19 j20) + 1)) fun h23 =>
    some (some (.inl x2), h23)
set_option maxRecDepth 100000 in
theorem X12_text_l119 (g119 : Nat → Int32 → Int32 → PH → Option Rs) (t : Nat) (x2 : Int32) (x3 : Int32) (h : PH) : X12_text_b119 (X12_text_u119 g119) [some (.inr (11, t + 1)), none, some (.inl x2), some (.inl x3)] [] h = X12_text_f119 g119 t x2 x3 h := rfl
theorem X12_text_m119 {g119 G119 : Nat → Int32 → Int32 → PH → Option Rs} (hg119 : ∀ a0 a1 a2 a3, Mo (g119 a0 a1 a2 a3) (G119 a0 a1 a2 a3)) (t : Nat) (x2 : Int32) (x3 : Int32) (h : PH) : Mo (X12_text_f119 g119 t x2 x3 h) (X12_text_f119 G119 t x2 x3 h) := (mo_if (mo_nn fun r24 => (mo_ix fun j25 => (mo_nn fun r26 => (mo_ix fun j27 => (mo_wr fun h28 => (hg119 t x2 (x3 + 1) h28)))))) (mo_nn fun r19 => (mo_ix fun j20 => (mo_nn fun r21 => (mo_ix fun j22 => (mo_wr fun h23 => mo_rf))))))
theorem X12_text_w119 {z : CZ} {g119 : Nat → Int32 → Int32 → PH → Option Rs} (hk119 : SK (X12_text_x z) 119 (X12_text_u119 g119)) : SK (X12_text_x z) 119 (X12_text_u119 (X12_text_f119 g119)) := by
  intro ls st h r e
  obtain ⟨hst, e⟩ := gL_of e
  obtain ⟨t, q0, e⟩ := gT_of e
  obtain ⟨x2, q1, e⟩ := gI_of e
  obtain ⟨x3, q2, e⟩ := gI_of e
  rw [st_0 hst]
  exact WK.sub (canon := [some (.inr (11, t + 1)), none, some (.inl x2), some (.inl x3)]) rfl ⟨q0, q1, q2, trivial⟩ (X12_text_s119 hk119 _ _ _ _ ((X12_text_l119 g119 t x2 x3 h).trans e))
noncomputable def X12_text_g33 (G : (Nat → Int32 → Int32 → PH → Option Rs)) (t : Nat) (s0 : Int32) (h : PH) : Option Rs := X12_text_f33 (G) t s0 h
noncomputable def X12_text_g0 (G : (Nat → Int32 → Int32 → PH → Option Rs)) (t : Nat) (h : PH) : Option Rs := X12_text_f0 X12_go X12_takesKey X12_takesE (X12_text_g33 G) t h
noncomputable def X12_text_g119 (G : (Nat → Int32 → Int32 → PH → Option Rs)) (t : Nat) (x2 : Int32) (x3 : Int32) (h : PH) : Option Rs := X12_text_f119 (G) t x2 x3 h
theorem X12_text_v33 {z : CZ} {G : (Nat → Int32 → Int32 → PH → Option Rs)} (hG119 : SK (X12_text_x z) 119 (X12_text_u119 (G))) : SK (X12_text_x z) 33 (X12_text_u33 (X12_text_g33 G)) := X12_text_w33 hG119
theorem X12_text_v119 {z : CZ} {G : (Nat → Int32 → Int32 → PH → Option Rs)} (hG119 : SK (X12_text_x z) 119 (X12_text_u119 (G))) : SK (X12_text_x z) 119 (X12_text_u119 (X12_text_g119 G)) := X12_text_w119 hG119
noncomputable def X12_text_fam : Nat → (Nat → Int32 → Int32 → PH → Option Rs)
  | 0 => fun _ _ _ _ => none
  | n + 1 => X12_text_g119 (X12_text_fam n)
theorem X12_text_k {z : CZ} : ∀ n, SK (X12_text_x z) 119 (X12_text_u119 (X12_text_fam n))
  | 0 => (fun ls st h r e => by
      obtain ⟨_, e⟩ := gL_of e
      obtain ⟨_, _, e⟩ := gT_of e
      obtain ⟨_, _, e⟩ := gI_of e
      obtain ⟨_, _, e⟩ := gI_of e
      cases e)
  | n + 1 => by
    obtain ih119 := X12_text_k n
    exact X12_text_v119 ih119
theorem X12_text_n33 {G G' : (Nat → Int32 → Int32 → PH → Option Rs)} (hg119 : ∀ a0 a1 a2 a3, Mo ((G) a0 a1 a2 a3) ((G') a0 a1 a2 a3)) (t : Nat) (s0 : Int32) (h : PH) : Mo (X12_text_g33 G t s0 h) (X12_text_g33 G' t s0 h) := X12_text_m33 hg119 t s0 h
theorem X12_text_n0 {G G' : (Nat → Int32 → Int32 → PH → Option Rs)} (hg119 : ∀ a0 a1 a2 a3, Mo ((G) a0 a1 a2 a3) ((G') a0 a1 a2 a3)) (t : Nat) (h : PH) : Mo (X12_text_g0 G t h) (X12_text_g0 G' t h) := X12_text_m0 (fun a0 a1 a2 => X12_text_n33 hg119 a0 a1 a2) t h
theorem X12_text_n119 {G G' : (Nat → Int32 → Int32 → PH → Option Rs)} (hg119 : ∀ a0 a1 a2 a3, Mo ((G) a0 a1 a2 a3) ((G') a0 a1 a2 a3)) (t : Nat) (x2 : Int32) (x3 : Int32) (h : PH) : Mo (X12_text_g119 G t x2 x3 h) (X12_text_g119 G' t x2 x3 h) := X12_text_m119 hg119 t x2 x3 h
theorem X12_text_fm : ∀ n, (∀ a0 a1 a2 a3, Mo ((X12_text_fam n) a0 a1 a2 a3) ((X12_text_fam (n + 1)) a0 a1 a2 a3))
  | 0 => fun _ _ _ _ => mo_no
  | n + 1 => by
    obtain ih119 := X12_text_fm n
    exact fun a0 a1 a2 a3 => X12_text_n119 ih119 a0 a1 a2 a3
noncomputable def X12_text (t : Nat) (h : PH) : Option Rs := lim (fun n => X12_text_g0 (X12_text_fam n) t h)
theorem X12_text_iff {t : Nat} {h : PH} {r : Rs} : X12_text t h = some r ↔ ∃ n, X12_text_g0 (X12_text_fam n) t h = some r := lim_iff (fun n => by
  obtain ih119 := X12_text_fm n
  exact X12_text_n0 ih119 t h)
noncomputable abbrev X12_text_F : List PV → PH → Option Rs := FW_T11 (X12_text)
set_option maxRecDepth 100000 in
theorem X12_text_gd (l : Launch) : Gd l 4 yX12_text cX12_text 4 (some .int) (X12_text_F)   := Gd_of (by decide +kernel) (fun z hzl as h r e => by
  obtain ⟨hst, e⟩ := gL_of e
  obtain ⟨t, q0, e⟩ := gT_of e
  rw [st_1 hst q0]
  obtain ⟨n, e⟩ := lim_of e
  obtain hG119 := X12_text_k (z := z) n
  exact ⟨show 1 ≤ 4 by decide, X12_text_s0 (X12_text_v33 hG119) _ _ _ _ ((X12_text_l0 X12_go X12_takesKey X12_takesE (X12_text_g33 (X12_text_fam n)) t h).trans e)⟩)
abbrev X12_textTold_x (z : CZ) : CX := mx RX12 cX12_textTold 3 1 (some .int) "textTold" z
noncomputable def X12_textTold_b0 (c_X12_in : Int32 → Int32 → Int32 → PH → Option Rs) : Kn := (a_il 1 (a_ic 0 (a_al 0 (a_gR 11 704 41 (a_ic 8 (a_ald 41 2624 (a_ic 1 (a_b (fun a b => a - b) (a_sI 3 (FW_III c_X12_in) (a_z (a_ic (-1000000001) a_ir) (a_il 2 (a_ic 0 (a_ic 1 (a_sI 3 (FW_III c_X12_in) (a_z (a_ic (-1000000001) a_ir) (a_il 2 (a_z (a_al 0 (a_gR 11 704 41 (a_ic 393 (a_ic 2 (a_il 1 (a_b (fun a b => a * b) (a_b (fun a b => a + b) (a_ald 41 2624 (a_ic 1000 (a_div a_ir)))))))))) (a_al 0 (a_gR 11 704 41 (a_ic 393 (a_ic 2 (a_il 1 (a_b (fun a b => a * b) (a_b (fun a b => a + b) (a_ic 1 (a_b (fun a b => a + b) (a_ald 41 2624 a_ir)))))))))))))))))))))))))))
set_option maxRecDepth 100000 in
theorem X12_textTold_s0 {z : CZ} : SK (X12_textTold_x z) 0 (X12_textTold_b0 X12_in) := (s_iloadn (pc := 0) dX12_textTold_0 rfl (s_iconst (pc := 1) dX12_textTold_1 c_ic_0 (s_aloadn (pc := 2) dX12_textTold_2 rfl (s_gR (pc := 3) (f := 0) ko_11 (by decide) rfl rfl w_1295 dX12_textTold_3 (s_bipush (pc := 6) dX12_textTold_6 c_bp_8 (s_iald (pc := 8) (by decide) (by decide) rfl rfl rfl dX12_textTold_8 (s_iconst (pc := 9) dX12_textTold_9 c_ic_1 (s_isub (pc := 10) dX12_textTold_10 (s_sI (pc := 11) (run_static (X12_in_gd _) (show 0 < 1 by decide) cy_X12_in w_1464 w_1463 dX12_textTold_11) (s_ifeq (pc := 14) dX12_textTold_14 (by decide) (s_ldc (pc := 26) w_1466 dX12_textTold_26 (s_ir (pc := 28) rfl dX12_textTold_28)) (s_iloadn (pc := 17) dX12_textTold_17 rfl (s_iconst (pc := 18) dX12_textTold_18 c_ic_0 (s_iconst (pc := 19) dX12_textTold_19 c_ic_1 (s_sI (pc := 20) (run_static (X12_in_gd _) (show 0 < 1 by decide) cy_X12_in w_1464 w_1463 dX12_textTold_20) (s_ifne (pc := 23) dX12_textTold_23 (by decide) (s_iloadn (pc := 29) dX12_textTold_29 rfl (s_ifne (pc := 30) dX12_textTold_30 (by decide) (s_aloadn (pc := 52) dX12_textTold_52 rfl (s_gR (pc := 53) (f := 0) ko_11 (by decide) rfl rfl w_1295 dX12_textTold_53 (s_sipush (pc := 56) dX12_textTold_56 c_sp_393 (s_iconst (pc := 59) dX12_textTold_59 c_ic_2 (s_iloadn (pc := 60) dX12_textTold_60 rfl (s_imul (pc := 61) dX12_textTold_61 (s_iadd (pc := 62) dX12_textTold_62 (s_iconst (pc := 63) dX12_textTold_63 c_ic_1 (s_iadd (pc := 64) dX12_textTold_64 (s_iald (pc := 65) (by decide) (by decide) rfl rfl rfl dX12_textTold_65 (s_ir (pc := 66) rfl dX12_textTold_66))))))))))) (s_aloadn (pc := 33) dX12_textTold_33 rfl (s_gR (pc := 34) (f := 0) ko_11 (by decide) rfl rfl w_1295 dX12_textTold_34 (s_sipush (pc := 37) dX12_textTold_37 c_sp_393 (s_iconst (pc := 40) dX12_textTold_40 c_ic_2 (s_iloadn (pc := 41) dX12_textTold_41 rfl (s_imul (pc := 42) dX12_textTold_42 (s_iadd (pc := 43) dX12_textTold_43 (s_iald (pc := 44) (by decide) (by decide) rfl rfl rfl dX12_textTold_44 (s_sipush (pc := 45) dX12_textTold_45 c_sp_1000 (s_idiv (pc := 48) dX12_textTold_48 (s_goto (pc := 49) dX12_textTold_49 (by decide) (s_ir (pc := 66) rfl dX12_textTold_66)))))))))))))) (s_ldc (pc := 26) w_1466 dX12_textTold_26 (s_ir (pc := 28) rfl dX12_textTold_28)))))))))))))))))
noncomputable def X12_textTold_f0 (c_X12_in : Int32 → Int32 → Int32 → PH → Option Rs) (t : Nat) (x1 : Int32) (x2 : Int32) (h : PH) : Option Rs :=
  nn (hR h 704 t 0) fun r1 =>
  ix 8 (hL h 41 r1) fun j2 =>
  cI (c_X12_in x1 0 ((hI h 2624 r1 j2) - 1) h) fun v4 h3 =>
  if v4 = 0 then
    some (some (.inl (-1000000001)), h3)
  else
    cI (c_X12_in x2 0 1 h3) fun v6 h5 =>
    if v6 = 0 then
      some (some (.inl (-1000000001)), h5)
    else
      if x2 = 0 then
        nn (hR h5 704 t 0) fun r9 =>
        ix (393 + (2 * x1)) (hL h5 41 r9) fun j10 =>
        dv 1000 <|
        some (some (.inl ((hI h5 2624 r9 j10) / 1000)), h5)
      else
        nn (hR h5 704 t 0) fun r7 =>
        ix ((393 + (2 * x1)) + 1) (hL h5 41 r7) fun j8 =>
        some (some (.inl (hI h5 2624 r7 j8)), h5)
set_option maxRecDepth 100000 in
theorem X12_textTold_l0 (c_X12_in : Int32 → Int32 → Int32 → PH → Option Rs) (t : Nat) (x1 : Int32) (x2 : Int32) (h : PH) : X12_textTold_b0 c_X12_in [some (.inr (11, t + 1)), some (.inl x1), some (.inl x2)] [] h = X12_textTold_f0 c_X12_in t x1 x2 h := rfl
noncomputable def X12_textTold_g0 (t : Nat) (x1 : Int32) (x2 : Int32) (h : PH) : Option Rs := X12_textTold_f0 X12_in t x1 x2 h
noncomputable def X12_textTold (t : Nat) (x1 : Int32) (x2 : Int32) (h : PH) : Option Rs := X12_textTold_g0 t x1 x2 h
noncomputable abbrev X12_textTold_F : List PV → PH → Option Rs := FW_T11II (X12_textTold)
set_option maxRecDepth 100000 in
theorem X12_textTold_gd (l : Launch) : Gd l 1 yX12_textTold cX12_textTold 3 (some .int) (X12_textTold_F)   := Gd_of (by decide +kernel) (fun z hzl as h r e => by
  obtain ⟨hst, e⟩ := gL_of e
  obtain ⟨t, q0, e⟩ := gT_of e
  obtain ⟨x1, q1, e⟩ := gI_of e
  obtain ⟨x2, q2, e⟩ := gI_of e
  rw [st_3 hst q0 q1 q2]
  exact ⟨show 3 ≤ 3 by decide, X12_textTold_s0 _ _ _ _ ((X12_textTold_l0 X12_in t x1 x2 h).trans e)⟩)
abbrev X12_why_x (z : CZ) : CX := mx RX12 cX12_why 3 1 (some .int) "why" z
noncomputable def X12_why_b0 (c_X12_in : Int32 → Int32 → Int32 → PH → Option Rs) (c_X12_counts : Nat → Int32 → PH → Option Rs) : Kn := (a_il 1 (a_ic 0 (a_ic 2 (a_sI 3 (FW_III c_X12_in) (a_z (a_ic (-1000000001) a_ir) (a_al 0 (a_il 1 (a_vI 11 1 (FW_T11I c_X12_counts) (a_is 2 (a_il 2 (a_n (a_ic (-1000000005) a_ir) (a_il 2 a_ir))))))))))))
set_option maxRecDepth 100000 in
theorem X12_why_s0 {z : CZ} : SK (X12_why_x z) 0 (X12_why_b0 X12_in X12_counts) := (s_iloadn (pc := 0) dX12_why_0 rfl (s_iconst (pc := 1) dX12_why_1 c_ic_0 (s_iconst (pc := 2) dX12_why_2 c_ic_2 (s_sI (pc := 3) (run_static (X12_in_gd _) (show 0 < 1 by decide) cy_X12_in w_1464 w_1463 dX12_why_3) (s_ifne (pc := 6) dX12_why_6 (by decide) (s_aloadn (pc := 12) dX12_why_12 rfl (s_iloadn (pc := 13) dX12_why_13 rfl (s_vI (pc := 14) (run_virtual (X12_counts_gd _) (show 0 < 1 by decide) cy_X12_counts (by decide) rfl w_1482 w_s32 w_1480 dX12_why_14) (s_istoren (pc := 17) dX12_why_17 rfl (show 2 < 3 by decide) (s_iloadn (pc := 18) dX12_why_18 rfl (s_ifge (pc := 19) dX12_why_19 (by decide) (s_iloadn (pc := 27) dX12_why_27 rfl (s_ir (pc := 28) rfl dX12_why_28)) (s_ldc (pc := 22) w_1515 dX12_why_22 (s_goto (pc := 24) dX12_why_24 (by decide) (s_ir (pc := 28) rfl dX12_why_28))))))))) (s_ldc (pc := 9) w_1466 dX12_why_9 (s_ir (pc := 11) rfl dX12_why_11)))))))
noncomputable def X12_why_f0 (c_X12_in : Int32 → Int32 → Int32 → PH → Option Rs) (c_X12_counts : Nat → Int32 → PH → Option Rs) (t : Nat) (x1 : Int32) (h : PH) : Option Rs :=
  cI (c_X12_in x1 0 2 h) fun v2 h1 =>
  if v2 = 0 then
    some (some (.inl (-1000000001)), h1)
  else
    cI (c_X12_counts t x1 h1) fun v4 h3 =>
    if v4 < 0 then
      some (some (.inl (-1000000005)), h3)
    else
      some (some (.inl v4), h3)
set_option maxRecDepth 100000 in
theorem X12_why_l0 (c_X12_in : Int32 → Int32 → Int32 → PH → Option Rs) (c_X12_counts : Nat → Int32 → PH → Option Rs) (t : Nat) (x1 : Int32) (h : PH) : X12_why_b0 c_X12_in c_X12_counts [some (.inr (11, t + 1)), some (.inl x1), none] [] h = X12_why_f0 c_X12_in c_X12_counts t x1 h := rfl
noncomputable def X12_why_g0 (t : Nat) (x1 : Int32) (h : PH) : Option Rs := X12_why_f0 X12_in X12_counts t x1 h
noncomputable def X12_why (t : Nat) (x1 : Int32) (h : PH) : Option Rs := X12_why_g0 t x1 h
noncomputable abbrev X12_why_F : List PV → PH → Option Rs := FW_T11I (X12_why)
set_option maxRecDepth 100000 in
theorem X12_why_gd (l : Launch) : Gd l 1 yX12_why cX12_why 3 (some .int) (X12_why_F)   := Gd_of (by decide +kernel) (fun z hzl as h r e => by
  obtain ⟨hst, e⟩ := gL_of e
  obtain ⟨t, q0, e⟩ := gT_of e
  obtain ⟨x1, q1, e⟩ := gI_of e
  rw [st_2 hst q0 q1]
  exact ⟨show 2 ≤ 3 by decide, X12_why_s0 _ _ _ _ ((X12_why_l0 X12_in X12_counts t x1 h).trans e)⟩)
abbrev X12_areWheels_x (z : CZ) : CX := mx RX12 cX12_areWheels 1 1 (some .boolean) "areWheels" z
noncomputable def X12_areWheels_b0 (c_X12_in : Int32 → Int32 → Int32 → PH → Option Rs) : Kn := (a_il 0 (a_ic 0 (a_ic 1 (a_sI 3 (FW_III c_X12_in) a_zr))))
set_option maxRecDepth 100000 in
theorem X12_areWheels_s0 {z : CZ} : SK (X12_areWheels_x z) 0 (X12_areWheels_b0 X12_in) := (s_iloadn (pc := 0) dX12_areWheels_0 rfl (s_iconst (pc := 1) dX12_areWheels_1 c_ic_0 (s_iconst (pc := 2) dX12_areWheels_2 c_ic_1 (s_sI (pc := 3) (run_static (X12_in_gd _) (show 0 < 1 by decide) cy_X12_in w_1464 w_1463 dX12_areWheels_3) (s_zr (pc := 6) rfl dX12_areWheels_6)))))
noncomputable def X12_areWheels_f0 (c_X12_in : Int32 → Int32 → Int32 → PH → Option Rs) (x0 : Int32) (h : PH) : Option Rs :=
  cI (c_X12_in x0 0 1 h) fun v2 h1 =>
  bz v2 <|
  some (some (.inl v2), h1)
set_option maxRecDepth 100000 in
theorem X12_areWheels_l0 (c_X12_in : Int32 → Int32 → Int32 → PH → Option Rs) (x0 : Int32) (h : PH) : X12_areWheels_b0 c_X12_in [some (.inl x0)] [] h = X12_areWheels_f0 c_X12_in x0 h := rfl
noncomputable def X12_areWheels_g0 (x0 : Int32) (h : PH) : Option Rs := X12_areWheels_f0 X12_in x0 h
noncomputable def X12_areWheels (x0 : Int32) (h : PH) : Option Rs := X12_areWheels_g0 x0 h
noncomputable abbrev X12_areWheels_F : List PV → PH → Option Rs := FW_I (X12_areWheels)
set_option maxRecDepth 100000 in
theorem X12_areWheels_gd (l : Launch) : Gd l 1 yX12_areWheels cX12_areWheels 1 (some .boolean) (X12_areWheels_F)   := Gd_of (by decide +kernel) (fun z hzl as h r e => by
  obtain ⟨hst, e⟩ := gL_of e
  obtain ⟨x0, q0, e⟩ := gI_of e
  rw [st_1 hst q0]
  exact ⟨show 1 ≤ 1 by decide, X12_areWheels_s0 _ _ _ _ ((X12_areWheels_l0 X12_in x0 h).trans e)⟩)
abbrev X12_looks_x (z : CZ) : CX := mx RX12 cX12_looks 3 3 none "looks" z
noncomputable def X12_looks_b0 (k2 : Kn) : Kn := (a_ic 0 (a_is 2 k2))
set_option maxRecDepth 100000 in
theorem X12_looks_s0 {z : CZ} {k2 : Kn} (hk2 : SK (X12_looks_x z) 2 k2) : SK (X12_looks_x z) 0 (X12_looks_b0 k2) := (s_iconst (pc := 0) dX12_looks_0 c_ic_0 (s_istoren (pc := 1) dX12_looks_1 rfl (show 2 < 3 by decide) hk2))
noncomputable def X12_looks_b2 (c_X12_passes : Nat → Int32 → Int32 → PH → Option Rs) (k2 k32 : Kn) : Kn := (a_il 2 (a_al 0 (a_gR 11 704 41 (a_ic 4 (a_ald 41 2624 (a_lt (a_al 0 (a_gR 11 728 53 (a_il 2 (a_al 0 (a_il 2 (a_il 1 (a_vI 11 2 (FW_T11II c_X12_passes) (a_ast 53 3392 (vp_nar .boolean) (a_inc 2 1 k2))))))))) (a_ic 0 (a_is 2 k32))))))))
set_option maxRecDepth 100000 in
theorem X12_looks_s2 {z : CZ} {k2 k32 : Kn} (hk2 : SK (X12_looks_x z) 2 k2) (hk32 : SK (X12_looks_x z) 32 k32) : SK (X12_looks_x z) 2 (X12_looks_b2 X12_passes k2 k32) := (s_iloadn (pc := 2) dX12_looks_2 rfl (s_aloadn (pc := 3) dX12_looks_3 rfl (s_gR (pc := 4) (f := 0) ko_11 (by decide) rfl rfl w_1295 dX12_looks_4 (s_iconst (pc := 7) dX12_looks_7 c_ic_4 (s_iald (pc := 8) (by decide) (by decide) rfl rfl rfl dX12_looks_8 (s_cmpge (pc := 9) dX12_looks_9 (by decide) (s_iconst (pc := 30) dX12_looks_30 c_ic_0 (s_istoren (pc := 31) dX12_looks_31 rfl (show 2 < 3 by decide) hk32)) (s_aloadn (pc := 12) dX12_looks_12 rfl (s_gR (pc := 13) (f := 24) ko_11 (by decide) rfl rfl w_1319 dX12_looks_13 (s_iloadn (pc := 16) dX12_looks_16 rfl (s_aloadn (pc := 17) dX12_looks_17 rfl (s_iloadn (pc := 18) dX12_looks_18 rfl (s_iloadn (pc := 19) dX12_looks_19 rfl (s_vI (pc := 20) (run_virtual (X12_passes_gd _) (show 2 < 3 by decide) cy_X12_passes (by decide) rfl w_1478 w_s31 w_1476 dX12_looks_20) (s_zast (pc := 23) (by decide) (by decide) rfl rfl rfl dX12_looks_23 (s_iinc (pc := 24) dX12_looks_24 c_ic_1 (show 2 < 3 by decide) (s_goto (pc := 27) dX12_looks_27 (by decide) hk2))))))))))))))))
noncomputable def X12_looks_b32 (c_X12_isLit : Nat → Int32 → PH → Option Rs) (c_X12_isObeyed : Nat → Int32 → Int32 → PH → Option Rs) (k70 : Kn) : Kn := (a_il 2 (a_al 0 (a_gR 11 704 41 (a_ic 6 (a_ald 41 2624 (a_lt (a_al 0 (a_gR 11 729 54 (a_il 2 (a_al 0 (a_il 2 (a_vI 11 1 (FW_T11I c_X12_isLit) (a_z (a_ic 0 k70) (a_al 0 (a_il 2 (a_il 1 (a_vI 11 2 (FW_T11II c_X12_isObeyed) (a_z (a_ic 0 k70) (a_ic 1 k70))))))))))))) a_vr))))))
set_option maxRecDepth 100000 in
theorem X12_looks_s32 {z : CZ} {k70 : Kn} (hk70 : SK (X12_looks_x z) 70 k70) : SK (X12_looks_x z) 32 (X12_looks_b32 X12_isLit X12_isObeyed k70) := (s_iloadn (pc := 32) dX12_looks_32 rfl (s_aloadn (pc := 33) dX12_looks_33 rfl (s_gR (pc := 34) (f := 0) ko_11 (by decide) rfl rfl w_1295 dX12_looks_34 (s_bipush (pc := 37) dX12_looks_37 c_bp_6 (s_iald (pc := 39) (by decide) (by decide) rfl rfl rfl dX12_looks_39 (s_cmpge (pc := 40) dX12_looks_40 (by decide) (s_vr (pc := 77) rfl dX12_looks_77) (s_aloadn (pc := 43) dX12_looks_43 rfl (s_gR (pc := 44) (f := 25) ko_11 (by decide) rfl rfl w_1320 dX12_looks_44 (s_iloadn (pc := 47) dX12_looks_47 rfl (s_aloadn (pc := 48) dX12_looks_48 rfl (s_iloadn (pc := 49) dX12_looks_49 rfl (s_vI (pc := 50) (run_virtual (X12_isLit_gd _) (show 2 < 3 by decide) cy_X12_isLit (by decide) rfl w_1551 w_s40 w_1549 dX12_looks_50) (s_ifeq (pc := 53) dX12_looks_53 (by decide) (s_iconst (pc := 69) dX12_looks_69 c_ic_0 hk70) (s_aloadn (pc := 56) dX12_looks_56 rfl (s_iloadn (pc := 57) dX12_looks_57 rfl (s_iloadn (pc := 58) dX12_looks_58 rfl (s_vI (pc := 59) (run_virtual (X12_isObeyed_gd _) (show 2 < 3 by decide) cy_X12_isObeyed (by decide) rfl w_1555 w_s41 w_1553 dX12_looks_59) (s_ifeq (pc := 62) dX12_looks_62 (by decide) (s_iconst (pc := 69) dX12_looks_69 c_ic_0 hk70) (s_iconst (pc := 65) dX12_looks_65 c_ic_1 (s_goto (pc := 66) dX12_looks_66 (by decide) hk70))))))))))))))))))))
noncomputable def X12_looks_b70 (k32 : Kn) : Kn := (a_ast 54 3456 (vp_nar .boolean) (a_inc 2 1 k32))
set_option maxRecDepth 100000 in
theorem X12_looks_s70 {z : CZ} {k32 : Kn} (hk32 : SK (X12_looks_x z) 32 k32) : SK (X12_looks_x z) 70 (X12_looks_b70 k32) := (s_zast (pc := 70) (by decide) (by decide) rfl rfl rfl dX12_looks_70 (s_iinc (pc := 71) dX12_looks_71 c_ic_1 (show 2 < 3 by decide) (s_goto (pc := 74) dX12_looks_74 (by decide) hk32)))
noncomputable def X12_looks_u2 (g : Nat → Int32 → Int32 → PH → Option Rs) : Kn := fun ls st h => gL 0 st (gT 11 ls 0 fun t => gI ls 1 fun x1 => gI ls 2 fun x2 => g t x1 x2 h)
noncomputable def X12_looks_u32 (g : Nat → Int32 → Int32 → PH → Option Rs) : Kn := fun ls st h => gL 0 st (gT 11 ls 0 fun t => gI ls 1 fun x1 => gI ls 2 fun x2 => g t x1 x2 h)
noncomputable def X12_looks_u70 (g : Nat → Int32 → Int32 → Int32 → Int32 → Nat → PH → Option Rs) : Kn := fun ls st h => gL 3 st (gT 11 ls 0 fun t => gI ls 1 fun x1 => gI ls 2 fun x2 => gI (st.map some) 0 fun s0 => gI (st.map some) 1 fun s1 => gR 54 (st.map some) 2 fun s2 => g t x1 x2 s0 s1 s2 h)
noncomputable def X12_looks_f0 (g2 : Nat → Int32 → Int32 → PH → Option Rs) (t : Nat) (x1 : Int32) (h : PH) : Option Rs :=
  g2 t x1 0 h
set_option maxRecDepth 100000 in
theorem X12_looks_l0 (g2 : Nat → Int32 → Int32 → PH → Option Rs) (t : Nat) (x1 : Int32) (h : PH) : X12_looks_b0 (X12_looks_u2 g2) [some (.inr (11, t + 1)), some (.inl x1), none] [] h = X12_looks_f0 g2 t x1 h := rfl
theorem X12_looks_m0 {g2 G2 : Nat → Int32 → Int32 → PH → Option Rs} (hg2 : ∀ a0 a1 a2 a3, Mo (g2 a0 a1 a2 a3) (G2 a0 a1 a2 a3)) (t : Nat) (x1 : Int32) (h : PH) : Mo (X12_looks_f0 g2 t x1 h) (X12_looks_f0 G2 t x1 h) := (hg2 t x1 0 h)
noncomputable def X12_looks_f2 (c_X12_passes : Nat → Int32 → Int32 → PH → Option Rs) (g2 : Nat → Int32 → Int32 → PH → Option Rs) (g32 : Nat → Int32 → Int32 → PH → Option Rs) (t : Nat) (x1 : Int32) (x2 : Int32) (h : PH) : Option Rs :=
  nn (hR h 704 t 0) fun r1 =>
  ix 4 (hL h 41 r1) fun j2 =>
  if x2 < (hI h 2624 r1 j2) then
    cI (c_X12_passes t x2 x1 h) fun v4 h3 =>
    nn (hR h 728 t 0) fun r5 =>
    ix x2 (hL h3 53 r5) fun j6 =>
    wr (pI h3 3392 r5 j6 (vp_nar .boolean v4)) fun h7 =>
    g2 t x1 (x2 + 1) h7
  else
    g32 t x1 0 h
set_option maxRecDepth 100000 in
theorem X12_looks_l2 (c_X12_passes : Nat → Int32 → Int32 → PH → Option Rs) (g2 : Nat → Int32 → Int32 → PH → Option Rs) (g32 : Nat → Int32 → Int32 → PH → Option Rs) (t : Nat) (x1 : Int32) (x2 : Int32) (h : PH) : X12_looks_b2 c_X12_passes (X12_looks_u2 g2) (X12_looks_u32 g32) [some (.inr (11, t + 1)), some (.inl x1), some (.inl x2)] [] h = X12_looks_f2 c_X12_passes g2 g32 t x1 x2 h := rfl
theorem X12_looks_m2 {c_X12_passes : Nat → Int32 → Int32 → PH → Option Rs} {g2 G2 : Nat → Int32 → Int32 → PH → Option Rs} {g32 G32 : Nat → Int32 → Int32 → PH → Option Rs} (hg2 : ∀ a0 a1 a2 a3, Mo (g2 a0 a1 a2 a3) (G2 a0 a1 a2 a3)) (hg32 : ∀ a0 a1 a2 a3, Mo (g32 a0 a1 a2 a3) (G32 a0 a1 a2 a3)) (t : Nat) (x1 : Int32) (x2 : Int32) (h : PH) : Mo (X12_looks_f2 c_X12_passes g2 g32 t x1 x2 h) (X12_looks_f2 c_X12_passes G2 G32 t x1 x2 h) := (mo_nn fun r1 => (mo_ix fun j2 => (mo_if (mo_cI fun v4 h3 => (mo_nn fun r5 => (mo_ix fun j6 => (mo_wr fun h7 => (hg2 t x1 (x2 + 1) h7))))) (hg32 t x1 0 h))))
theorem X12_looks_w2 {z : CZ} {g2 : Nat → Int32 → Int32 → PH → Option Rs} {g32 : Nat → Int32 → Int32 → PH → Option Rs} (hk2 : SK (X12_looks_x z) 2 (X12_looks_u2 g2)) (hk32 : SK (X12_looks_x z) 32 (X12_looks_u32 g32)) : SK (X12_looks_x z) 2 (X12_looks_u2 (X12_looks_f2 X12_passes g2 g32)) := by
  intro ls st h r e
  obtain ⟨hst, e⟩ := gL_of e
  obtain ⟨t, q0, e⟩ := gT_of e
  obtain ⟨x1, q1, e⟩ := gI_of e
  obtain ⟨x2, q2, e⟩ := gI_of e
  rw [st_0 hst]
  exact WK.sub (canon := [some (.inr (11, t + 1)), some (.inl x1), some (.inl x2)]) rfl ⟨q0, q1, q2, trivial⟩ (X12_looks_s2 hk2 hk32 _ _ _ _ ((X12_looks_l2 X12_passes g2 g32 t x1 x2 h).trans e))
noncomputable def X12_looks_f32 (c_X12_isLit : Nat → Int32 → PH → Option Rs) (c_X12_isObeyed : Nat → Int32 → Int32 → PH → Option Rs) (g70 : Nat → Int32 → Int32 → Int32 → Int32 → Nat → PH → Option Rs) (t : Nat) (x1 : Int32) (x2 : Int32) (h : PH) : Option Rs :=
  nn (hR h 704 t 0) fun r8 =>
  ix 6 (hL h 41 r8) fun j9 =>
  if x2 < (hI h 2624 r8 j9) then
    cI (c_X12_isLit t x2 h) fun v11 h10 =>
    if v11 = 0 then
      g70 t x1 x2 0 x2 (hR h 729 t 0) h10
    else
      cI (c_X12_isObeyed t x2 x1 h10) fun v13 h12 =>
      if v13 = 0 then
        g70 t x1 x2 0 x2 (hR h 729 t 0) h12
      else
        g70 t x1 x2 1 x2 (hR h 729 t 0) h12
  else
    some (none, h)
set_option maxRecDepth 100000 in
theorem X12_looks_l32 (c_X12_isLit : Nat → Int32 → PH → Option Rs) (c_X12_isObeyed : Nat → Int32 → Int32 → PH → Option Rs) (g70 : Nat → Int32 → Int32 → Int32 → Int32 → Nat → PH → Option Rs) (t : Nat) (x1 : Int32) (x2 : Int32) (h : PH) : X12_looks_b32 c_X12_isLit c_X12_isObeyed (X12_looks_u70 g70) [some (.inr (11, t + 1)), some (.inl x1), some (.inl x2)] [] h = X12_looks_f32 c_X12_isLit c_X12_isObeyed g70 t x1 x2 h := rfl
theorem X12_looks_m32 {c_X12_isLit : Nat → Int32 → PH → Option Rs} {c_X12_isObeyed : Nat → Int32 → Int32 → PH → Option Rs} {g70 G70 : Nat → Int32 → Int32 → Int32 → Int32 → Nat → PH → Option Rs} (hg70 : ∀ a0 a1 a2 a3 a4 a5 a6, Mo (g70 a0 a1 a2 a3 a4 a5 a6) (G70 a0 a1 a2 a3 a4 a5 a6)) (t : Nat) (x1 : Int32) (x2 : Int32) (h : PH) : Mo (X12_looks_f32 c_X12_isLit c_X12_isObeyed g70 t x1 x2 h) (X12_looks_f32 c_X12_isLit c_X12_isObeyed G70 t x1 x2 h) := (mo_nn fun r8 => (mo_ix fun j9 => (mo_if (mo_cI fun v11 h10 => (mo_if (hg70 t x1 x2 0 x2 (hR h 729 t 0) h10) (mo_cI fun v13 h12 => (mo_if (hg70 t x1 x2 0 x2 (hR h 729 t 0) h12) (hg70 t x1 x2 1 x2 (hR h 729 t 0) h12))))) mo_rf)))
theorem X12_looks_w32 {z : CZ} {g70 : Nat → Int32 → Int32 → Int32 → Int32 → Nat → PH → Option Rs} (hk70 : SK (X12_looks_x z) 70 (X12_looks_u70 g70)) : SK (X12_looks_x z) 32 (X12_looks_u32 (X12_looks_f32 X12_isLit X12_isObeyed g70)) := by
  intro ls st h r e
  obtain ⟨hst, e⟩ := gL_of e
  obtain ⟨t, q0, e⟩ := gT_of e
  obtain ⟨x1, q1, e⟩ := gI_of e
  obtain ⟨x2, q2, e⟩ := gI_of e
  rw [st_0 hst]
  exact WK.sub (canon := [some (.inr (11, t + 1)), some (.inl x1), some (.inl x2)]) rfl ⟨q0, q1, q2, trivial⟩ (X12_looks_s32 hk70 _ _ _ _ ((X12_looks_l32 X12_isLit X12_isObeyed g70 t x1 x2 h).trans e))
noncomputable def X12_looks_f70 (g32 : Nat → Int32 → Int32 → PH → Option Rs) (t : Nat) (x1 : Int32) (x2 : Int32) (s0 : Int32) (s1 : Int32) (s2 : Nat) (h : PH) : Option Rs :=
  nn s2 fun r14 =>
  ix s1 (hL h 54 r14) fun j15 =>
  wr (pI h 3456 r14 j15 (vp_nar .boolean s0)) fun h16 =>
  g32 t x1 (x2 + 1) h16
set_option maxRecDepth 100000 in
theorem X12_looks_l70 (g32 : Nat → Int32 → Int32 → PH → Option Rs) (t : Nat) (x1 : Int32) (x2 : Int32) (s0 : Int32) (s1 : Int32) (s2 : Nat) (h : PH) : X12_looks_b70 (X12_looks_u32 g32) [some (.inr (11, t + 1)), some (.inl x1), some (.inl x2)] [.inl s0, .inl s1, .inr (54, s2)] h = X12_looks_f70 g32 t x1 x2 s0 s1 s2 h := rfl
theorem X12_looks_m70 {g32 G32 : Nat → Int32 → Int32 → PH → Option Rs} (hg32 : ∀ a0 a1 a2 a3, Mo (g32 a0 a1 a2 a3) (G32 a0 a1 a2 a3)) (t : Nat) (x1 : Int32) (x2 : Int32) (s0 : Int32) (s1 : Int32) (s2 : Nat) (h : PH) : Mo (X12_looks_f70 g32 t x1 x2 s0 s1 s2 h) (X12_looks_f70 G32 t x1 x2 s0 s1 s2 h) := (mo_nn fun r14 => (mo_ix fun j15 => (mo_wr fun h16 => (hg32 t x1 (x2 + 1) h16))))
theorem X12_looks_w70 {z : CZ} {g32 : Nat → Int32 → Int32 → PH → Option Rs} (hk32 : SK (X12_looks_x z) 32 (X12_looks_u32 g32)) : SK (X12_looks_x z) 70 (X12_looks_u70 (X12_looks_f70 g32)) := by
  intro ls st h r e
  obtain ⟨hst, e⟩ := gL_of e
  obtain ⟨t, q0, e⟩ := gT_of e
  obtain ⟨x1, q1, e⟩ := gI_of e
  obtain ⟨x2, q2, e⟩ := gI_of e
  obtain ⟨s0, q3, e⟩ := gI_of e
  obtain ⟨s1, q4, e⟩ := gI_of e
  obtain ⟨s2, q5, e⟩ := gR_of e
  rw [st_3 hst q3 q4 q5]
  exact WK.sub (canon := [some (.inr (11, t + 1)), some (.inl x1), some (.inl x2)]) rfl ⟨q0, q1, q2, trivial⟩ (X12_looks_s70 hk32 _ _ _ _ ((X12_looks_l70 g32 t x1 x2 s0 s1 s2 h).trans e))
noncomputable def X12_looks_g0 (G : (Nat → Int32 → Int32 → PH → Option Rs) × (Nat → Int32 → Int32 → PH → Option Rs)) (t : Nat) (x1 : Int32) (h : PH) : Option Rs := X12_looks_f0 (G).1 t x1 h
noncomputable def X12_looks_g2 (G : (Nat → Int32 → Int32 → PH → Option Rs) × (Nat → Int32 → Int32 → PH → Option Rs)) (t : Nat) (x1 : Int32) (x2 : Int32) (h : PH) : Option Rs := X12_looks_f2 X12_passes (G).1 (G).2 t x1 x2 h
noncomputable def X12_looks_g70 (G : (Nat → Int32 → Int32 → PH → Option Rs) × (Nat → Int32 → Int32 → PH → Option Rs)) (t : Nat) (x1 : Int32) (x2 : Int32) (s0 : Int32) (s1 : Int32) (s2 : Nat) (h : PH) : Option Rs := X12_looks_f70 (G).2 t x1 x2 s0 s1 s2 h
noncomputable def X12_looks_g32 (G : (Nat → Int32 → Int32 → PH → Option Rs) × (Nat → Int32 → Int32 → PH → Option Rs)) (t : Nat) (x1 : Int32) (x2 : Int32) (h : PH) : Option Rs := X12_looks_f32 X12_isLit X12_isObeyed (X12_looks_g70 G) t x1 x2 h
theorem X12_looks_v2 {z : CZ} {G : (Nat → Int32 → Int32 → PH → Option Rs) × (Nat → Int32 → Int32 → PH → Option Rs)} (hG2 : SK (X12_looks_x z) 2 (X12_looks_u2 (G).1)) (hG32 : SK (X12_looks_x z) 32 (X12_looks_u32 (G).2)) : SK (X12_looks_x z) 2 (X12_looks_u2 (X12_looks_g2 G)) := X12_looks_w2 hG2 hG32
theorem X12_looks_v70 {z : CZ} {G : (Nat → Int32 → Int32 → PH → Option Rs) × (Nat → Int32 → Int32 → PH → Option Rs)} (hG2 : SK (X12_looks_x z) 2 (X12_looks_u2 (G).1)) (hG32 : SK (X12_looks_x z) 32 (X12_looks_u32 (G).2)) : SK (X12_looks_x z) 70 (X12_looks_u70 (X12_looks_g70 G)) := X12_looks_w70 hG32
theorem X12_looks_v32 {z : CZ} {G : (Nat → Int32 → Int32 → PH → Option Rs) × (Nat → Int32 → Int32 → PH → Option Rs)} (hG2 : SK (X12_looks_x z) 2 (X12_looks_u2 (G).1)) (hG32 : SK (X12_looks_x z) 32 (X12_looks_u32 (G).2)) : SK (X12_looks_x z) 32 (X12_looks_u32 (X12_looks_g32 G)) := X12_looks_w32 (X12_looks_v70 hG2 hG32)
noncomputable def X12_looks_fam : Nat → (Nat → Int32 → Int32 → PH → Option Rs) × (Nat → Int32 → Int32 → PH → Option Rs)
  | 0 => (fun _ _ _ _ => none, fun _ _ _ _ => none)
  | n + 1 => (X12_looks_g2 (X12_looks_fam n), X12_looks_g32 (X12_looks_fam n))
theorem X12_looks_k {z : CZ} : ∀ n, SK (X12_looks_x z) 2 (X12_looks_u2 (X12_looks_fam n).1) ∧ SK (X12_looks_x z) 32 (X12_looks_u32 (X12_looks_fam n).2)
  | 0 => ⟨(fun ls st h r e => by
      obtain ⟨_, e⟩ := gL_of e
      obtain ⟨_, _, e⟩ := gT_of e
      obtain ⟨_, _, e⟩ := gI_of e
      obtain ⟨_, _, e⟩ := gI_of e
      cases e), (fun ls st h r e => by
      obtain ⟨_, e⟩ := gL_of e
      obtain ⟨_, _, e⟩ := gT_of e
      obtain ⟨_, _, e⟩ := gI_of e
      obtain ⟨_, _, e⟩ := gI_of e
      cases e)⟩
  | n + 1 => by
    obtain ⟨ih2, ih32⟩ := X12_looks_k n
    exact ⟨X12_looks_v2 ih2 ih32, X12_looks_v32 ih2 ih32⟩
theorem X12_looks_n0 {G G' : (Nat → Int32 → Int32 → PH → Option Rs) × (Nat → Int32 → Int32 → PH → Option Rs)} (hg2 : ∀ a0 a1 a2 a3, Mo ((G).1 a0 a1 a2 a3) ((G').1 a0 a1 a2 a3)) (hg32 : ∀ a0 a1 a2 a3, Mo ((G).2 a0 a1 a2 a3) ((G').2 a0 a1 a2 a3)) (t : Nat) (x1 : Int32) (h : PH) : Mo (X12_looks_g0 G t x1 h) (X12_looks_g0 G' t x1 h) := X12_looks_m0 hg2 t x1 h
theorem X12_looks_n2 {G G' : (Nat → Int32 → Int32 → PH → Option Rs) × (Nat → Int32 → Int32 → PH → Option Rs)} (hg2 : ∀ a0 a1 a2 a3, Mo ((G).1 a0 a1 a2 a3) ((G').1 a0 a1 a2 a3)) (hg32 : ∀ a0 a1 a2 a3, Mo ((G).2 a0 a1 a2 a3) ((G').2 a0 a1 a2 a3)) (t : Nat) (x1 : Int32) (x2 : Int32) (h : PH) : Mo (X12_looks_g2 G t x1 x2 h) (X12_looks_g2 G' t x1 x2 h) := X12_looks_m2 hg2 hg32 t x1 x2 h
theorem X12_looks_n70 {G G' : (Nat → Int32 → Int32 → PH → Option Rs) × (Nat → Int32 → Int32 → PH → Option Rs)} (hg2 : ∀ a0 a1 a2 a3, Mo ((G).1 a0 a1 a2 a3) ((G').1 a0 a1 a2 a3)) (hg32 : ∀ a0 a1 a2 a3, Mo ((G).2 a0 a1 a2 a3) ((G').2 a0 a1 a2 a3)) (t : Nat) (x1 : Int32) (x2 : Int32) (s0 : Int32) (s1 : Int32) (s2 : Nat) (h : PH) : Mo (X12_looks_g70 G t x1 x2 s0 s1 s2 h) (X12_looks_g70 G' t x1 x2 s0 s1 s2 h) := X12_looks_m70 hg32 t x1 x2 s0 s1 s2 h
theorem X12_looks_n32 {G G' : (Nat → Int32 → Int32 → PH → Option Rs) × (Nat → Int32 → Int32 → PH → Option Rs)} (hg2 : ∀ a0 a1 a2 a3, Mo ((G).1 a0 a1 a2 a3) ((G').1 a0 a1 a2 a3)) (hg32 : ∀ a0 a1 a2 a3, Mo ((G).2 a0 a1 a2 a3) ((G').2 a0 a1 a2 a3)) (t : Nat) (x1 : Int32) (x2 : Int32) (h : PH) : Mo (X12_looks_g32 G t x1 x2 h) (X12_looks_g32 G' t x1 x2 h) := X12_looks_m32 (fun a0 a1 a2 a3 a4 a5 a6 => X12_looks_n70 hg2 hg32 a0 a1 a2 a3 a4 a5 a6) t x1 x2 h
theorem X12_looks_fm : ∀ n, (∀ a0 a1 a2 a3, Mo ((X12_looks_fam n).1 a0 a1 a2 a3) ((X12_looks_fam (n + 1)).1 a0 a1 a2 a3)) ∧ (∀ a0 a1 a2 a3, Mo ((X12_looks_fam n).2 a0 a1 a2 a3) ((X12_looks_fam (n + 1)).2 a0 a1 a2 a3))
  | 0 => ⟨fun _ _ _ _ => mo_no, fun _ _ _ _ => mo_no⟩
  | n + 1 => by
    obtain ⟨ih2, ih32⟩ := X12_looks_fm n
    exact ⟨fun a0 a1 a2 a3 => X12_looks_n2 ih2 ih32 a0 a1 a2 a3, fun a0 a1 a2 a3 => X12_looks_n32 ih2 ih32 a0 a1 a2 a3⟩
noncomputable def X12_looks (t : Nat) (x1 : Int32) (h : PH) : Option Rs := lim (fun n => X12_looks_g0 (X12_looks_fam n) t x1 h)
theorem X12_looks_iff {t : Nat} {x1 : Int32} {h : PH} {r : Rs} : X12_looks t x1 h = some r ↔ ∃ n, X12_looks_g0 (X12_looks_fam n) t x1 h = some r := lim_iff (fun n => by
  obtain ⟨ih2, ih32⟩ := X12_looks_fm n
  exact X12_looks_n0 ih2 ih32 t x1 h)
noncomputable abbrev X12_looks_F : List PV → PH → Option Rs := FW_T11I (X12_looks)
set_option maxRecDepth 100000 in
theorem X12_looks_gd (l : Launch) : Gd l 3 yX12_looks cX12_looks 3 none (X12_looks_F)   := Gd_of (by decide +kernel) (fun z hzl as h r e => by
  obtain ⟨hst, e⟩ := gL_of e
  obtain ⟨t, q0, e⟩ := gT_of e
  obtain ⟨x1, q1, e⟩ := gI_of e
  rw [st_2 hst q0 q1]
  obtain ⟨n, e⟩ := lim_of e
  obtain ⟨hG2, hG32⟩ := X12_looks_k (z := z) n
  exact ⟨show 2 ≤ 3 by decide, X12_looks_s0 hG2 _ _ _ _ ((X12_looks_l0 (X12_looks_fam n).1 t x1 h).trans e)⟩)
