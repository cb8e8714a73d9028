abbrev X12_walks_x (z : CZ) : CX := mx RX12 cX12_walks 8 5 none "walks" z
noncomputable def X12_walks_b0 (k2 : Kn) : Kn := (a_ic 0 (a_is 3 k2))
set_option maxRecDepth 100000 in
theorem X12_walks_s0 {z : CZ} {k2 : Kn} (hk2 : SK (X12_walks_x z) 2 k2) : SK (X12_walks_x z) 0 (X12_walks_b0 k2) := (s_iconst (pc := 0) dX12_walks_0 c_ic_0 (s_istoren (pc := 1) dX12_walks_1 rfl (show 3 < 8 by decide) hk2))
noncomputable def X12_walks_b2 (k2 k56 : Kn) : Kn := (a_il 3 (a_ic 96 (a_lt (a_al 0 (a_gR 11 736 57 (a_il 3 (a_ic 0 (a_ast 57 3648 (vp_nar .boolean) (a_inc 3 1 k2)))))) (a_al 0 (a_ic 0 (a_pI 11 731 (a_al 0 (a_ic 0 (a_pI 11 732 (a_al 0 (a_ic 0 (a_pI 11 733 (a_al 0 (a_ic (-1) (a_pI 11 734 (a_al 0 (a_gR 11 735 56 (a_ic 0 (a_il 1 (a_ast 56 3584 (fun a => a) (a_il 1 (a_is 3 (a_ic (-1) (a_is 4 (a_ic (-1) (a_is 5 k56))))))))))))))))))))))))))
set_option maxRecDepth 100000 in
theorem X12_walks_s2 {z : CZ} {k2 k56 : Kn} (hk2 : SK (X12_walks_x z) 2 k2) (hk56 : SK (X12_walks_x z) 56 k56) : SK (X12_walks_x z) 2 (X12_walks_b2 k2 k56) := (s_iloadn (pc := 2) dX12_walks_2 rfl (s_bipush (pc := 3) dX12_walks_3 c_bp_96 (s_cmpge (pc := 5) dX12_walks_5 (by decide) (s_aloadn (pc := 21) dX12_walks_21 rfl (s_iconst (pc := 22) dX12_walks_22 c_ic_0 (s_pI (pc := 23) (f := 27) ko_11 (by decide) rfl rfl rfl (by decide +kernel) w_1322 dX12_walks_23 (s_aloadn (pc := 26) dX12_walks_26 rfl (s_iconst (pc := 27) dX12_walks_27 c_ic_0 (s_pI (pc := 28) (f := 28) ko_11 (by decide) rfl rfl rfl (by decide +kernel) w_1323 dX12_walks_28 (s_aloadn (pc := 31) dX12_walks_31 rfl (s_iconst (pc := 32) dX12_walks_32 c_ic_0 (s_pI (pc := 33) (f := 29) ko_11 (by decide) rfl rfl rfl (by decide +kernel) w_1324 dX12_walks_33 (s_aloadn (pc := 36) dX12_walks_36 rfl (s_iconst (pc := 37) dX12_walks_37 c_ic_m1 (s_pI (pc := 38) (f := 30) ko_11 (by decide) rfl rfl rfl (by decide +kernel) w_1325 dX12_walks_38 (s_aloadn (pc := 41) dX12_walks_41 rfl (s_gR (pc := 42) (f := 31) ko_11 (by decide) rfl rfl w_1326 dX12_walks_42 (s_iconst (pc := 45) dX12_walks_45 c_ic_0 (s_iloadn (pc := 46) dX12_walks_46 rfl (s_iast (pc := 47) (by decide) (by decide) rfl rfl rfl dX12_walks_47 (s_iloadn (pc := 48) dX12_walks_48 rfl (s_istoren (pc := 49) dX12_walks_49 rfl (show 3 < 8 by decide) (s_iconst (pc := 50) dX12_walks_50 c_ic_m1 (s_istore (pc := 51) dX12_walks_51 (show 4 < 8 by decide) (s_iconst (pc := 53) dX12_walks_53 c_ic_m1 (s_istore (pc := 54) dX12_walks_54 (show 5 < 8 by decide) hk56))))))))))))))))))))))) (s_aloadn (pc := 8) dX12_walks_8 rfl (s_gR (pc := 9) (f := 32) ko_11 (by decide) rfl rfl w_1327 dX12_walks_9 (s_iloadn (pc := 12) dX12_walks_12 rfl (s_iconst (pc := 13) dX12_walks_13 c_ic_0 (s_zast (pc := 14) (by decide) (by decide) rfl rfl rfl dX12_walks_14 (s_iinc (pc := 15) dX12_walks_15 c_ic_1 (show 3 < 8 by decide) (s_goto (pc := 18) dX12_walks_18 (by decide) hk2))))))))))
noncomputable def X12_walks_b56 (c_X12_placeOf : Nat → Int32 → PH → Option Rs) (c_X12_toldAt : Nat → Int32 → Int32 → PH → Option Rs) (c_X12_passFrom : Nat → Int32 → Int32 → PH → Option Rs) (k111 k118 k120 : Kn) : Kn := (a_al 0 (a_gI 11 731 (a_z (a_al 0 (a_il 2 (a_vI 11 1 (FW_T11I c_X12_placeOf) (a_il 3 (a_eq (a_al 0 (a_ic 1 (a_pI 11 731 a_vr))) (a_al 0 (a_il 3 (a_il 2 (a_vI 11 2 (FW_T11II c_X12_toldAt) (a_is 6 (a_il 6 (a_n (a_il 4 (a_n k111 (a_al 0 (a_il 3 (a_il 4 (a_vI 11 2 (FW_T11II c_X12_passFrom) (a_n k111 (a_il 4 k118)))))))) k120)))))))))))) a_vr)))
set_option maxRecDepth 100000 in
theorem X12_walks_s56 {z : CZ} {k111 k118 k120 : Kn} (hk111 : SK (X12_walks_x z) 111 k111) (hk118 : SK (X12_walks_x z) 118 k118) (hk120 : SK (X12_walks_x z) 120 k120) : SK (X12_walks_x z) 56 (X12_walks_b56 X12_placeOf X12_toldAt X12_passFrom k111 k118 k120) := (s_aloadn (pc := 56) dX12_walks_56 rfl (s_gI (pc := 57) (f := 27) ko_11 (by decide) rfl rfl w_1322 dX12_walks_57 (s_ifne (pc := 60) dX12_walks_60 (by decide) (s_vr (pc := 249) rfl dX12_walks_249) (s_aloadn (pc := 63) dX12_walks_63 rfl (s_iloadn (pc := 64) dX12_walks_64 rfl (s_vI (pc := 65) (run_virtual (X12_placeOf_gd _) (show 0 < 5 by decide) cy_X12_placeOf (by decide) rfl w_1509 w_s35 w_1507 dX12_walks_65) (s_iloadn (pc := 68) dX12_walks_68 rfl (s_cmpne (pc := 69) dX12_walks_69 (by decide) (s_aloadn (pc := 78) dX12_walks_78 rfl (s_iloadn (pc := 79) dX12_walks_79 rfl (s_iloadn (pc := 80) dX12_walks_80 rfl (s_vI (pc := 81) (run_virtual (X12_toldAt_gd _) (show 4 < 5 by decide) cy_X12_toldAt (by decide) rfl w_1710 w_s62 w_1708 dX12_walks_81) (s_istore (pc := 84) dX12_walks_84 (show 6 < 8 by decide) (s_iload (pc := 86) dX12_walks_86 (s_ifge (pc := 88) dX12_walks_88 (by decide) hk120 (s_iload (pc := 91) dX12_walks_91 (s_iflt (pc := 93) dX12_walks_93 (by decide) hk111 (s_aloadn (pc := 96) dX12_walks_96 rfl (s_iloadn (pc := 97) dX12_walks_97 rfl (s_iload (pc := 98) dX12_walks_98 (s_vI (pc := 100) (run_virtual (X12_passFrom_gd _) (show 1 < 5 by decide) cy_X12_passFrom (by decide) rfl w_1694 w_s59 w_1692 dX12_walks_100) (s_iflt (pc := 103) dX12_walks_103 (by decide) hk111 (s_iload (pc := 106) dX12_walks_106 (s_goto (pc := 108) dX12_walks_108 (by decide) hk118)))))))))))))))) (s_aloadn (pc := 72) dX12_walks_72 rfl (s_iconst (pc := 73) dX12_walks_73 c_ic_1 (s_pI (pc := 74) (f := 27) ko_11 (by decide) rfl rfl rfl (by decide +kernel) w_1322 dX12_walks_74 (s_vr (pc := 77) rfl dX12_walks_77))))))))))))
noncomputable def X12_walks_b111 (c_X12_onlyFrom : Nat → Int32 → Int32 → PH → Option Rs) (k118 : Kn) : Kn := (a_al 0 (a_il 3 (a_il 5 (a_vI 11 2 (FW_T11II c_X12_onlyFrom) k118))))
set_option maxRecDepth 100000 in
theorem X12_walks_s111 {z : CZ} {k118 : Kn} (hk118 : SK (X12_walks_x z) 118 k118) : SK (X12_walks_x z) 111 (X12_walks_b111 X12_onlyFrom k118) := (s_aloadn (pc := 111) dX12_walks_111 rfl (s_iloadn (pc := 112) dX12_walks_112 rfl (s_iload (pc := 113) dX12_walks_113 (s_vI (pc := 115) (run_virtual (X12_onlyFrom_gd _) (show 2 < 5 by decide) cy_X12_onlyFrom (by decide) rfl w_1722 w_s65 w_1720 dX12_walks_115) hk118))))
noncomputable def X12_walks_b118 (k120 : Kn) : Kn := (a_is 6 k120)
set_option maxRecDepth 100000 in
theorem X12_walks_s118 {z : CZ} {k120 : Kn} (hk120 : SK (X12_walks_x z) 120 k120) : SK (X12_walks_x z) 118 (X12_walks_b118 k120) := (s_istore (pc := 118) dX12_walks_118 (show 6 < 8 by decide) hk120)
noncomputable def X12_walks_b120 (c_X12_passFrom : Nat → Int32 → Int32 → PH → Option Rs) (k136 : Kn) : Kn := (a_il 6 (a_n (a_ic (-1) k136) (a_al 0 (a_il 3 (a_il 6 (a_vI 11 2 (FW_T11II c_X12_passFrom) k136))))))
set_option maxRecDepth 100000 in
theorem X12_walks_s120 {z : CZ} {k136 : Kn} (hk136 : SK (X12_walks_x z) 136 k136) : SK (X12_walks_x z) 120 (X12_walks_b120 X12_passFrom k136) := (s_iload (pc := 120) dX12_walks_120 (s_ifge (pc := 122) dX12_walks_122 (by decide) (s_aloadn (pc := 129) dX12_walks_129 rfl (s_iloadn (pc := 130) dX12_walks_130 rfl (s_iload (pc := 131) dX12_walks_131 (s_vI (pc := 133) (run_virtual (X12_passFrom_gd _) (show 1 < 5 by decide) cy_X12_passFrom (by decide) rfl w_1694 w_s59 w_1692 dX12_walks_133) hk136)))) (s_iconst (pc := 125) dX12_walks_125 c_ic_m1 (s_goto (pc := 126) dX12_walks_126 (by decide) hk136))))
noncomputable def X12_walks_b136 (c_X12_otherEnd : Nat → Int32 → Int32 → PH → Option Rs) (k222 : Kn) : Kn := (a_is 7 (a_il 7 (a_n (a_al 0 (a_ic 2 (a_pI 11 731 a_vr))) (a_al 0 (a_dup (a_gI 11 732 (a_al 0 (a_gR 11 704 41 (a_ic 15 (a_ic 6 (a_il 7 (a_b (fun a b => a * b) (a_b (fun a b => a + b) (a_ic 4 (a_b (fun a b => a + b) (a_ald 41 2624 (a_b (fun a b => a + b) (a_pI 11 732 (a_al 0 (a_il 7 (a_il 3 (a_vI 11 2 (FW_T11II c_X12_otherEnd) (a_is 3 (a_al 0 (a_dup (a_gI 11 733 (a_ic 1 (a_b (fun a b => a + b) (a_pI 11 733 (a_al 0 (a_gR 11 735 56 (a_al 0 (a_gI 11 733 (a_il 3 (a_ast 56 3584 (fun a => a) (a_al 0 (a_al 0 (a_gR 11 736 57 (a_ic 8 (a_il 3 (a_b (fun a b => a * b) (a_il 6 (a_b (fun a b => a + b) (a_ald 57 3648 (a_z (a_ic 0 k222) (a_ic 3 k222))))))))))))))))))))))))))))))))))))))))))))))
set_option maxRecDepth 100000 in
theorem X12_walks_s136 {z : CZ} {k222 : Kn} (hk222 : SK (X12_walks_x z) 222 k222) : SK (X12_walks_x z) 136 (X12_walks_b136 X12_otherEnd k222) := (s_istore (pc := 136) dX12_walks_136 (show 7 < 8 by decide) (s_iload (pc := 138) dX12_walks_138 (s_ifge (pc := 140) dX12_walks_140 (by decide) (s_aloadn (pc := 149) dX12_walks_149 rfl (s_dup (pc := 150) dX12_walks_150 (s_gI (pc := 151) (f := 28) ko_11 (by decide) rfl rfl w_1323 dX12_walks_151 (s_aloadn (pc := 154) dX12_walks_154 rfl (s_gR (pc := 155) (f := 0) ko_11 (by decide) rfl rfl w_1295 dX12_walks_155 (s_bipush (pc := 158) dX12_walks_158 c_bp_15 (s_bipush (pc := 160) dX12_walks_160 c_bp_6 (s_iload (pc := 162) dX12_walks_162 (s_imul (pc := 164) dX12_walks_164 (s_iadd (pc := 165) dX12_walks_165 (s_iconst (pc := 166) dX12_walks_166 c_ic_4 (s_iadd (pc := 167) dX12_walks_167 (s_iald (pc := 168) (by decide) (by decide) rfl rfl rfl dX12_walks_168 (s_iadd (pc := 169) dX12_walks_169 (s_pI (pc := 170) (f := 28) ko_11 (by decide) rfl rfl rfl (by decide +kernel) w_1323 dX12_walks_170 (s_aloadn (pc := 173) dX12_walks_173 rfl (s_iload (pc := 174) dX12_walks_174 (s_iloadn (pc := 176) dX12_walks_176 rfl (s_vI (pc := 177) (run_virtual (X12_otherEnd_gd _) (show 0 < 5 by decide) cy_X12_otherEnd (by decide) rfl w_1698 w_s60 w_1696 dX12_walks_177) (s_istoren (pc := 180) dX12_walks_180 rfl (show 3 < 8 by decide) (s_aloadn (pc := 181) dX12_walks_181 rfl (s_dup (pc := 182) dX12_walks_182 (s_gI (pc := 183) (f := 29) ko_11 (by decide) rfl rfl w_1324 dX12_walks_183 (s_iconst (pc := 186) dX12_walks_186 c_ic_1 (s_iadd (pc := 187) dX12_walks_187 (s_pI (pc := 188) (f := 29) ko_11 (by decide) rfl rfl rfl (by decide +kernel) w_1324 dX12_walks_188 (s_aloadn (pc := 191) dX12_walks_191 rfl (s_gR (pc := 192) (f := 31) ko_11 (by decide) rfl rfl w_1326 dX12_walks_192 (s_aloadn (pc := 195) dX12_walks_195 rfl (s_gI (pc := 196) (f := 29) ko_11 (by decide) rfl rfl w_1324 dX12_walks_196 (s_iloadn (pc := 199) dX12_walks_199 rfl (s_iast (pc := 200) (by decide) (by decide) rfl rfl rfl dX12_walks_200 (s_aloadn (pc := 201) dX12_walks_201 rfl (s_aloadn (pc := 202) dX12_walks_202 rfl (s_gR (pc := 203) (f := 32) ko_11 (by decide) rfl rfl w_1327 dX12_walks_203 (s_bipush (pc := 206) dX12_walks_206 c_bp_8 (s_iloadn (pc := 208) dX12_walks_208 rfl (s_imul (pc := 209) dX12_walks_209 (s_iload (pc := 210) dX12_walks_210 (s_iadd (pc := 212) dX12_walks_212 (s_zald (pc := 213) (by decide) (by decide) rfl rfl rfl dX12_walks_213 (s_ifeq (pc := 214) dX12_walks_214 (by decide) (s_iconst (pc := 221) dX12_walks_221 c_ic_0 hk222) (s_iconst (pc := 217) dX12_walks_217 c_ic_3 (s_goto (pc := 218) dX12_walks_218 (by decide) hk222)))))))))))))))))))))))))))))))))))))))))))) (s_aloadn (pc := 143) dX12_walks_143 rfl (s_iconst (pc := 144) dX12_walks_144 c_ic_2 (s_pI (pc := 145) (f := 27) ko_11 (by decide) rfl rfl rfl (by decide +kernel) w_1322 dX12_walks_145 (s_vr (pc := 148) rfl dX12_walks_148)))))))
noncomputable def X12_walks_b222 (k56 : Kn) : Kn := (a_pI 11 731 (a_al 0 (a_gR 11 736 57 (a_ic 8 (a_il 3 (a_b (fun a b => a * b) (a_il 6 (a_b (fun a b => a + b) (a_ic 1 (a_ast 57 3648 (vp_nar .boolean) (a_il 6 (a_is 4 (a_il 7 (a_is 5 k56))))))))))))))
set_option maxRecDepth 100000 in
theorem X12_walks_s222 {z : CZ} {k56 : Kn} (hk56 : SK (X12_walks_x z) 56 k56) : SK (X12_walks_x z) 222 (X12_walks_b222 k56) := (s_pI (pc := 222) (f := 27) ko_11 (by decide) rfl rfl rfl (by decide +kernel) w_1322 dX12_walks_222 (s_aloadn (pc := 225) dX12_walks_225 rfl (s_gR (pc := 226) (f := 32) ko_11 (by decide) rfl rfl w_1327 dX12_walks_226 (s_bipush (pc := 229) dX12_walks_229 c_bp_8 (s_iloadn (pc := 231) dX12_walks_231 rfl (s_imul (pc := 232) dX12_walks_232 (s_iload (pc := 233) dX12_walks_233 (s_iadd (pc := 235) dX12_walks_235 (s_iconst (pc := 236) dX12_walks_236 c_ic_1 (s_zast (pc := 237) (by decide) (by decide) rfl rfl rfl dX12_walks_237 (s_iload (pc := 238) dX12_walks_238 (s_istore (pc := 240) dX12_walks_240 (show 4 < 8 by decide) (s_iload (pc := 242) dX12_walks_242 (s_istore (pc := 244) dX12_walks_244 (show 5 < 8 by decide) (s_goto (pc := 246) dX12_walks_246 (by decide) hk56)))))))))))))))
noncomputable def X12_walks_u2 (g : Nat → Int32 → Int32 → Int32 → PH → Option Rs) : Kn := fun ls st h => gL 0 st (gT 11 ls 0 fun t => gI ls 1 fun x1 => gI ls 2 fun x2 => gI ls 3 fun x3 => g t x1 x2 x3 h)
noncomputable def X12_walks_u56 (g : Nat → Int32 → Int32 → Int32 → Int32 → PH → Option Rs) : Kn := fun ls st h => gL 0 st (gT 11 ls 0 fun t => gI ls 2 fun x2 => gI ls 3 fun x3 => gI ls 4 fun x4 => gI ls 5 fun x5 => g t x2 x3 x4 x5 h)
noncomputable def X12_walks_u111 (g : Nat → Int32 → Int32 → Int32 → PH → Option Rs) : Kn := fun ls st h => gL 0 st (gT 11 ls 0 fun t => gI ls 2 fun x2 => gI ls 3 fun x3 => gI ls 5 fun x5 => g t x2 x3 x5 h)
noncomputable def X12_walks_u118 (g : Nat → Int32 → Int32 → Int32 → PH → Option Rs) : Kn := fun ls st h => gL 1 st (gT 11 ls 0 fun t => gI ls 2 fun x2 => gI ls 3 fun x3 => gI (st.map some) 0 fun s0 => g t x2 x3 s0 h)
noncomputable def X12_walks_u120 (g : Nat → Int32 → Int32 → Int32 → PH → Option Rs) : Kn := fun ls st h => gL 0 st (gT 11 ls 0 fun t => gI ls 2 fun x2 => gI ls 3 fun x3 => gI ls 6 fun x6 => g t x2 x3 x6 h)
noncomputable def X12_walks_u136 (g : Nat → Int32 → Int32 → Int32 → Int32 → PH → Option Rs) : Kn := fun ls st h => gL 1 st (gT 11 ls 0 fun t => gI ls 2 fun x2 => gI ls 3 fun x3 => gI ls 6 fun x6 => gI (st.map some) 0 fun s0 => g t x2 x3 x6 s0 h)
noncomputable def X12_walks_u222 (g : Nat → Int32 → Int32 → Int32 → Int32 → Int32 → Nat → PH → Option Rs) : Kn := fun ls st h => gL 2 st (gT 11 ls 0 fun t => gI ls 2 fun x2 => gI ls 3 fun x3 => gI ls 6 fun x6 => gI ls 7 fun x7 => gI (st.map some) 0 fun s0 => gT 11 (st.map some) 1 fun s1 => g t x2 x3 x6 x7 s0 s1 h)
noncomputable def X12_walks_f0 (g2 : Nat → Int32 → Int32 → Int32 → PH → Option Rs) (t : Nat) (x1 : Int32) (x2 : Int32) (h : PH) : Option Rs :=
  g2 t x1 x2 0 h
set_option maxRecDepth 100000 in
theorem X12_walks_l0 (g2 : Nat → Int32 → Int32 → Int32 → PH → Option Rs) (t : Nat) (x1 : Int32) (x2 : Int32) (h : PH) : X12_walks_b0 (X12_walks_u2 g2) [some (.inr (11, t + 1)), some (.inl x1), some (.inl x2), none, none, none, none, none] [] h = X12_walks_f0 g2 t x1 x2 h := rfl
theorem X12_walks_m0 {g2 G2 : Nat → Int32 → Int32 → Int32 → PH → Option Rs} (hg2 : ∀ a0 a1 a2 a3 a4, Mo (g2 a0 a1 a2 a3 a4) (G2 a0 a1 a2 a3 a4)) (t : Nat) (x1 : Int32) (x2 : Int32) (h : PH) : Mo (X12_walks_f0 g2 t x1 x2 h) (X12_walks_f0 G2 t x1 x2 h) := (hg2 t x1 x2 0 h)
noncomputable def X12_walks_f2 (g2 : Nat → Int32 → Int32 → Int32 → PH → Option Rs) (g56 : Nat → Int32 → Int32 → Int32 → Int32 → PH → Option Rs) (t : Nat) (x1 : Int32) (x2 : Int32) (x3 : Int32) (h : PH) : Option Rs :=
  if x3 < 96 then
    nn (hR h 736 t 0) fun r8 =>
    ix x3 (hL h 57 r8) fun j9 =>
    wr (pI h 3648 r8 j9 (vp_nar .boolean 0)) fun h10 =>
    g2 t x1 x2 (x3 + 1) h10
  else
    wr (pI h 731 t 0 0) fun h1 =>
    wr (pI h1 732 t 0 0) fun h2 =>
    wr (pI h2 733 t 0 0) fun h3 =>
    wr (pI h3 734 t 0 (-1)) fun h4 =>
    nn (hR h4 735 t 0) fun r5 =>
    ix 0 (hL h4 56 r5) fun j6 =>
    wr (pI h4 3584 r5 j6 x1) fun h7 =>
    g56 t x2 x1 (-1) (-1) h7
set_option maxRecDepth 100000 in
theorem X12_walks_l2 (g2 : Nat → Int32 → Int32 → Int32 → PH → Option Rs) (g56 : Nat → Int32 → Int32 → Int32 → Int32 → PH → Option Rs) (t : Nat) (x1 : Int32) (x2 : Int32) (x3 : Int32) (h : PH) : X12_walks_b2 (X12_walks_u2 g2) (X12_walks_u56 g56) [some (.inr (11, t + 1)), some (.inl x1), some (.inl x2), some (.inl x3), none, none, none, none] [] h = X12_walks_f2 g2 g56 t x1 x2 x3 h := rfl
theorem X12_walks_m2 {g2 G2 : Nat → Int32 → Int32 → Int32 → PH → Option Rs} {g56 G56 : Nat → Int32 → Int32 → Int32 → Int32 → PH → Option Rs} (hg2 : ∀ a0 a1 a2 a3 a4, Mo (g2 a0 a1 a2 a3 a4) (G2 a0 a1 a2 a3 a4)) (hg56 : ∀ a0 a1 a2 a3 a4 a5, Mo (g56 a0 a1 a2 a3 a4 a5) (G56 a0 a1 a2 a3 a4 a5)) (t : Nat) (x1 : Int32) (x2 : Int32) (x3 : Int32) (h : PH) : Mo (X12_walks_f2 g2 g56 t x1 x2 x3 h) (X12_walks_f2 G2 G56 t x1 x2 x3 h) := (mo_if (mo_nn fun r8 => (mo_ix fun j9 => (mo_wr fun h10 => (hg2 t x1 x2 (x3 + 1) h10)))) (mo_wr fun h1 => (mo_wr fun h2 => (mo_wr fun h3 => (mo_wr fun h4 => (mo_nn fun r5 => (mo_ix fun j6 => (mo_wr fun h7 => (hg56 t x2 x1 (-1) (-1) h7)))))))))
theorem X12_walks_w2 {z : CZ} {g2 : Nat → Int32 → Int32 → Int32 → PH → Option Rs} {g56 : Nat → Int32 → Int32 → Int32 → Int32 → PH → Option Rs} (hk2 : SK (X12_walks_x z) 2 (X12_walks_u2 g2)) (hk56 : SK (X12_walks_x z) 56 (X12_walks_u56 g56)) : SK (X12_walks_x z) 2 (X12_walks_u2 (X12_walks_f2 g2 g56)) := by
  intro ls st h r e
  obtain ⟨hst, e⟩ := gL_of e
  obtain ⟨t, q0, e⟩ := gT_of e
  obtain ⟨x1, q1, e⟩ := gI_of e
  obtain ⟨x2, q2, e⟩ := gI_of e
  obtain ⟨x3, q3, e⟩ := gI_of e
  rw [st_0 hst]
  exact WK.sub (canon := [some (.inr (11, t + 1)), some (.inl x1), some (.inl x2), some (.inl x3), none, none, none, none]) rfl ⟨q0, q1, q2, q3, trivial⟩ (X12_walks_s2 hk2 hk56 _ _ _ _ ((X12_walks_l2 g2 g56 t x1 x2 x3 h).trans e))
noncomputable def X12_walks_f56 (c_X12_placeOf : Nat → Int32 → PH → Option Rs) (c_X12_toldAt : Nat → Int32 → Int32 → PH → Option Rs) (c_X12_passFrom : Nat → Int32 → Int32 → PH → Option Rs) (g111 : Nat → Int32 → Int32 → Int32 → PH → Option Rs) (g118 : Nat → Int32 → Int32 → Int32 → PH → Option Rs) (g120 : Nat → Int32 → Int32 → Int32 → PH → Option Rs) (t : Nat) (x2 : Int32) (x3 : Int32) (x4 : Int32) (x5 : Int32) (h : PH) : Option Rs :=
  if (hI h 731 t 0) = 0 then
    cI (c_X12_placeOf t x2 h) fun v12 h11 =>
    if v12 = x3 then
      wr (pI h11 731 t 0 1) fun h17 =>
      some (none, h17)
    else
      cI (c_X12_toldAt t x3 x2 h11) fun v14 h13 =>
      if v14 < 0 then
        if x4 < 0 then
          g111 t x2 x3 x5 h13
        else
          cI (c_X12_passFrom t x3 x4 h13) fun v16 h15 =>
          if v16 < 0 then
            g111 t x2 x3 x5 h15
          else
            g118 t x2 x3 x4 h15
      else
        g120 t x2 x3 v14 h13
  else
    some (none, h)
set_option maxRecDepth 100000 in
theorem X12_walks_l56 (c_X12_placeOf : Nat → Int32 → PH → Option Rs) (c_X12_toldAt : Nat → Int32 → Int32 → PH → Option Rs) (c_X12_passFrom : Nat → Int32 → Int32 → PH → Option Rs) (g111 : Nat → Int32 → Int32 → Int32 → PH → Option Rs) (g118 : Nat → Int32 → Int32 → Int32 → PH → Option Rs) (g120 : Nat → Int32 → Int32 → Int32 → PH → Option Rs) (t : Nat) (x2 : Int32) (x3 : Int32) (x4 : Int32) (x5 : Int32) (h : PH) : X12_walks_b56 c_X12_placeOf c_X12_toldAt c_X12_passFrom (X12_walks_u111 g111) (X12_walks_u118 g118) (X12_walks_u120 g120) [some (.inr (11, t + 1)), none, some (.inl x2), some (.inl x3), some (.inl x4), some (.inl x5), none, none] [] h = X12_walks_f56 c_X12_placeOf c_X12_toldAt c_X12_passFrom g111 g118 g120 t x2 x3 x4 x5 h := rfl
theorem X12_walks_m56 {c_X12_placeOf : Nat → Int32 → PH → Option Rs} {c_X12_toldAt : Nat → Int32 → Int32 → PH → Option Rs} {c_X12_passFrom : Nat → Int32 → Int32 → PH → Option Rs} {g111 G111 : Nat → Int32 → Int32 → Int32 → PH → Option Rs} {g118 G118 : Nat → Int32 → Int32 → Int32 → PH → Option Rs} {g120 G120 : Nat → Int32 → Int32 → Int32 → PH → Option Rs} (hg111 : ∀ a0 a1 a2 a3 a4, Mo (g111 a0 a1 a2 a3 a4) (G111 a0 a1 a2 a3 a4)) (hg118 : ∀ a0 a1 a2 a3 a4, Mo (g118 a0 a1 a2 a3 a4) (G118 a0 a1 a2 a3 a4)) (hg120 : ∀ a0 a1 a2 a3 a4, Mo (g120 a0 a1 a2 a3 a4) (G120 a0 a1 a2 a3 a4)) (t : Nat) (x2 : Int32) (x3 : Int32) (x4 : Int32) (x5 : Int32) (h : PH) : Mo (X12_walks_f56 c_X12_placeOf c_X12_toldAt c_X12_passFrom g111 g118 g120 t x2 x3 x4 x5 h) (X12_walks_f56 c_X12_placeOf c_X12_toldAt c_X12_passFrom G111 G118 G120 t x2 x3 x4 x5 h) := (mo_if (mo_cI fun v12 h11 => (mo_if (mo_wr fun h17 => mo_rf) (mo_cI fun v14 h13 => (mo_if (mo_if (hg111 t x2 x3 x5 h13) (mo_cI fun v16 h15 => (mo_if (hg111 t x2 x3 x5 h15) (hg118 t x2 x3 x4 h15)))) (hg120 t x2 x3 v14 h13))))) mo_rf)
theorem X12_walks_w56 {z : CZ} {g111 : Nat → Int32 → Int32 → Int32 → PH → Option Rs} {g118 : Nat → Int32 → Int32 → Int32 → PH → Option Rs} {g120 : Nat → Int32 → Int32 → Int32 → PH → Option Rs} (hk111 : SK (X12_walks_x z) 111 (X12_walks_u111 g111)) (hk118 : SK (X12_walks_x z) 118 (X12_walks_u118 g118)) (hk120 : SK (X12_walks_x z) 120 (X12_walks_u120 g120)) : SK (X12_walks_x z) 56 (X12_walks_u56 (X12_walks_f56 X12_placeOf X12_toldAt X12_passFrom g111 g118 g120)) := by
  intro ls st h r e
  obtain ⟨hst, e⟩ := gL_of e
  obtain ⟨t, q0, e⟩ := gT_of e
  obtain ⟨x2, q1, e⟩ := gI_of e
  obtain ⟨x3, q2, e⟩ := gI_of e
  obtain ⟨x4, q3, e⟩ := gI_of e
  obtain ⟨x5, q4, e⟩ := gI_of e
  rw [st_0 hst]
  exact WK.sub (canon := [some (.inr (11, t + 1)), none, some (.inl x2), some (.inl x3), some (.inl x4), some (.inl x5), none, none]) rfl ⟨q0, q1, q2, q3, q4, trivial⟩ (X12_walks_s56 hk111 hk118 hk120 _ _ _ _ ((X12_walks_l56 X12_placeOf X12_toldAt X12_passFrom g111 g118 g120 t x2 x3 x4 x5 h).trans e))
noncomputable def X12_walks_f111 (c_X12_onlyFrom : Nat → Int32 → Int32 → PH → Option Rs) (g118 : Nat → Int32 → Int32 → Int32 → PH → Option Rs) (t : Nat) (x2 : Int32) (x3 : Int32) (x5 : Int32) (h : PH) : Option Rs :=
  cI (c_X12_onlyFrom t x3 x5 h) fun v19 h18 =>
  g118 t x2 x3 v19 h18
set_option maxRecDepth 100000 in
theorem X12_walks_l111 (c_X12_onlyFrom : Nat → Int32 → Int32 → PH → Option Rs) (g118 : Nat → Int32 → Int32 → Int32 → PH → Option Rs) (t : Nat) (x2 : Int32) (x3 : Int32) (x5 : Int32) (h : PH) : X12_walks_b111 c_X12_onlyFrom (X12_walks_u118 g118) [some (.inr (11, t + 1)), none, some (.inl x2), some (.inl x3), none, some (.inl x5), none, none] [] h = X12_walks_f111 c_X12_onlyFrom g118 t x2 x3 x5 h := rfl
theorem X12_walks_m111 {c_X12_onlyFrom : Nat → Int32 → Int32 → PH → Option Rs} {g118 G118 : Nat → Int32 → Int32 → Int32 → PH → Option Rs} (hg118 : ∀ a0 a1 a2 a3 a4, Mo (g118 a0 a1 a2 a3 a4) (G118 a0 a1 a2 a3 a4)) (t : Nat) (x2 : Int32) (x3 : Int32) (x5 : Int32) (h : PH) : Mo (X12_walks_f111 c_X12_onlyFrom g118 t x2 x3 x5 h) (X12_walks_f111 c_X12_onlyFrom G118 t x2 x3 x5 h) := (mo_cI fun v19 h18 => (hg118 t x2 x3 v19 h18))
theorem X12_walks_w111 {z : CZ} {g118 : Nat → Int32 → Int32 → Int32 → PH → Option Rs} (hk118 : SK (X12_walks_x z) 118 (X12_walks_u118 g118)) : SK (X12_walks_x z) 111 (X12_walks_u111 (X12_walks_f111 X12_onlyFrom g118)) := by
  intro ls st h r e
  obtain ⟨hst, e⟩ := gL_of e
  obtain ⟨t, q0, e⟩ := gT_of e
  obtain ⟨x2, q1, e⟩ := gI_of e
  obtain ⟨x3, q2, e⟩ := gI_of e
  obtain ⟨x5, q3, e⟩ := gI_of e
  rw [st_0 hst]
  exact WK.sub (canon := [some (.inr (11, t + 1)), none, some (.inl x2), some (.inl x3), none, some (.inl x5), none, none]) rfl ⟨q0, q1, q2, q3, trivial⟩ (X12_walks_s111 hk118 _ _ _ _ ((X12_walks_l111 X12_onlyFrom g118 t x2 x3 x5 h).trans e))
noncomputable def X12_walks_f118 (g120 : Nat → Int32 → Int32 → Int32 → PH → Option Rs) (t : Nat) (x2 : Int32) (x3 : Int32) (s0 : Int32) (h : PH) : Option Rs :=
  g120 t x2 x3 s0 h
set_option maxRecDepth 100000 in
theorem X12_walks_l118 (g120 : Nat → Int32 → Int32 → Int32 → PH → Option Rs) (t : Nat) (x2 : Int32) (x3 : Int32) (s0 : Int32) (h : PH) : X12_walks_b118 (X12_walks_u120 g120) [some (.inr (11, t + 1)), none, some (.inl x2), some (.inl x3), none, none, none, none] [.inl s0] h = X12_walks_f118 g120 t x2 x3 s0 h := rfl
theorem X12_walks_m118 {g120 G120 : Nat → Int32 → Int32 → Int32 → PH → Option Rs} (hg120 : ∀ a0 a1 a2 a3 a4, Mo (g120 a0 a1 a2 a3 a4) (G120 a0 a1 a2 a3 a4)) (t : Nat) (x2 : Int32) (x3 : Int32) (s0 : Int32) (h : PH) : Mo (X12_walks_f118 g120 t x2 x3 s0 h) (X12_walks_f118 G120 t x2 x3 s0 h) := (hg120 t x2 x3 s0 h)
theorem X12_walks_w118 {z : CZ} {g120 : Nat → Int32 → Int32 → Int32 → PH → Option Rs} (hk120 : SK (X12_walks_x z) 120 (X12_walks_u120 g120)) : SK (X12_walks_x z) 118 (X12_walks_u118 (X12_walks_f118 g120)) := by
  intro ls st h r e
  obtain ⟨hst, e⟩ := gL_of e
  obtain ⟨t, q0, e⟩ := gT_of e
  obtain ⟨x2, q1, e⟩ := gI_of e
  obtain ⟨x3, q2, e⟩ := gI_of e
  obtain ⟨s0, q3, e⟩ := gI_of e
  rw [st_1 hst q3]
  exact WK.sub (canon := [some (.inr (11, t + 1)), none, some (.inl x2), some (.inl x3), none, none, none, none]) rfl ⟨q0, q1, q2, trivial⟩ (X12_walks_s118 hk120 _ _ _ _ ((X12_walks_l118 g120 t x2 x3 s0 h).trans e))
noncomputable def X12_walks_f120 (c_X12_passFrom : Nat → Int32 → Int32 → PH → Option Rs) (g136 : Nat → Int32 → Int32 → Int32 → Int32 → PH → Option Rs) (t : Nat) (x2 : Int32) (x3 : Int32) (x6 : Int32) (h : PH) : Option Rs :=
  if x6 < 0 then
    g136 t x2 x3 x6 (-1) h
  else
    cI (c_X12_passFrom t x3 x6 h) fun v21 h20 =>
    g136 t x2 x3 x6 v21 h20
set_option maxRecDepth 100000 in
theorem X12_walks_l120 (c_X12_passFrom : Nat → Int32 → Int32 → PH → Option Rs) (g136 : Nat → Int32 → Int32 → Int32 → Int32 → PH → Option Rs) (t : Nat) (x2 : Int32) (x3 : Int32) (x6 : Int32) (h : PH) : X12_walks_b120 c_X12_passFrom (X12_walks_u136 g136) [some (.inr (11, t + 1)), none, some (.inl x2), some (.inl x3), none, none, some (.inl x6), none] [] h = X12_walks_f120 c_X12_passFrom g136 t x2 x3 x6 h := rfl
theorem X12_walks_m120 {c_X12_passFrom : Nat → Int32 → Int32 → PH → Option Rs} {g136 G136 : Nat → Int32 → Int32 → Int32 → Int32 → PH → Option Rs} (hg136 : ∀ a0 a1 a2 a3 a4 a5, Mo (g136 a0 a1 a2 a3 a4 a5) (G136 a0 a1 a2 a3 a4 a5)) (t : Nat) (x2 : Int32) (x3 : Int32) (x6 : Int32) (h : PH) : Mo (X12_walks_f120 c_X12_passFrom g136 t x2 x3 x6 h) (X12_walks_f120 c_X12_passFrom G136 t x2 x3 x6 h) := (mo_if (hg136 t x2 x3 x6 (-1) h) (mo_cI fun v21 h20 => (hg136 t x2 x3 x6 v21 h20)))
theorem X12_walks_w120 {z : CZ} {g136 : Nat → Int32 → Int32 → Int32 → Int32 → PH → Option Rs} (hk136 : SK (X12_walks_x z) 136 (X12_walks_u136 g136)) : SK (X12_walks_x z) 120 (X12_walks_u120 (X12_walks_f120 X12_passFrom g136)) := by
  intro ls st h r e
  obtain ⟨hst, e⟩ := gL_of e
  obtain ⟨t, q0, e⟩ := gT_of e
  obtain ⟨x2, q1, e⟩ := gI_of e
  obtain ⟨x3, q2, e⟩ := gI_of e
  obtain ⟨x6, q3, e⟩ := gI_of e
  rw [st_0 hst]
  exact WK.sub (canon := [some (.inr (11, t + 1)), none, some (.inl x2), some (.inl x3), none, none, some (.inl x6), none]) rfl ⟨q0, q1, q2, q3, trivial⟩ (X12_walks_s120 hk136 _ _ _ _ ((X12_walks_l120 X12_passFrom g136 t x2 x3 x6 h).trans e))
noncomputable def X12_walks_f136 (c_X12_otherEnd : Nat → Int32 → Int32 → PH → Option Rs) (g222 : Nat → Int32 → Int32 → Int32 → Int32 → Int32 → Nat → PH → Option Rs) (t : Nat) (x2 : Int32) (x3 : Int32) (x6 : Int32) (s0 : Int32) (h : PH) : Option Rs :=
  if s0 < 0 then
    wr (pI h 731 t 0 2) fun h33 =>
    some (none, h33)
  else
    nn (hR h 704 t 0) fun r22 =>
    ix ((15 + (6 * s0)) + 4) (hL h 41 r22) fun j23 =>
    wr (pI h 732 t 0 ((hI h 732 t 0) + (hI h 2624 r22 j23))) fun h24 =>
    cI (c_X12_otherEnd t s0 x3 h24) fun v26 h25 =>
    wr (pI h25 733 t 0 ((hI h25 733 t 0) + 1)) fun h27 =>
    nn (hR h27 735 t 0) fun r28 =>
    ix (hI h27 733 t 0) (hL h27 56 r28) fun j29 =>
    wr (pI h27 3584 r28 j29 v26) fun h30 =>
    nn (hR h30 736 t 0) fun r31 =>
    ix ((8 * v26) + x6) (hL h30 57 r31) fun j32 =>
    if (hI h30 3648 r31 j32) = 0 then
      g222 t x2 v26 x6 s0 0 t h30
    else
      g222 t x2 v26 x6 s0 3 t h30
set_option maxRecDepth 100000 in
theorem X12_walks_l136 (c_X12_otherEnd : Nat → Int32 → Int32 → PH → Option Rs) (g222 : Nat → Int32 → Int32 → Int32 → Int32 → Int32 → Nat → PH → Option Rs) (t : Nat) (x2 : Int32) (x3 : Int32) (x6 : Int32) (s0 : Int32) (h : PH) : X12_walks_b136 c_X12_otherEnd (X12_walks_u222 g222) [some (.inr (11, t + 1)), none, some (.inl x2), some (.inl x3), none, none, some (.inl x6), none] [.inl s0] h = X12_walks_f136 c_X12_otherEnd g222 t x2 x3 x6 s0 h := rfl
theorem X12_walks_m136 {c_X12_otherEnd : Nat → Int32 → Int32 → PH → Option Rs} {g222 G222 : Nat → Int32 → Int32 → Int32 → Int32 → Int32 → Nat → PH → Option Rs} (hg222 : ∀ a0 a1 a2 a3 a4 a5 a6 a7, Mo (g222 a0 a1 a2 a3 a4 a5 a6 a7) (G222 a0 a1 a2 a3 a4 a5 a6 a7)) (t : Nat) (x2 : Int32) (x3 : Int32) (x6 : Int32) (s0 : Int32) (h : PH) : Mo (X12_walks_f136 c_X12_otherEnd g222 t x2 x3 x6 s0 h) (X12_walks_f136 c_X12_otherEnd G222 t x2 x3 x6 s0 h) := (mo_if (mo_wr fun h33 => mo_rf) (mo_nn fun r22 => (mo_ix fun j23 => (mo_wr fun h24 => (mo_cI fun v26 h25 => (mo_wr fun h27 => (mo_nn fun r28 => (mo_ix fun j29 => (mo_wr fun h30 => (mo_nn fun r31 => (mo_ix fun j32 => (mo_if (hg222 t x2 v26 x6 s0 0 t h30) (hg222 t x2 v26 x6 s0 3 t h30)))))))))))))
theorem X12_walks_w136 {z : CZ} {g222 : Nat → Int32 → Int32 → Int32 → Int32 → Int32 → Nat → PH → Option Rs} (hk222 : SK (X12_walks_x z) 222 (X12_walks_u222 g222)) : SK (X12_walks_x z) 136 (X12_walks_u136 (X12_walks_f136 X12_otherEnd g222)) := by
  intro ls st h r e
  obtain ⟨hst, e⟩ := gL_of e
  obtain ⟨t, q0, e⟩ := gT_of e
  obtain ⟨x2, q1, e⟩ := gI_of e
  obtain ⟨x3, q2, e⟩ := gI_of e
  obtain ⟨x6, q3, e⟩ := gI_of e
  obtain ⟨s0, q4, e⟩ := gI_of e
  rw [st_1 hst q4]
  exact WK.sub (canon := [some (.inr (11, t + 1)), none, some (.inl x2), some (.inl x3), none, none, some (.inl x6), none]) rfl ⟨q0, q1, q2, q3, trivial⟩ (X12_walks_s136 hk222 _ _ _ _ ((X12_walks_l136 X12_otherEnd g222 t x2 x3 x6 s0 h).trans e))
noncomputable def X12_walks_f222 (g56 : Nat → Int32 → Int32 → Int32 → Int32 → PH → Option Rs) (t : Nat) (x2 : Int32) (x3 : Int32) (x6 : Int32) (x7 : Int32) (s0 : Int32) (s1 : Nat) (h : PH) : Option Rs :=
  wr (pI h 731 s1 0 s0) fun h34 =>
  nn (hR h34 736 t 0) fun r35 =>
  ix ((8 * x3) + x6) (hL h34 57 r35) fun j36 =>
  wr (pI h34 3648 r35 j36 (vp_nar .boolean 1)) fun h37 =>
  g56 t x2 x3 x6 x7 h37
set_option maxRecDepth 100000 in
theorem X12_walks_l222 (g56 : Nat → Int32 → Int32 → Int32 → Int32 → PH → Option Rs) (t : Nat) (x2 : Int32) (x3 : Int32) (x6 : Int32) (x7 : Int32) (s0 : Int32) (s1 : Nat) (h : PH) : X12_walks_b222 (X12_walks_u56 g56) [some (.inr (11, t + 1)), none, some (.inl x2), some (.inl x3), none, none, some (.inl x6), some (.inl x7)] [.inl s0, .inr (11, s1 + 1)] h = X12_walks_f222 g56 t x2 x3 x6 x7 s0 s1 h := rfl
theorem X12_walks_m222 {g56 G56 : Nat → Int32 → Int32 → Int32 → Int32 → PH → Option Rs} (hg56 : ∀ a0 a1 a2 a3 a4 a5, Mo (g56 a0 a1 a2 a3 a4 a5) (G56 a0 a1 a2 a3 a4 a5)) (t : Nat) (x2 : Int32) (x3 : Int32) (x6 : Int32) (x7 : Int32) (s0 : Int32) (s1 : Nat) (h : PH) : Mo (X12_walks_f222 g56 t x2 x3 x6 x7 s0 s1 h) (X12_walks_f222 G56 t x2 x3 x6 x7 s0 s1 h) := (mo_wr fun h34 => (mo_nn fun r35 => (mo_ix fun j36 => (mo_wr fun h37 => (hg56 t x2 x3 x6 x7 h37)))))
theorem X12_walks_w222 {z : CZ} {g56 : Nat → Int32 → Int32 → Int32 → Int32 → PH → Option Rs} (hk56 : SK (X12_walks_x z) 56 (X12_walks_u56 g56)) : SK (X12_walks_x z) 222 (X12_walks_u222 (X12_walks_f222 g56)) := by
  intro ls st h r e
  obtain ⟨hst, e⟩ := gL_of e
  obtain ⟨t, q0, e⟩ := gT_of e
  obtain ⟨x2, q1, e⟩ := gI_of e
  obtain ⟨x3, q2, e⟩ := gI_of e
  obtain ⟨x6, q3, e⟩ := gI_of e
  obtain ⟨x7, q4, e⟩ := gI_of e
  obtain ⟨s0, q5, e⟩ := gI_of e
  obtain ⟨s1, q6, e⟩ := gT_of e
  rw [st_2 hst q5 q6]
  exact WK.sub (canon := [some (.inr (11, t + 1)), none, some (.inl x2), some (.inl x3), none, none, some (.inl x6), some (.inl x7)]) rfl ⟨q0, q1, q2, q3, q4, trivial⟩ (X12_walks_s222 hk56 _ _ _ _ ((X12_walks_l222 g56 t x2 x3 x6 x7 s0 s1 h).trans e))
noncomputable def X12_walks_g0 (G : (Nat → Int32 → Int32 → Int32 → PH → Option Rs) × (Nat → Int32 → Int32 → Int32 → Int32 → PH → Option Rs)) (t : Nat) (x1 : Int32) (x2 : Int32) (h : PH) : Option Rs := X12_walks_f0 (G).1 t x1 x2 h
noncomputable def X12_walks_g2 (G : (Nat → Int32 → Int32 → Int32 → PH → Option Rs) × (Nat → Int32 → Int32 → Int32 → Int32 → PH → Option Rs)) (t : Nat) (x1 : Int32) (x2 : Int32) (x3 : Int32) (h : PH) : Option Rs := X12_walks_f2 (G).1 (G).2 t x1 x2 x3 h
noncomputable def X12_walks_g222 (G : (Nat → Int32 → Int32 → Int32 → PH → Option Rs) × (Nat → Int32 → Int32 → Int32 → Int32 → PH → Option Rs)) (t : Nat) (x2 : Int32) (x3 : Int32) (x6 : Int32) (x7 : Int32) (s0 : Int32) (s1 : Nat) (h : PH) : Option Rs := X12_walks_f222 (G).2 t x2 x3 x6 x7 s0 s1 h
noncomputable def X12_walks_g136 (G : (Nat → Int32 → Int32 → Int32 → PH → Option Rs) × (Nat → Int32 → Int32 → Int32 → Int32 → PH → Option Rs)) (t : Nat) (x2 : Int32) (x3 : Int32) (x6 : Int32) (s0 : Int32) (h : PH) : Option Rs := X12_walks_f136 X12_otherEnd (X12_walks_g222 G) t x2 x3 x6 s0 h
noncomputable def X12_walks_g120 (G : (Nat → Int32 → Int32 → Int32 → PH → Option Rs) × (Nat → Int32 → Int32 → Int32 → Int32 → PH → Option Rs)) (t : Nat) (x2 : Int32) (x3 : Int32) (x6 : Int32) (h : PH) : Option Rs := X12_walks_f120 X12_passFrom (X12_walks_g136 G) t x2 x3 x6 h
noncomputable def X12_walks_g118 (G : (Nat → Int32 → Int32 → Int32 → PH → Option Rs) × (Nat → Int32 → Int32 → Int32 → Int32 → PH → Option Rs)) (t : Nat) (x2 : Int32) (x3 : Int32) (s0 : Int32) (h : PH) : Option Rs := X12_walks_f118 (X12_walks_g120 G) t x2 x3 s0 h
noncomputable def X12_walks_g111 (G : (Nat → Int32 → Int32 → Int32 → PH → Option Rs) × (Nat → Int32 → Int32 → Int32 → Int32 → PH → Option Rs)) (t : Nat) (x2 : Int32) (x3 : Int32) (x5 : Int32) (h : PH) : Option Rs := X12_walks_f111 X12_onlyFrom (X12_walks_g118 G) t x2 x3 x5 h
noncomputable def X12_walks_g56 (G : (Nat → Int32 → Int32 → Int32 → PH → Option Rs) × (Nat → Int32 → Int32 → Int32 → Int32 → PH → Option Rs)) (t : Nat) (x2 : Int32) (x3 : Int32) (x4 : Int32) (x5 : Int32) (h : PH) : Option Rs := X12_walks_f56 X12_placeOf X12_toldAt X12_passFrom (X12_walks_g111 G) (X12_walks_g118 G) (X12_walks_g120 G) t x2 x3 x4 x5 h
theorem X12_walks_v2 {z : CZ} {G : (Nat → Int32 → Int32 → Int32 → PH → Option Rs) × (Nat → Int32 → Int32 → Int32 → Int32 → PH → Option Rs)} (hG2 : SK (X12_walks_x z) 2 (X12_walks_u2 (G).1)) (hG56 : SK (X12_walks_x z) 56 (X12_walks_u56 (G).2)) : SK (X12_walks_x z) 2 (X12_walks_u2 (X12_walks_g2 G)) := X12_walks_w2 hG2 hG56
theorem X12_walks_v222 {z : CZ} {G : (Nat → Int32 → Int32 → Int32 → PH → Option Rs) × (Nat → Int32 → Int32 → Int32 → Int32 → PH → Option Rs)} (hG2 : SK (X12_walks_x z) 2 (X12_walks_u2 (G).1)) (hG56 : SK (X12_walks_x z) 56 (X12_walks_u56 (G).2)) : SK (X12_walks_x z) 222 (X12_walks_u222 (X12_walks_g222 G)) := X12_walks_w222 hG56
theorem X12_walks_v136 {z : CZ} {G : (Nat → Int32 → Int32 → Int32 → PH → Option Rs) × (Nat → Int32 → Int32 → Int32 → Int32 → PH → Option Rs)} (hG2 : SK (X12_walks_x z) 2 (X12_walks_u2 (G).1)) (hG56 : SK (X12_walks_x z) 56 (X12_walks_u56 (G).2)) : SK (X12_walks_x z) 136 (X12_walks_u136 (X12_walks_g136 G)) := X12_walks_w136 (X12_walks_v222 hG2 hG56)
theorem X12_walks_v120 {z : CZ} {G : (Nat → Int32 → Int32 → Int32 → PH → Option Rs) × (Nat → Int32 → Int32 → Int32 → Int32 → PH → Option Rs)} (hG2 : SK (X12_walks_x z) 2 (X12_walks_u2 (G).1)) (hG56 : SK (X12_walks_x z) 56 (X12_walks_u56 (G).2)) : SK (X12_walks_x z) 120 (X12_walks_u120 (X12_walks_g120 G)) := X12_walks_w120 (X12_walks_v136 hG2 hG56)
theorem X12_walks_v118 {z : CZ} {G : (Nat → Int32 → Int32 → Int32 → PH → Option Rs) × (Nat → Int32 → Int32 → Int32 → Int32 → PH → Option Rs)} (hG2 : SK (X12_walks_x z) 2 (X12_walks_u2 (G).1)) (hG56 : SK (X12_walks_x z) 56 (X12_walks_u56 (G).2)) : SK (X12_walks_x z) 118 (X12_walks_u118 (X12_walks_g118 G)) := X12_walks_w118 (X12_walks_v120 hG2 hG56)
theorem X12_walks_v111 {z : CZ} {G : (Nat → Int32 → Int32 → Int32 → PH → Option Rs) × (Nat → Int32 → Int32 → Int32 → Int32 → PH → Option Rs)} (hG2 : SK (X12_walks_x z) 2 (X12_walks_u2 (G).1)) (hG56 : SK (X12_walks_x z) 56 (X12_walks_u56 (G).2)) : SK (X12_walks_x z) 111 (X12_walks_u111 (X12_walks_g111 G)) := X12_walks_w111 (X12_walks_v118 hG2 hG56)
theorem X12_walks_v56 {z : CZ} {G : (Nat → Int32 → Int32 → Int32 → PH → Option Rs) × (Nat → Int32 → Int32 → Int32 → Int32 → PH → Option Rs)} (hG2 : SK (X12_walks_x z) 2 (X12_walks_u2 (G).1)) (hG56 : SK (X12_walks_x z) 56 (X12_walks_u56 (G).2)) : SK (X12_walks_x z) 56 (X12_walks_u56 (X12_walks_g56 G)) := X12_walks_w56 (X12_walks_v111 hG2 hG56) (X12_walks_v118 hG2 hG56) (X12_walks_v120 hG2 hG56)
noncomputable def X12_walks_fam : Nat → (Nat → Int32 → Int32 → Int32 → PH → Option Rs) × (Nat → Int32 → Int32 → Int32 → Int32 → PH → Option Rs)
  | 0 => (fun _ _ _ _ _ => none, fun _ _ _ _ _ _ => none)
  | n + 1 => (X12_walks_g2 (X12_walks_fam n), X12_walks_g56 (X12_walks_fam n))
theorem X12_walks_k {z : CZ} : ∀ n, SK (X12_walks_x z) 2 (X12_walks_u2 (X12_walks_fam n).1) ∧ SK (X12_walks_x z) 56 (X12_walks_u56 (X12_walks_fam n).2)
  | 0 => ⟨(fun ls st h r e => by
      obtain ⟨_, e⟩ := gL_of e
      obtain ⟨_, _, e⟩ := gT_of e
      obtain ⟨_, _, e⟩ := gI_of e
      obtain ⟨_, _, e⟩ := gI_of e
      obtain ⟨_, _, e⟩ := gI_of e
      cases e), (fun ls st h r e => by
      obtain ⟨_, e⟩ := gL_of e
      obtain ⟨_, _, e⟩ := gT_of e
      obtain ⟨_, _, e⟩ := gI_of e
      obtain ⟨_, _, e⟩ := gI_of e
      obtain ⟨_, _, e⟩ := gI_of e
      obtain ⟨_, _, e⟩ := gI_of e
      cases e)⟩
  | n + 1 => by
    obtain ⟨ih2, ih56⟩ := X12_walks_k n
    exact ⟨X12_walks_v2 ih2 ih56, X12_walks_v56 ih2 ih56⟩
theorem X12_walks_n0 {G G' : (Nat → Int32 → Int32 → Int32 → PH → Option Rs) × (Nat → Int32 → Int32 → Int32 → Int32 → PH → Option Rs)} (hg2 : ∀ a0 a1 a2 a3 a4, Mo ((G).1 a0 a1 a2 a3 a4) ((G').1 a0 a1 a2 a3 a4)) (hg56 : ∀ a0 a1 a2 a3 a4 a5, Mo ((G).2 a0 a1 a2 a3 a4 a5) ((G').2 a0 a1 a2 a3 a4 a5)) (t : Nat) (x1 : Int32) (x2 : Int32) (h : PH) : Mo (X12_walks_g0 G t x1 x2 h) (X12_walks_g0 G' t x1 x2 h) := X12_walks_m0 hg2 t x1 x2 h
theorem X12_walks_n2 {G G' : (Nat → Int32 → Int32 → Int32 → PH → Option Rs) × (Nat → Int32 → Int32 → Int32 → Int32 → PH → Option Rs)} (hg2 : ∀ a0 a1 a2 a3 a4, Mo ((G).1 a0 a1 a2 a3 a4) ((G').1 a0 a1 a2 a3 a4)) (hg56 : ∀ a0 a1 a2 a3 a4 a5, Mo ((G).2 a0 a1 a2 a3 a4 a5) ((G').2 a0 a1 a2 a3 a4 a5)) (t : Nat) (x1 : Int32) (x2 : Int32) (x3 : Int32) (h : PH) : Mo (X12_walks_g2 G t x1 x2 x3 h) (X12_walks_g2 G' t x1 x2 x3 h) := X12_walks_m2 hg2 hg56 t x1 x2 x3 h
theorem X12_walks_n222 {G G' : (Nat → Int32 → Int32 → Int32 → PH → Option Rs) × (Nat → Int32 → Int32 → Int32 → Int32 → PH → Option Rs)} (hg2 : ∀ a0 a1 a2 a3 a4, Mo ((G).1 a0 a1 a2 a3 a4) ((G').1 a0 a1 a2 a3 a4)) (hg56 : ∀ a0 a1 a2 a3 a4 a5, Mo ((G).2 a0 a1 a2 a3 a4 a5) ((G').2 a0 a1 a2 a3 a4 a5)) (t : Nat) (x2 : Int32) (x3 : Int32) (x6 : Int32) (x7 : Int32) (s0 : Int32) (s1 : Nat) (h : PH) : Mo (X12_walks_g222 G t x2 x3 x6 x7 s0 s1 h) (X12_walks_g222 G' t x2 x3 x6 x7 s0 s1 h) := X12_walks_m222 hg56 t x2 x3 x6 x7 s0 s1 h
theorem X12_walks_n136 {G G' : (Nat → Int32 → Int32 → Int32 → PH → Option Rs) × (Nat → Int32 → Int32 → Int32 → Int32 → PH → Option Rs)} (hg2 : ∀ a0 a1 a2 a3 a4, Mo ((G).1 a0 a1 a2 a3 a4) ((G').1 a0 a1 a2 a3 a4)) (hg56 : ∀ a0 a1 a2 a3 a4 a5, Mo ((G).2 a0 a1 a2 a3 a4 a5) ((G').2 a0 a1 a2 a3 a4 a5)) (t : Nat) (x2 : Int32) (x3 : Int32) (x6 : Int32) (s0 : Int32) (h : PH) : Mo (X12_walks_g136 G t x2 x3 x6 s0 h) (X12_walks_g136 G' t x2 x3 x6 s0 h) := X12_walks_m136 (fun a0 a1 a2 a3 a4 a5 a6 a7 => X12_walks_n222 hg2 hg56 a0 a1 a2 a3 a4 a5 a6 a7) t x2 x3 x6 s0 h
theorem X12_walks_n120 {G G' : (Nat → Int32 → Int32 → Int32 → PH → Option Rs) × (Nat → Int32 → Int32 → Int32 → Int32 → PH → Option Rs)} (hg2 : ∀ a0 a1 a2 a3 a4, Mo ((G).1 a0 a1 a2 a3 a4) ((G').1 a0 a1 a2 a3 a4)) (hg56 : ∀ a0 a1 a2 a3 a4 a5, Mo ((G).2 a0 a1 a2 a3 a4 a5) ((G').2 a0 a1 a2 a3 a4 a5)) (t : Nat) (x2 : Int32) (x3 : Int32) (x6 : Int32) (h : PH) : Mo (X12_walks_g120 G t x2 x3 x6 h) (X12_walks_g120 G' t x2 x3 x6 h) := X12_walks_m120 (fun a0 a1 a2 a3 a4 a5 => X12_walks_n136 hg2 hg56 a0 a1 a2 a3 a4 a5) t x2 x3 x6 h
theorem X12_walks_n118 {G G' : (Nat → Int32 → Int32 → Int32 → PH → Option Rs) × (Nat → Int32 → Int32 → Int32 → Int32 → PH → Option Rs)} (hg2 : ∀ a0 a1 a2 a3 a4, Mo ((G).1 a0 a1 a2 a3 a4) ((G').1 a0 a1 a2 a3 a4)) (hg56 : ∀ a0 a1 a2 a3 a4 a5, Mo ((G).2 a0 a1 a2 a3 a4 a5) ((G').2 a0 a1 a2 a3 a4 a5)) (t : Nat) (x2 : Int32) (x3 : Int32) (s0 : Int32) (h : PH) : Mo (X12_walks_g118 G t x2 x3 s0 h) (X12_walks_g118 G' t x2 x3 s0 h) := X12_walks_m118 (fun a0 a1 a2 a3 a4 => X12_walks_n120 hg2 hg56 a0 a1 a2 a3 a4) t x2 x3 s0 h
theorem X12_walks_n111 {G G' : (Nat → Int32 → Int32 → Int32 → PH → Option Rs) × (Nat → Int32 → Int32 → Int32 → Int32 → PH → Option Rs)} (hg2 : ∀ a0 a1 a2 a3 a4, Mo ((G).1 a0 a1 a2 a3 a4) ((G').1 a0 a1 a2 a3 a4)) (hg56 : ∀ a0 a1 a2 a3 a4 a5, Mo ((G).2 a0 a1 a2 a3 a4 a5) ((G').2 a0 a1 a2 a3 a4 a5)) (t : Nat) (x2 : Int32) (x3 : Int32) (x5 : Int32) (h : PH) : Mo (X12_walks_g111 G t x2 x3 x5 h) (X12_walks_g111 G' t x2 x3 x5 h) := X12_walks_m111 (fun a0 a1 a2 a3 a4 => X12_walks_n118 hg2 hg56 a0 a1 a2 a3 a4) t x2 x3 x5 h
theorem X12_walks_n56 {G G' : (Nat → Int32 → Int32 → Int32 → PH → Option Rs) × (Nat → Int32 → Int32 → Int32 → Int32 → PH → Option Rs)} (hg2 : ∀ a0 a1 a2 a3 a4, Mo ((G).1 a0 a1 a2 a3 a4) ((G').1 a0 a1 a2 a3 a4)) (hg56 : ∀ a0 a1 a2 a3 a4 a5, Mo ((G).2 a0 a1 a2 a3 a4 a5) ((G').2 a0 a1 a2 a3 a4 a5)) (t : Nat) (x2 : Int32) (x3 : Int32) (x4 : Int32) (x5 : Int32) (h : PH) : Mo (X12_walks_g56 G t x2 x3 x4 x5 h) (X12_walks_g56 G' t x2 x3 x4 x5 h) := X12_walks_m56 (fun a0 a1 a2 a3 a4 => X12_walks_n111 hg2 hg56 a0 a1 a2 a3 a4) (fun a0 a1 a2 a3 a4 => X12_walks_n118 hg2 hg56 a0 a1 a2 a3 a4) (fun a0 a1 a2 a3 a4 => X12_walks_n120 hg2 hg56 a0 a1 a2 a3 a4) t x2 x3 x4 x5 h
theorem X12_walks_fm : ∀ n, (∀ a0 a1 a2 a3 a4, Mo ((X12_walks_fam n).1 a0 a1 a2 a3 a4) ((X12_walks_fam (n + 1)).1 a0 a1 a2 a3 a4)) ∧ (∀ a0 a1 a2 a3 a4 a5, Mo ((X12_walks_fam n).2 a0 a1 a2 a3 a4 a5) ((X12_walks_fam (n + 1)).2 a0 a1 a2 a3 a4 a5))
  | 0 => ⟨fun _ _ _ _ _ => mo_no, fun _ _ _ _ _ _ => mo_no⟩
  | n + 1 => by
    obtain ⟨ih2, ih56⟩ := X12_walks_fm n
    exact ⟨fun a0 a1 a2 a3 a4 => X12_walks_n2 ih2 ih56 a0 a1 a2 a3 a4, fun a0 a1 a2 a3 a4 a5 => X12_walks_n56 ih2 ih56 a0 a1 a2 a3 a4 a5⟩
noncomputable def X12_walks (t : Nat) (x1 : Int32) (x2 : Int32) (h : PH) : Option Rs := lim (fun n => X12_walks_g0 (X12_walks_fam n) t x1 x2 h)
theorem X12_walks_iff {t : Nat} {x1 : Int32} {x2 : Int32} {h : PH} {r : Rs} : X12_walks t x1 x2 h = some r ↔ ∃ n, X12_walks_g0 (X12_walks_fam n) t x1 x2 h = some r := lim_iff (fun n => by
  obtain ⟨ih2, ih56⟩ := X12_walks_fm n
  exact X12_walks_n0 ih2 ih56 t x1 x2 h)
noncomputable abbrev X12_walks_F : List PV → PH → Option Rs := FW_T11II (X12_walks)
set_option maxRecDepth 100000 in
theorem X12_walks_gd (l : Launch) : Gd l 5 yX12_walks cX12_walks 8 none (X12_walks_F)   := Gd_of (by decide +kernel) (fun z hzl as h r e => by
  obtain ⟨hst, e⟩ := gL_of e
  obtain ⟨t, q0, e⟩ := gT_of e
  obtain ⟨x1, q1, e⟩ := gI_of e
  obtain ⟨x2, q2, e⟩ := gI_of e
  rw [st_3 hst q0 q1 q2]
  obtain ⟨n, e⟩ := lim_of e
  obtain ⟨hG2, hG56⟩ := X12_walks_k (z := z) n
  exact ⟨show 3 ≤ 8 by decide, X12_walks_s0 hG2 _ _ _ _ ((X12_walks_l0 (X12_walks_fam n).1 t x1 x2 h).trans e)⟩)
abbrev X12_walk_x (z : CZ) : CX := mx RX12 cX12_walk 5 6 (some .int) "walk" z
noncomputable def X12_walk_b0 (c_X12_isPlace : Nat → Int32 → PH → Option Rs) (c_X12_isGoal : Nat → Int32 → PH → Option Rs) (c_X12_areWheels : Int32 → PH → Option Rs) (c_X12_in : Int32 → Int32 → Int32 → PH → Option Rs) (c_X12_looks : Nat → Int32 → PH → Option Rs) (c_X12_walks : Nat → Int32 → Int32 → PH → Option Rs) : Kn := (a_al 0 (a_il 1 (a_vI 11 1 (FW_T11I c_X12_isPlace) (a_z (a_ic (-1000000001) a_ir) (a_al 0 (a_il 2 (a_vI 11 1 (FW_T11I c_X12_isGoal) (a_z (a_ic (-1000000001) a_ir) (a_il 3 (a_sI 1 (FW_I c_X12_areWheels) (a_z (a_ic (-1000000001) a_ir) (a_il 4 (a_ic 0 (a_ic 4 (a_sI 3 (FW_III c_X12_in) (a_z (a_ic (-1000000001) a_ir) (a_al 0 (a_il 3 (a_vV 11 1 (FW_T11I c_X12_looks) (a_al 0 (a_ic 0 (a_pI 11 737 (a_al 0 (a_il 1 (a_il 2 (a_vV 11 2 (FW_T11II c_X12_walks) (a_il 4 (a_sw [(0, (a_al 0 (a_gI 11 731 a_ir))), (1, (a_al 0 (a_gI 11 732 a_ir))), (2, (a_al 0 (a_gR 11 735 56 (a_al 0 (a_gI 11 733 (a_ald 56 3584 a_ir)))))), (3, (a_al 0 (a_gI 11 733 a_ir)))] (a_al 0 (a_gI 11 734 (a_n (a_ic (-1000000005) a_ir) (a_al 0 (a_gI 11 734 a_ir)))))))))))))))))))))))))))))))))
set_option maxRecDepth 100000 in
theorem X12_walk_s0 {z : CZ} : SK (X12_walk_x z) 0 (X12_walk_b0 X12_isPlace X12_isGoal X12_areWheels X12_in X12_looks X12_walks) := (s_aloadn (pc := 0) dX12_walk_0 rfl (s_iloadn (pc := 1) dX12_walk_1 rfl (s_vI (pc := 2) (run_virtual (X12_isPlace_gd _) (show 1 < 6 by decide) cy_X12_isPlace (by decide) rfl w_1461 w_s29 w_1459 dX12_walk_2) (s_ifeq (pc := 5) dX12_walk_5 (by decide) (s_ldc (pc := 33) w_1466 dX12_walk_33 (s_ir (pc := 35) rfl dX12_walk_35)) (s_aloadn (pc := 8) dX12_walk_8 rfl (s_iloadn (pc := 9) dX12_walk_9 rfl (s_vI (pc := 10) (run_virtual (X12_isGoal_gd _) (show 1 < 6 by decide) cy_X12_isGoal (by decide) rfl w_1505 w_s34 w_1503 dX12_walk_10) (s_ifeq (pc := 13) dX12_walk_13 (by decide) (s_ldc (pc := 33) w_1466 dX12_walk_33 (s_ir (pc := 35) rfl dX12_walk_35)) (s_iloadn (pc := 16) dX12_walk_16 rfl (s_sI (pc := 17) (run_static (X12_areWheels_gd _) (show 1 < 6 by decide) cy_X12_areWheels w_1673 w_1672 dX12_walk_17) (s_ifeq (pc := 20) dX12_walk_20 (by decide) (s_ldc (pc := 33) w_1466 dX12_walk_33 (s_ir (pc := 35) rfl dX12_walk_35)) (s_iload (pc := 23) dX12_walk_23 (s_iconst (pc := 25) dX12_walk_25 c_ic_0 (s_iconst (pc := 26) dX12_walk_26 c_ic_4 (s_sI (pc := 27) (run_static (X12_in_gd _) (show 0 < 6 by decide) cy_X12_in w_1464 w_1463 dX12_walk_27) (s_ifne (pc := 30) dX12_walk_30 (by decide) (s_aloadn (pc := 36) dX12_walk_36 rfl (s_iloadn (pc := 37) dX12_walk_37 rfl (s_vV (pc := 38) (run_virtual (X12_looks_gd _) (show 3 < 6 by decide) cy_X12_looks (by decide) rfl w_1677 w_s56 w_1675 dX12_walk_38) (s_aloadn (pc := 41) dX12_walk_41 rfl (s_iconst (pc := 42) dX12_walk_42 c_ic_0 (s_pI (pc := 43) (f := 33) ko_11 (by decide) rfl rfl rfl (by decide +kernel) w_1328 dX12_walk_43 (s_aloadn (pc := 46) dX12_walk_46 rfl (s_iloadn (pc := 47) dX12_walk_47 rfl (s_iloadn (pc := 48) dX12_walk_48 rfl (s_vV (pc := 49) (run_virtual (X12_walks_gd _) (show 5 < 6 by decide) cy_X12_walks (by decide) rfl w_1706 w_s61 w_1704 dX12_walk_49) (s_iload (pc := 52) dX12_walk_52 (s_table (pc := 54) dX12_walk_54 (by decide) (by decide) ⟨c_ti_0, ⟨_, by decide, (s_aloadn (pc := 84) dX12_walk_84 rfl (s_gI (pc := 85) (f := 27) ko_11 (by decide) rfl rfl w_1322 dX12_walk_85 (s_ir (pc := 88) rfl dX12_walk_88)))⟩, ⟨c_ti_1, ⟨_, by decide, (s_aloadn (pc := 89) dX12_walk_89 rfl (s_gI (pc := 90) (f := 28) ko_11 (by decide) rfl rfl w_1323 dX12_walk_90 (s_ir (pc := 93) rfl dX12_walk_93)))⟩, ⟨c_ti_2, ⟨_, by decide, (s_aloadn (pc := 94) dX12_walk_94 rfl (s_gR (pc := 95) (f := 31) ko_11 (by decide) rfl rfl w_1326 dX12_walk_95 (s_aloadn (pc := 98) dX12_walk_98 rfl (s_gI (pc := 99) (f := 29) ko_11 (by decide) rfl rfl w_1324 dX12_walk_99 (s_iald (pc := 102) (by decide) (by decide) rfl rfl rfl dX12_walk_102 (s_ir (pc := 103) rfl dX12_walk_103))))))⟩, ⟨c_ti_3, ⟨_, by decide, (s_aloadn (pc := 104) dX12_walk_104 rfl (s_gI (pc := 105) (f := 29) ko_11 (by decide) rfl rfl w_1324 dX12_walk_105 (s_ir (pc := 108) rfl dX12_walk_108)))⟩, trivial⟩⟩⟩⟩ (s_aloadn (pc := 109) dX12_walk_109 rfl (s_gI (pc := 110) (f := 30) ko_11 (by decide) rfl rfl w_1325 dX12_walk_110 (s_ifge (pc := 113) dX12_walk_113 (by decide) (s_aloadn (pc := 121) dX12_walk_121 rfl (s_gI (pc := 122) (f := 30) ko_11 (by decide) rfl rfl w_1325 dX12_walk_122 (s_ir (pc := 125) rfl dX12_walk_125))) (s_ldc (pc := 116) w_1515 dX12_walk_116 (s_goto (pc := 118) dX12_walk_118 (by decide) (s_ir (pc := 125) rfl dX12_walk_125)))))))))))))))))) (s_ldc (pc := 33) w_1466 dX12_walk_33 (s_ir (pc := 35) rfl dX12_walk_35))))))))))))))))))
noncomputable def X12_walk_f0 (c_X12_isPlace : Nat → Int32 → PH → Option Rs) (c_X12_isGoal : Nat → Int32 → PH → Option Rs) (c_X12_areWheels : Int32 → PH → Option Rs) (c_X12_in : Int32 → Int32 → Int32 → PH → Option Rs) (c_X12_looks : Nat → Int32 → PH → Option Rs) (c_X12_walks : Nat → Int32 → Int32 → PH → Option Rs) (t : Nat) (x1 : Int32) (x2 : Int32) (x3 : Int32) (x4 : Int32) (h : PH) : Option Rs :=
  cI (c_X12_isPlace t x1 h) fun v2 h1 =>
  if v2 = 0 then
    some (some (.inl (-1000000001)), h1)
  else
    cI (c_X12_isGoal t x2 h1) fun v4 h3 =>
    if v4 = 0 then
      some (some (.inl (-1000000001)), h3)
    else
      cI (c_X12_areWheels x3 h3) fun v6 h5 =>
      if v6 = 0 then
        some (some (.inl (-1000000001)), h5)
      else
        cI (c_X12_in x4 0 4 h5) fun v8 h7 =>
        if v8 = 0 then
          some (some (.inl (-1000000001)), h7)
        else
          cV (c_X12_looks t x3 h7) fun h9 =>
          wr (pI h9 737 t 0 0) fun h10 =>
          cV (c_X12_walks t x1 x2 h10) fun h11 =>
          if x4 = 0 then
            some (some (.inl (hI h11 731 t 0)), h11)
          else
          if x4 = 1 then
            some (some (.inl (hI h11 732 t 0)), h11)
          else
          if x4 = 2 then
            nn (hR h11 735 t 0) fun r12 =>
            ix (hI h11 733 t 0) (hL h11 56 r12) fun j13 =>
            some (some (.inl (hI h11 3584 r12 j13)), h11)
          else
          if x4 = 3 then
            some (some (.inl (hI h11 733 t 0)), h11)
          else
            if (hI h11 734 t 0) < 0 then
              some (some (.inl (-1000000005)), h11)
            else
              some (some (.inl (hI h11 734 t 0)), h11)
set_option maxRecDepth 100000 in
theorem X12_walk_l0 (c_X12_isPlace : Nat → Int32 → PH → Option Rs) (c_X12_isGoal : Nat → Int32 → PH → Option Rs) (c_X12_areWheels : Int32 → PH → Option Rs) (c_X12_in : Int32 → Int32 → Int32 → PH → Option Rs) (c_X12_looks : Nat → Int32 → PH → Option Rs) (c_X12_walks : Nat → Int32 → Int32 → PH → Option Rs) (t : Nat) (x1 : Int32) (x2 : Int32) (x3 : Int32) (x4 : Int32) (h : PH) : X12_walk_b0 c_X12_isPlace c_X12_isGoal c_X12_areWheels c_X12_in c_X12_looks c_X12_walks [some (.inr (11, t + 1)), some (.inl x1), some (.inl x2), some (.inl x3), some (.inl x4)] [] h = X12_walk_f0 c_X12_isPlace c_X12_isGoal c_X12_areWheels c_X12_in c_X12_looks c_X12_walks t x1 x2 x3 x4 h := rfl
noncomputable def X12_walk_g0 (t : Nat) (x1 : Int32) (x2 : Int32) (x3 : Int32) (x4 : Int32) (h : PH) : Option Rs := X12_walk_f0 X12_isPlace X12_isGoal X12_areWheels X12_in X12_looks X12_walks t x1 x2 x3 x4 h
noncomputable def X12_walk (t : Nat) (x1 : Int32) (x2 : Int32) (x3 : Int32) (x4 : Int32) (h : PH) : Option Rs := X12_walk_g0 t x1 x2 x3 x4 h
noncomputable abbrev X12_walk_F : List PV → PH → Option Rs := FW_T11IIII (X12_walk)
set_option maxRecDepth 100000 in
theorem X12_walk_gd (l : Launch) : Gd l 6 yX12_walk cX12_walk 5 (some .int) (X12_walk_F)   := Gd_of (by decide +kernel) (fun z hzl as h r e => by
  obtain ⟨hst, e⟩ := gL_of e
  obtain ⟨t, q0, e⟩ := gT_of e
  obtain ⟨x1, q1, e⟩ := gI_of e
  obtain ⟨x2, q2, e⟩ := gI_of e
  obtain ⟨x3, q3, e⟩ := gI_of e
  obtain ⟨x4, q4, e⟩ := gI_of e
  rw [st_5 hst q0 q1 q2 q3 q4]
  exact ⟨show 5 ≤ 5 by decide, X12_walk_s0 _ _ _ _ ((X12_walk_l0 X12_isPlace X12_isGoal X12_areWheels X12_in X12_looks X12_walks t x1 x2 x3 x4 h).trans e)⟩)
abbrev X12_via_x (z : CZ) : CX := mx RX12 cX12_via 5 6 (some .int) "via" z
noncomputable def X12_via_b0 (c_X12_isPlace : Nat → Int32 → PH → Option Rs) (c_X12_isGoal : Nat → Int32 → PH → Option Rs) (c_X12_areWheels : Int32 → PH → Option Rs) (c_X12_looks : Nat → Int32 → PH → Option Rs) (c_X12_walks : Nat → Int32 → Int32 → PH → Option Rs) : Kn := (a_al 0 (a_il 1 (a_vI 11 1 (FW_T11I c_X12_isPlace) (a_z (a_ic (-1000000001) a_ir) (a_al 0 (a_il 2 (a_vI 11 1 (FW_T11I c_X12_isGoal) (a_z (a_ic (-1000000001) a_ir) (a_il 3 (a_sI 1 (FW_I c_X12_areWheels) (a_z (a_ic (-1000000001) a_ir) (a_il 4 (a_n (a_ic (-1000000001) a_ir) (a_al 0 (a_il 3 (a_vV 11 1 (FW_T11I c_X12_looks) (a_al 0 (a_ic 0 (a_pI 11 737 (a_al 0 (a_il 1 (a_il 2 (a_vV 11 2 (FW_T11II c_X12_walks) (a_il 4 (a_al 0 (a_gI 11 733 (a_gt (a_ic (-1000000005) a_ir) (a_al 0 (a_gR 11 735 56 (a_il 4 (a_ald 56 3584 a_ir)))))))))))))))))))))))))))))))
set_option maxRecDepth 100000 in
theorem X12_via_s0 {z : CZ} : SK (X12_via_x z) 0 (X12_via_b0 X12_isPlace X12_isGoal X12_areWheels X12_looks X12_walks) := (s_aloadn (pc := 0) dX12_via_0 rfl (s_iloadn (pc := 1) dX12_via_1 rfl (s_vI (pc := 2) (run_virtual (X12_isPlace_gd _) (show 1 < 6 by decide) cy_X12_isPlace (by decide) rfl w_1461 w_s29 w_1459 dX12_via_2) (s_ifeq (pc := 5) dX12_via_5 (by decide) (s_ldc (pc := 28) w_1466 dX12_via_28 (s_ir (pc := 30) rfl dX12_via_30)) (s_aloadn (pc := 8) dX12_via_8 rfl (s_iloadn (pc := 9) dX12_via_9 rfl (s_vI (pc := 10) (run_virtual (X12_isGoal_gd _) (show 1 < 6 by decide) cy_X12_isGoal (by decide) rfl w_1505 w_s34 w_1503 dX12_via_10) (s_ifeq (pc := 13) dX12_via_13 (by decide) (s_ldc (pc := 28) w_1466 dX12_via_28 (s_ir (pc := 30) rfl dX12_via_30)) (s_iloadn (pc := 16) dX12_via_16 rfl (s_sI (pc := 17) (run_static (X12_areWheels_gd _) (show 1 < 6 by decide) cy_X12_areWheels w_1673 w_1672 dX12_via_17) (s_ifeq (pc := 20) dX12_via_20 (by decide) (s_ldc (pc := 28) w_1466 dX12_via_28 (s_ir (pc := 30) rfl dX12_via_30)) (s_iload (pc := 23) dX12_via_23 (s_ifge (pc := 25) dX12_via_25 (by decide) (s_aloadn (pc := 31) dX12_via_31 rfl (s_iloadn (pc := 32) dX12_via_32 rfl (s_vV (pc := 33) (run_virtual (X12_looks_gd _) (show 3 < 6 by decide) cy_X12_looks (by decide) rfl w_1677 w_s56 w_1675 dX12_via_33) (s_aloadn (pc := 36) dX12_via_36 rfl (s_iconst (pc := 37) dX12_via_37 c_ic_0 (s_pI (pc := 38) (f := 33) ko_11 (by decide) rfl rfl rfl (by decide +kernel) w_1328 dX12_via_38 (s_aloadn (pc := 41) dX12_via_41 rfl (s_iloadn (pc := 42) dX12_via_42 rfl (s_iloadn (pc := 43) dX12_via_43 rfl (s_vV (pc := 44) (run_virtual (X12_walks_gd _) (show 5 < 6 by decide) cy_X12_walks (by decide) rfl w_1706 w_s61 w_1704 dX12_via_44) (s_iload (pc := 47) dX12_via_47 (s_aloadn (pc := 49) dX12_via_49 rfl (s_gI (pc := 50) (f := 29) ko_11 (by decide) rfl rfl w_1324 dX12_via_50 (s_cmpgt (pc := 53) dX12_via_53 (by decide) (s_ldc (pc := 66) w_1515 dX12_via_66 (s_ir (pc := 68) rfl dX12_via_68)) (s_aloadn (pc := 56) dX12_via_56 rfl (s_gR (pc := 57) (f := 31) ko_11 (by decide) rfl rfl w_1326 dX12_via_57 (s_iload (pc := 60) dX12_via_60 (s_iald (pc := 62) (by decide) (by decide) rfl rfl rfl dX12_via_62 (s_goto (pc := 63) dX12_via_63 (by decide) (s_ir (pc := 68) rfl dX12_via_68)))))))))))))))))))) (s_ldc (pc := 28) w_1466 dX12_via_28 (s_ir (pc := 30) rfl dX12_via_30)))))))))))))))
noncomputable def X12_via_f0 (c_X12_isPlace : Nat → Int32 → PH → Option Rs) (c_X12_isGoal : Nat → Int32 → PH → Option Rs) (c_X12_areWheels : Int32 → PH → Option Rs) (c_X12_looks : Nat → Int32 → PH → Option Rs) (c_X12_walks : Nat → Int32 → Int32 → PH → Option Rs) (t : Nat) (x1 : Int32) (x2 : Int32) (x3 : Int32) (x4 : Int32) (h : PH) : Option Rs :=
  cI (c_X12_isPlace t x1 h) fun v2 h1 =>
  if v2 = 0 then
    some (some (.inl (-1000000001)), h1)
  else
    cI (c_X12_isGoal t x2 h1) fun v4 h3 =>
    if v4 = 0 then
      some (some (.inl (-1000000001)), h3)
    else
      cI (c_X12_areWheels x3 h3) fun v6 h5 =>
      if v6 = 0 then
        some (some (.inl (-1000000001)), h5)
      else
        if x4 < 0 then
          some (some (.inl (-1000000001)), h5)
        else
          cV (c_X12_looks t x3 h5) fun h7 =>
          wr (pI h7 737 t 0 0) fun h8 =>
          cV (c_X12_walks t x1 x2 h8) fun h9 =>
          if (hI h9 733 t 0) < x4 then
            some (some (.inl (-1000000005)), h9)
          else
            nn (hR h9 735 t 0) fun r10 =>
            ix x4 (hL h9 56 r10) fun j11 =>
            some (some (.inl (hI h9 3584 r10 j11)), h9)
set_option maxRecDepth 100000 in
theorem X12_via_l0 (c_X12_isPlace : Nat → Int32 → PH → Option Rs) (c_X12_isGoal : Nat → Int32 → PH → Option Rs) (c_X12_areWheels : Int32 → PH → Option Rs) (c_X12_looks : Nat → Int32 → PH → Option Rs) (c_X12_walks : Nat → Int32 → Int32 → PH → Option Rs) (t : Nat) (x1 : Int32) (x2 : Int32) (x3 : Int32) (x4 : Int32) (h : PH) : X12_via_b0 c_X12_isPlace c_X12_isGoal c_X12_areWheels c_X12_looks c_X12_walks [some (.inr (11, t + 1)), some (.inl x1), some (.inl x2), some (.inl x3), some (.inl x4)] [] h = X12_via_f0 c_X12_isPlace c_X12_isGoal c_X12_areWheels c_X12_looks c_X12_walks t x1 x2 x3 x4 h := rfl
noncomputable def X12_via_g0 (t : Nat) (x1 : Int32) (x2 : Int32) (x3 : Int32) (x4 : Int32) (h : PH) : Option Rs := X12_via_f0 X12_isPlace X12_isGoal X12_areWheels X12_looks X12_walks t x1 x2 x3 x4 h
noncomputable def X12_via (t : Nat) (x1 : Int32) (x2 : Int32) (x3 : Int32) (x4 : Int32) (h : PH) : Option Rs := X12_via_g0 t x1 x2 x3 x4 h
noncomputable abbrev X12_via_F : List PV → PH → Option Rs := FW_T11IIII (X12_via)
set_option maxRecDepth 100000 in
theorem X12_via_gd (l : Launch) : Gd l 6 yX12_via cX12_via 5 (some .int) (X12_via_F)   := Gd_of (by decide +kernel) (fun z hzl as h r e => by
  obtain ⟨hst, e⟩ := gL_of e
  obtain ⟨t, q0, e⟩ := gT_of e
  obtain ⟨x1, q1, e⟩ := gI_of e
  obtain ⟨x2, q2, e⟩ := gI_of e
  obtain ⟨x3, q3, e⟩ := gI_of e
  obtain ⟨x4, q4, e⟩ := gI_of e
  rw [st_5 hst q0 q1 q2 q3 q4]
  exact ⟨show 5 ≤ 5 by decide, X12_via_s0 _ _ _ _ ((X12_via_l0 X12_isPlace X12_isGoal X12_areWheels X12_looks X12_walks t x1 x2 x3 x4 h).trans e)⟩)
abbrev X12_quarrels_x (z : CZ) : CX := mx RX12 cX12_quarrels 7 2 (some .boolean) "quarrels" z
noncomputable def X12_quarrels_b0 (c_X12_of5 : Nat → Int32 → Int32 → PH → Option Rs) (k10 : Kn) : Kn := (a_al 0 (a_il 1 (a_ic 0 (a_vI 11 2 (FW_T11II c_X12_of5) (a_is 3 (a_ic 0 (a_is 4 k10)))))))
set_option maxRecDepth 100000 in
theorem X12_quarrels_s0 {z : CZ} {k10 : Kn} (hk10 : SK (X12_quarrels_x z) 10 k10) : SK (X12_quarrels_x z) 0 (X12_quarrels_b0 X12_of5 k10) := (s_aloadn (pc := 0) dX12_quarrels_0 rfl (s_iloadn (pc := 1) dX12_quarrels_1 rfl (s_iconst (pc := 2) dX12_quarrels_2 c_ic_0 (s_vI (pc := 3) (run_virtual (X12_of5_gd _) (show 0 < 2 by decide) cy_X12_of5 (by decide) rfl w_1534 w_s38 w_1532 dX12_quarrels_3) (s_istoren (pc := 6) dX12_quarrels_6 rfl (show 3 < 7 by decide) (s_iconst (pc := 7) dX12_quarrels_7 c_ic_0 (s_istore (pc := 8) dX12_quarrels_8 (show 4 < 7 by decide) hk10)))))))
noncomputable def X12_quarrels_b10 (c_X12_rowsOf : Nat → Int32 → PH → Option Rs) (k32 : Kn) : Kn := (a_il 4 (a_il 1 (a_gt (a_ic 0 a_zr) (a_il 4 (a_il 1 (a_eq (a_il 2 k32) (a_al 0 (a_il 4 (a_vI 11 1 (FW_T11I c_X12_rowsOf) k32)))))))))
set_option maxRecDepth 100000 in
theorem X12_quarrels_s10 {z : CZ} {k32 : Kn} (hk32 : SK (X12_quarrels_x z) 32 k32) : SK (X12_quarrels_x z) 10 (X12_quarrels_b10 X12_rowsOf k32) := (s_iload (pc := 10) dX12_quarrels_10 (s_iloadn (pc := 12) dX12_quarrels_12 rfl (s_cmpgt (pc := 13) dX12_quarrels_13 (by decide) (s_iconst (pc := 103) dX12_quarrels_103 c_ic_0 (s_zr (pc := 104) rfl dX12_quarrels_104)) (s_iload (pc := 16) dX12_quarrels_16 (s_iloadn (pc := 18) dX12_quarrels_18 rfl (s_cmpne (pc := 19) dX12_quarrels_19 (by decide) (s_aloadn (pc := 26) dX12_quarrels_26 rfl (s_iload (pc := 27) dX12_quarrels_27 (s_vI (pc := 29) (run_virtual (X12_rowsOf_gd _) (show 1 < 2 by decide) cy_X12_rowsOf (by decide) rfl w_1538 w_s39 w_1536 dX12_quarrels_29) hk32))) (s_iloadn (pc := 22) dX12_quarrels_22 rfl (s_goto (pc := 23) dX12_quarrels_23 (by decide) hk32))))))))
noncomputable def X12_quarrels_b32 (k37 : Kn) : Kn := (a_is 5 (a_ic 0 (a_is 6 k37)))
set_option maxRecDepth 100000 in
theorem X12_quarrels_s32 {z : CZ} {k37 : Kn} (hk37 : SK (X12_quarrels_x z) 37 k37) : SK (X12_quarrels_x z) 32 (X12_quarrels_b32 k37) := (s_istore (pc := 32) dX12_quarrels_32 (show 5 < 7 by decide) (s_iconst (pc := 34) dX12_quarrels_34 c_ic_0 (s_istore (pc := 35) dX12_quarrels_35 (show 6 < 7 by decide) hk37)))
noncomputable def X12_quarrels_b37 (c_X12_of5 : Nat → Int32 → Int32 → PH → Option Rs) (c_X12_nameAt : Nat → Int32 → Int32 → PH → Option Rs) (c_X12_arrowAt : Nat → Int32 → Int32 → PH → Option Rs) (k10 k91 : Kn) : Kn := (a_il 6 (a_il 5 (a_lt (a_al 0 (a_il 4 (a_ic 0 (a_vI 11 2 (FW_T11II c_X12_of5) (a_il 3 (a_eq (a_al 0 (a_il 4 (a_il 6 (a_vI 11 2 (FW_T11II c_X12_nameAt) (a_al 0 (a_il 1 (a_il 2 (a_vI 11 2 (FW_T11II c_X12_nameAt) (a_eq (a_al 0 (a_il 4 (a_il 6 (a_vI 11 2 (FW_T11II c_X12_arrowAt) (a_al 0 (a_il 1 (a_il 2 (a_vI 11 2 (FW_T11II c_X12_arrowAt) (a_eq k91 (a_ic 1 a_zr)))))))))) k91))))))))) k91)))))) (a_inc 4 1 k10))))
set_option maxRecDepth 100000 in
theorem X12_quarrels_s37 {z : CZ} {k10 k91 : Kn} (hk10 : SK (X12_quarrels_x z) 10 k10) (hk91 : SK (X12_quarrels_x z) 91 k91) : SK (X12_quarrels_x z) 37 (X12_quarrels_b37 X12_of5 X12_nameAt X12_arrowAt k10 k91) := (s_iload (pc := 37) dX12_quarrels_37 (s_iload (pc := 39) dX12_quarrels_39 (s_cmpge (pc := 41) dX12_quarrels_41 (by decide) (s_iinc (pc := 97) dX12_quarrels_97 c_ic_1 (show 4 < 7 by decide) (s_goto (pc := 100) dX12_quarrels_100 (by decide) hk10)) (s_aloadn (pc := 44) dX12_quarrels_44 rfl (s_iload (pc := 45) dX12_quarrels_45 (s_iconst (pc := 47) dX12_quarrels_47 c_ic_0 (s_vI (pc := 48) (run_virtual (X12_of5_gd _) (show 0 < 2 by decide) cy_X12_of5 (by decide) rfl w_1534 w_s38 w_1532 dX12_quarrels_48) (s_iloadn (pc := 51) dX12_quarrels_51 rfl (s_cmpne (pc := 52) dX12_quarrels_52 (by decide) hk91 (s_aloadn (pc := 55) dX12_quarrels_55 rfl (s_iload (pc := 56) dX12_quarrels_56 (s_iload (pc := 58) dX12_quarrels_58 (s_vI (pc := 60) (run_virtual (X12_nameAt_gd _) (show 0 < 2 by decide) cy_X12_nameAt (by decide) rfl w_1591 w_s44 w_1589 dX12_quarrels_60) (s_aloadn (pc := 63) dX12_quarrels_63 rfl (s_iloadn (pc := 64) dX12_quarrels_64 rfl (s_iloadn (pc := 65) dX12_quarrels_65 rfl (s_vI (pc := 66) (run_virtual (X12_nameAt_gd _) (show 0 < 2 by decide) cy_X12_nameAt (by decide) rfl w_1591 w_s44 w_1589 dX12_quarrels_66) (s_cmpne (pc := 69) dX12_quarrels_69 (by decide) hk91 (s_aloadn (pc := 72) dX12_quarrels_72 rfl (s_iload (pc := 73) dX12_quarrels_73 (s_iload (pc := 75) dX12_quarrels_75 (s_vI (pc := 77) (run_virtual (X12_arrowAt_gd _) (show 0 < 2 by decide) cy_X12_arrowAt (by decide) rfl w_1595 w_s45 w_1593 dX12_quarrels_77) (s_aloadn (pc := 80) dX12_quarrels_80 rfl (s_iloadn (pc := 81) dX12_quarrels_81 rfl (s_iloadn (pc := 82) dX12_quarrels_82 rfl (s_vI (pc := 83) (run_virtual (X12_arrowAt_gd _) (show 0 < 2 by decide) cy_X12_arrowAt (by decide) rfl w_1595 w_s45 w_1593 dX12_quarrels_83) (s_cmpeq (pc := 86) dX12_quarrels_86 (by decide) hk91 (s_iconst (pc := 89) dX12_quarrels_89 c_ic_1 (s_zr (pc := 90) rfl dX12_quarrels_90)))))))))))))))))))))))))))))
noncomputable def X12_quarrels_b91 (k37 : Kn) : Kn := (a_inc 6 1 k37)
set_option maxRecDepth 100000 in
theorem X12_quarrels_s91 {z : CZ} {k37 : Kn} (hk37 : SK (X12_quarrels_x z) 37 k37) : SK (X12_quarrels_x z) 91 (X12_quarrels_b91 k37) := (s_iinc (pc := 91) dX12_quarrels_91 c_ic_1 (show 6 < 7 by decide) (s_goto (pc := 94) dX12_quarrels_94 (by decide) hk37))
noncomputable def X12_quarrels_u10 (g : Nat → Int32 → Int32 → Int32 → Int32 → PH → Option Rs) : Kn := fun ls st h => gL 0 st (gT 11 ls 0 fun t => gI ls 1 fun x1 => gI ls 2 fun x2 => gI ls 3 fun x3 => gI ls 4 fun x4 => g t x1 x2 x3 x4 h)
noncomputable def X12_quarrels_u32 (g : Nat → Int32 → Int32 → Int32 → Int32 → Int32 → PH → Option Rs) : Kn := fun ls st h => gL 1 st (gT 11 ls 0 fun t => gI ls 1 fun x1 => gI ls 2 fun x2 => gI ls 3 fun x3 => gI ls 4 fun x4 => gI (st.map some) 0 fun s0 => g t x1 x2 x3 x4 s0 h)
noncomputable def X12_quarrels_u37 (g : Nat → Int32 → Int32 → Int32 → Int32 → Int32 → Int32 → PH → Option Rs) : Kn := fun ls st h => gL 0 st (gT 11 ls 0 fun t => gI ls 1 fun x1 => gI ls 2 fun x2 => gI ls 3 fun x3 => gI ls 4 fun x4 => gI ls 5 fun x5 => gI ls 6 fun x6 => g t x1 x2 x3 x4 x5 x6 h)
noncomputable def X12_quarrels_u91 (g : Nat → Int32 → Int32 → Int32 → Int32 → Int32 → Int32 → PH → Option Rs) : Kn := fun ls st h => gL 0 st (gT 11 ls 0 fun t => gI ls 1 fun x1 => gI ls 2 fun x2 => gI ls 3 fun x3 => gI ls 4 fun x4 => gI ls 5 fun x5 => gI ls 6 fun x6 => g t x1 x2 x3 x4 x5 x6 h)
noncomputable def X12_quarrels_f0 (c_X12_of5 : Nat → Int32 → Int32 → PH → Option Rs) (g10 : Nat → Int32 → Int32 → Int32 → Int32 → PH → Option Rs) (t : Nat) (x1 : Int32) (x2 : Int32) (h : PH) : Option Rs :=
  cI (c_X12_of5 t x1 0 h) fun v2 h1 =>
  g10 t x1 x2 v2 0 h1
set_option maxRecDepth 100000 in
theorem X12_quarrels_l0 (c_X12_of5 : Nat → Int32 → Int32 → PH → Option Rs) (g10 : Nat → Int32 → Int32 → Int32 → Int32 → PH → Option Rs) (t : Nat) (x1 : Int32) (x2 : Int32) (h : PH) : X12_quarrels_b0 c_X12_of5 (X12_quarrels_u10 g10) [some (.inr (11, t + 1)), some (.inl x1), some (.inl x2), none, none, none, none] [] h = X12_quarrels_f0 c_X12_of5 g10 t x1 x2 h := rfl
theorem X12_quarrels_m0 {c_X12_of5 : Nat → Int32 → Int32 → PH → Option Rs} {g10 G10 : Nat → Int32 → Int32 → Int32 → Int32 → PH → Option Rs} (hg10 : ∀ a0 a1 a2 a3 a4 a5, Mo (g10 a0 a1 a2 a3 a4 a5) (G10 a0 a1 a2 a3 a4 a5)) (t : Nat) (x1 : Int32) (x2 : Int32) (h : PH) : Mo (X12_quarrels_f0 c_X12_of5 g10 t x1 x2 h) (X12_quarrels_f0 c_X12_of5 G10 t x1 x2 h) := (mo_cI fun v2 h1 => (hg10 t x1 x2 v2 0 h1))
noncomputable def X12_quarrels_f10 (c_X12_rowsOf : Nat → Int32 → PH → Option Rs) (g32 : Nat → Int32 → Int32 → Int32 → Int32 → Int32 → PH → Option Rs) (t : Nat) (x1 : Int32) (x2 : Int32) (x3 : Int32) (x4 : Int32) (h : PH) : Option Rs :=
  if x1 < x4 then
    bz 0 <|
    some (some (.inl 0), h)
  else
    if x4 = x1 then
      g32 t x1 x2 x3 x4 x2 h
    else
      cI (c_X12_rowsOf t x4 h) fun v4 h3 =>
      g32 t x1 x2 x3 x4 v4 h3
set_option maxRecDepth 100000 in
theorem X12_quarrels_l10 (c_X12_rowsOf : Nat → Int32 → PH → Option Rs) (g32 : Nat → Int32 → Int32 → Int32 → Int32 → Int32 → PH → Option Rs) (t : Nat) (x1 : Int32) (x2 : Int32) (x3 : Int32) (x4 : Int32) (h : PH) : X12_quarrels_b10 c_X12_rowsOf (X12_quarrels_u32 g32) [some (.inr (11, t + 1)), some (.inl x1), some (.inl x2), some (.inl x3), some (.inl x4), none, none] [] h = X12_quarrels_f10 c_X12_rowsOf g32 t x1 x2 x3 x4 h := rfl
theorem X12_quarrels_m10 {c_X12_rowsOf : Nat → Int32 → PH → Option Rs} {g32 G32 : Nat → Int32 → Int32 → Int32 → Int32 → Int32 → PH → Option Rs} (hg32 : ∀ a0 a1 a2 a3 a4 a5 a6, Mo (g32 a0 a1 a2 a3 a4 a5 a6) (G32 a0 a1 a2 a3 a4 a5 a6)) (t : Nat) (x1 : Int32) (x2 : Int32) (x3 : Int32) (x4 : Int32) (h : PH) : Mo (X12_quarrels_f10 c_X12_rowsOf g32 t x1 x2 x3 x4 h) (X12_quarrels_f10 c_X12_rowsOf G32 t x1 x2 x3 x4 h) := (mo_if (mo_bz mo_rf) (mo_if (hg32 t x1 x2 x3 x4 x2 h) (mo_cI fun v4 h3 => (hg32 t x1 x2 x3 x4 v4 h3))))
theorem X12_quarrels_w10 {z : CZ} {g32 : Nat → Int32 → Int32 → Int32 → Int32 → Int32 → PH → Option Rs} (hk32 : SK (X12_quarrels_x z) 32 (X12_quarrels_u32 g32)) : SK (X12_quarrels_x z) 10 (X12_quarrels_u10 (X12_quarrels_f10 X12_rowsOf g32)) := by
  intro ls st h r e
  obtain ⟨hst, e⟩ := gL_of e
  obtain ⟨t, q0, e⟩ := gT_of e
  obtain ⟨x1, q1, e⟩ := gI_of e
  obtain ⟨x2, q2, e⟩ := gI_of e
  obtain ⟨x3, q3, e⟩ := gI_of e
  obtain ⟨x4, q4, e⟩ := gI_of e
  rw [st_0 hst]
  exact WK.sub (canon := [some (.inr (11, t + 1)), some (.inl x1), some (.inl x2), some (.inl x3), some (.inl x4), none, none]) rfl ⟨q0, q1, q2, q3, q4, trivial⟩ (X12_quarrels_s10 hk32 _ _ _ _ ((X12_quarrels_l10 X12_rowsOf g32 t x1 x2 x3 x4 h).trans e))
noncomputable def X12_quarrels_f32 (g37 : Nat → Int32 → Int32 → Int32 → Int32 → Int32 → Int32 → PH → Option Rs) (t : Nat) (x1 : Int32) (x2 : Int32) (x3 : Int32) (x4 : Int32) (s0 : Int32) (h : PH) : Option Rs :=
  g37 t x1 x2 x3 x4 s0 0 h
set_option maxRecDepth 100000 in
theorem X12_quarrels_l32 (g37 : Nat → Int32 → Int32 → Int32 → Int32 → Int32 → Int32 → PH → Option Rs) (t : Nat) (x1 : Int32) (x2 : Int32) (x3 : Int32) (x4 : Int32) (s0 : Int32) (h : PH) : X12_quarrels_b32 (X12_quarrels_u37 g37) [some (.inr (11, t + 1)), some (.inl x1), some (.inl x2), some (.inl x3), some (.inl x4), none, none] [.inl s0] h = X12_quarrels_f32 g37 t x1 x2 x3 x4 s0 h := rfl
theorem X12_quarrels_m32 {g37 G37 : Nat → Int32 → Int32 → Int32 → Int32 → Int32 → Int32 → PH → Option Rs} (hg37 : ∀ a0 a1 a2 a3 a4 a5 a6 a7, Mo (g37 a0 a1 a2 a3 a4 a5 a6 a7) (G37 a0 a1 a2 a3 a4 a5 a6 a7)) (t : Nat) (x1 : Int32) (x2 : Int32) (x3 : Int32) (x4 : Int32) (s0 : Int32) (h : PH) : Mo (X12_quarrels_f32 g37 t x1 x2 x3 x4 s0 h) (X12_quarrels_f32 G37 t x1 x2 x3 x4 s0 h) := (hg37 t x1 x2 x3 x4 s0 0 h)
theorem X12_quarrels_w32 {z : CZ} {g37 : Nat → Int32 → Int32 → Int32 → Int32 → Int32 → Int32 → PH → Option Rs} (hk37 : SK (X12_quarrels_x z) 37 (X12_quarrels_u37 g37)) : SK (X12_quarrels_x z) 32 (X12_quarrels_u32 (X12_quarrels_f32 g37)) := by
  intro ls st h r e
  obtain ⟨hst, e⟩ := gL_of e
  obtain ⟨t, q0, e⟩ := gT_of e
  obtain ⟨x1, q1, e⟩ := gI_of e
  obtain ⟨x2, q2, e⟩ := gI_of e
  obtain ⟨x3, q3, e⟩ := gI_of e
  obtain ⟨x4, q4, e⟩ := gI_of e
  obtain ⟨s0, q5, e⟩ := gI_of e
  rw [st_1 hst q5]
  exact WK.sub (canon := [some (.inr (11, t + 1)), some (.inl x1), some (.inl x2), some (.inl x3), some (.inl x4), none, none]) rfl ⟨q0, q1, q2, q3, q4, trivial⟩ (X12_quarrels_s32 hk37 _ _ _ _ ((X12_quarrels_l32 g37 t x1 x2 x3 x4 s0 h).trans e))
noncomputable def X12_quarrels_f37 (c_X12_of5 : Nat → Int32 → Int32 → PH → Option Rs) (c_X12_nameAt : Nat → Int32 → Int32 → PH → Option Rs) (c_X12_arrowAt : Nat → Int32 → Int32 → PH → Option Rs) (g10 : Nat → Int32 → Int32 → Int32 → Int32 → PH → Option Rs) (g91 : Nat → Int32 → Int32 → Int32 → Int32 → Int32 → Int32 → PH → Option Rs) (t : Nat) (x1 : Int32) (x2 : Int32) (x3 : Int32) (x4 : Int32) (x5 : Int32) (x6 : Int32) (h : PH) : Option Rs :=
  if x6 < x5 then
    cI (c_X12_of5 t x4 0 h) fun v6 h5 =>
    if v6 = x3 then
      cI (c_X12_nameAt t x4 x6 h5) fun v8 h7 =>
      cI (c_X12_nameAt t x1 x2 h7) fun v10 h9 =>
      if v8 = v10 then
        cI (c_X12_arrowAt t x4 x6 h9) fun v12 h11 =>
        cI (c_X12_arrowAt t x1 x2 h11) fun v14 h13 =>
        if v12 = v14 then
          g91 t x1 x2 x3 x4 x5 x6 h13
        else
          bz 1 <|
          some (some (.inl 1), h13)
      else
        g91 t x1 x2 x3 x4 x5 x6 h9
    else
      g91 t x1 x2 x3 x4 x5 x6 h5
  else
    g10 t x1 x2 x3 (x4 + 1) h
set_option maxRecDepth 100000 in
theorem X12_quarrels_l37 (c_X12_of5 : Nat → Int32 → Int32 → PH → Option Rs) (c_X12_nameAt : Nat → Int32 → Int32 → PH → Option Rs) (c_X12_arrowAt : Nat → Int32 → Int32 → PH → Option Rs) (g10 : Nat → Int32 → Int32 → Int32 → Int32 → PH → Option Rs) (g91 : Nat → Int32 → Int32 → Int32 → Int32 → Int32 → Int32 → PH → Option Rs) (t : Nat) (x1 : Int32) (x2 : Int32) (x3 : Int32) (x4 : Int32) (x5 : Int32) (x6 : Int32) (h : PH) : X12_quarrels_b37 c_X12_of5 c_X12_nameAt c_X12_arrowAt (X12_quarrels_u10 g10) (X12_quarrels_u91 g91) [some (.inr (11, t + 1)), some (.inl x1), some (.inl x2), some (.inl x3), some (.inl x4), some (.inl x5), some (.inl x6)] [] h = X12_quarrels_f37 c_X12_of5 c_X12_nameAt c_X12_arrowAt g10 g91 t x1 x2 x3 x4 x5 x6 h := rfl
theorem X12_quarrels_m37 {c_X12_of5 : Nat → Int32 → Int32 → PH → Option Rs} {c_X12_nameAt : Nat → Int32 → Int32 → PH → Option Rs} {c_X12_arrowAt : Nat → Int32 → Int32 → PH → Option Rs} {g10 G10 : Nat → Int32 → Int32 → Int32 → Int32 → PH → Option Rs} {g91 G91 : Nat → Int32 → Int32 → Int32 → Int32 → Int32 → Int32 → PH → Option Rs} (hg10 : ∀ a0 a1 a2 a3 a4 a5, Mo (g10 a0 a1 a2 a3 a4 a5) (G10 a0 a1 a2 a3 a4 a5)) (hg91 : ∀ a0 a1 a2 a3 a4 a5 a6 a7, Mo (g91 a0 a1 a2 a3 a4 a5 a6 a7) (G91 a0 a1 a2 a3 a4 a5 a6 a7)) (t : Nat) (x1 : Int32) (x2 : Int32) (x3 : Int32) (x4 : Int32) (x5 : Int32) (x6 : Int32) (h : PH) : Mo (X12_quarrels_f37 c_X12_of5 c_X12_nameAt c_X12_arrowAt g10 g91 t x1 x2 x3 x4 x5 x6 h) (X12_quarrels_f37 c_X12_of5 c_X12_nameAt c_X12_arrowAt G10 G91 t x1 x2 x3 x4 x5 x6 h) := (mo_if (mo_cI fun v6 h5 => (mo_if (mo_cI fun v8 h7 => (mo_cI fun v10 h9 => (mo_if (mo_cI fun v12 h11 => (mo_cI fun v14 h13 => (mo_if (hg91 t x1 x2 x3 x4 x5 x6 h13) (mo_bz mo_rf)))) (hg91 t x1 x2 x3 x4 x5 x6 h9)))) (hg91 t x1 x2 x3 x4 x5 x6 h5))) (hg10 t x1 x2 x3 (x4 + 1) h))
theorem X12_quarrels_w37 {z : CZ} {g10 : Nat → Int32 → Int32 → Int32 → Int32 → PH → Option Rs} {g91 : Nat → Int32 → Int32 → Int32 → Int32 → Int32 → Int32 → PH → Option Rs} (hk10 : SK (X12_quarrels_x z) 10 (X12_quarrels_u10 g10)) (hk91 : SK (X12_quarrels_x z) 91 (X12_quarrels_u91 g91)) : SK (X12_quarrels_x z) 37 (X12_quarrels_u37 (X12_quarrels_f37 X12_of5 X12_nameAt X12_arrowAt g10 g91)) := by
  intro ls st h r e
  obtain ⟨hst, e⟩ := gL_of e
  obtain ⟨t, q0, e⟩ := gT_of e
  obtain ⟨x1, q1, e⟩ := gI_of e
  obtain ⟨x2, q2, e⟩ := gI_of e
  obtain ⟨x3, q3, e⟩ := gI_of e
  obtain ⟨x4, q4, e⟩ := gI_of e
  obtain ⟨x5, q5, e⟩ := gI_of e
  obtain ⟨x6, q6, e⟩ := gI_of e
  rw [st_0 hst]
  exact WK.sub (canon := [some (.inr (11, t + 1)), some (.inl x1), some (.inl x2), some (.inl x3), some (.inl x4), some (.inl x5), some (.inl x6)]) rfl ⟨q0, q1, q2, q3, q4, q5, q6, trivial⟩ (X12_quarrels_s37 hk10 hk91 _ _ _ _ ((X12_quarrels_l37 X12_of5 X12_nameAt X12_arrowAt g10 g91 t x1 x2 x3 x4 x5 x6 h).trans e))
noncomputable def X12_quarrels_f91 (g37 : Nat → Int32 → Int32 → Int32 → Int32 → Int32 → Int32 → PH → Option Rs) (t : Nat) (x1 : Int32) (x2 : Int32) (x3 : Int32) (x4 : Int32) (x5 : Int32) (x6 : Int32) (h : PH) : Option Rs :=
  g37 t x1 x2 x3 x4 x5 (x6 + 1) h
set_option maxRecDepth 100000 in
theorem X12_quarrels_l91 (g37 : Nat → Int32 → Int32 → Int32 → Int32 → Int32 → Int32 → PH → Option Rs) (t : Nat) (x1 : Int32) (x2 : Int32) (x3 : Int32) (x4 : Int32) (x5 : Int32) (x6 : Int32) (h : PH) : X12_quarrels_b91 (X12_quarrels_u37 g37) [some (.inr (11, t + 1)), some (.inl x1), some (.inl x2), some (.inl x3), some (.inl x4), some (.inl x5), some (.inl x6)] [] h = X12_quarrels_f91 g37 t x1 x2 x3 x4 x5 x6 h := rfl
theorem X12_quarrels_m91 {g37 G37 : Nat → Int32 → Int32 → Int32 → Int32 → Int32 → Int32 → PH → Option Rs} (hg37 : ∀ a0 a1 a2 a3 a4 a5 a6 a7, Mo (g37 a0 a1 a2 a3 a4 a5 a6 a7) (G37 a0 a1 a2 a3 a4 a5 a6 a7)) (t : Nat) (x1 : Int32) (x2 : Int32) (x3 : Int32) (x4 : Int32) (x5 : Int32) (x6 : Int32) (h : PH) : Mo (X12_quarrels_f91 g37 t x1 x2 x3 x4 x5 x6 h) (X12_quarrels_f91 G37 t x1 x2 x3 x4 x5 x6 h) := (hg37 t x1 x2 x3 x4 x5 (x6 + 1) h)
theorem X12_quarrels_w91 {z : CZ} {g37 : Nat → Int32 → Int32 → Int32 → Int32 → Int32 → Int32 → PH → Option Rs} (hk37 : SK (X12_quarrels_x z) 37 (X12_quarrels_u37 g37)) : SK (X12_quarrels_x z) 91 (X12_quarrels_u91 (X12_quarrels_f91 g37)) := by
  intro ls st h r e
  obtain ⟨hst, e⟩ := gL_of e
  obtain ⟨t, q0, e⟩ := gT_of e
  obtain ⟨x1, q1, e⟩ := gI_of e
  obtain ⟨x2, q2, e⟩ := gI_of e
  obtain ⟨x3, q3, e⟩ := gI_of e
  obtain ⟨x4, q4, e⟩ := gI_of e
  obtain ⟨x5, q5, e⟩ := gI_of e
  obtain ⟨x6, q6, e⟩ := gI_of e
  rw [st_0 hst]
  exact WK.sub (canon := [some (.inr (11, t + 1)), some (.inl x1), some (.inl x2), some (.inl x3), some (.inl x4), some (.inl x5), some (.inl x6)]) rfl ⟨q0, q1, q2, q3, q4, q5, q6, trivial⟩ (X12_quarrels_s91 hk37 _ _ _ _ ((X12_quarrels_l91 g37 t x1 x2 x3 x4 x5 x6 h).trans e))
noncomputable def X12_quarrels_g0 (G : (Nat → Int32 → Int32 → Int32 → Int32 → PH → Option Rs) × (Nat → Int32 → Int32 → Int32 → Int32 → Int32 → Int32 → PH → Option Rs)) (t : Nat) (x1 : Int32) (x2 : Int32) (h : PH) : Option Rs := X12_quarrels_f0 X12_of5 (G).1 t x1 x2 h
noncomputable def X12_quarrels_g32 (G : (Nat → Int32 → Int32 → Int32 → Int32 → PH → Option Rs) × (Nat → Int32 → Int32 → Int32 → Int32 → Int32 → Int32 → PH → Option Rs)) (t : Nat) (x1 : Int32) (x2 : Int32) (x3 : Int32) (x4 : Int32) (s0 : Int32) (h : PH) : Option Rs := X12_quarrels_f32 (G).2 t x1 x2 x3 x4 s0 h
noncomputable def X12_quarrels_g10 (G : (Nat → Int32 → Int32 → Int32 → Int32 → PH → Option Rs) × (Nat → Int32 → Int32 → Int32 → Int32 → Int32 → Int32 → PH → Option Rs)) (t : Nat) (x1 : Int32) (x2 : Int32) (x3 : Int32) (x4 : Int32) (h : PH) : Option Rs := X12_quarrels_f10 X12_rowsOf (X12_quarrels_g32 G) t x1 x2 x3 x4 h
noncomputable def X12_quarrels_g91 (G : (Nat → Int32 → Int32 → Int32 → Int32 → PH → Option Rs) × (Nat → Int32 → Int32 → Int32 → Int32 → Int32 → Int32 → PH → Option Rs)) (t : Nat) (x1 : Int32) (x2 : Int32) (x3 : Int32) (x4 : Int32) (x5 : Int32) (x6 : Int32) (h : PH) : Option Rs := X12_quarrels_f91 (G).2 t x1 x2 x3 x4 x5 x6 h
noncomputable def X12_quarrels_g37 (G : (Nat → Int32 → Int32 → Int32 → Int32 → PH → Option Rs) × (Nat → Int32 → Int32 → Int32 → Int32 → Int32 → Int32 → PH → Option Rs)) (t : Nat) (x1 : Int32) (x2 : Int32) (x3 : Int32) (x4 : Int32) (x5 : Int32) (x6 : Int32) (h : PH) : Option Rs := X12_quarrels_f37 X12_of5 X12_nameAt X12_arrowAt (G).1 (X12_quarrels_g91 G) t x1 x2 x3 x4 x5 x6 h
theorem X12_quarrels_v32 {z : CZ} {G : (Nat → Int32 → Int32 → Int32 → Int32 → PH → Option Rs) × (Nat → Int32 → Int32 → Int32 → Int32 → Int32 → Int32 → PH → Option Rs)} (hG10 : SK (X12_quarrels_x z) 10 (X12_quarrels_u10 (G).1)) (hG37 : SK (X12_quarrels_x z) 37 (X12_quarrels_u37 (G).2)) : SK (X12_quarrels_x z) 32 (X12_quarrels_u32 (X12_quarrels_g32 G)) := X12_quarrels_w32 hG37
theorem X12_quarrels_v10 {z : CZ} {G : (Nat → Int32 → Int32 → Int32 → Int32 → PH → Option Rs) × (Nat → Int32 → Int32 → Int32 → Int32 → Int32 → Int32 → PH → Option Rs)} (hG10 : SK (X12_quarrels_x z) 10 (X12_quarrels_u10 (G).1)) (hG37 : SK (X12_quarrels_x z) 37 (X12_quarrels_u37 (G).2)) : SK (X12_quarrels_x z) 10 (X12_quarrels_u10 (X12_quarrels_g10 G)) := X12_quarrels_w10 (X12_quarrels_v32 hG10 hG37)
theorem X12_quarrels_v91 {z : CZ} {G : (Nat → Int32 → Int32 → Int32 → Int32 → PH → Option Rs) × (Nat → Int32 → Int32 → Int32 → Int32 → Int32 → Int32 → PH → Option Rs)} (hG10 : SK (X12_quarrels_x z) 10 (X12_quarrels_u10 (G).1)) (hG37 : SK (X12_quarrels_x z) 37 (X12_quarrels_u37 (G).2)) : SK (X12_quarrels_x z) 91 (X12_quarrels_u91 (X12_quarrels_g91 G)) := X12_quarrels_w91 hG37
theorem X12_quarrels_v37 {z : CZ} {G : (Nat → Int32 → Int32 → Int32 → Int32 → PH → Option Rs) × (Nat → Int32 → Int32 → Int32 → Int32 → Int32 → Int32 → PH → Option Rs)} (hG10 : SK (X12_quarrels_x z) 10 (X12_quarrels_u10 (G).1)) (hG37 : SK (X12_quarrels_x z) 37 (X12_quarrels_u37 (G).2)) : SK (X12_quarrels_x z) 37 (X12_quarrels_u37 (X12_quarrels_g37 G)) := X12_quarrels_w37 hG10 (X12_quarrels_v91 hG10 hG37)
noncomputable def X12_quarrels_fam : Nat → (Nat → Int32 → Int32 → Int32 → Int32 → PH → Option Rs) × (Nat → Int32 → Int32 → Int32 → Int32 → Int32 → Int32 → PH → Option Rs)
  | 0 => (fun _ _ _ _ _ _ => none, fun _ _ _ _ _ _ _ _ => none)
  | n + 1 => (X12_quarrels_g10 (X12_quarrels_fam n), X12_quarrels_g37 (X12_quarrels_fam n))
theorem X12_quarrels_k {z : CZ} : ∀ n, SK (X12_quarrels_x z) 10 (X12_quarrels_u10 (X12_quarrels_fam n).1) ∧ SK (X12_quarrels_x z) 37 (X12_quarrels_u37 (X12_quarrels_fam n).2)
  | 0 => ⟨(fun ls st h r e => by
      obtain ⟨_, e⟩ := gL_of e
      obtain ⟨_, _, e⟩ := gT_of e
      obtain ⟨_, _, e⟩ := gI_of e
      obtain ⟨_, _, e⟩ := gI_of e
      obtain ⟨_, _, e⟩ := gI_of e
      obtain ⟨_, _, e⟩ := gI_of e
      cases e), (fun ls st h r e => by
      obtain ⟨_, e⟩ := gL_of e
      obtain ⟨_, _, e⟩ := gT_of e
      obtain ⟨_, _, e⟩ := gI_of e
      obtain ⟨_, _, e⟩ := gI_of e
      obtain ⟨_, _, e⟩ := gI_of e
      obtain ⟨_, _, e⟩ := gI_of e
      obtain ⟨_, _, e⟩ := gI_of e
      obtain ⟨_, _, e⟩ := gI_of e
      cases e)⟩
  | n + 1 => by
    obtain ⟨ih10, ih37⟩ := X12_quarrels_k n
    exact ⟨X12_quarrels_v10 ih10 ih37, X12_quarrels_v37 ih10 ih37⟩
theorem X12_quarrels_n0 {G G' : (Nat → Int32 → Int32 → Int32 → Int32 → PH → Option Rs) × (Nat → Int32 → Int32 → Int32 → Int32 → Int32 → Int32 → PH → Option Rs)} (hg10 : ∀ a0 a1 a2 a3 a4 a5, Mo ((G).1 a0 a1 a2 a3 a4 a5) ((G').1 a0 a1 a2 a3 a4 a5)) (hg37 : ∀ a0 a1 a2 a3 a4 a5 a6 a7, Mo ((G).2 a0 a1 a2 a3 a4 a5 a6 a7) ((G').2 a0 a1 a2 a3 a4 a5 a6 a7)) (t : Nat) (x1 : Int32) (x2 : Int32) (h : PH) : Mo (X12_quarrels_g0 G t x1 x2 h) (X12_quarrels_g0 G' t x1 x2 h) := X12_quarrels_m0 hg10 t x1 x2 h
theorem X12_quarrels_n32 {G G' : (Nat → Int32 → Int32 → Int32 → Int32 → PH → Option Rs) × (Nat → Int32 → Int32 → Int32 → Int32 → Int32 → Int32 → PH → Option Rs)} (hg10 : ∀ a0 a1 a2 a3 a4 a5, Mo ((G).1 a0 a1 a2 a3 a4 a5) ((G').1 a0 a1 a2 a3 a4 a5)) (hg37 : ∀ a0 a1 a2 a3 a4 a5 a6 a7, Mo ((G).2 a0 a1 a2 a3 a4 a5 a6 a7) ((G').2 a0 a1 a2 a3 a4 a5 a6 a7)) (t : Nat) (x1 : Int32) (x2 : Int32) (x3 : Int32) (x4 : Int32) (s0 : Int32) (h : PH) : Mo (X12_quarrels_g32 G t x1 x2 x3 x4 s0 h) (X12_quarrels_g32 G' t x1 x2 x3 x4 s0 h) := X12_quarrels_m32 hg37 t x1 x2 x3 x4 s0 h
theorem X12_quarrels_n10 {G G' : (Nat → Int32 → Int32 → Int32 → Int32 → PH → Option Rs) × (Nat → Int32 → Int32 → Int32 → Int32 → Int32 → Int32 → PH → Option Rs)} (hg10 : ∀ a0 a1 a2 a3 a4 a5, Mo ((G).1 a0 a1 a2 a3 a4 a5) ((G').1 a0 a1 a2 a3 a4 a5)) (hg37 : ∀ a0 a1 a2 a3 a4 a5 a6 a7, Mo ((G).2 a0 a1 a2 a3 a4 a5 a6 a7) ((G').2 a0 a1 a2 a3 a4 a5 a6 a7)) (t : Nat) (x1 : Int32) (x2 : Int32) (x3 : Int32) (x4 : Int32) (h : PH) : Mo (X12_quarrels_g10 G t x1 x2 x3 x4 h) (X12_quarrels_g10 G' t x1 x2 x3 x4 h) := X12_quarrels_m10 (fun a0 a1 a2 a3 a4 a5 a6 => X12_quarrels_n32 hg10 hg37 a0 a1 a2 a3 a4 a5 a6) t x1 x2 x3 x4 h
theorem X12_quarrels_n91 {G G' : (Nat → Int32 → Int32 → Int32 → Int32 → PH → Option Rs) × (Nat → Int32 → Int32 → Int32 → Int32 → Int32 → Int32 → PH → Option Rs)} (hg10 : ∀ a0 a1 a2 a3 a4 a5, Mo ((G).1 a0 a1 a2 a3 a4 a5) ((G').1 a0 a1 a2 a3 a4 a5)) (hg37 : ∀ a0 a1 a2 a3 a4 a5 a6 a7, Mo ((G).2 a0 a1 a2 a3 a4 a5 a6 a7) ((G').2 a0 a1 a2 a3 a4 a5 a6 a7)) (t : Nat) (x1 : Int32) (x2 : Int32) (x3 : Int32) (x4 : Int32) (x5 : Int32) (x6 : Int32) (h : PH) : Mo (X12_quarrels_g91 G t x1 x2 x3 x4 x5 x6 h) (X12_quarrels_g91 G' t x1 x2 x3 x4 x5 x6 h) := X12_quarrels_m91 hg37 t x1 x2 x3 x4 x5 x6 h
theorem X12_quarrels_n37 {G G' : (Nat → Int32 → Int32 → Int32 → Int32 → PH → Option Rs) × (Nat → Int32 → Int32 → Int32 → Int32 → Int32 → Int32 → PH → Option Rs)} (hg10 : ∀ a0 a1 a2 a3 a4 a5, Mo ((G).1 a0 a1 a2 a3 a4 a5) ((G').1 a0 a1 a2 a3 a4 a5)) (hg37 : ∀ a0 a1 a2 a3 a4 a5 a6 a7, Mo ((G).2 a0 a1 a2 a3 a4 a5 a6 a7) ((G').2 a0 a1 a2 a3 a4 a5 a6 a7)) (t : Nat) (x1 : Int32) (x2 : Int32) (x3 : Int32) (x4 : Int32) (x5 : Int32) (x6 : Int32) (h : PH) : Mo (X12_quarrels_g37 G t x1 x2 x3 x4 x5 x6 h) (X12_quarrels_g37 G' t x1 x2 x3 x4 x5 x6 h) := X12_quarrels_m37 hg10 (fun a0 a1 a2 a3 a4 a5 a6 a7 => X12_quarrels_n91 hg10 hg37 a0 a1 a2 a3 a4 a5 a6 a7) t x1 x2 x3 x4 x5 x6 h
theorem X12_quarrels_fm : ∀ n, (∀ a0 a1 a2 a3 a4 a5, Mo ((X12_quarrels_fam n).1 a0 a1 a2 a3 a4 a5) ((X12_quarrels_fam (n + 1)).1 a0 a1 a2 a3 a4 a5)) ∧ (∀ a0 a1 a2 a3 a4 a5 a6 a7, Mo ((X12_quarrels_fam n).2 a0 a1 a2 a3 a4 a5 a6 a7) ((X12_quarrels_fam (n + 1)).2 a0 a1 a2 a3 a4 a5 a6 a7))
  | 0 => ⟨fun _ _ _ _ _ _ => mo_no, fun _ _ _ _ _ _ _ _ => mo_no⟩
  | n + 1 => by
    obtain ⟨ih10, ih37⟩ := X12_quarrels_fm n
    exact ⟨fun a0 a1 a2 a3 a4 a5 => X12_quarrels_n10 ih10 ih37 a0 a1 a2 a3 a4 a5, fun a0 a1 a2 a3 a4 a5 a6 a7 => X12_quarrels_n37 ih10 ih37 a0 a1 a2 a3 a4 a5 a6 a7⟩
noncomputable def X12_quarrels (t : Nat) (x1 : Int32) (x2 : Int32) (h : PH) : Option Rs := lim (fun n => X12_quarrels_g0 (X12_quarrels_fam n) t x1 x2 h)
theorem X12_quarrels_iff {t : Nat} {x1 : Int32} {x2 : Int32} {h : PH} {r : Rs} : X12_quarrels t x1 x2 h = some r ↔ ∃ n, X12_quarrels_g0 (X12_quarrels_fam n) t x1 x2 h = some r := lim_iff (fun n => by
  obtain ⟨ih10, ih37⟩ := X12_quarrels_fm n
  exact X12_quarrels_n0 ih10 ih37 t x1 x2 h)
noncomputable abbrev X12_quarrels_F : List PV → PH → Option Rs := FW_T11II (X12_quarrels)
set_option maxRecDepth 100000 in
theorem X12_quarrels_gd (l : Launch) : Gd l 2 yX12_quarrels cX12_quarrels 7 (some .boolean) (X12_quarrels_F)   := Gd_of (by decide +kernel) (fun z hzl as h r e => by
  obtain ⟨hst, e⟩ := gL_of e
  obtain ⟨t, q0, e⟩ := gT_of e
  obtain ⟨x1, q1, e⟩ := gI_of e
  obtain ⟨x2, q2, e⟩ := gI_of e
  rw [st_3 hst q0 q1 q2]
  obtain ⟨n, e⟩ := lim_of e
  obtain ⟨hG10, hG37⟩ := X12_quarrels_k (z := z) n
  exact ⟨show 3 ≤ 7 by decide, X12_quarrels_s0 hG10 _ _ _ _ ((X12_quarrels_l0 X12_of5 (X12_quarrels_fam n).1 t x1 x2 h).trans e)⟩)
abbrev X12_waysAt_x (z : CZ) : CX := mx RX12 cX12_waysAt 4 0 (some .int) "waysAt" z
noncomputable def X12_waysAt_b0 (k4 : Kn) : Kn := (a_ic 0 (a_is 2 (a_ic 0 (a_is 3 k4))))
set_option maxRecDepth 100000 in
theorem X12_waysAt_s0 {z : CZ} {k4 : Kn} (hk4 : SK (X12_waysAt_x z) 4 k4) : SK (X12_waysAt_x z) 0 (X12_waysAt_b0 k4) := (s_iconst (pc := 0) dX12_waysAt_0 c_ic_0 (s_istoren (pc := 1) dX12_waysAt_1 rfl (show 2 < 4 by decide) (s_iconst (pc := 2) dX12_waysAt_2 c_ic_0 (s_istoren (pc := 3) dX12_waysAt_3 rfl (show 3 < 4 by decide) hk4))))
noncomputable def X12_waysAt_b4 (k54 : Kn) : Kn := (a_il 3 (a_al 0 (a_gR 11 704 41 (a_ic 4 (a_ald 41 2624 (a_lt (a_il 2 (a_al 0 (a_gR 11 704 41 (a_ic 15 (a_ic 6 (a_il 3 (a_b (fun a b => a * b) (a_b (fun a b => a + b) (a_ald 41 2624 (a_il 1 (a_eq (a_ic 1 k54) (a_al 0 (a_gR 11 704 41 (a_ic 15 (a_ic 6 (a_il 3 (a_b (fun a b => a * b) (a_b (fun a b => a + b) (a_ic 1 (a_b (fun a b => a + b) (a_ald 41 2624 (a_il 1 (a_eq (a_ic 1 k54) (a_ic 0 k54)))))))))))))))))))))))) (a_il 2 a_ir)))))))
set_option maxRecDepth 100000 in
theorem X12_waysAt_s4 {z : CZ} {k54 : Kn} (hk54 : SK (X12_waysAt_x z) 54 k54) : SK (X12_waysAt_x z) 4 (X12_waysAt_b4 k54) := (s_iloadn (pc := 4) dX12_waysAt_4 rfl (s_aloadn (pc := 5) dX12_waysAt_5 rfl (s_gR (pc := 6) (f := 0) ko_11 (by decide) rfl rfl w_1295 dX12_waysAt_6 (s_iconst (pc := 9) dX12_waysAt_9 c_ic_4 (s_iald (pc := 10) (by decide) (by decide) rfl rfl rfl dX12_waysAt_10 (s_cmpge (pc := 11) dX12_waysAt_11 (by decide) (s_iloadn (pc := 62) dX12_waysAt_62 rfl (s_ir (pc := 63) rfl dX12_waysAt_63)) (s_iloadn (pc := 14) dX12_waysAt_14 rfl (s_aloadn (pc := 15) dX12_waysAt_15 rfl (s_gR (pc := 16) (f := 0) ko_11 (by decide) rfl rfl w_1295 dX12_waysAt_16 (s_bipush (pc := 19) dX12_waysAt_19 c_bp_15 (s_bipush (pc := 21) dX12_waysAt_21 c_bp_6 (s_iloadn (pc := 23) dX12_waysAt_23 rfl (s_imul (pc := 24) dX12_waysAt_24 (s_iadd (pc := 25) dX12_waysAt_25 (s_iald (pc := 26) (by decide) (by decide) rfl rfl rfl dX12_waysAt_26 (s_iloadn (pc := 27) dX12_waysAt_27 rfl (s_cmpeq (pc := 28) dX12_waysAt_28 (by decide) (s_iconst (pc := 49) dX12_waysAt_49 c_ic_1 (s_goto (pc := 50) dX12_waysAt_50 (by decide) hk54)) (s_aloadn (pc := 31) dX12_waysAt_31 rfl (s_gR (pc := 32) (f := 0) ko_11 (by decide) rfl rfl w_1295 dX12_waysAt_32 (s_bipush (pc := 35) dX12_waysAt_35 c_bp_15 (s_bipush (pc := 37) dX12_waysAt_37 c_bp_6 (s_iloadn (pc := 39) dX12_waysAt_39 rfl (s_imul (pc := 40) dX12_waysAt_40 (s_iadd (pc := 41) dX12_waysAt_41 (s_iconst (pc := 42) dX12_waysAt_42 c_ic_1 (s_iadd (pc := 43) dX12_waysAt_43 (s_iald (pc := 44) (by decide) (by decide) rfl rfl rfl dX12_waysAt_44 (s_iloadn (pc := 45) dX12_waysAt_45 rfl (s_cmpne (pc := 46) dX12_waysAt_46 (by decide) (s_iconst (pc := 53) dX12_waysAt_53 c_ic_0 hk54) (s_iconst (pc := 49) dX12_waysAt_49 c_ic_1 (s_goto (pc := 50) dX12_waysAt_50 (by decide) hk54)))))))))))))))))))))))))))))))
noncomputable def X12_waysAt_b54 (k4 : Kn) : Kn := (a_b (fun a b => a + b) (a_is 2 (a_inc 3 1 k4)))
set_option maxRecDepth 100000 in
theorem X12_waysAt_s54 {z : CZ} {k4 : Kn} (hk4 : SK (X12_waysAt_x z) 4 k4) : SK (X12_waysAt_x z) 54 (X12_waysAt_b54 k4) := (s_iadd (pc := 54) dX12_waysAt_54 (s_istoren (pc := 55) dX12_waysAt_55 rfl (show 2 < 4 by decide) (s_iinc (pc := 56) dX12_waysAt_56 c_ic_1 (show 3 < 4 by decide) (s_goto (pc := 59) dX12_waysAt_59 (by decide) hk4))))
noncomputable def X12_waysAt_u4 (g : Nat → Int32 → Int32 → Int32 → PH → Option Rs) : Kn := fun ls st h => gL 0 st (gT 11 ls 0 fun t => gI ls 1 fun x1 => gI ls 2 fun x2 => gI ls 3 fun x3 => g t x1 x2 x3 h)
noncomputable def X12_waysAt_u54 (g : Nat → Int32 → Int32 → Int32 → Int32 → PH → Option Rs) : Kn := fun ls st h => gL 2 st (gT 11 ls 0 fun t => gI ls 1 fun x1 => gI ls 3 fun x3 => gI (st.map some) 0 fun s0 => gI (st.map some) 1 fun s1 => g t x1 x3 s0 s1 h)
noncomputable def X12_waysAt_f0 (g4 : Nat → Int32 → Int32 → Int32 → PH → Option Rs) (t : Nat) (x1 : Int32) (h : PH) : Option Rs :=
  g4 t x1 0 0 h
set_option maxRecDepth 100000 in
theorem X12_waysAt_l0 (g4 : Nat → Int32 → Int32 → Int32 → PH → Option Rs) (t : Nat) (x1 : Int32) (h : PH) : X12_waysAt_b0 (X12_waysAt_u4 g4) [some (.inr (11, t + 1)), some (.inl x1), none, none] [] h = X12_waysAt_f0 g4 t x1 h := rfl
theorem X12_waysAt_m0 {g4 G4 : Nat → Int32 → Int32 → Int32 → PH → Option Rs} (hg4 : ∀ a0 a1 a2 a3 a4, Mo (g4 a0 a1 a2 a3 a4) (G4 a0 a1 a2 a3 a4)) (t : Nat) (x1 : Int32) (h : PH) : Mo (X12_waysAt_f0 g4 t x1 h) (X12_waysAt_f0 G4 t x1 h) := (hg4 t x1 0 0 h)
noncomputable def X12_waysAt_f4 (g54 : Nat → Int32 → Int32 → Int32 → Int32 → PH → Option Rs) (t : Nat) (x1 : Int32) (x2 : Int32) (x3 : Int32) (h : PH) : Option Rs :=
  nn (hR h 704 t 0) fun r1 =>
  ix 4 (hL h 41 r1) fun j2 =>
  if x3 < (hI h 2624 r1 j2) then
    nn (hR h 704 t 0) fun r3 =>
    ix (15 + (6 * x3)) (hL h 41 r3) fun j4 =>
    if (hI h 2624 r3 j4) = x1 then
      g54 t x1 x3 1 x2 h
    else
      nn (hR h 704 t 0) fun r5 =>
      ix ((15 + (6 * x3)) + 1) (hL h 41 r5) fun j6 =>
      if (hI h 2624 r5 j6) = x1 then
        g54 t x1 x3 1 x2 h
      else
        g54 t x1 x3 0 x2 h
  else
    some (some (.inl x2), h)
set_option maxRecDepth 100000 in
theorem X12_waysAt_l4 (g54 : Nat → Int32 → Int32 → Int32 → Int32 → PH → Option Rs) (t : Nat) (x1 : Int32) (x2 : Int32) (x3 : Int32) (h : PH) : X12_waysAt_b4 (X12_waysAt_u54 g54) [some (.inr (11, t + 1)), some (.inl x1), some (.inl x2), some (.inl x3)] [] h = X12_waysAt_f4 g54 t x1 x2 x3 h := rfl
theorem X12_waysAt_m4 {g54 G54 : Nat → Int32 → Int32 → Int32 → Int32 → PH → Option Rs} (hg54 : ∀ a0 a1 a2 a3 a4 a5, Mo (g54 a0 a1 a2 a3 a4 a5) (G54 a0 a1 a2 a3 a4 a5)) (t : Nat) (x1 : Int32) (x2 : Int32) (x3 : Int32) (h : PH) : Mo (X12_waysAt_f4 g54 t x1 x2 x3 h) (X12_waysAt_f4 G54 t x1 x2 x3 h) := (mo_nn fun r1 => (mo_ix fun j2 => (mo_if (mo_nn fun r3 => (mo_ix fun j4 => (mo_if (hg54 t x1 x3 1 x2 h) (mo_nn fun r5 => (mo_ix fun j6 => (mo_if (hg54 t x1 x3 1 x2 h) (hg54 t x1 x3 0 x2 h))))))) mo_rf)))
theorem X12_waysAt_w4 {z : CZ} {g54 : Nat → Int32 → Int32 → Int32 → Int32 → PH → Option Rs} (hk54 : SK (X12_waysAt_x z) 54 (X12_waysAt_u54 g54)) : SK (X12_waysAt_x z) 4 (X12_waysAt_u4 (X12_waysAt_f4 g54)) := by
  intro ls st h r e
  obtain ⟨hst, e⟩ := gL_of e
  obtain ⟨t, q0, e⟩ := gT_of e
  obtain ⟨x1, q1, e⟩ := gI_of e
  obtain ⟨x2, q2, e⟩ := gI_of e
  obtain ⟨x3, q3, e⟩ := gI_of e
  rw [st_0 hst]
  exact WK.sub (canon := [some (.inr (11, t + 1)), some (.inl x1), some (.inl x2), some (.inl x3)]) rfl ⟨q0, q1, q2, q3, trivial⟩ (X12_waysAt_s4 hk54 _ _ _ _ ((X12_waysAt_l4 g54 t x1 x2 x3 h).trans e))
noncomputable def X12_waysAt_f54 (g4 : Nat → Int32 → Int32 → Int32 → PH → Option Rs) (t : Nat) (x1 : Int32) (x3 : Int32) (s0 : Int32) (s1 : Int32) (h : PH) : Option Rs :=
  g4 t x1 (s1 + s0) (x3 + 1) h
set_option maxRecDepth 100000 in
theorem X12_waysAt_l54 (g4 : Nat → Int32 → Int32 → Int32 → PH → Option Rs) (t : Nat) (x1 : Int32) (x3 : Int32) (s0 : Int32) (s1 : Int32) (h : PH) : X12_waysAt_b54 (X12_waysAt_u4 g4) [some (.inr (11, t + 1)), some (.inl x1), none, some (.inl x3)] [.inl s0, .inl s1] h = X12_waysAt_f54 g4 t x1 x3 s0 s1 h := rfl
theorem X12_waysAt_m54 {g4 G4 : Nat → Int32 → Int32 → Int32 → PH → Option Rs} (hg4 : ∀ a0 a1 a2 a3 a4, Mo (g4 a0 a1 a2 a3 a4) (G4 a0 a1 a2 a3 a4)) (t : Nat) (x1 : Int32) (x3 : Int32) (s0 : Int32) (s1 : Int32) (h : PH) : Mo (X12_waysAt_f54 g4 t x1 x3 s0 s1 h) (X12_waysAt_f54 G4 t x1 x3 s0 s1 h) := (hg4 t x1 (s1 + s0) (x3 + 1) h)
theorem X12_waysAt_w54 {z : CZ} {g4 : Nat → Int32 → Int32 → Int32 → PH → Option Rs} (hk4 : SK (X12_waysAt_x z) 4 (X12_waysAt_u4 g4)) : SK (X12_waysAt_x z) 54 (X12_waysAt_u54 (X12_waysAt_f54 g4)) := by
  intro ls st h r e
  obtain ⟨hst, e⟩ := gL_of e
  obtain ⟨t, q0, e⟩ := gT_of e
  obtain ⟨x1, q1, e⟩ := gI_of e
  obtain ⟨x3, q2, e⟩ := gI_of e
  obtain ⟨s0, q3, e⟩ := gI_of e
  obtain ⟨s1, q4, e⟩ := gI_of e
  rw [st_2 hst q3 q4]
  exact WK.sub (canon := [some (.inr (11, t + 1)), some (.inl x1), none, some (.inl x3)]) rfl ⟨q0, q1, q2, trivial⟩ (X12_waysAt_s54 hk4 _ _ _ _ ((X12_waysAt_l54 g4 t x1 x3 s0 s1 h).trans e))
noncomputable def X12_waysAt_g0 (G : (Nat → Int32 → Int32 → Int32 → PH → Option Rs)) (t : Nat) (x1 : Int32) (h : PH) : Option Rs := X12_waysAt_f0 (G) t x1 h
noncomputable def X12_waysAt_g54 (G : (Nat → Int32 → Int32 → Int32 → PH → Option Rs)) (t : Nat) (x1 : Int32) (x3 : Int32) (s0 : Int32) (s1 : Int32) (h : PH) : Option Rs := X12_waysAt_f54 (G) t x1 x3 s0 s1 h
noncomputable def X12_waysAt_g4 (G : (Nat → Int32 → Int32 → Int32 → PH → Option Rs)) (t : Nat) (x1 : Int32) (x2 : Int32) (x3 : Int32) (h : PH) : Option Rs := X12_waysAt_f4 (X12_waysAt_g54 G) t x1 x2 x3 h
theorem X12_waysAt_v54 {z : CZ} {G : (Nat → Int32 → Int32 → Int32 → PH → Option Rs)} (hG4 : SK (X12_waysAt_x z) 4 (X12_waysAt_u4 (G))) : SK (X12_waysAt_x z) 54 (X12_waysAt_u54 (X12_waysAt_g54 G)) := X12_waysAt_w54 hG4
theorem X12_waysAt_v4 {z : CZ} {G : (Nat → Int32 → Int32 → Int32 → PH → Option Rs)} (hG4 : SK (X12_waysAt_x z) 4 (X12_waysAt_u4 (G))) : SK (X12_waysAt_x z) 4 (X12_waysAt_u4 (X12_waysAt_g4 G)) := X12_waysAt_w4 (X12_waysAt_v54 hG4)
noncomputable def X12_waysAt_fam : Nat → (Nat → Int32 → Int32 → Int32 → PH → Option Rs)
  | 0 => fun _ _ _ _ _ => none
  | n + 1 => X12_waysAt_g4 (X12_waysAt_fam n)
theorem X12_waysAt_k {z : CZ} : ∀ n, SK (X12_waysAt_x z) 4 (X12_waysAt_u4 (X12_waysAt_fam n))
  | 0 => (fun ls st h r e => by
      obtain ⟨_, e⟩ := gL_of e
      obtain ⟨_, _, e⟩ := gT_of e
      obtain ⟨_, _, e⟩ := gI_of e
      obtain ⟨_, _, e⟩ := gI_of e
      obtain ⟨_, _, e⟩ := gI_of e
      cases e)
  | n + 1 => by
    obtain ih4 := X12_waysAt_k n
    exact X12_waysAt_v4 ih4
theorem X12_waysAt_n0 {G G' : (Nat → Int32 → Int32 → Int32 → PH → Option Rs)} (hg4 : ∀ a0 a1 a2 a3 a4, Mo ((G) a0 a1 a2 a3 a4) ((G') a0 a1 a2 a3 a4)) (t : Nat) (x1 : Int32) (h : PH) : Mo (X12_waysAt_g0 G t x1 h) (X12_waysAt_g0 G' t x1 h) := X12_waysAt_m0 hg4 t x1 h
theorem X12_waysAt_n54 {G G' : (Nat → Int32 → Int32 → Int32 → PH → Option Rs)} (hg4 : ∀ a0 a1 a2 a3 a4, Mo ((G) a0 a1 a2 a3 a4) ((G') a0 a1 a2 a3 a4)) (t : Nat) (x1 : Int32) (x3 : Int32) (s0 : Int32) (s1 : Int32) (h : PH) : Mo (X12_waysAt_g54 G t x1 x3 s0 s1 h) (X12_waysAt_g54 G' t x1 x3 s0 s1 h) := X12_waysAt_m54 hg4 t x1 x3 s0 s1 h
theorem X12_waysAt_n4 {G G' : (Nat → Int32 → Int32 → Int32 → PH → Option Rs)} (hg4 : ∀ a0 a1 a2 a3 a4, Mo ((G) a0 a1 a2 a3 a4) ((G') a0 a1 a2 a3 a4)) (t : Nat) (x1 : Int32) (x2 : Int32) (x3 : Int32) (h : PH) : Mo (X12_waysAt_g4 G t x1 x2 x3 h) (X12_waysAt_g4 G' t x1 x2 x3 h) := X12_waysAt_m4 (fun a0 a1 a2 a3 a4 a5 => X12_waysAt_n54 hg4 a0 a1 a2 a3 a4 a5) t x1 x2 x3 h
theorem X12_waysAt_fm : ∀ n, (∀ a0 a1 a2 a3 a4, Mo ((X12_waysAt_fam n) a0 a1 a2 a3 a4) ((X12_waysAt_fam (n + 1)) a0 a1 a2 a3 a4))
  | 0 => fun _ _ _ _ _ => mo_no
  | n + 1 => by
    obtain ih4 := X12_waysAt_fm n
    exact fun a0 a1 a2 a3 a4 => X12_waysAt_n4 ih4 a0 a1 a2 a3 a4
noncomputable def X12_waysAt (t : Nat) (x1 : Int32) (h : PH) : Option Rs := lim (fun n => X12_waysAt_g0 (X12_waysAt_fam n) t x1 h)
theorem X12_waysAt_iff {t : Nat} {x1 : Int32} {h : PH} {r : Rs} : X12_waysAt t x1 h = some r ↔ ∃ n, X12_waysAt_g0 (X12_waysAt_fam n) t x1 h = some r := lim_iff (fun n => by
  obtain ih4 := X12_waysAt_fm n
  exact X12_waysAt_n0 ih4 t x1 h)
noncomputable abbrev X12_waysAt_F : List PV → PH → Option Rs := FW_T11I (X12_waysAt)
set_option maxRecDepth 100000 in
theorem X12_waysAt_gd (l : Launch) : Gd l 0 yX12_waysAt cX12_waysAt 4 (some .int) (X12_waysAt_F)   := Gd_of (by decide +kernel) (fun z hzl as h r e => by
  obtain ⟨hst, e⟩ := gL_of e
  obtain ⟨t, q0, e⟩ := gT_of e
  obtain ⟨x1, q1, e⟩ := gI_of e
  rw [st_2 hst q0 q1]
  obtain ⟨n, e⟩ := lim_of e
  obtain hG4 := X12_waysAt_k (z := z) n
  exact ⟨show 2 ≤ 4 by decide, X12_waysAt_s0 hG4 _ _ _ _ ((X12_waysAt_l0 (X12_waysAt_fam n) t x1 h).trans e)⟩)
abbrev X12_goesOn_x (z : CZ) : CX := mx RX12 cX12_goesOn 8 2 (some .boolean) "goesOn" z
noncomputable def X12_goesOn_b0 (k2 : Kn) : Kn := (a_ic 0 (a_is 3 k2))
set_option maxRecDepth 100000 in
theorem X12_goesOn_s0 {z : CZ} {k2 : Kn} (hk2 : SK (X12_goesOn_x z) 2 k2) : SK (X12_goesOn_x z) 0 (X12_goesOn_b0 k2) := (s_iconst (pc := 0) dX12_goesOn_0 c_ic_0 (s_istoren (pc := 1) dX12_goesOn_1 rfl (show 3 < 8 by decide) hk2))
noncomputable def X12_goesOn_b2 (c_X12_placeOf : Nat → Int32 → PH → Option Rs) (c_X12_groupOf : Nat → Int32 → PH → Option Rs) (k46 k54 : Kn) : Kn := (a_il 3 (a_al 0 (a_gR 11 704 41 (a_ic 5 (a_ald 41 2624 (a_lt (a_al 0 (a_il 3 (a_vI 11 1 (FW_T11I c_X12_placeOf) (a_il 1 (a_eq (a_il 3 (a_il 2 (a_eq (a_ic 1 a_zr) (a_il 2 (a_ic 10 (a_lt k46 (a_al 0 (a_il 3 (a_vI 11 1 (FW_T11I c_X12_groupOf) (a_il 2 (a_ic 10 (a_b (fun a b => a - b) (a_eq (a_ic 1 a_zr) k46))))))))))))) k46))))) (a_ic 0 (a_is 3 k54))))))))
set_option maxRecDepth 100000 in
theorem X12_goesOn_s2 {z : CZ} {k46 k54 : Kn} (hk46 : SK (X12_goesOn_x z) 46 k46) (hk54 : SK (X12_goesOn_x z) 54 k54) : SK (X12_goesOn_x z) 2 (X12_goesOn_b2 X12_placeOf X12_groupOf k46 k54) := (s_iloadn (pc := 2) dX12_goesOn_2 rfl (s_aloadn (pc := 3) dX12_goesOn_3 rfl (s_gR (pc := 4) (f := 0) ko_11 (by decide) rfl rfl w_1295 dX12_goesOn_4 (s_iconst (pc := 7) dX12_goesOn_7 c_ic_5 (s_iald (pc := 8) (by decide) (by decide) rfl rfl rfl dX12_goesOn_8 (s_cmpge (pc := 9) dX12_goesOn_9 (by decide) (s_iconst (pc := 52) dX12_goesOn_52 c_ic_0 (s_istoren (pc := 53) dX12_goesOn_53 rfl (show 3 < 8 by decide) hk54)) (s_aloadn (pc := 12) dX12_goesOn_12 rfl (s_iloadn (pc := 13) dX12_goesOn_13 rfl (s_vI (pc := 14) (run_virtual (X12_placeOf_gd _) (show 0 < 2 by decide) cy_X12_placeOf (by decide) rfl w_1509 w_s35 w_1507 dX12_goesOn_14) (s_iloadn (pc := 17) dX12_goesOn_17 rfl (s_cmpne (pc := 18) dX12_goesOn_18 (by decide) hk46 (s_iloadn (pc := 21) dX12_goesOn_21 rfl (s_iloadn (pc := 22) dX12_goesOn_22 rfl (s_cmpeq (pc := 23) dX12_goesOn_23 (by decide) (s_iconst (pc := 44) dX12_goesOn_44 c_ic_1 (s_zr (pc := 45) rfl dX12_goesOn_45)) (s_iloadn (pc := 26) dX12_goesOn_26 rfl (s_bipush (pc := 27) dX12_goesOn_27 c_bp_10 (s_cmplt (pc := 29) dX12_goesOn_29 (by decide) hk46 (s_aloadn (pc := 32) dX12_goesOn_32 rfl (s_iloadn (pc := 33) dX12_goesOn_33 rfl (s_vI (pc := 34) (run_virtual (X12_groupOf_gd _) (show 0 < 2 by decide) cy_X12_groupOf (by decide) rfl w_1513 w_s36 w_1511 dX12_goesOn_34) (s_iloadn (pc := 37) dX12_goesOn_37 rfl (s_bipush (pc := 38) dX12_goesOn_38 c_bp_10 (s_isub (pc := 40) dX12_goesOn_40 (s_cmpne (pc := 41) dX12_goesOn_41 (by decide) hk46 (s_iconst (pc := 44) dX12_goesOn_44 c_ic_1 (s_zr (pc := 45) rfl dX12_goesOn_45))))))))))))))))))))))))))
noncomputable def X12_goesOn_b46 (k2 : Kn) : Kn := (a_inc 3 1 k2)
set_option maxRecDepth 100000 in
theorem X12_goesOn_s46 {z : CZ} {k2 : Kn} (hk2 : SK (X12_goesOn_x z) 2 k2) : SK (X12_goesOn_x z) 46 (X12_goesOn_b46 k2) := (s_iinc (pc := 46) dX12_goesOn_46 c_ic_1 (show 3 < 8 by decide) (s_goto (pc := 49) dX12_goesOn_49 (by decide) hk2))
noncomputable def X12_goesOn_b54 (k68 : Kn) : Kn := (a_il 3 (a_al 0 (a_gR 11 704 41 (a_ic 6 (a_ald 41 2624 (a_lt (a_ic 0 (a_is 4 k68)) (a_ic 0 a_zr)))))))
set_option maxRecDepth 100000 in
theorem X12_goesOn_s54 {z : CZ} {k68 : Kn} (hk68 : SK (X12_goesOn_x z) 68 k68) : SK (X12_goesOn_x z) 54 (X12_goesOn_b54 k68) := (s_iloadn (pc := 54) dX12_goesOn_54 rfl (s_aloadn (pc := 55) dX12_goesOn_55 rfl (s_gR (pc := 56) (f := 0) ko_11 (by decide) rfl rfl w_1295 dX12_goesOn_56 (s_bipush (pc := 59) dX12_goesOn_59 c_bp_6 (s_iald (pc := 61) (by decide) (by decide) rfl rfl rfl dX12_goesOn_61 (s_cmpge (pc := 62) dX12_goesOn_62 (by decide) (s_iconst (pc := 208) dX12_goesOn_208 c_ic_0 (s_zr (pc := 209) rfl dX12_goesOn_209)) (s_iconst (pc := 65) dX12_goesOn_65 c_ic_0 (s_istore (pc := 66) dX12_goesOn_66 (show 4 < 8 by decide) hk68))))))))
noncomputable def X12_goesOn_b68 (c_X12_rowsOf : Nat → Int32 → PH → Option Rs) (c_X12_of5 : Nat → Int32 → Int32 → PH → Option Rs) (c_X12_nameAt : Nat → Int32 → Int32 → PH → Option Rs) (c_X12_groupOf : Nat → Int32 → PH → Option Rs) (k133 k202 : Kn) : Kn := (a_il 4 (a_al 0 (a_il 3 (a_vI 11 1 (FW_T11I c_X12_rowsOf) (a_lt (a_al 0 (a_il 3 (a_ic 0 (a_vI 11 2 (FW_T11II c_X12_of5) (a_il 1 (a_eq (a_al 0 (a_il 3 (a_il 4 (a_vI 11 2 (FW_T11II c_X12_nameAt) (a_is 5 (a_il 2 (a_al 0 (a_gR 11 704 41 (a_ic 5 (a_ald 41 2624 (a_lt (a_al 0 (a_il 2 (a_vI 11 1 (FW_T11I c_X12_groupOf) (a_n (a_ic 0 k133) (a_il 5 (a_ic 10 (a_al 0 (a_il 2 (a_vI 11 1 (FW_T11I c_X12_groupOf) (a_b (fun a b => a + b) (a_eq (a_ic 1 k133) (a_ic 0 k133)))))))))))) (a_ic 0 k133)))))))))))) k202)))))) k202)))))
set_option maxRecDepth 100000 in
theorem X12_goesOn_s68 {z : CZ} {k133 k202 : Kn} (hk133 : SK (X12_goesOn_x z) 133 k133) (hk202 : SK (X12_goesOn_x z) 202 k202) : SK (X12_goesOn_x z) 68 (X12_goesOn_b68 X12_rowsOf X12_of5 X12_nameAt X12_groupOf k133 k202) := (s_iload (pc := 68) dX12_goesOn_68 (s_aloadn (pc := 70) dX12_goesOn_70 rfl (s_iloadn (pc := 71) dX12_goesOn_71 rfl (s_vI (pc := 72) (run_virtual (X12_rowsOf_gd _) (show 1 < 2 by decide) cy_X12_rowsOf (by decide) rfl w_1538 w_s39 w_1536 dX12_goesOn_72) (s_cmpge (pc := 75) dX12_goesOn_75 (by decide) hk202 (s_aloadn (pc := 78) dX12_goesOn_78 rfl (s_iloadn (pc := 79) dX12_goesOn_79 rfl (s_iconst (pc := 80) dX12_goesOn_80 c_ic_0 (s_vI (pc := 81) (run_virtual (X12_of5_gd _) (show 0 < 2 by decide) cy_X12_of5 (by decide) rfl w_1534 w_s38 w_1532 dX12_goesOn_81) (s_iloadn (pc := 84) dX12_goesOn_84 rfl (s_cmpne (pc := 85) dX12_goesOn_85 (by decide) hk202 (s_aloadn (pc := 88) dX12_goesOn_88 rfl (s_iloadn (pc := 89) dX12_goesOn_89 rfl (s_iload (pc := 90) dX12_goesOn_90 (s_vI (pc := 92) (run_virtual (X12_nameAt_gd _) (show 0 < 2 by decide) cy_X12_nameAt (by decide) rfl w_1591 w_s44 w_1589 dX12_goesOn_92) (s_istore (pc := 95) dX12_goesOn_95 (show 5 < 8 by decide) (s_iloadn (pc := 97) dX12_goesOn_97 rfl (s_aloadn (pc := 98) dX12_goesOn_98 rfl (s_gR (pc := 99) (f := 0) ko_11 (by decide) rfl rfl w_1295 dX12_goesOn_99 (s_iconst (pc := 102) dX12_goesOn_102 c_ic_5 (s_iald (pc := 103) (by decide) (by decide) rfl rfl rfl dX12_goesOn_103 (s_cmpge (pc := 104) dX12_goesOn_104 (by decide) (s_iconst (pc := 132) dX12_goesOn_132 c_ic_0 hk133) (s_aloadn (pc := 107) dX12_goesOn_107 rfl (s_iloadn (pc := 108) dX12_goesOn_108 rfl (s_vI (pc := 109) (run_virtual (X12_groupOf_gd _) (show 0 < 2 by decide) cy_X12_groupOf (by decide) rfl w_1513 w_s36 w_1511 dX12_goesOn_109) (s_iflt (pc := 112) dX12_goesOn_112 (by decide) (s_iconst (pc := 132) dX12_goesOn_132 c_ic_0 hk133) (s_iload (pc := 115) dX12_goesOn_115 (s_bipush (pc := 117) dX12_goesOn_117 c_bp_10 (s_aloadn (pc := 119) dX12_goesOn_119 rfl (s_iloadn (pc := 120) dX12_goesOn_120 rfl (s_vI (pc := 121) (run_virtual (X12_groupOf_gd _) (show 0 < 2 by decide) cy_X12_groupOf (by decide) rfl w_1513 w_s36 w_1511 dX12_goesOn_121) (s_iadd (pc := 124) dX12_goesOn_124 (s_cmpne (pc := 125) dX12_goesOn_125 (by decide) (s_iconst (pc := 132) dX12_goesOn_132 c_ic_0 hk133) (s_iconst (pc := 128) dX12_goesOn_128 c_ic_1 (s_goto (pc := 129) dX12_goesOn_129 (by decide) hk133)))))))))))))))))))))))))))))))))))
noncomputable def X12_goesOn_b133 (c_X12_groupOf : Nat → Int32 → PH → Option Rs) (k170 : Kn) : Kn := (a_is 6 (a_il 2 (a_ic 10 (a_lt (a_ic 0 k170) (a_il 5 (a_al 0 (a_gR 11 704 41 (a_ic 5 (a_ald 41 2624 (a_lt (a_al 0 (a_il 5 (a_vI 11 1 (FW_T11I c_X12_groupOf) (a_il 2 (a_ic 10 (a_b (fun a b => a - b) (a_eq (a_ic 1 k170) (a_ic 0 k170)))))))) (a_ic 0 k170)))))))))))
set_option maxRecDepth 100000 in
theorem X12_goesOn_s133 {z : CZ} {k170 : Kn} (hk170 : SK (X12_goesOn_x z) 170 k170) : SK (X12_goesOn_x z) 133 (X12_goesOn_b133 X12_groupOf k170) := (s_istore (pc := 133) dX12_goesOn_133 (show 6 < 8 by decide) (s_iloadn (pc := 135) dX12_goesOn_135 rfl (s_bipush (pc := 136) dX12_goesOn_136 c_bp_10 (s_cmplt (pc := 138) dX12_goesOn_138 (by decide) (s_iconst (pc := 169) dX12_goesOn_169 c_ic_0 hk170) (s_iload (pc := 141) dX12_goesOn_141 (s_aloadn (pc := 143) dX12_goesOn_143 rfl (s_gR (pc := 144) (f := 0) ko_11 (by decide) rfl rfl w_1295 dX12_goesOn_144 (s_iconst (pc := 147) dX12_goesOn_147 c_ic_5 (s_iald (pc := 148) (by decide) (by decide) rfl rfl rfl dX12_goesOn_148 (s_cmpge (pc := 149) dX12_goesOn_149 (by decide) (s_iconst (pc := 169) dX12_goesOn_169 c_ic_0 hk170) (s_aloadn (pc := 152) dX12_goesOn_152 rfl (s_iload (pc := 153) dX12_goesOn_153 (s_vI (pc := 155) (run_virtual (X12_groupOf_gd _) (show 0 < 2 by decide) cy_X12_groupOf (by decide) rfl w_1513 w_s36 w_1511 dX12_goesOn_155) (s_iloadn (pc := 158) dX12_goesOn_158 rfl (s_bipush (pc := 159) dX12_goesOn_159 c_bp_10 (s_isub (pc := 161) dX12_goesOn_161 (s_cmpne (pc := 162) dX12_goesOn_162 (by decide) (s_iconst (pc := 169) dX12_goesOn_169 c_ic_0 hk170) (s_iconst (pc := 165) dX12_goesOn_165 c_ic_1 (s_goto (pc := 166) dX12_goesOn_166 (by decide) hk170)))))))))))))))))))
noncomputable def X12_goesOn_b170 (k189 : Kn) : Kn := (a_is 7 (a_il 5 (a_il 2 (a_eq (a_ic 1 a_zr) (a_il 2 (a_ic 10 (a_lt (a_il 6 (a_z k189 (a_ic 1 a_zr))) k189)))))))
set_option maxRecDepth 100000 in
theorem X12_goesOn_s170 {z : CZ} {k189 : Kn} (hk189 : SK (X12_goesOn_x z) 189 k189) : SK (X12_goesOn_x z) 170 (X12_goesOn_b170 k189) := (s_istore (pc := 170) dX12_goesOn_170 (show 7 < 8 by decide) (s_iload (pc := 172) dX12_goesOn_172 (s_iloadn (pc := 174) dX12_goesOn_174 rfl (s_cmpeq (pc := 175) dX12_goesOn_175 (by decide) (s_iconst (pc := 194) dX12_goesOn_194 c_ic_1 (s_zr (pc := 195) rfl dX12_goesOn_195)) (s_iloadn (pc := 178) dX12_goesOn_178 rfl (s_bipush (pc := 179) dX12_goesOn_179 c_bp_10 (s_cmpge (pc := 181) dX12_goesOn_181 (by decide) hk189 (s_iload (pc := 184) dX12_goesOn_184 (s_ifne (pc := 186) dX12_goesOn_186 (by decide) (s_iconst (pc := 194) dX12_goesOn_194 c_ic_1 (s_zr (pc := 195) rfl dX12_goesOn_195)) hk189)))))))))
noncomputable def X12_goesOn_b189 (k68 : Kn) : Kn := (a_il 7 (a_z (a_inc 4 1 k68) (a_ic 1 a_zr)))
set_option maxRecDepth 100000 in
theorem X12_goesOn_s189 {z : CZ} {k68 : Kn} (hk68 : SK (X12_goesOn_x z) 68 k68) : SK (X12_goesOn_x z) 189 (X12_goesOn_b189 k68) := (s_iload (pc := 189) dX12_goesOn_189 (s_ifeq (pc := 191) dX12_goesOn_191 (by decide) (s_iinc (pc := 196) dX12_goesOn_196 c_ic_1 (show 4 < 8 by decide) (s_goto (pc := 199) dX12_goesOn_199 (by decide) hk68)) (s_iconst (pc := 194) dX12_goesOn_194 c_ic_1 (s_zr (pc := 195) rfl dX12_goesOn_195))))
noncomputable def X12_goesOn_b202 (k54 : Kn) : Kn := (a_inc 3 1 k54)
set_option maxRecDepth 100000 in
theorem X12_goesOn_s202 {z : CZ} {k54 : Kn} (hk54 : SK (X12_goesOn_x z) 54 k54) : SK (X12_goesOn_x z) 202 (X12_goesOn_b202 k54) := (s_iinc (pc := 202) dX12_goesOn_202 c_ic_1 (show 3 < 8 by decide) (s_goto (pc := 205) dX12_goesOn_205 (by decide) hk54))
noncomputable def X12_goesOn_u2 (g : Nat → Int32 → Int32 → Int32 → PH → Option Rs) : Kn := fun ls st h => gL 0 st (gT 11 ls 0 fun t => gI ls 1 fun x1 => gI ls 2 fun x2 => gI ls 3 fun x3 => g t x1 x2 x3 h)
noncomputable def X12_goesOn_u46 (g : Nat → Int32 → Int32 → Int32 → PH → Option Rs) : Kn := fun ls st h => gL 0 st (gT 11 ls 0 fun t => gI ls 1 fun x1 => gI ls 2 fun x2 => gI ls 3 fun x3 => g t x1 x2 x3 h)
noncomputable def X12_goesOn_u54 (g : Nat → Int32 → Int32 → Int32 → PH → Option Rs) : Kn := fun ls st h => gL 0 st (gT 11 ls 0 fun t => gI ls 1 fun x1 => gI ls 2 fun x2 => gI ls 3 fun x3 => g t x1 x2 x3 h)
noncomputable def X12_goesOn_u68 (g : Nat → Int32 → Int32 → Int32 → Int32 → PH → Option Rs) : Kn := fun ls st h => gL 0 st (gT 11 ls 0 fun t => gI ls 1 fun x1 => gI ls 2 fun x2 => gI ls 3 fun x3 => gI ls 4 fun x4 => g t x1 x2 x3 x4 h)
noncomputable def X12_goesOn_u133 (g : Nat → Int32 → Int32 → Int32 → Int32 → Int32 → Int32 → PH → Option Rs) : Kn := fun ls st h => gL 1 st (gT 11 ls 0 fun t => gI ls 1 fun x1 => gI ls 2 fun x2 => gI ls 3 fun x3 => gI ls 4 fun x4 => gI ls 5 fun x5 => gI (st.map some) 0 fun s0 => g t x1 x2 x3 x4 x5 s0 h)
noncomputable def X12_goesOn_u170 (g : Nat → Int32 → Int32 → Int32 → Int32 → Int32 → Int32 → Int32 → PH → Option Rs) : Kn := fun ls st h => gL 1 st (gT 11 ls 0 fun t => gI ls 1 fun x1 => gI ls 2 fun x2 => gI ls 3 fun x3 => gI ls 4 fun x4 => gI ls 5 fun x5 => gI ls 6 fun x6 => gI (st.map some) 0 fun s0 => g t x1 x2 x3 x4 x5 x6 s0 h)
noncomputable def X12_goesOn_u189 (g : Nat → Int32 → Int32 → Int32 → Int32 → Int32 → PH → Option Rs) : Kn := fun ls st h => gL 0 st (gT 11 ls 0 fun t => gI ls 1 fun x1 => gI ls 2 fun x2 => gI ls 3 fun x3 => gI ls 4 fun x4 => gI ls 7 fun x7 => g t x1 x2 x3 x4 x7 h)
noncomputable def X12_goesOn_u202 (g : Nat → Int32 → Int32 → Int32 → PH → Option Rs) : Kn := fun ls st h => gL 0 st (gT 11 ls 0 fun t => gI ls 1 fun x1 => gI ls 2 fun x2 => gI ls 3 fun x3 => g t x1 x2 x3 h)
noncomputable def X12_goesOn_f0 (g2 : Nat → Int32 → Int32 → Int32 → PH → Option Rs) (t : Nat) (x1 : Int32) (x2 : Int32) (h : PH) : Option Rs :=
  g2 t x1 x2 0 h
set_option maxRecDepth 100000 in
theorem X12_goesOn_l0 (g2 : Nat → Int32 → Int32 → Int32 → PH → Option Rs) (t : Nat) (x1 : Int32) (x2 : Int32) (h : PH) : X12_goesOn_b0 (X12_goesOn_u2 g2) [some (.inr (11, t + 1)), some (.inl x1), some (.inl x2), none, none, none, none, none] [] h = X12_goesOn_f0 g2 t x1 x2 h := rfl
theorem X12_goesOn_m0 {g2 G2 : Nat → Int32 → Int32 → Int32 → PH → Option Rs} (hg2 : ∀ a0 a1 a2 a3 a4, Mo (g2 a0 a1 a2 a3 a4) (G2 a0 a1 a2 a3 a4)) (t : Nat) (x1 : Int32) (x2 : Int32) (h : PH) : Mo (X12_goesOn_f0 g2 t x1 x2 h) (X12_goesOn_f0 G2 t x1 x2 h) := (hg2 t x1 x2 0 h)
noncomputable def X12_goesOn_f2 (c_X12_placeOf : Nat → Int32 → PH → Option Rs) (c_X12_groupOf : Nat → Int32 → PH → Option Rs) (g46 : Nat → Int32 → Int32 → Int32 → PH → Option Rs) (g54 : Nat → Int32 → Int32 → Int32 → PH → Option Rs) (t : Nat) (x1 : Int32) (x2 : Int32) (x3 : Int32) (h : PH) : Option Rs :=
  nn (hR h 704 t 0) fun r1 =>
  ix 5 (hL h 41 r1) fun j2 =>
  if x3 < (hI h 2624 r1 j2) then
    cI (c_X12_placeOf t x3 h) fun v4 h3 =>
    if v4 = x1 then
      if x3 = x2 then
        bz 1 <|
        some (some (.inl 1), h3)
      else
        if x2 < 10 then
          g46 t x1 x2 x3 h3
        else
          cI (c_X12_groupOf t x3 h3) fun v6 h5 =>
          if v6 = (x2 - 10) then
            bz 1 <|
            some (some (.inl 1), h5)
          else
            g46 t x1 x2 x3 h5
    else
      g46 t x1 x2 x3 h3
  else
    g54 t x1 x2 0 h
set_option maxRecDepth 100000 in
theorem X12_goesOn_l2 (c_X12_placeOf : Nat → Int32 → PH → Option Rs) (c_X12_groupOf : Nat → Int32 → PH → Option Rs) (g46 : Nat → Int32 → Int32 → Int32 → PH → Option Rs) (g54 : Nat → Int32 → Int32 → Int32 → PH → Option Rs) (t : Nat) (x1 : Int32) (x2 : Int32) (x3 : Int32) (h : PH) : X12_goesOn_b2 c_X12_placeOf c_X12_groupOf (X12_goesOn_u46 g46) (X12_goesOn_u54 g54) [some (.inr (11, t + 1)), some (.inl x1), some (.inl x2), some (.inl x3), none, none, none, none] [] h = X12_goesOn_f2 c_X12_placeOf c_X12_groupOf g46 g54 t x1 x2 x3 h := rfl
theorem X12_goesOn_m2 {c_X12_placeOf : Nat → Int32 → PH → Option Rs} {c_X12_groupOf : Nat → Int32 → PH → Option Rs} {g46 G46 : Nat → Int32 → Int32 → Int32 → PH → Option Rs} {g54 G54 : Nat → Int32 → Int32 → Int32 → PH → Option Rs} (hg46 : ∀ a0 a1 a2 a3 a4, Mo (g46 a0 a1 a2 a3 a4) (G46 a0 a1 a2 a3 a4)) (hg54 : ∀ a0 a1 a2 a3 a4, Mo (g54 a0 a1 a2 a3 a4) (G54 a0 a1 a2 a3 a4)) (t : Nat) (x1 : Int32) (x2 : Int32) (x3 : Int32) (h : PH) : Mo (X12_goesOn_f2 c_X12_placeOf c_X12_groupOf g46 g54 t x1 x2 x3 h) (X12_goesOn_f2 c_X12_placeOf c_X12_groupOf G46 G54 t x1 x2 x3 h) := (mo_nn fun r1 => (mo_ix fun j2 => (mo_if (mo_cI fun v4 h3 => (mo_if (mo_if (mo_bz mo_rf) (mo_if (hg46 t x1 x2 x3 h3) (mo_cI fun v6 h5 => (mo_if (mo_bz mo_rf) (hg46 t x1 x2 x3 h5))))) (hg46 t x1 x2 x3 h3))) (hg54 t x1 x2 0 h))))
theorem X12_goesOn_w2 {z : CZ} {g46 : Nat → Int32 → Int32 → Int32 → PH → Option Rs} {g54 : Nat → Int32 → Int32 → Int32 → PH → Option Rs} (hk46 : SK (X12_goesOn_x z) 46 (X12_goesOn_u46 g46)) (hk54 : SK (X12_goesOn_x z) 54 (X12_goesOn_u54 g54)) : SK (X12_goesOn_x z) 2 (X12_goesOn_u2 (X12_goesOn_f2 X12_placeOf X12_groupOf g46 g54)) := by
  intro ls st h r e
  obtain ⟨hst, e⟩ := gL_of e
  obtain ⟨t, q0, e⟩ := gT_of e
  obtain ⟨x1, q1, e⟩ := gI_of e
  obtain ⟨x2, q2, e⟩ := gI_of e
  obtain ⟨x3, q3, e⟩ := gI_of e
  rw [st_0 hst]
  exact WK.sub (canon := [some (.inr (11, t + 1)), some (.inl x1), some (.inl x2), some (.inl x3), none, none, none, none]) rfl ⟨q0, q1, q2, q3, trivial⟩ (X12_goesOn_s2 hk46 hk54 _ _ _ _ ((X12_goesOn_l2 X12_placeOf X12_groupOf g46 g54 t x1 x2 x3 h).trans e))
noncomputable def X12_goesOn_f46 (g2 : Nat → Int32 → Int32 → Int32 → PH → Option Rs) (t : Nat) (x1 : Int32) (x2 : Int32) (x3 : Int32) (h : PH) : Option Rs :=
  g2 t x1 x2 (x3 + 1) h
set_option maxRecDepth 100000 in
theorem X12_goesOn_l46 (g2 : Nat → Int32 → Int32 → Int32 → PH → Option Rs) (t : Nat) (x1 : Int32) (x2 : Int32) (x3 : Int32) (h : PH) : X12_goesOn_b46 (X12_goesOn_u2 g2) [some (.inr (11, t + 1)), some (.inl x1), some (.inl x2), some (.inl x3), none, none, none, none] [] h = X12_goesOn_f46 g2 t x1 x2 x3 h := rfl
theorem X12_goesOn_m46 {g2 G2 : Nat → Int32 → Int32 → Int32 → PH → Option Rs} (hg2 : ∀ a0 a1 a2 a3 a4, Mo (g2 a0 a1 a2 a3 a4) (G2 a0 a1 a2 a3 a4)) (t : Nat) (x1 : Int32) (x2 : Int32) (x3 : Int32) (h : PH) : Mo (X12_goesOn_f46 g2 t x1 x2 x3 h) (X12_goesOn_f46 G2 t x1 x2 x3 h) := (hg2 t x1 x2 (x3 + 1) h)
theorem X12_goesOn_w46 {z : CZ} {g2 : Nat → Int32 → Int32 → Int32 → PH → Option Rs} (hk2 : SK (X12_goesOn_x z) 2 (X12_goesOn_u2 g2)) : SK (X12_goesOn_x z) 46 (X12_goesOn_u46 (X12_goesOn_f46 g2)) := by
  intro ls st h r e
  obtain ⟨hst, e⟩ := gL_of e
  obtain ⟨t, q0, e⟩ := gT_of e
  obtain ⟨x1, q1, e⟩ := gI_of e
  obtain ⟨x2, q2, e⟩ := gI_of e
  obtain ⟨x3, q3, e⟩ := gI_of e
  rw [st_0 hst]
  exact WK.sub (canon := [some (.inr (11, t + 1)), some (.inl x1), some (.inl x2), some (.inl x3), none, none, none, none]) rfl ⟨q0, q1, q2, q3, trivial⟩ (X12_goesOn_s46 hk2 _ _ _ _ ((X12_goesOn_l46 g2 t x1 x2 x3 h).trans e))
noncomputable def X12_goesOn_f54 (g68 : Nat → Int32 → Int32 → Int32 → Int32 → PH → Option Rs) (t : Nat) (x1 : Int32) (x2 : Int32) (x3 : Int32) (h : PH) : Option Rs :=
  nn (hR h 704 t 0) fun r7 =>
  ix 6 (hL h 41 r7) fun j8 =>
  if x3 < (hI h 2624 r7 j8) then
    g68 t x1 x2 x3 0 h
  else
    bz 0 <|
    some (some (.inl 0), h)
set_option maxRecDepth 100000 in
theorem X12_goesOn_l54 (g68 : Nat → Int32 → Int32 → Int32 → Int32 → PH → Option Rs) (t : Nat) (x1 : Int32) (x2 : Int32) (x3 : Int32) (h : PH) : X12_goesOn_b54 (X12_goesOn_u68 g68) [some (.inr (11, t + 1)), some (.inl x1), some (.inl x2), some (.inl x3), none, none, none, none] [] h = X12_goesOn_f54 g68 t x1 x2 x3 h := rfl
theorem X12_goesOn_m54 {g68 G68 : Nat → Int32 → Int32 → Int32 → Int32 → PH → Option Rs} (hg68 : ∀ a0 a1 a2 a3 a4 a5, Mo (g68 a0 a1 a2 a3 a4 a5) (G68 a0 a1 a2 a3 a4 a5)) (t : Nat) (x1 : Int32) (x2 : Int32) (x3 : Int32) (h : PH) : Mo (X12_goesOn_f54 g68 t x1 x2 x3 h) (X12_goesOn_f54 G68 t x1 x2 x3 h) := (mo_nn fun r7 => (mo_ix fun j8 => (mo_if (hg68 t x1 x2 x3 0 h) (mo_bz mo_rf))))
theorem X12_goesOn_w54 {z : CZ} {g68 : Nat → Int32 → Int32 → Int32 → Int32 → PH → Option Rs} (hk68 : SK (X12_goesOn_x z) 68 (X12_goesOn_u68 g68)) : SK (X12_goesOn_x z) 54 (X12_goesOn_u54 (X12_goesOn_f54 g68)) := by
  intro ls st h r e
  obtain ⟨hst, e⟩ := gL_of e
  obtain ⟨t, q0, e⟩ := gT_of e
  obtain ⟨x1, q1, e⟩ := gI_of e
  obtain ⟨x2, q2, e⟩ := gI_of e
  obtain ⟨x3, q3, e⟩ := gI_of e
  rw [st_0 hst]
  exact WK.sub (canon := [some (.inr (11, t + 1)), some (.inl x1), some (.inl x2), some (.inl x3), none, none, none, none]) rfl ⟨q0, q1, q2, q3, trivial⟩ (X12_goesOn_s54 hk68 _ _ _ _ ((X12_goesOn_l54 g68 t x1 x2 x3 h).trans e))
noncomputable def X12_goesOn_f68 (c_X12_rowsOf : Nat → Int32 → PH → Option Rs) (c_X12_of5 : Nat → Int32 → Int32 → PH → Option Rs) (c_X12_nameAt : Nat → Int32 → Int32 → PH → Option Rs) (c_X12_groupOf : Nat → Int32 → PH → Option Rs) (g133 : Nat → Int32 → Int32 → Int32 → Int32 → Int32 → Int32 → PH → Option Rs) (g202 : Nat → Int32 → Int32 → Int32 → PH → Option Rs) (t : Nat) (x1 : Int32) (x2 : Int32) (x3 : Int32) (x4 : Int32) (h : PH) : Option Rs :=
  cI (c_X12_rowsOf t x3 h) fun v10 h9 =>
  if x4 < v10 then
    cI (c_X12_of5 t x3 0 h9) fun v12 h11 =>
    if v12 = x1 then
      cI (c_X12_nameAt t x3 x4 h11) fun v14 h13 =>
      nn (hR h13 704 t 0) fun r15 =>
      ix 5 (hL h13 41 r15) fun j16 =>
      if x2 < (hI h13 2624 r15 j16) then
        cI (c_X12_groupOf t x2 h13) fun v18 h17 =>
        if v18 < 0 then
          g133 t x1 x2 x3 x4 v14 0 h17
        else
          cI (c_X12_groupOf t x2 h17) fun v20 h19 =>
          if v14 = (10 + v20) then
            g133 t x1 x2 x3 x4 v14 1 h19
          else
            g133 t x1 x2 x3 x4 v14 0 h19
      else
        g133 t x1 x2 x3 x4 v14 0 h13
    else
      g202 t x1 x2 x3 h11
  else
    g202 t x1 x2 x3 h9
set_option maxRecDepth 100000 in
theorem X12_goesOn_l68 (c_X12_rowsOf : Nat → Int32 → PH → Option Rs) (c_X12_of5 : Nat → Int32 → Int32 → PH → Option Rs) (c_X12_nameAt : Nat → Int32 → Int32 → PH → Option Rs) (c_X12_groupOf : Nat → Int32 → PH → Option Rs) (g133 : Nat → Int32 → Int32 → Int32 → Int32 → Int32 → Int32 → PH → Option Rs) (g202 : Nat → Int32 → Int32 → Int32 → PH → Option Rs) (t : Nat) (x1 : Int32) (x2 : Int32) (x3 : Int32) (x4 : Int32) (h : PH) : X12_goesOn_b68 c_X12_rowsOf c_X12_of5 c_X12_nameAt c_X12_groupOf (X12_goesOn_u133 g133) (X12_goesOn_u202 g202) [some (.inr (11, t + 1)), some (.inl x1), some (.inl x2), some (.inl x3), some (.inl x4), none, none, none] [] h = X12_goesOn_f68 c_X12_rowsOf c_X12_of5 c_X12_nameAt c_X12_groupOf g133 g202 t x1 x2 x3 x4 h := rfl
theorem X12_goesOn_m68 {c_X12_rowsOf : Nat → Int32 → PH → Option Rs} {c_X12_of5 : Nat → Int32 → Int32 → PH → Option Rs} {c_X12_nameAt : Nat → Int32 → Int32 → PH → Option Rs} {c_X12_groupOf : Nat → Int32 → PH → Option Rs} {g133 G133 : Nat → Int32 → Int32 → Int32 → Int32 → Int32 → Int32 → PH → Option Rs} {g202 G202 : Nat → Int32 → Int32 → Int32 → PH → Option Rs} (hg133 : ∀ a0 a1 a2 a3 a4 a5 a6 a7, Mo (g133 a0 a1 a2 a3 a4 a5 a6 a7) (G133 a0 a1 a2 a3 a4 a5 a6 a7)) (hg202 : ∀ a0 a1 a2 a3 a4, Mo (g202 a0 a1 a2 a3 a4) (G202 a0 a1 a2 a3 a4)) (t : Nat) (x1 : Int32) (x2 : Int32) (x3 : Int32) (x4 : Int32) (h : PH) : Mo (X12_goesOn_f68 c_X12_rowsOf c_X12_of5 c_X12_nameAt c_X12_groupOf g133 g202 t x1 x2 x3 x4 h) (X12_goesOn_f68 c_X12_rowsOf c_X12_of5 c_X12_nameAt c_X12_groupOf G133 G202 t x1 x2 x3 x4 h) := (mo_cI fun v10 h9 => (mo_if (mo_cI fun v12 h11 => (mo_if (mo_cI fun v14 h13 => (mo_nn fun r15 => (mo_ix fun j16 => (mo_if (mo_cI fun v18 h17 => (mo_if (hg133 t x1 x2 x3 x4 v14 0 h17) (mo_cI fun v20 h19 => (mo_if (hg133 t x1 x2 x3 x4 v14 1 h19) (hg133 t x1 x2 x3 x4 v14 0 h19))))) (hg133 t x1 x2 x3 x4 v14 0 h13))))) (hg202 t x1 x2 x3 h11))) (hg202 t x1 x2 x3 h9)))
theorem X12_goesOn_w68 {z : CZ} {g133 : Nat → Int32 → Int32 → Int32 → Int32 → Int32 → Int32 → PH → Option Rs} {g202 : Nat → Int32 → Int32 → Int32 → PH → Option Rs} (hk133 : SK (X12_goesOn_x z) 133 (X12_goesOn_u133 g133)) (hk202 : SK (X12_goesOn_x z) 202 (X12_goesOn_u202 g202)) : SK (X12_goesOn_x z) 68 (X12_goesOn_u68 (X12_goesOn_f68 X12_rowsOf X12_of5 X12_nameAt X12_groupOf g133 g202)) := by
  intro ls st h r e
  obtain ⟨hst, e⟩ := gL_of e
  obtain ⟨t, q0, e⟩ := gT_of e
  obtain ⟨x1, q1, e⟩ := gI_of e
  obtain ⟨x2, q2, e⟩ := gI_of e
  obtain ⟨x3, q3, e⟩ := gI_of e
  obtain ⟨x4, q4, e⟩ := gI_of e
  rw [st_0 hst]
  exact WK.sub (canon := [some (.inr (11, t + 1)), some (.inl x1), some (.inl x2), some (.inl x3), some (.inl x4), none, none, none]) rfl ⟨q0, q1, q2, q3, q4, trivial⟩ (X12_goesOn_s68 hk133 hk202 _ _ _ _ ((X12_goesOn_l68 X12_rowsOf X12_of5 X12_nameAt X12_groupOf g133 g202 t x1 x2 x3 x4 h).trans e))
noncomputable def X12_goesOn_f133 (c_X12_groupOf : Nat → Int32 → PH → Option Rs) (g170 : Nat → Int32 → Int32 → Int32 → Int32 → Int32 → Int32 → Int32 → PH → Option Rs) (t : Nat) (x1 : Int32) (x2 : Int32) (x3 : Int32) (x4 : Int32) (x5 : Int32) (s0 : Int32) (h : PH) : Option Rs :=
  if x2 < 10 then
    g170 t x1 x2 x3 x4 x5 s0 0 h
  else
    nn (hR h 704 t 0) fun r21 =>
    ix 5 (hL h 41 r21) fun j22 =>
    if x5 < (hI h 2624 r21 j22) then
      cI (c_X12_groupOf t x5 h) fun v24 h23 =>
      if v24 = (x2 - 10) then
        g170 t x1 x2 x3 x4 x5 s0 1 h23
      else
        g170 t x1 x2 x3 x4 x5 s0 0 h23
    else
      g170 t x1 x2 x3 x4 x5 s0 0 h
set_option maxRecDepth 100000 in
theorem X12_goesOn_l133 (c_X12_groupOf : Nat → Int32 → PH → Option Rs) (g170 : Nat → Int32 → Int32 → Int32 → Int32 → Int32 → Int32 → Int32 → PH → Option Rs) (t : Nat) (x1 : Int32) (x2 : Int32) (x3 : Int32) (x4 : Int32) (x5 : Int32) (s0 : Int32) (h : PH) : X12_goesOn_b133 c_X12_groupOf (X12_goesOn_u170 g170) [some (.inr (11, t + 1)), some (.inl x1), some (.inl x2), some (.inl x3), some (.inl x4), some (.inl x5), none, none] [.inl s0] h = X12_goesOn_f133 c_X12_groupOf g170 t x1 x2 x3 x4 x5 s0 h := rfl
theorem X12_goesOn_m133 {c_X12_groupOf : Nat → Int32 → PH → Option Rs} {g170 G170 : Nat → Int32 → Int32 → Int32 → Int32 → Int32 → Int32 → Int32 → PH → Option Rs} (hg170 : ∀ a0 a1 a2 a3 a4 a5 a6 a7 a8, Mo (g170 a0 a1 a2 a3 a4 a5 a6 a7 a8) (G170 a0 a1 a2 a3 a4 a5 a6 a7 a8)) (t : Nat) (x1 : Int32) (x2 : Int32) (x3 : Int32) (x4 : Int32) (x5 : Int32) (s0 : Int32) (h : PH) : Mo (X12_goesOn_f133 c_X12_groupOf g170 t x1 x2 x3 x4 x5 s0 h) (X12_goesOn_f133 c_X12_groupOf G170 t x1 x2 x3 x4 x5 s0 h) := (mo_if (hg170 t x1 x2 x3 x4 x5 s0 0 h) (mo_nn fun r21 => (mo_ix fun j22 => (mo_if (mo_cI fun v24 h23 => (mo_if (hg170 t x1 x2 x3 x4 x5 s0 1 h23) (hg170 t x1 x2 x3 x4 x5 s0 0 h23))) (hg170 t x1 x2 x3 x4 x5 s0 0 h)))))
theorem X12_goesOn_w133 {z : CZ} {g170 : Nat → Int32 → Int32 → Int32 → Int32 → Int32 → Int32 → Int32 → PH → Option Rs} (hk170 : SK (X12_goesOn_x z) 170 (X12_goesOn_u170 g170)) : SK (X12_goesOn_x z) 133 (X12_goesOn_u133 (X12_goesOn_f133 X12_groupOf g170)) := by
  intro ls st h r e
  obtain ⟨hst, e⟩ := gL_of e
  obtain ⟨t, q0, e⟩ := gT_of e
  obtain ⟨x1, q1, e⟩ := gI_of e
  obtain ⟨x2, q2, e⟩ := gI_of e
  obtain ⟨x3, q3, e⟩ := gI_of e
  obtain ⟨x4, q4, e⟩ := gI_of e
  obtain ⟨x5, q5, e⟩ := gI_of e
  obtain ⟨s0, q6, e⟩ := gI_of e
  rw [st_1 hst q6]
  exact WK.sub (canon := [some (.inr (11, t + 1)), some (.inl x1), some (.inl x2), some (.inl x3), some (.inl x4), some (.inl x5), none, none]) rfl ⟨q0, q1, q2, q3, q4, q5, trivial⟩ (X12_goesOn_s133 hk170 _ _ _ _ ((X12_goesOn_l133 X12_groupOf g170 t x1 x2 x3 x4 x5 s0 h).trans e))
noncomputable def X12_goesOn_f170 (g189 : Nat → Int32 → Int32 → Int32 → Int32 → Int32 → PH → Option Rs) (t : Nat) (x1 : Int32) (x2 : Int32) (x3 : Int32) (x4 : Int32) (x5 : Int32) (x6 : Int32) (s0 : Int32) (h : PH) : Option Rs :=
  if x5 = x2 then
    bz 1 <|
    some (some (.inl 1), h)
  else
    if x2 < 10 then
      if x6 = 0 then
        g189 t x1 x2 x3 x4 s0 h
      else
        bz 1 <|
        some (some (.inl 1), h)
    else
      g189 t x1 x2 x3 x4 s0 h
set_option maxRecDepth 100000 in
theorem X12_goesOn_l170 (g189 : Nat → Int32 → Int32 → Int32 → Int32 → Int32 → PH → Option Rs) (t : Nat) (x1 : Int32) (x2 : Int32) (x3 : Int32) (x4 : Int32) (x5 : Int32) (x6 : Int32) (s0 : Int32) (h : PH) : X12_goesOn_b170 (X12_goesOn_u189 g189) [some (.inr (11, t + 1)), some (.inl x1), some (.inl x2), some (.inl x3), some (.inl x4), some (.inl x5), some (.inl x6), none] [.inl s0] h = X12_goesOn_f170 g189 t x1 x2 x3 x4 x5 x6 s0 h := rfl
theorem X12_goesOn_m170 {g189 G189 : Nat → Int32 → Int32 → Int32 → Int32 → Int32 → PH → Option Rs} (hg189 : ∀ a0 a1 a2 a3 a4 a5 a6, Mo (g189 a0 a1 a2 a3 a4 a5 a6) (G189 a0 a1 a2 a3 a4 a5 a6)) (t : Nat) (x1 : Int32) (x2 : Int32) (x3 : Int32) (x4 : Int32) (x5 : Int32) (x6 : Int32) (s0 : Int32) (h : PH) : Mo (X12_goesOn_f170 g189 t x1 x2 x3 x4 x5 x6 s0 h) (X12_goesOn_f170 G189 t x1 x2 x3 x4 x5 x6 s0 h) := (mo_if (mo_bz mo_rf) (mo_if (mo_if (hg189 t x1 x2 x3 x4 s0 h) (mo_bz mo_rf)) (hg189 t x1 x2 x3 x4 s0 h)))
theorem X12_goesOn_w170 {z : CZ} {g189 : Nat → Int32 → Int32 → Int32 → Int32 → Int32 → PH → Option Rs} (hk189 : SK (X12_goesOn_x z) 189 (X12_goesOn_u189 g189)) : SK (X12_goesOn_x z) 170 (X12_goesOn_u170 (X12_goesOn_f170 g189)) := by
  intro ls st h r e
  obtain ⟨hst, e⟩ := gL_of e
  obtain ⟨t, q0, e⟩ := gT_of e
  obtain ⟨x1, q1, e⟩ := gI_of e
  obtain ⟨x2, q2, e⟩ := gI_of e
  obtain ⟨x3, q3, e⟩ := gI_of e
  obtain ⟨x4, q4, e⟩ := gI_of e
  obtain ⟨x5, q5, e⟩ := gI_of e
  obtain ⟨x6, q6, e⟩ := gI_of e
  obtain ⟨s0, q7, e⟩ := gI_of e
  rw [st_1 hst q7]
  exact WK.sub (canon := [some (.inr (11, t + 1)), some (.inl x1), some (.inl x2), some (.inl x3), some (.inl x4), some (.inl x5), some (.inl x6), none]) rfl ⟨q0, q1, q2, q3, q4, q5, q6, trivial⟩ (X12_goesOn_s170 hk189 _ _ _ _ ((X12_goesOn_l170 g189 t x1 x2 x3 x4 x5 x6 s0 h).trans e))
noncomputable def X12_goesOn_f189 (g68 : Nat → Int32 → Int32 → Int32 → Int32 → PH → Option Rs) (t : Nat) (x1 : Int32) (x2 : Int32) (x3 : Int32) (x4 : Int32) (x7 : Int32) (h : PH) : Option Rs :=
  if x7 = 0 then
    g68 t x1 x2 x3 (x4 + 1) h
  else
    bz 1 <|
    some (some (.inl 1), h)
set_option maxRecDepth 100000 in
theorem X12_goesOn_l189 (g68 : Nat → Int32 → Int32 → Int32 → Int32 → PH → Option Rs) (t : Nat) (x1 : Int32) (x2 : Int32) (x3 : Int32) (x4 : Int32) (x7 : Int32) (h : PH) : X12_goesOn_b189 (X12_goesOn_u68 g68) [some (.inr (11, t + 1)), some (.inl x1), some (.inl x2), some (.inl x3), some (.inl x4), none, none, some (.inl x7)] [] h = X12_goesOn_f189 g68 t x1 x2 x3 x4 x7 h := rfl
theorem X12_goesOn_m189 {g68 G68 : Nat → Int32 → Int32 → Int32 → Int32 → PH → Option Rs} (hg68 : ∀ a0 a1 a2 a3 a4 a5, Mo (g68 a0 a1 a2 a3 a4 a5) (G68 a0 a1 a2 a3 a4 a5)) (t : Nat) (x1 : Int32) (x2 : Int32) (x3 : Int32) (x4 : Int32) (x7 : Int32) (h : PH) : Mo (X12_goesOn_f189 g68 t x1 x2 x3 x4 x7 h) (X12_goesOn_f189 G68 t x1 x2 x3 x4 x7 h) := (mo_if (hg68 t x1 x2 x3 (x4 + 1) h) (mo_bz mo_rf))
theorem X12_goesOn_w189 {z : CZ} {g68 : Nat → Int32 → Int32 → Int32 → Int32 → PH → Option Rs} (hk68 : SK (X12_goesOn_x z) 68 (X12_goesOn_u68 g68)) : SK (X12_goesOn_x z) 189 (X12_goesOn_u189 (X12_goesOn_f189 g68)) := by
  intro ls st h r e
  obtain ⟨hst, e⟩ := gL_of e
  obtain ⟨t, q0, e⟩ := gT_of e
  obtain ⟨x1, q1, e⟩ := gI_of e
  obtain ⟨x2, q2, e⟩ := gI_of e
  obtain ⟨x3, q3, e⟩ := gI_of e
  obtain ⟨x4, q4, e⟩ := gI_of e
  obtain ⟨x7, q5, e⟩ := gI_of e
  rw [st_0 hst]
  exact WK.sub (canon := [some (.inr (11, t + 1)), some (.inl x1), some (.inl x2), some (.inl x3), some (.inl x4), none, none, some (.inl x7)]) rfl ⟨q0, q1, q2, q3, q4, q5, trivial⟩ (X12_goesOn_s189 hk68 _ _ _ _ ((X12_goesOn_l189 g68 t x1 x2 x3 x4 x7 h).trans e))
noncomputable def X12_goesOn_f202 (g54 : Nat → Int32 → Int32 → Int32 → PH → Option Rs) (t : Nat) (x1 : Int32) (x2 : Int32) (x3 : Int32) (h : PH) : Option Rs :=
  g54 t x1 x2 (x3 + 1) h
set_option maxRecDepth 100000 in
theorem X12_goesOn_l202 (g54 : Nat → Int32 → Int32 → Int32 → PH → Option Rs) (t : Nat) (x1 : Int32) (x2 : Int32) (x3 : Int32) (h : PH) : X12_goesOn_b202 (X12_goesOn_u54 g54) [some (.inr (11, t + 1)), some (.inl x1), some (.inl x2), some (.inl x3), none, none, none, none] [] h = X12_goesOn_f202 g54 t x1 x2 x3 h := rfl
theorem X12_goesOn_m202 {g54 G54 : Nat → Int32 → Int32 → Int32 → PH → Option Rs} (hg54 : ∀ a0 a1 a2 a3 a4, Mo (g54 a0 a1 a2 a3 a4) (G54 a0 a1 a2 a3 a4)) (t : Nat) (x1 : Int32) (x2 : Int32) (x3 : Int32) (h : PH) : Mo (X12_goesOn_f202 g54 t x1 x2 x3 h) (X12_goesOn_f202 G54 t x1 x2 x3 h) := (hg54 t x1 x2 (x3 + 1) h)
theorem X12_goesOn_w202 {z : CZ} {g54 : Nat → Int32 → Int32 → Int32 → PH → Option Rs} (hk54 : SK (X12_goesOn_x z) 54 (X12_goesOn_u54 g54)) : SK (X12_goesOn_x z) 202 (X12_goesOn_u202 (X12_goesOn_f202 g54)) := by
  intro ls st h r e
  obtain ⟨hst, e⟩ := gL_of e
  obtain ⟨t, q0, e⟩ := gT_of e
  obtain ⟨x1, q1, e⟩ := gI_of e
  obtain ⟨x2, q2, e⟩ := gI_of e
  obtain ⟨x3, q3, e⟩ := gI_of e
  rw [st_0 hst]
  exact WK.sub (canon := [some (.inr (11, t + 1)), some (.inl x1), some (.inl x2), some (.inl x3), none, none, none, none]) rfl ⟨q0, q1, q2, q3, trivial⟩ (X12_goesOn_s202 hk54 _ _ _ _ ((X12_goesOn_l202 g54 t x1 x2 x3 h).trans e))
noncomputable def X12_goesOn_g0 (G : (Nat → Int32 → Int32 → Int32 → PH → Option Rs) × (Nat → Int32 → Int32 → Int32 → PH → Option Rs) × (Nat → Int32 → Int32 → Int32 → Int32 → PH → Option Rs)) (t : Nat) (x1 : Int32) (x2 : Int32) (h : PH) : Option Rs := X12_goesOn_f0 (G).1 t x1 x2 h
noncomputable def X12_goesOn_g46 (G : (Nat → Int32 → Int32 → Int32 → PH → Option Rs) × (Nat → Int32 → Int32 → Int32 → PH → Option Rs) × (Nat → Int32 → Int32 → Int32 → Int32 → PH → Option Rs)) (t : Nat) (x1 : Int32) (x2 : Int32) (x3 : Int32) (h : PH) : Option Rs := X12_goesOn_f46 (G).1 t x1 x2 x3 h
noncomputable def X12_goesOn_g2 (G : (Nat → Int32 → Int32 → Int32 → PH → Option Rs) × (Nat → Int32 → Int32 → Int32 → PH → Option Rs) × (Nat → Int32 → Int32 → Int32 → Int32 → PH → Option Rs)) (t : Nat) (x1 : Int32) (x2 : Int32) (x3 : Int32) (h : PH) : Option Rs := X12_goesOn_f2 X12_placeOf X12_groupOf (X12_goesOn_g46 G) (G).2.1 t x1 x2 x3 h
noncomputable def X12_goesOn_g54 (G : (Nat → Int32 → Int32 → Int32 → PH → Option Rs) × (Nat → Int32 → Int32 → Int32 → PH → Option Rs) × (Nat → Int32 → Int32 → Int32 → Int32 → PH → Option Rs)) (t : Nat) (x1 : Int32) (x2 : Int32) (x3 : Int32) (h : PH) : Option Rs := X12_goesOn_f54 (G).2.2 t x1 x2 x3 h
noncomputable def X12_goesOn_g189 (G : (Nat → Int32 → Int32 → Int32 → PH → Option Rs) × (Nat → Int32 → Int32 → Int32 → PH → Option Rs) × (Nat → Int32 → Int32 → Int32 → Int32 → PH → Option Rs)) (t : Nat) (x1 : Int32) (x2 : Int32) (x3 : Int32) (x4 : Int32) (x7 : Int32) (h : PH) : Option Rs := X12_goesOn_f189 (G).2.2 t x1 x2 x3 x4 x7 h
noncomputable def X12_goesOn_g170 (G : (Nat → Int32 → Int32 → Int32 → PH → Option Rs) × (Nat → Int32 → Int32 → Int32 → PH → Option Rs) × (Nat → Int32 → Int32 → Int32 → Int32 → PH → Option Rs)) (t : Nat) (x1 : Int32) (x2 : Int32) (x3 : Int32) (x4 : Int32) (x5 : Int32) (x6 : Int32) (s0 : Int32) (h : PH) : Option Rs := X12_goesOn_f170 (X12_goesOn_g189 G) t x1 x2 x3 x4 x5 x6 s0 h
noncomputable def X12_goesOn_g133 (G : (Nat → Int32 → Int32 → Int32 → PH → Option Rs) × (Nat → Int32 → Int32 → Int32 → PH → Option Rs) × (Nat → Int32 → Int32 → Int32 → Int32 → PH → Option Rs)) (t : Nat) (x1 : Int32) (x2 : Int32) (x3 : Int32) (x4 : Int32) (x5 : Int32) (s0 : Int32) (h : PH) : Option Rs := X12_goesOn_f133 X12_groupOf (X12_goesOn_g170 G) t x1 x2 x3 x4 x5 s0 h
noncomputable def X12_goesOn_g202 (G : (Nat → Int32 → Int32 → Int32 → PH → Option Rs) × (Nat → Int32 → Int32 → Int32 → PH → Option Rs) × (Nat → Int32 → Int32 → Int32 → Int32 → PH → Option Rs)) (t : Nat) (x1 : Int32) (x2 : Int32) (x3 : Int32) (h : PH) : Option Rs := X12_goesOn_f202 (G).2.1 t x1 x2 x3 h
noncomputable def X12_goesOn_g68 (G : (Nat → Int32 → Int32 → Int32 → PH → Option Rs) × (Nat → Int32 → Int32 → Int32 → PH → Option Rs) × (Nat → Int32 → Int32 → Int32 → Int32 → PH → Option Rs)) (t : Nat) (x1 : Int32) (x2 : Int32) (x3 : Int32) (x4 : Int32) (h : PH) : Option Rs := X12_goesOn_f68 X12_rowsOf X12_of5 X12_nameAt X12_groupOf (X12_goesOn_g133 G) (X12_goesOn_g202 G) t x1 x2 x3 x4 h
theorem X12_goesOn_v46 {z : CZ} {G : (Nat → Int32 → Int32 → Int32 → PH → Option Rs) × (Nat → Int32 → Int32 → Int32 → PH → Option Rs) × (Nat → Int32 → Int32 → Int32 → Int32 → PH → Option Rs)} (hG2 : SK (X12_goesOn_x z) 2 (X12_goesOn_u2 (G).1)) (hG54 : SK (X12_goesOn_x z) 54 (X12_goesOn_u54 (G).2.1)) (hG68 : SK (X12_goesOn_x z) 68 (X12_goesOn_u68 (G).2.2)) : SK (X12_goesOn_x z) 46 (X12_goesOn_u46 (X12_goesOn_g46 G)) := X12_goesOn_w46 hG2
theorem X12_goesOn_v2 {z : CZ} {G : (Nat → Int32 → Int32 → Int32 → PH → Option Rs) × (Nat → Int32 → Int32 → Int32 → PH → Option Rs) × (Nat → Int32 → Int32 → Int32 → Int32 → PH → Option Rs)} (hG2 : SK (X12_goesOn_x z) 2 (X12_goesOn_u2 (G).1)) (hG54 : SK (X12_goesOn_x z) 54 (X12_goesOn_u54 (G).2.1)) (hG68 : SK (X12_goesOn_x z) 68 (X12_goesOn_u68 (G).2.2)) : SK (X12_goesOn_x z) 2 (X12_goesOn_u2 (X12_goesOn_g2 G)) := X12_goesOn_w2 (X12_goesOn_v46 hG2 hG54 hG68) hG54
theorem X12_goesOn_v54 {z : CZ} {G : (Nat → Int32 → Int32 → Int32 → PH → Option Rs) × (Nat → Int32 → Int32 → Int32 → PH → Option Rs) × (Nat → Int32 → Int32 → Int32 → Int32 → PH → Option Rs)} (hG2 : SK (X12_goesOn_x z) 2 (X12_goesOn_u2 (G).1)) (hG54 : SK (X12_goesOn_x z) 54 (X12_goesOn_u54 (G).2.1)) (hG68 : SK (X12_goesOn_x z) 68 (X12_goesOn_u68 (G).2.2)) : SK (X12_goesOn_x z) 54 (X12_goesOn_u54 (X12_goesOn_g54 G)) := X12_goesOn_w54 hG68
theorem X12_goesOn_v189 {z : CZ} {G : (Nat → Int32 → Int32 → Int32 → PH → Option Rs) × (Nat → Int32 → Int32 → Int32 → PH → Option Rs) × (Nat → Int32 → Int32 → Int32 → Int32 → PH → Option Rs)} (hG2 : SK (X12_goesOn_x z) 2 (X12_goesOn_u2 (G).1)) (hG54 : SK (X12_goesOn_x z) 54 (X12_goesOn_u54 (G).2.1)) (hG68 : SK (X12_goesOn_x z) 68 (X12_goesOn_u68 (G).2.2)) : SK (X12_goesOn_x z) 189 (X12_goesOn_u189 (X12_goesOn_g189 G)) := X12_goesOn_w189 hG68
theorem X12_goesOn_v170 {z : CZ} {G : (Nat → Int32 → Int32 → Int32 → PH → Option Rs) × (Nat → Int32 → Int32 → Int32 → PH → Option Rs) × (Nat → Int32 → Int32 → Int32 → Int32 → PH → Option Rs)} (hG2 : SK (X12_goesOn_x z) 2 (X12_goesOn_u2 (G).1)) (hG54 : SK (X12_goesOn_x z) 54 (X12_goesOn_u54 (G).2.1)) (hG68 : SK (X12_goesOn_x z) 68 (X12_goesOn_u68 (G).2.2)) : SK (X12_goesOn_x z) 170 (X12_goesOn_u170 (X12_goesOn_g170 G)) := X12_goesOn_w170 (X12_goesOn_v189 hG2 hG54 hG68)
theorem X12_goesOn_v133 {z : CZ} {G : (Nat → Int32 → Int32 → Int32 → PH → Option Rs) × (Nat → Int32 → Int32 → Int32 → PH → Option Rs) × (Nat → Int32 → Int32 → Int32 → Int32 → PH → Option Rs)} (hG2 : SK (X12_goesOn_x z) 2 (X12_goesOn_u2 (G).1)) (hG54 : SK (X12_goesOn_x z) 54 (X12_goesOn_u54 (G).2.1)) (hG68 : SK (X12_goesOn_x z) 68 (X12_goesOn_u68 (G).2.2)) : SK (X12_goesOn_x z) 133 (X12_goesOn_u133 (X12_goesOn_g133 G)) := X12_goesOn_w133 (X12_goesOn_v170 hG2 hG54 hG68)
theorem X12_goesOn_v202 {z : CZ} {G : (Nat → Int32 → Int32 → Int32 → PH → Option Rs) × (Nat → Int32 → Int32 → Int32 → PH → Option Rs) × (Nat → Int32 → Int32 → Int32 → Int32 → PH → Option Rs)} (hG2 : SK (X12_goesOn_x z) 2 (X12_goesOn_u2 (G).1)) (hG54 : SK (X12_goesOn_x z) 54 (X12_goesOn_u54 (G).2.1)) (hG68 : SK (X12_goesOn_x z) 68 (X12_goesOn_u68 (G).2.2)) : SK (X12_goesOn_x z) 202 (X12_goesOn_u202 (X12_goesOn_g202 G)) := X12_goesOn_w202 hG54
theorem X12_goesOn_v68 {z : CZ} {G : (Nat → Int32 → Int32 → Int32 → PH → Option Rs) × (Nat → Int32 → Int32 → Int32 → PH → Option Rs) × (Nat → Int32 → Int32 → Int32 → Int32 → PH → Option Rs)} (hG2 : SK (X12_goesOn_x z) 2 (X12_goesOn_u2 (G).1)) (hG54 : SK (X12_goesOn_x z) 54 (X12_goesOn_u54 (G).2.1)) (hG68 : SK (X12_goesOn_x z) 68 (X12_goesOn_u68 (G).2.2)) : SK (X12_goesOn_x z) 68 (X12_goesOn_u68 (X12_goesOn_g68 G)) := X12_goesOn_w68 (X12_goesOn_v133 hG2 hG54 hG68) (X12_goesOn_v202 hG2 hG54 hG68)
noncomputable def X12_goesOn_fam : Nat → (Nat → Int32 → Int32 → Int32 → PH → Option Rs) × (Nat → Int32 → Int32 → Int32 → PH → Option Rs) × (Nat → Int32 → Int32 → Int32 → Int32 → PH → Option Rs)
  | 0 => (fun _ _ _ _ _ => none, fun _ _ _ _ _ => none, fun _ _ _ _ _ _ => none)
  | n + 1 => (X12_goesOn_g2 (X12_goesOn_fam n), X12_goesOn_g54 (X12_goesOn_fam n), X12_goesOn_g68 (X12_goesOn_fam n))
theorem X12_goesOn_k {z : CZ} : ∀ n, SK (X12_goesOn_x z) 2 (X12_goesOn_u2 (X12_goesOn_fam n).1) ∧ SK (X12_goesOn_x z) 54 (X12_goesOn_u54 (X12_goesOn_fam n).2.1) ∧ SK (X12_goesOn_x z) 68 (X12_goesOn_u68 (X12_goesOn_fam n).2.2)
  | 0 => ⟨(fun ls st h r e => by
      obtain ⟨_, e⟩ := gL_of e
      obtain ⟨_, _, e⟩ := gT_of e
      obtain ⟨_, _, e⟩ := gI_of e
      obtain ⟨_, _, e⟩ := gI_of e
      obtain ⟨_, _, e⟩ := gI_of e
      cases e), (fun ls st h r e => by
      obtain ⟨_, e⟩ := gL_of e
      obtain ⟨_, _, e⟩ := gT_of e
      obtain ⟨_, _, e⟩ := gI_of e
      obtain ⟨_, _, e⟩ := gI_of e
      obtain ⟨_, _, e⟩ := gI_of e
      cases e), (fun ls st h r e => by
      obtain ⟨_, e⟩ := gL_of e
      obtain ⟨_, _, e⟩ := gT_of e
      obtain ⟨_, _, e⟩ := gI_of e
      obtain ⟨_, _, e⟩ := gI_of e
      obtain ⟨_, _, e⟩ := gI_of e
      obtain ⟨_, _, e⟩ := gI_of e
      cases e)⟩
  | n + 1 => by
    obtain ⟨ih2, ih54, ih68⟩ := X12_goesOn_k n
    exact ⟨X12_goesOn_v2 ih2 ih54 ih68, X12_goesOn_v54 ih2 ih54 ih68, X12_goesOn_v68 ih2 ih54 ih68⟩
theorem X12_goesOn_n0 {G G' : (Nat → Int32 → Int32 → Int32 → PH → Option Rs) × (Nat → Int32 → Int32 → Int32 → PH → Option Rs) × (Nat → Int32 → Int32 → Int32 → Int32 → PH → Option Rs)} (hg2 : ∀ a0 a1 a2 a3 a4, Mo ((G).1 a0 a1 a2 a3 a4) ((G').1 a0 a1 a2 a3 a4)) (hg54 : ∀ a0 a1 a2 a3 a4, Mo ((G).2.1 a0 a1 a2 a3 a4) ((G').2.1 a0 a1 a2 a3 a4)) (hg68 : ∀ a0 a1 a2 a3 a4 a5, Mo ((G).2.2 a0 a1 a2 a3 a4 a5) ((G').2.2 a0 a1 a2 a3 a4 a5)) (t : Nat) (x1 : Int32) (x2 : Int32) (h : PH) : Mo (X12_goesOn_g0 G t x1 x2 h) (X12_goesOn_g0 G' t x1 x2 h) := X12_goesOn_m0 hg2 t x1 x2 h
theorem X12_goesOn_n46 {G G' : (Nat → Int32 → Int32 → Int32 → PH → Option Rs) × (Nat → Int32 → Int32 → Int32 → PH → Option Rs) × (Nat → Int32 → Int32 → Int32 → Int32 → PH → Option Rs)} (hg2 : ∀ a0 a1 a2 a3 a4, Mo ((G).1 a0 a1 a2 a3 a4) ((G').1 a0 a1 a2 a3 a4)) (hg54 : ∀ a0 a1 a2 a3 a4, Mo ((G).2.1 a0 a1 a2 a3 a4) ((G').2.1 a0 a1 a2 a3 a4)) (hg68 : ∀ a0 a1 a2 a3 a4 a5, Mo ((G).2.2 a0 a1 a2 a3 a4 a5) ((G').2.2 a0 a1 a2 a3 a4 a5)) (t : Nat) (x1 : Int32) (x2 : Int32) (x3 : Int32) (h : PH) : Mo (X12_goesOn_g46 G t x1 x2 x3 h) (X12_goesOn_g46 G' t x1 x2 x3 h) := X12_goesOn_m46 hg2 t x1 x2 x3 h
theorem X12_goesOn_n2 {G G' : (Nat → Int32 → Int32 → Int32 → PH → Option Rs) × (Nat → Int32 → Int32 → Int32 → PH → Option Rs) × (Nat → Int32 → Int32 → Int32 → Int32 → PH → Option Rs)} (hg2 : ∀ a0 a1 a2 a3 a4, Mo ((G).1 a0 a1 a2 a3 a4) ((G').1 a0 a1 a2 a3 a4)) (hg54 : ∀ a0 a1 a2 a3 a4, Mo ((G).2.1 a0 a1 a2 a3 a4) ((G').2.1 a0 a1 a2 a3 a4)) (hg68 : ∀ a0 a1 a2 a3 a4 a5, Mo ((G).2.2 a0 a1 a2 a3 a4 a5) ((G').2.2 a0 a1 a2 a3 a4 a5)) (t : Nat) (x1 : Int32) (x2 : Int32) (x3 : Int32) (h : PH) : Mo (X12_goesOn_g2 G t x1 x2 x3 h) (X12_goesOn_g2 G' t x1 x2 x3 h) := X12_goesOn_m2 (fun a0 a1 a2 a3 a4 => X12_goesOn_n46 hg2 hg54 hg68 a0 a1 a2 a3 a4) hg54 t x1 x2 x3 h
theorem X12_goesOn_n54 {G G' : (Nat → Int32 → Int32 → Int32 → PH → Option Rs) × (Nat → Int32 → Int32 → Int32 → PH → Option Rs) × (Nat → Int32 → Int32 → Int32 → Int32 → PH → Option Rs)} (hg2 : ∀ a0 a1 a2 a3 a4, Mo ((G).1 a0 a1 a2 a3 a4) ((G').1 a0 a1 a2 a3 a4)) (hg54 : ∀ a0 a1 a2 a3 a4, Mo ((G).2.1 a0 a1 a2 a3 a4) ((G').2.1 a0 a1 a2 a3 a4)) (hg68 : ∀ a0 a1 a2 a3 a4 a5, Mo ((G).2.2 a0 a1 a2 a3 a4 a5) ((G').2.2 a0 a1 a2 a3 a4 a5)) (t : Nat) (x1 : Int32) (x2 : Int32) (x3 : Int32) (h : PH) : Mo (X12_goesOn_g54 G t x1 x2 x3 h) (X12_goesOn_g54 G' t x1 x2 x3 h) := X12_goesOn_m54 hg68 t x1 x2 x3 h
theorem X12_goesOn_n189 {G G' : (Nat → Int32 → Int32 → Int32 → PH → Option Rs) × (Nat → Int32 → Int32 → Int32 → PH → Option Rs) × (Nat → Int32 → Int32 → Int32 → Int32 → PH → Option Rs)} (hg2 : ∀ a0 a1 a2 a3 a4, Mo ((G).1 a0 a1 a2 a3 a4) ((G').1 a0 a1 a2 a3 a4)) (hg54 : ∀ a0 a1 a2 a3 a4, Mo ((G).2.1 a0 a1 a2 a3 a4) ((G').2.1 a0 a1 a2 a3 a4)) (hg68 : ∀ a0 a1 a2 a3 a4 a5, Mo ((G).2.2 a0 a1 a2 a3 a4 a5) ((G').2.2 a0 a1 a2 a3 a4 a5)) (t : Nat) (x1 : Int32) (x2 : Int32) (x3 : Int32) (x4 : Int32) (x7 : Int32) (h : PH) : Mo (X12_goesOn_g189 G t x1 x2 x3 x4 x7 h) (X12_goesOn_g189 G' t x1 x2 x3 x4 x7 h) := X12_goesOn_m189 hg68 t x1 x2 x3 x4 x7 h
theorem X12_goesOn_n170 {G G' : (Nat → Int32 → Int32 → Int32 → PH → Option Rs) × (Nat → Int32 → Int32 → Int32 → PH → Option Rs) × (Nat → Int32 → Int32 → Int32 → Int32 → PH → Option Rs)} (hg2 : ∀ a0 a1 a2 a3 a4, Mo ((G).1 a0 a1 a2 a3 a4) ((G').1 a0 a1 a2 a3 a4)) (hg54 : ∀ a0 a1 a2 a3 a4, Mo ((G).2.1 a0 a1 a2 a3 a4) ((G').2.1 a0 a1 a2 a3 a4)) (hg68 : ∀ a0 a1 a2 a3 a4 a5, Mo ((G).2.2 a0 a1 a2 a3 a4 a5) ((G').2.2 a0 a1 a2 a3 a4 a5)) (t : Nat) (x1 : Int32) (x2 : Int32) (x3 : Int32) (x4 : Int32) (x5 : Int32) (x6 : Int32) (s0 : Int32) (h : PH) : Mo (X12_goesOn_g170 G t x1 x2 x3 x4 x5 x6 s0 h) (X12_goesOn_g170 G' t x1 x2 x3 x4 x5 x6 s0 h) := X12_goesOn_m170 (fun a0 a1 a2 a3 a4 a5 a6 => X12_goesOn_n189 hg2 hg54 hg68 a0 a1 a2 a3 a4 a5 a6) t x1 x2 x3 x4 x5 x6 s0 h
theorem X12_goesOn_n133 {G G' : (Nat → Int32 → Int32 → Int32 → PH → Option Rs) × (Nat → Int32 → Int32 → Int32 → PH → Option Rs) × (Nat → Int32 → Int32 → Int32 → Int32 → PH → Option Rs)} (hg2 : ∀ a0 a1 a2 a3 a4, Mo ((G).1 a0 a1 a2 a3 a4) ((G').1 a0 a1 a2 a3 a4)) (hg54 : ∀ a0 a1 a2 a3 a4, Mo ((G).2.1 a0 a1 a2 a3 a4) ((G').2.1 a0 a1 a2 a3 a4)) (hg68 : ∀ a0 a1 a2 a3 a4 a5, Mo ((G).2.2 a0 a1 a2 a3 a4 a5) ((G').2.2 a0 a1 a2 a3 a4 a5)) (t : Nat) (x1 : Int32) (x2 : Int32) (x3 : Int32) (x4 : Int32) (x5 : Int32) (s0 : Int32) (h : PH) : Mo (X12_goesOn_g133 G t x1 x2 x3 x4 x5 s0 h) (X12_goesOn_g133 G' t x1 x2 x3 x4 x5 s0 h) := X12_goesOn_m133 (fun a0 a1 a2 a3 a4 a5 a6 a7 a8 => X12_goesOn_n170 hg2 hg54 hg68 a0 a1 a2 a3 a4 a5 a6 a7 a8) t x1 x2 x3 x4 x5 s0 h
theorem X12_goesOn_n202 {G G' : (Nat → Int32 → Int32 → Int32 → PH → Option Rs) × (Nat → Int32 → Int32 → Int32 → PH → Option Rs) × (Nat → Int32 → Int32 → Int32 → Int32 → PH → Option Rs)} (hg2 : ∀ a0 a1 a2 a3 a4, Mo ((G).1 a0 a1 a2 a3 a4) ((G').1 a0 a1 a2 a3 a4)) (hg54 : ∀ a0 a1 a2 a3 a4, Mo ((G).2.1 a0 a1 a2 a3 a4) ((G').2.1 a0 a1 a2 a3 a4)) (hg68 : ∀ a0 a1 a2 a3 a4 a5, Mo ((G).2.2 a0 a1 a2 a3 a4 a5) ((G').2.2 a0 a1 a2 a3 a4 a5)) (t : Nat) (x1 : Int32) (x2 : Int32) (x3 : Int32) (h : PH) : Mo (X12_goesOn_g202 G t x1 x2 x3 h) (X12_goesOn_g202 G' t x1 x2 x3 h) := X12_goesOn_m202 hg54 t x1 x2 x3 h
theorem X12_goesOn_n68 {G G' : (Nat → Int32 → Int32 → Int32 → PH → Option Rs) × (Nat → Int32 → Int32 → Int32 → PH → Option Rs) × (Nat → Int32 → Int32 → Int32 → Int32 → PH → Option Rs)} (hg2 : ∀ a0 a1 a2 a3 a4, Mo ((G).1 a0 a1 a2 a3 a4) ((G').1 a0 a1 a2 a3 a4)) (hg54 : ∀ a0 a1 a2 a3 a4, Mo ((G).2.1 a0 a1 a2 a3 a4) ((G').2.1 a0 a1 a2 a3 a4)) (hg68 : ∀ a0 a1 a2 a3 a4 a5, Mo ((G).2.2 a0 a1 a2 a3 a4 a5) ((G').2.2 a0 a1 a2 a3 a4 a5)) (t : Nat) (x1 : Int32) (x2 : Int32) (x3 : Int32) (x4 : Int32) (h : PH) : Mo (X12_goesOn_g68 G t x1 x2 x3 x4 h) (X12_goesOn_g68 G' t x1 x2 x3 x4 h) := X12_goesOn_m68 (fun a0 a1 a2 a3 a4 a5 a6 a7 => X12_goesOn_n133 hg2 hg54 hg68 a0 a1 a2 a3 a4 a5 a6 a7) (fun a0 a1 a2 a3 a4 => X12_goesOn_n202 hg2 hg54 hg68 a0 a1 a2 a3 a4) t x1 x2 x3 x4 h
theorem X12_goesOn_fm : ∀ n, (∀ a0 a1 a2 a3 a4, Mo ((X12_goesOn_fam n).1 a0 a1 a2 a3 a4) ((X12_goesOn_fam (n + 1)).1 a0 a1 a2 a3 a4)) ∧ (∀ a0 a1 a2 a3 a4, Mo ((X12_goesOn_fam n).2.1 a0 a1 a2 a3 a4) ((X12_goesOn_fam (n + 1)).2.1 a0 a1 a2 a3 a4)) ∧ (∀ a0 a1 a2 a3 a4 a5, Mo ((X12_goesOn_fam n).2.2 a0 a1 a2 a3 a4 a5) ((X12_goesOn_fam (n + 1)).2.2 a0 a1 a2 a3 a4 a5))
  | 0 => ⟨fun _ _ _ _ _ => mo_no, fun _ _ _ _ _ => mo_no, fun _ _ _ _ _ _ => mo_no⟩
  | n + 1 => by
    obtain ⟨ih2, ih54, ih68⟩ := X12_goesOn_fm n
    exact ⟨fun a0 a1 a2 a3 a4 => X12_goesOn_n2 ih2 ih54 ih68 a0 a1 a2 a3 a4, fun a0 a1 a2 a3 a4 => X12_goesOn_n54 ih2 ih54 ih68 a0 a1 a2 a3 a4, fun a0 a1 a2 a3 a4 a5 => X12_goesOn_n68 ih2 ih54 ih68 a0 a1 a2 a3 a4 a5⟩
noncomputable def X12_goesOn (t : Nat) (x1 : Int32) (x2 : Int32) (h : PH) : Option Rs := lim (fun n => X12_goesOn_g0 (X12_goesOn_fam n) t x1 x2 h)
theorem X12_goesOn_iff {t : Nat} {x1 : Int32} {x2 : Int32} {h : PH} {r : Rs} : X12_goesOn t x1 x2 h = some r ↔ ∃ n, X12_goesOn_g0 (X12_goesOn_fam n) t x1 x2 h = some r := lim_iff (fun n => by
  obtain ⟨ih2, ih54, ih68⟩ := X12_goesOn_fm n
  exact X12_goesOn_n0 ih2 ih54 ih68 t x1 x2 h)
noncomputable abbrev X12_goesOn_F : List PV → PH → Option Rs := FW_T11II (X12_goesOn)
set_option maxRecDepth 100000 in
theorem X12_goesOn_gd (l : Launch) : Gd l 2 yX12_goesOn cX12_goesOn 8 (some .boolean) (X12_goesOn_F)   := Gd_of (by decide +kernel) (fun z hzl as h r e => by
  obtain ⟨hst, e⟩ := gL_of e
  obtain ⟨t, q0, e⟩ := gT_of e
  obtain ⟨x1, q1, e⟩ := gI_of e
  obtain ⟨x2, q2, e⟩ := gI_of e
  rw [st_3 hst q0 q1 q2]
  obtain ⟨n, e⟩ := lim_of e
  obtain ⟨hG2, hG54, hG68⟩ := X12_goesOn_k (z := z) n
  exact ⟨show 3 ≤ 8 by decide, X12_goesOn_s0 hG2 _ _ _ _ ((X12_goesOn_l0 (X12_goesOn_fam n).1 t x1 x2 h).trans e)⟩)
