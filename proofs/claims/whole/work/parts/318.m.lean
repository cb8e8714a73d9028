abbrev X12_findAway_x (z : CZ) : CX := mx RX12 cX12_findAway 8 1 none "findAway" z
noncomputable def X12_findAway_b0 (k2 : Kn) : Kn := (a_ic 0 (a_is 2 k2))
set_option maxRecDepth 100000 in
theorem X12_findAway_s0 {z : CZ} {k2 : Kn} (hk2 : SK (X12_findAway_x z) 2 k2) : SK (X12_findAway_x z) 0 (X12_findAway_b0 k2) := (s_iconst (pc := 0) dX12_findAway_0 c_ic_0 (s_istoren (pc := 1) dX12_findAway_1 rfl (show 2 < 8 by decide) hk2))
noncomputable def X12_findAway_b2 (c_X12_placeOf : Nat → Int32 → PH → Option Rs) (k28 k37 : Kn) : Kn := (a_il 2 (a_ic 12 (a_lt (a_al 0 (a_gR 11 730 55 (a_il 2 (a_il 2 (a_al 0 (a_il 1 (a_vI 11 1 (FW_T11I c_X12_placeOf) (a_eq (a_ic 0 k28) (a_ic 1000000 k28))))))))) (a_ic 1 (a_is 2 k37)))))
set_option maxRecDepth 100000 in
theorem X12_findAway_s2 {z : CZ} {k28 k37 : Kn} (hk28 : SK (X12_findAway_x z) 28 k28) (hk37 : SK (X12_findAway_x z) 37 k37) : SK (X12_findAway_x z) 2 (X12_findAway_b2 X12_placeOf k28 k37) := (s_iloadn (pc := 2) dX12_findAway_2 rfl (s_bipush (pc := 3) dX12_findAway_3 c_bp_12 (s_cmpge (pc := 5) dX12_findAway_5 (by decide) (s_iconst (pc := 35) dX12_findAway_35 c_ic_1 (s_istoren (pc := 36) dX12_findAway_36 rfl (show 2 < 8 by decide) hk37)) (s_aloadn (pc := 8) dX12_findAway_8 rfl (s_gR (pc := 9) (f := 26) ko_11 (by decide) rfl rfl w_1321 dX12_findAway_9 (s_iloadn (pc := 12) dX12_findAway_12 rfl (s_iloadn (pc := 13) dX12_findAway_13 rfl (s_aloadn (pc := 14) dX12_findAway_14 rfl (s_iloadn (pc := 15) dX12_findAway_15 rfl (s_vI (pc := 16) (run_virtual (X12_placeOf_gd _) (show 0 < 1 by decide) cy_X12_placeOf (by decide) rfl w_1509 w_s35 w_1507 dX12_findAway_16) (s_cmpne (pc := 19) dX12_findAway_19 (by decide) (s_ldc (pc := 26) w_1683 dX12_findAway_26 hk28) (s_iconst (pc := 22) dX12_findAway_22 c_ic_0 (s_goto (pc := 23) dX12_findAway_23 (by decide) hk28)))))))))))))
noncomputable def X12_findAway_b28 (k2 : Kn) : Kn := (a_ast 55 3520 (fun a => a) (a_inc 2 1 k2))
set_option maxRecDepth 100000 in
theorem X12_findAway_s28 {z : CZ} {k2 : Kn} (hk2 : SK (X12_findAway_x z) 2 k2) : SK (X12_findAway_x z) 28 (X12_findAway_b28 k2) := (s_iast (pc := 28) (by decide) (by decide) rfl rfl rfl dX12_findAway_28 (s_iinc (pc := 29) dX12_findAway_29 c_ic_1 (show 2 < 8 by decide) (s_goto (pc := 32) dX12_findAway_32 (by decide) hk2)))
noncomputable def X12_findAway_b37 (k45 : Kn) : Kn := (a_il 2 (a_z a_vr (a_ic 0 (a_is 2 (a_ic 0 (a_is 3 k45))))))
set_option maxRecDepth 100000 in
theorem X12_findAway_s37 {z : CZ} {k45 : Kn} (hk45 : SK (X12_findAway_x z) 45 k45) : SK (X12_findAway_x z) 37 (X12_findAway_b37 k45) := (s_iloadn (pc := 37) dX12_findAway_37 rfl (s_ifeq (pc := 38) dX12_findAway_38 (by decide) (s_vr (pc := 200) rfl dX12_findAway_200) (s_iconst (pc := 41) dX12_findAway_41 c_ic_0 (s_istoren (pc := 42) dX12_findAway_42 rfl (show 2 < 8 by decide) (s_iconst (pc := 43) dX12_findAway_43 c_ic_0 (s_istoren (pc := 44) dX12_findAway_44 rfl (show 3 < 8 by decide) hk45))))))
noncomputable def X12_findAway_b45 (k37 k143 : Kn) : Kn := (a_il 3 (a_al 0 (a_gR 11 704 41 (a_ic 4 (a_ald 41 2624 (a_lt (a_ic 15 (a_ic 6 (a_il 3 (a_b (fun a b => a * b) (a_b (fun a b => a + b) (a_is 4 (a_al 0 (a_gR 11 704 41 (a_il 4 (a_ald 41 2624 (a_is 5 (a_al 0 (a_gR 11 704 41 (a_il 4 (a_ic 1 (a_b (fun a b => a + b) (a_ald 41 2624 (a_is 6 (a_al 0 (a_gR 11 704 41 (a_il 4 (a_ic 4 (a_b (fun a b => a + b) (a_ald 41 2624 (a_is 7 (a_al 0 (a_gR 11 728 53 (a_il 3 (a_ald 53 3392 (a_z k143 (a_al 0 (a_gR 11 730 55 (a_il 6 (a_ald 55 3520 (a_il 7 (a_b (fun a b => a + b) (a_al 0 (a_gR 11 730 55 (a_il 5 (a_ald 55 3520 (a_lt (a_al 0 (a_gR 11 730 55 (a_il 5 (a_al 0 (a_gR 11 730 55 (a_il 6 (a_ald 55 3520 (a_il 7 (a_b (fun a b => a + b) (a_ast 55 3520 (fun a => a) (a_ic 1 (a_is 2 k143)))))))))))) k143))))))))))))))))))))))))))))))))))))))))) k37))))))
set_option maxRecDepth 100000 in
theorem X12_findAway_s45 {z : CZ} {k37 k143 : Kn} (hk37 : SK (X12_findAway_x z) 37 k37) (hk143 : SK (X12_findAway_x z) 143 k143) : SK (X12_findAway_x z) 45 (X12_findAway_b45 k37 k143) := (s_iloadn (pc := 45) dX12_findAway_45 rfl (s_aloadn (pc := 46) dX12_findAway_46 rfl (s_gR (pc := 47) (f := 0) ko_11 (by decide) rfl rfl w_1295 dX12_findAway_47 (s_iconst (pc := 50) dX12_findAway_50 c_ic_4 (s_iald (pc := 51) (by decide) (by decide) rfl rfl rfl dX12_findAway_51 (s_cmpge (pc := 52) dX12_findAway_52 (by decide) (s_goto (pc := 197) dX12_findAway_197 (by decide) hk37) (s_bipush (pc := 55) dX12_findAway_55 c_bp_15 (s_bipush (pc := 57) dX12_findAway_57 c_bp_6 (s_iloadn (pc := 59) dX12_findAway_59 rfl (s_imul (pc := 60) dX12_findAway_60 (s_iadd (pc := 61) dX12_findAway_61 (s_istore (pc := 62) dX12_findAway_62 (show 4 < 8 by decide) (s_aloadn (pc := 64) dX12_findAway_64 rfl (s_gR (pc := 65) (f := 0) ko_11 (by decide) rfl rfl w_1295 dX12_findAway_65 (s_iload (pc := 68) dX12_findAway_68 (s_iald (pc := 70) (by decide) (by decide) rfl rfl rfl dX12_findAway_70 (s_istore (pc := 71) dX12_findAway_71 (show 5 < 8 by decide) (s_aloadn (pc := 73) dX12_findAway_73 rfl (s_gR (pc := 74) (f := 0) ko_11 (by decide) rfl rfl w_1295 dX12_findAway_74 (s_iload (pc := 77) dX12_findAway_77 (s_iconst (pc := 79) dX12_findAway_79 c_ic_1 (s_iadd (pc := 80) dX12_findAway_80 (s_iald (pc := 81) (by decide) (by decide) rfl rfl rfl dX12_findAway_81 (s_istore (pc := 82) dX12_findAway_82 (show 6 < 8 by decide) (s_aloadn (pc := 84) dX12_findAway_84 rfl (s_gR (pc := 85) (f := 0) ko_11 (by decide) rfl rfl w_1295 dX12_findAway_85 (s_iload (pc := 88) dX12_findAway_88 (s_iconst (pc := 90) dX12_findAway_90 c_ic_4 (s_iadd (pc := 91) dX12_findAway_91 (s_iald (pc := 92) (by decide) (by decide) rfl rfl rfl dX12_findAway_92 (s_istore (pc := 93) dX12_findAway_93 (show 7 < 8 by decide) (s_aloadn (pc := 95) dX12_findAway_95 rfl (s_gR (pc := 96) (f := 24) ko_11 (by decide) rfl rfl w_1319 dX12_findAway_96 (s_iloadn (pc := 99) dX12_findAway_99 rfl (s_zald (pc := 100) (by decide) (by decide) rfl rfl rfl dX12_findAway_100 (s_ifeq (pc := 101) dX12_findAway_101 (by decide) hk143 (s_aloadn (pc := 104) dX12_findAway_104 rfl (s_gR (pc := 105) (f := 26) ko_11 (by decide) rfl rfl w_1321 dX12_findAway_105 (s_iload (pc := 108) dX12_findAway_108 (s_iald (pc := 110) (by decide) (by decide) rfl rfl rfl dX12_findAway_110 (s_iload (pc := 111) dX12_findAway_111 (s_iadd (pc := 113) dX12_findAway_113 (s_aloadn (pc := 114) dX12_findAway_114 rfl (s_gR (pc := 115) (f := 26) ko_11 (by decide) rfl rfl w_1321 dX12_findAway_115 (s_iload (pc := 118) dX12_findAway_118 (s_iald (pc := 120) (by decide) (by decide) rfl rfl rfl dX12_findAway_120 (s_cmpge (pc := 121) dX12_findAway_121 (by decide) hk143 (s_aloadn (pc := 124) dX12_findAway_124 rfl (s_gR (pc := 125) (f := 26) ko_11 (by decide) rfl rfl w_1321 dX12_findAway_125 (s_iload (pc := 128) dX12_findAway_128 (s_aloadn (pc := 130) dX12_findAway_130 rfl (s_gR (pc := 131) (f := 26) ko_11 (by decide) rfl rfl w_1321 dX12_findAway_131 (s_iload (pc := 134) dX12_findAway_134 (s_iald (pc := 136) (by decide) (by decide) rfl rfl rfl dX12_findAway_136 (s_iload (pc := 137) dX12_findAway_137 (s_iadd (pc := 139) dX12_findAway_139 (s_iast (pc := 140) (by decide) (by decide) rfl rfl rfl dX12_findAway_140 (s_iconst (pc := 141) dX12_findAway_141 c_ic_1 (s_istoren (pc := 142) dX12_findAway_142 rfl (show 2 < 8 by decide) hk143)))))))))))))))))))))))))))))))))))))))))))))))))))))))))))
noncomputable def X12_findAway_b143 (k191 : Kn) : Kn := (a_al 0 (a_gR 11 728 53 (a_il 3 (a_ald 53 3392 (a_z k191 (a_al 0 (a_gR 11 730 55 (a_il 5 (a_ald 55 3520 (a_il 7 (a_b (fun a b => a + b) (a_al 0 (a_gR 11 730 55 (a_il 6 (a_ald 55 3520 (a_lt (a_al 0 (a_gR 11 730 55 (a_il 6 (a_al 0 (a_gR 11 730 55 (a_il 5 (a_ald 55 3520 (a_il 7 (a_b (fun a b => a + b) (a_ast 55 3520 (fun a => a) (a_ic 1 (a_is 2 k191)))))))))))) k191))))))))))))))))
set_option maxRecDepth 100000 in
theorem X12_findAway_s143 {z : CZ} {k191 : Kn} (hk191 : SK (X12_findAway_x z) 191 k191) : SK (X12_findAway_x z) 143 (X12_findAway_b143 k191) := (s_aloadn (pc := 143) dX12_findAway_143 rfl (s_gR (pc := 144) (f := 24) ko_11 (by decide) rfl rfl w_1319 dX12_findAway_144 (s_iloadn (pc := 147) dX12_findAway_147 rfl (s_zald (pc := 148) (by decide) (by decide) rfl rfl rfl dX12_findAway_148 (s_ifeq (pc := 149) dX12_findAway_149 (by decide) hk191 (s_aloadn (pc := 152) dX12_findAway_152 rfl (s_gR (pc := 153) (f := 26) ko_11 (by decide) rfl rfl w_1321 dX12_findAway_153 (s_iload (pc := 156) dX12_findAway_156 (s_iald (pc := 158) (by decide) (by decide) rfl rfl rfl dX12_findAway_158 (s_iload (pc := 159) dX12_findAway_159 (s_iadd (pc := 161) dX12_findAway_161 (s_aloadn (pc := 162) dX12_findAway_162 rfl (s_gR (pc := 163) (f := 26) ko_11 (by decide) rfl rfl w_1321 dX12_findAway_163 (s_iload (pc := 166) dX12_findAway_166 (s_iald (pc := 168) (by decide) (by decide) rfl rfl rfl dX12_findAway_168 (s_cmpge (pc := 169) dX12_findAway_169 (by decide) hk191 (s_aloadn (pc := 172) dX12_findAway_172 rfl (s_gR (pc := 173) (f := 26) ko_11 (by decide) rfl rfl w_1321 dX12_findAway_173 (s_iload (pc := 176) dX12_findAway_176 (s_aloadn (pc := 178) dX12_findAway_178 rfl (s_gR (pc := 179) (f := 26) ko_11 (by decide) rfl rfl w_1321 dX12_findAway_179 (s_iload (pc := 182) dX12_findAway_182 (s_iald (pc := 184) (by decide) (by decide) rfl rfl rfl dX12_findAway_184 (s_iload (pc := 185) dX12_findAway_185 (s_iadd (pc := 187) dX12_findAway_187 (s_iast (pc := 188) (by decide) (by decide) rfl rfl rfl dX12_findAway_188 (s_iconst (pc := 189) dX12_findAway_189 c_ic_1 (s_istoren (pc := 190) dX12_findAway_190 rfl (show 2 < 8 by decide) hk191))))))))))))))))))))))))))))
noncomputable def X12_findAway_b191 (k45 : Kn) : Kn := (a_inc 3 1 k45)
set_option maxRecDepth 100000 in
theorem X12_findAway_s191 {z : CZ} {k45 : Kn} (hk45 : SK (X12_findAway_x z) 45 k45) : SK (X12_findAway_x z) 191 (X12_findAway_b191 k45) := (s_iinc (pc := 191) dX12_findAway_191 c_ic_1 (show 3 < 8 by decide) (s_goto (pc := 194) dX12_findAway_194 (by decide) hk45))
noncomputable def X12_findAway_u2 (g : Nat → Int32 → Int32 → PH → Option Rs) : Kn := fun ls st h => gL 0 st (gT 11 ls 0 fun t => gI ls 1 fun x1 => gI ls 2 fun x2 => g t x1 x2 h)
noncomputable def X12_findAway_u28 (g : Nat → Int32 → Int32 → Int32 → Int32 → Nat → PH → Option Rs) : Kn := fun ls st h => gL 3 st (gT 11 ls 0 fun t => gI ls 1 fun x1 => gI ls 2 fun x2 => gI (st.map some) 0 fun s0 => gI (st.map some) 1 fun s1 => gR 55 (st.map some) 2 fun s2 => g t x1 x2 s0 s1 s2 h)
noncomputable def X12_findAway_u37 (g : Nat → Int32 → PH → Option Rs) : Kn := fun ls st h => gL 0 st (gT 11 ls 0 fun t => gI ls 2 fun x2 => g t x2 h)
noncomputable def X12_findAway_u45 (g : Nat → Int32 → Int32 → PH → Option Rs) : Kn := fun ls st h => gL 0 st (gT 11 ls 0 fun t => gI ls 2 fun x2 => gI ls 3 fun x3 => g t x2 x3 h)
noncomputable def X12_findAway_u143 (g : Nat → Int32 → Int32 → Int32 → Int32 → Int32 → PH → Option Rs) : Kn := fun ls st h => gL 0 st (gT 11 ls 0 fun t => gI ls 2 fun x2 => gI ls 3 fun x3 => gI ls 5 fun x5 => gI ls 6 fun x6 => gI ls 7 fun x7 => g t x2 x3 x5 x6 x7 h)
noncomputable def X12_findAway_u191 (g : Nat → Int32 → Int32 → PH → Option Rs) : Kn := fun ls st h => gL 0 st (gT 11 ls 0 fun t => gI ls 2 fun x2 => gI ls 3 fun x3 => g t x2 x3 h)
noncomputable def X12_findAway_f0 (g2 : Nat → Int32 → Int32 → PH → Option Rs) (t : Nat) (x1 : Int32) (h : PH) : Option Rs :=
  g2 t x1 0 h
set_option maxRecDepth 100000 in
theorem X12_findAway_l0 (g2 : Nat → Int32 → Int32 → PH → Option Rs) (t : Nat) (x1 : Int32) (h : PH) : X12_findAway_b0 (X12_findAway_u2 g2) [some (.inr (11, t + 1)), some (.inl x1), none, none, none, none, none, none] [] h = X12_findAway_f0 g2 t x1 h := rfl
theorem X12_findAway_m0 {g2 G2 : Nat → Int32 → Int32 → PH → Option Rs} (hg2 : ∀ a0 a1 a2 a3, Mo (g2 a0 a1 a2 a3) (G2 a0 a1 a2 a3)) (t : Nat) (x1 : Int32) (h : PH) : Mo (X12_findAway_f0 g2 t x1 h) (X12_findAway_f0 G2 t x1 h) := (hg2 t x1 0 h)
noncomputable def X12_findAway_f2 (c_X12_placeOf : Nat → Int32 → PH → Option Rs) (g28 : Nat → Int32 → Int32 → Int32 → Int32 → Nat → PH → Option Rs) (g37 : Nat → Int32 → PH → Option Rs) (t : Nat) (x1 : Int32) (x2 : Int32) (h : PH) : Option Rs :=
  if x2 < 12 then
    cI (c_X12_placeOf t x1 h) fun v2 h1 =>
    if x2 = v2 then
      g28 t x1 x2 0 x2 (hR h 730 t 0) h1
    else
      g28 t x1 x2 1000000 x2 (hR h 730 t 0) h1
  else
    g37 t 1 h
set_option maxRecDepth 100000 in
theorem X12_findAway_l2 (c_X12_placeOf : Nat → Int32 → PH → Option Rs) (g28 : Nat → Int32 → Int32 → Int32 → Int32 → Nat → PH → Option Rs) (g37 : Nat → Int32 → PH → Option Rs) (t : Nat) (x1 : Int32) (x2 : Int32) (h : PH) : X12_findAway_b2 c_X12_placeOf (X12_findAway_u28 g28) (X12_findAway_u37 g37) [some (.inr (11, t + 1)), some (.inl x1), some (.inl x2), none, none, none, none, none] [] h = X12_findAway_f2 c_X12_placeOf g28 g37 t x1 x2 h := rfl
theorem X12_findAway_m2 {c_X12_placeOf : Nat → Int32 → PH → Option Rs} {g28 G28 : Nat → Int32 → Int32 → Int32 → Int32 → Nat → PH → Option Rs} {g37 G37 : Nat → Int32 → PH → Option Rs} (hg28 : ∀ a0 a1 a2 a3 a4 a5 a6, Mo (g28 a0 a1 a2 a3 a4 a5 a6) (G28 a0 a1 a2 a3 a4 a5 a6)) (hg37 : ∀ a0 a1 a2, Mo (g37 a0 a1 a2) (G37 a0 a1 a2)) (t : Nat) (x1 : Int32) (x2 : Int32) (h : PH) : Mo (X12_findAway_f2 c_X12_placeOf g28 g37 t x1 x2 h) (X12_findAway_f2 c_X12_placeOf G28 G37 t x1 x2 h) := (mo_if (mo_cI fun v2 h1 => (mo_if (hg28 t x1 x2 0 x2 (hR h 730 t 0) h1) (hg28 t x1 x2 1000000 x2 (hR h 730 t 0) h1))) (hg37 t 1 h))
theorem X12_findAway_w2 {z : CZ} {g28 : Nat → Int32 → Int32 → Int32 → Int32 → Nat → PH → Option Rs} {g37 : Nat → Int32 → PH → Option Rs} (hk28 : SK (X12_findAway_x z) 28 (X12_findAway_u28 g28)) (hk37 : SK (X12_findAway_x z) 37 (X12_findAway_u37 g37)) : SK (X12_findAway_x z) 2 (X12_findAway_u2 (X12_findAway_f2 X12_placeOf g28 g37)) := by
  intro ls st h r e
  obtain ⟨hst, e⟩ := gL_of e
  obtain ⟨t, q0, e⟩ := gT_of e
  obtain ⟨x1, q1, e⟩ := gI_of e
  obtain ⟨x2, q2, e⟩ := gI_of e
  rw [st_0 hst]
  exact WK.sub (canon := [some (.inr (11, t + 1)), some (.inl x1), some (.inl x2), none, none, none, none, none]) rfl ⟨q0, q1, q2, trivial⟩ (X12_findAway_s2 hk28 hk37 _ _ _ _ ((X12_findAway_l2 X12_placeOf g28 g37 t x1 x2 h).trans e))
noncomputable def X12_findAway_f28 (g2 : Nat → Int32 → Int32 → PH → Option Rs) (t : Nat) (x1 : Int32) (x2 : Int32) (s0 : Int32) (s1 : Int32) (s2 : Nat) (h : PH) : Option Rs :=
  nn s2 fun r3 =>
  ix s1 (hL h 55 r3) fun j4 =>
  wr (pI h 3520 r3 j4 s0) fun h5 =>
  g2 t x1 (x2 + 1) h5
set_option maxRecDepth 100000 in
theorem X12_findAway_l28 (g2 : Nat → Int32 → Int32 → PH → Option Rs) (t : Nat) (x1 : Int32) (x2 : Int32) (s0 : Int32) (s1 : Int32) (s2 : Nat) (h : PH) : X12_findAway_b28 (X12_findAway_u2 g2) [some (.inr (11, t + 1)), some (.inl x1), some (.inl x2), none, none, none, none, none] [.inl s0, .inl s1, .inr (55, s2)] h = X12_findAway_f28 g2 t x1 x2 s0 s1 s2 h := rfl
theorem X12_findAway_m28 {g2 G2 : Nat → Int32 → Int32 → PH → Option Rs} (hg2 : ∀ a0 a1 a2 a3, Mo (g2 a0 a1 a2 a3) (G2 a0 a1 a2 a3)) (t : Nat) (x1 : Int32) (x2 : Int32) (s0 : Int32) (s1 : Int32) (s2 : Nat) (h : PH) : Mo (X12_findAway_f28 g2 t x1 x2 s0 s1 s2 h) (X12_findAway_f28 G2 t x1 x2 s0 s1 s2 h) := (mo_nn fun r3 => (mo_ix fun j4 => (mo_wr fun h5 => (hg2 t x1 (x2 + 1) h5))))
theorem X12_findAway_w28 {z : CZ} {g2 : Nat → Int32 → Int32 → PH → Option Rs} (hk2 : SK (X12_findAway_x z) 2 (X12_findAway_u2 g2)) : SK (X12_findAway_x z) 28 (X12_findAway_u28 (X12_findAway_f28 g2)) := by
  intro ls st h r e
  obtain ⟨hst, e⟩ := gL_of e
  obtain ⟨t, q0, e⟩ := gT_of e
  obtain ⟨x1, q1, e⟩ := gI_of e
  obtain ⟨x2, q2, e⟩ := gI_of e
  obtain ⟨s0, q3, e⟩ := gI_of e
  obtain ⟨s1, q4, e⟩ := gI_of e
  obtain ⟨s2, q5, e⟩ := gR_of e
  rw [st_3 hst q3 q4 q5]
  exact WK.sub (canon := [some (.inr (11, t + 1)), some (.inl x1), some (.inl x2), none, none, none, none, none]) rfl ⟨q0, q1, q2, trivial⟩ (X12_findAway_s28 hk2 _ _ _ _ ((X12_findAway_l28 g2 t x1 x2 s0 s1 s2 h).trans e))
noncomputable def X12_findAway_f37 (g45 : Nat → Int32 → Int32 → PH → Option Rs) (t : Nat) (x2 : Int32) (h : PH) : Option Rs :=
  if x2 = 0 then
    some (none, h)
  else
    g45 t 0 0 h
set_option maxRecDepth 100000 in
theorem X12_findAway_l37 (g45 : Nat → Int32 → Int32 → PH → Option Rs) (t : Nat) (x2 : Int32) (h : PH) : X12_findAway_b37 (X12_findAway_u45 g45) [some (.inr (11, t + 1)), none, some (.inl x2), none, none, none, none, none] [] h = X12_findAway_f37 g45 t x2 h := rfl
theorem X12_findAway_m37 {g45 G45 : Nat → Int32 → Int32 → PH → Option Rs} (hg45 : ∀ a0 a1 a2 a3, Mo (g45 a0 a1 a2 a3) (G45 a0 a1 a2 a3)) (t : Nat) (x2 : Int32) (h : PH) : Mo (X12_findAway_f37 g45 t x2 h) (X12_findAway_f37 G45 t x2 h) := (mo_if mo_rf (hg45 t 0 0 h))
theorem X12_findAway_w37 {z : CZ} {g45 : Nat → Int32 → Int32 → PH → Option Rs} (hk45 : SK (X12_findAway_x z) 45 (X12_findAway_u45 g45)) : SK (X12_findAway_x z) 37 (X12_findAway_u37 (X12_findAway_f37 g45)) := by
  intro ls st h r e
  obtain ⟨hst, e⟩ := gL_of e
  obtain ⟨t, q0, e⟩ := gT_of e
  obtain ⟨x2, q1, e⟩ := gI_of e
  rw [st_0 hst]
  exact WK.sub (canon := [some (.inr (11, t + 1)), none, some (.inl x2), none, none, none, none, none]) rfl ⟨q0, q1, trivial⟩ (X12_findAway_s37 hk45 _ _ _ _ ((X12_findAway_l37 g45 t x2 h).trans e))
noncomputable def X12_findAway_f45 (g37 : Nat → Int32 → PH → Option Rs) (g143 : Nat → Int32 → Int32 → Int32 → Int32 → Int32 → PH → Option Rs) (t : Nat) (x2 : Int32) (x3 : Int32) (h : PH) : Option Rs :=
  nn (hR h 704 t 0) fun r6 =>
  ix 4 (hL h 41 r6) fun j7 =>
  if x3 < (hI h 2624 r6 j7) then
    nn (hR h 704 t 0) fun r8 =>
    ix (15 + (6 * x3)) (hL h 41 r8) fun j9 =>
    nn (hR h 704 t 0) fun r10 =>
    ix ((15 + (6 * x3)) + 1) (hL h 41 r10) fun j11 =>
    nn (hR h 704 t 0) fun r12 =>
    ix ((15 + (6 * x3)) + 4) (hL h 41 r12) fun j13 =>
    nn (hR h 728 t 0) fun r14 =>
    ix x3 (hL h 53 r14) fun j15 =>
    if (hI h 3392 r14 j15) = 0 then
      g143 t x2 x3 (hI h 2624 r8 j9) (hI h 2624 r10 j11) (hI h 2624 r12 j13) h
    else
      nn (hR h 730 t 0) fun r16 =>
      ix (hI h 2624 r10 j11) (hL h 55 r16) fun j17 =>
      nn (hR h 730 t 0) fun r18 =>
      ix (hI h 2624 r8 j9) (hL h 55 r18) fun j19 =>
      if ((hI h 3520 r16 j17) + (hI h 2624 r12 j13)) < (hI h 3520 r18 j19) then
        nn (hR h 730 t 0) fun r20 =>
        ix (hI h 2624 r10 j11) (hL h 55 r20) fun j21 =>
        nn (hR h 730 t 0) fun r22 =>
        ix (hI h 2624 r8 j9) (hL h 55 r22) fun j23 =>
        wr (pI h 3520 r22 j23 ((hI h 3520 r20 j21) + (hI h 2624 r12 j13))) fun h24 =>
        g143 t 1 x3 (hI h 2624 r8 j9) (hI h 2624 r10 j11) (hI h 2624 r12 j13) h24
      else
        g143 t x2 x3 (hI h 2624 r8 j9) (hI h 2624 r10 j11) (hI h 2624 r12 j13) h
  else
    g37 t x2 h
set_option maxRecDepth 100000 in
theorem X12_findAway_l45 (g37 : Nat → Int32 → PH → Option Rs) (g143 : Nat → Int32 → Int32 → Int32 → Int32 → Int32 → PH → Option Rs) (t : Nat) (x2 : Int32) (x3 : Int32) (h : PH) : X12_findAway_b45 (X12_findAway_u37 g37) (X12_findAway_u143 g143) [some (.inr (11, t + 1)), none, some (.inl x2), some (.inl x3), none, none, none, none] [] h = X12_findAway_f45 g37 g143 t x2 x3 h := rfl
theorem X12_findAway_m45 {g37 G37 : Nat → Int32 → PH → Option Rs} {g143 G143 : Nat → Int32 → Int32 → Int32 → Int32 → Int32 → PH → Option Rs} (hg37 : ∀ a0 a1 a2, Mo (g37 a0 a1 a2) (G37 a0 a1 a2)) (hg143 : ∀ a0 a1 a2 a3 a4 a5 a6, Mo (g143 a0 a1 a2 a3 a4 a5 a6) (G143 a0 a1 a2 a3 a4 a5 a6)) (t : Nat) (x2 : Int32) (x3 : Int32) (h : PH) : Mo (X12_findAway_f45 g37 g143 t x2 x3 h) (X12_findAway_f45 G37 G143 t x2 x3 h) := (mo_nn fun r6 => (mo_ix fun j7 => (mo_if (mo_nn fun r8 => (mo_ix fun j9 => (mo_nn fun r10 => (mo_ix fun j11 => (mo_nn fun r12 => (mo_ix fun j13 => (mo_nn fun r14 => (mo_ix fun j15 => (mo_if (hg143 t x2 x3 (hI h 2624 r8 j9) (hI h 2624 r10 j11) (hI h 2624 r12 j13) h) (mo_nn fun r16 => (mo_ix fun j17 => (mo_nn fun r18 => (mo_ix fun j19 => (mo_if (mo_nn fun r20 => (mo_ix fun j21 => (mo_nn fun r22 => (mo_ix fun j23 => (mo_wr fun h24 => (hg143 t 1 x3 (hI h 2624 r8 j9) (hI h 2624 r10 j11) (hI h 2624 r12 j13) h24)))))) (hg143 t x2 x3 (hI h 2624 r8 j9) (hI h 2624 r10 j11) (hI h 2624 r12 j13) h))))))))))))))) (hg37 t x2 h))))
theorem X12_findAway_w45 {z : CZ} {g37 : Nat → Int32 → PH → Option Rs} {g143 : Nat → Int32 → Int32 → Int32 → Int32 → Int32 → PH → Option Rs} (hk37 : SK (X12_findAway_x z) 37 (X12_findAway_u37 g37)) (hk143 : SK (X12_findAway_x z) 143 (X12_findAway_u143 g143)) : SK (X12_findAway_x z) 45 (X12_findAway_u45 (X12_findAway_f45 g37 g143)) := by
  intro ls st h r e
  obtain ⟨hst, e⟩ := gL_of e
  obtain ⟨t, q0, e⟩ := gT_of e
  obtain ⟨x2, q1, e⟩ := gI_of e
  obtain ⟨x3, q2, e⟩ := gI_of e
  rw [st_0 hst]
  exact WK.sub (canon := [some (.inr (11, t + 1)), none, some (.inl x2), some (.inl x3), none, none, none, none]) rfl ⟨q0, q1, q2, trivial⟩ (X12_findAway_s45 hk37 hk143 _ _ _ _ ((X12_findAway_l45 g37 g143 t x2 x3 h).trans e))
noncomputable def X12_findAway_f143 (g191 : Nat → Int32 → Int32 → PH → Option Rs) (t : Nat) (x2 : Int32) (x3 : Int32) (x5 : Int32) (x6 : Int32) (x7 : Int32) (h : PH) : Option Rs :=
  nn (hR h 728 t 0) fun r25 =>
  ix x3 (hL h 53 r25) fun j26 =>
  if (hI h 3392 r25 j26) = 0 then
    g191 t x2 x3 h
  else
    nn (hR h 730 t 0) fun r27 =>
    ix x5 (hL h 55 r27) fun j28 =>
    nn (hR h 730 t 0) fun r29 =>
    ix x6 (hL h 55 r29) fun j30 =>
    if ((hI h 3520 r27 j28) + x7) < (hI h 3520 r29 j30) then
      nn (hR h 730 t 0) fun r31 =>
      ix x5 (hL h 55 r31) fun j32 =>
      nn (hR h 730 t 0) fun r33 =>
      ix x6 (hL h 55 r33) fun j34 =>
      wr (pI h 3520 r33 j34 ((hI h 3520 r31 j32) + x7)) fun h35 =>
      g191 t 1 x3 h35
    else
      g191 t x2 x3 h
set_option maxRecDepth 100000 in
theorem X12_findAway_l143 (g191 : Nat → Int32 → Int32 → PH → Option Rs) (t : Nat) (x2 : Int32) (x3 : Int32) (x5 : Int32) (x6 : Int32) (x7 : Int32) (h : PH) : X12_findAway_b143 (X12_findAway_u191 g191) [some (.inr (11, t + 1)), none, some (.inl x2), some (.inl x3), none, some (.inl x5), some (.inl x6), some (.inl x7)] [] h = X12_findAway_f143 g191 t x2 x3 x5 x6 x7 h := rfl
theorem X12_findAway_m143 {g191 G191 : Nat → Int32 → Int32 → PH → Option Rs} (hg191 : ∀ a0 a1 a2 a3, Mo (g191 a0 a1 a2 a3) (G191 a0 a1 a2 a3)) (t : Nat) (x2 : Int32) (x3 : Int32) (x5 : Int32) (x6 : Int32) (x7 : Int32) (h : PH) : Mo (X12_findAway_f143 g191 t x2 x3 x5 x6 x7 h) (X12_findAway_f143 G191 t x2 x3 x5 x6 x7 h) := (mo_nn fun r25 => (mo_ix fun j26 => (mo_if (hg191 t x2 x3 h) (mo_nn fun r27 => (mo_ix fun j28 => (mo_nn fun r29 => (mo_ix fun j30 => (mo_if (mo_nn fun r31 => (mo_ix fun j32 => (mo_nn fun r33 => (mo_ix fun j34 => (mo_wr fun h35 => (hg191 t 1 x3 h35)))))) (hg191 t x2 x3 h)))))))))
theorem X12_findAway_w143 {z : CZ} {g191 : Nat → Int32 → Int32 → PH → Option Rs} (hk191 : SK (X12_findAway_x z) 191 (X12_findAway_u191 g191)) : SK (X12_findAway_x z) 143 (X12_findAway_u143 (X12_findAway_f143 g191)) := by
  intro ls st h r e
  obtain ⟨hst, e⟩ := gL_of e
  obtain ⟨t, q0, e⟩ := gT_of e
  obtain ⟨x2, q1, e⟩ := gI_of e
  obtain ⟨x3, q2, e⟩ := gI_of e
  obtain ⟨x5, q3, e⟩ := gI_of e
  obtain ⟨x6, q4, e⟩ := gI_of e
  obtain ⟨x7, q5, e⟩ := gI_of e
  rw [st_0 hst]
  exact WK.sub (canon := [some (.inr (11, t + 1)), none, some (.inl x2), some (.inl x3), none, some (.inl x5), some (.inl x6), some (.inl x7)]) rfl ⟨q0, q1, q2, q3, q4, q5, trivial⟩ (X12_findAway_s143 hk191 _ _ _ _ ((X12_findAway_l143 g191 t x2 x3 x5 x6 x7 h).trans e))
noncomputable def X12_findAway_f191 (g45 : Nat → Int32 → Int32 → PH → Option Rs) (t : Nat) (x2 : Int32) (x3 : Int32) (h : PH) : Option Rs :=
  g45 t x2 (x3 + 1) h
set_option maxRecDepth 100000 in
theorem X12_findAway_l191 (g45 : Nat → Int32 → Int32 → PH → Option Rs) (t : Nat) (x2 : Int32) (x3 : Int32) (h : PH) : X12_findAway_b191 (X12_findAway_u45 g45) [some (.inr (11, t + 1)), none, some (.inl x2), some (.inl x3), none, none, none, none] [] h = X12_findAway_f191 g45 t x2 x3 h := rfl
theorem X12_findAway_m191 {g45 G45 : Nat → Int32 → Int32 → PH → Option Rs} (hg45 : ∀ a0 a1 a2 a3, Mo (g45 a0 a1 a2 a3) (G45 a0 a1 a2 a3)) (t : Nat) (x2 : Int32) (x3 : Int32) (h : PH) : Mo (X12_findAway_f191 g45 t x2 x3 h) (X12_findAway_f191 G45 t x2 x3 h) := (hg45 t x2 (x3 + 1) h)
theorem X12_findAway_w191 {z : CZ} {g45 : Nat → Int32 → Int32 → PH → Option Rs} (hk45 : SK (X12_findAway_x z) 45 (X12_findAway_u45 g45)) : SK (X12_findAway_x z) 191 (X12_findAway_u191 (X12_findAway_f191 g45)) := by
  intro ls st h r e
  obtain ⟨hst, e⟩ := gL_of e
  obtain ⟨t, q0, e⟩ := gT_of e
  obtain ⟨x2, q1, e⟩ := gI_of e
  obtain ⟨x3, q2, e⟩ := gI_of e
  rw [st_0 hst]
  exact WK.sub (canon := [some (.inr (11, t + 1)), none, some (.inl x2), some (.inl x3), none, none, none, none]) rfl ⟨q0, q1, q2, trivial⟩ (X12_findAway_s191 hk45 _ _ _ _ ((X12_findAway_l191 g45 t x2 x3 h).trans e))
noncomputable def X12_findAway_g0 (G : (Nat → Int32 → Int32 → PH → Option Rs) × (Nat → Int32 → PH → Option Rs) × (Nat → Int32 → Int32 → PH → Option Rs)) (t : Nat) (x1 : Int32) (h : PH) : Option Rs := X12_findAway_f0 (G).1 t x1 h
noncomputable def X12_findAway_g28 (G : (Nat → Int32 → Int32 → PH → Option Rs) × (Nat → Int32 → PH → Option Rs) × (Nat → Int32 → Int32 → PH → Option Rs)) (t : Nat) (x1 : Int32) (x2 : Int32) (s0 : Int32) (s1 : Int32) (s2 : Nat) (h : PH) : Option Rs := X12_findAway_f28 (G).1 t x1 x2 s0 s1 s2 h
noncomputable def X12_findAway_g2 (G : (Nat → Int32 → Int32 → PH → Option Rs) × (Nat → Int32 → PH → Option Rs) × (Nat → Int32 → Int32 → PH → Option Rs)) (t : Nat) (x1 : Int32) (x2 : Int32) (h : PH) : Option Rs := X12_findAway_f2 X12_placeOf (X12_findAway_g28 G) (G).2.1 t x1 x2 h
noncomputable def X12_findAway_g37 (G : (Nat → Int32 → Int32 → PH → Option Rs) × (Nat → Int32 → PH → Option Rs) × (Nat → Int32 → Int32 → PH → Option Rs)) (t : Nat) (x2 : Int32) (h : PH) : Option Rs := X12_findAway_f37 (G).2.2 t x2 h
noncomputable def X12_findAway_g191 (G : (Nat → Int32 → Int32 → PH → Option Rs) × (Nat → Int32 → PH → Option Rs) × (Nat → Int32 → Int32 → PH → Option Rs)) (t : Nat) (x2 : Int32) (x3 : Int32) (h : PH) : Option Rs := X12_findAway_f191 (G).2.2 t x2 x3 h
noncomputable def X12_findAway_g143 (G : (Nat → Int32 → Int32 → PH → Option Rs) × (Nat → Int32 → PH → Option Rs) × (Nat → Int32 → Int32 → PH → Option Rs)) (t : Nat) (x2 : Int32) (x3 : Int32) (x5 : Int32) (x6 : Int32) (x7 : Int32) (h : PH) : Option Rs := X12_findAway_f143 (X12_findAway_g191 G) t x2 x3 x5 x6 x7 h
noncomputable def X12_findAway_g45 (G : (Nat → Int32 → Int32 → PH → Option Rs) × (Nat → Int32 → PH → Option Rs) × (Nat → Int32 → Int32 → PH → Option Rs)) (t : Nat) (x2 : Int32) (x3 : Int32) (h : PH) : Option Rs := X12_findAway_f45 (G).2.1 (X12_findAway_g143 G) t x2 x3 h
theorem X12_findAway_v28 {z : CZ} {G : (Nat → Int32 → Int32 → PH → Option Rs) × (Nat → Int32 → PH → Option Rs) × (Nat → Int32 → Int32 → PH → Option Rs)} (hG2 : SK (X12_findAway_x z) 2 (X12_findAway_u2 (G).1)) (hG37 : SK (X12_findAway_x z) 37 (X12_findAway_u37 (G).2.1)) (hG45 : SK (X12_findAway_x z) 45 (X12_findAway_u45 (G).2.2)) : SK (X12_findAway_x z) 28 (X12_findAway_u28 (X12_findAway_g28 G)) := X12_findAway_w28 hG2
theorem X12_findAway_v2 {z : CZ} {G : (Nat → Int32 → Int32 → PH → Option Rs) × (Nat → Int32 → PH → Option Rs) × (Nat → Int32 → Int32 → PH → Option Rs)} (hG2 : SK (X12_findAway_x z) 2 (X12_findAway_u2 (G).1)) (hG37 : SK (X12_findAway_x z) 37 (X12_findAway_u37 (G).2.1)) (hG45 : SK (X12_findAway_x z) 45 (X12_findAway_u45 (G).2.2)) : SK (X12_findAway_x z) 2 (X12_findAway_u2 (X12_findAway_g2 G)) := X12_findAway_w2 (X12_findAway_v28 hG2 hG37 hG45) hG37
theorem X12_findAway_v37 {z : CZ} {G : (Nat → Int32 → Int32 → PH → Option Rs) × (Nat → Int32 → PH → Option Rs) × (Nat → Int32 → Int32 → PH → Option Rs)} (hG2 : SK (X12_findAway_x z) 2 (X12_findAway_u2 (G).1)) (hG37 : SK (X12_findAway_x z) 37 (X12_findAway_u37 (G).2.1)) (hG45 : SK (X12_findAway_x z) 45 (X12_findAway_u45 (G).2.2)) : SK (X12_findAway_x z) 37 (X12_findAway_u37 (X12_findAway_g37 G)) := X12_findAway_w37 hG45
theorem X12_findAway_v191 {z : CZ} {G : (Nat → Int32 → Int32 → PH → Option Rs) × (Nat → Int32 → PH → Option Rs) × (Nat → Int32 → Int32 → PH → Option Rs)} (hG2 : SK (X12_findAway_x z) 2 (X12_findAway_u2 (G).1)) (hG37 : SK (X12_findAway_x z) 37 (X12_findAway_u37 (G).2.1)) (hG45 : SK (X12_findAway_x z) 45 (X12_findAway_u45 (G).2.2)) : SK (X12_findAway_x z) 191 (X12_findAway_u191 (X12_findAway_g191 G)) := X12_findAway_w191 hG45
theorem X12_findAway_v143 {z : CZ} {G : (Nat → Int32 → Int32 → PH → Option Rs) × (Nat → Int32 → PH → Option Rs) × (Nat → Int32 → Int32 → PH → Option Rs)} (hG2 : SK (X12_findAway_x z) 2 (X12_findAway_u2 (G).1)) (hG37 : SK (X12_findAway_x z) 37 (X12_findAway_u37 (G).2.1)) (hG45 : SK (X12_findAway_x z) 45 (X12_findAway_u45 (G).2.2)) : SK (X12_findAway_x z) 143 (X12_findAway_u143 (X12_findAway_g143 G)) := X12_findAway_w143 (X12_findAway_v191 hG2 hG37 hG45)
theorem X12_findAway_v45 {z : CZ} {G : (Nat → Int32 → Int32 → PH → Option Rs) × (Nat → Int32 → PH → Option Rs) × (Nat → Int32 → Int32 → PH → Option Rs)} (hG2 : SK (X12_findAway_x z) 2 (X12_findAway_u2 (G).1)) (hG37 : SK (X12_findAway_x z) 37 (X12_findAway_u37 (G).2.1)) (hG45 : SK (X12_findAway_x z) 45 (X12_findAway_u45 (G).2.2)) : SK (X12_findAway_x z) 45 (X12_findAway_u45 (X12_findAway_g45 G)) := X12_findAway_w45 hG37 (X12_findAway_v143 hG2 hG37 hG45)
noncomputable def X12_findAway_fam : Nat → (Nat → Int32 → Int32 → PH → Option Rs) × (Nat → Int32 → PH → Option Rs) × (Nat → Int32 → Int32 → PH → Option Rs)
  | 0 => (fun _ _ _ _ => none, fun _ _ _ => none, fun _ _ _ _ => none)
  | n + 1 => (X12_findAway_g2 (X12_findAway_fam n), X12_findAway_g37 (X12_findAway_fam n), X12_findAway_g45 (X12_findAway_fam n))
theorem X12_findAway_k {z : CZ} : ∀ n, SK (X12_findAway_x z) 2 (X12_findAway_u2 (X12_findAway_fam n).1) ∧ SK (X12_findAway_x z) 37 (X12_findAway_u37 (X12_findAway_fam n).2.1) ∧ SK (X12_findAway_x z) 45 (X12_findAway_u45 (X12_findAway_fam n).2.2)
  | 0 => ⟨(fun ls st h r e => by
      obtain ⟨_, e⟩ := gL_of e
      obtain ⟨_, _, e⟩ := gT_of e
      obtain ⟨_, _, e⟩ := gI_of e
      obtain ⟨_, _, e⟩ := gI_of e
      cases e), (fun ls st h r e => by
      obtain ⟨_, e⟩ := gL_of e
      obtain ⟨_, _, e⟩ := gT_of e
      obtain ⟨_, _, e⟩ := gI_of e
      cases e), (fun ls st h r e => by
      obtain ⟨_, e⟩ := gL_of e
      obtain ⟨_, _, e⟩ := gT_of e
      obtain ⟨_, _, e⟩ := gI_of e
      obtain ⟨_, _, e⟩ := gI_of e
      cases e)⟩
  | n + 1 => by
    obtain ⟨ih2, ih37, ih45⟩ := X12_findAway_k n
    exact ⟨X12_findAway_v2 ih2 ih37 ih45, X12_findAway_v37 ih2 ih37 ih45, X12_findAway_v45 ih2 ih37 ih45⟩
theorem X12_findAway_n0 {G G' : (Nat → Int32 → Int32 → PH → Option Rs) × (Nat → Int32 → PH → Option Rs) × (Nat → Int32 → Int32 → PH → Option Rs)} (hg2 : ∀ a0 a1 a2 a3, Mo ((G).1 a0 a1 a2 a3) ((G').1 a0 a1 a2 a3)) (hg37 : ∀ a0 a1 a2, Mo ((G).2.1 a0 a1 a2) ((G').2.1 a0 a1 a2)) (hg45 : ∀ a0 a1 a2 a3, Mo ((G).2.2 a0 a1 a2 a3) ((G').2.2 a0 a1 a2 a3)) (t : Nat) (x1 : Int32) (h : PH) : Mo (X12_findAway_g0 G t x1 h) (X12_findAway_g0 G' t x1 h) := X12_findAway_m0 hg2 t x1 h
theorem X12_findAway_n28 {G G' : (Nat → Int32 → Int32 → PH → Option Rs) × (Nat → Int32 → PH → Option Rs) × (Nat → Int32 → Int32 → PH → Option Rs)} (hg2 : ∀ a0 a1 a2 a3, Mo ((G).1 a0 a1 a2 a3) ((G').1 a0 a1 a2 a3)) (hg37 : ∀ a0 a1 a2, Mo ((G).2.1 a0 a1 a2) ((G').2.1 a0 a1 a2)) (hg45 : ∀ a0 a1 a2 a3, Mo ((G).2.2 a0 a1 a2 a3) ((G').2.2 a0 a1 a2 a3)) (t : Nat) (x1 : Int32) (x2 : Int32) (s0 : Int32) (s1 : Int32) (s2 : Nat) (h : PH) : Mo (X12_findAway_g28 G t x1 x2 s0 s1 s2 h) (X12_findAway_g28 G' t x1 x2 s0 s1 s2 h) := X12_findAway_m28 hg2 t x1 x2 s0 s1 s2 h
theorem X12_findAway_n2 {G G' : (Nat → Int32 → Int32 → PH → Option Rs) × (Nat → Int32 → PH → Option Rs) × (Nat → Int32 → Int32 → PH → Option Rs)} (hg2 : ∀ a0 a1 a2 a3, Mo ((G).1 a0 a1 a2 a3) ((G').1 a0 a1 a2 a3)) (hg37 : ∀ a0 a1 a2, Mo ((G).2.1 a0 a1 a2) ((G').2.1 a0 a1 a2)) (hg45 : ∀ a0 a1 a2 a3, Mo ((G).2.2 a0 a1 a2 a3) ((G').2.2 a0 a1 a2 a3)) (t : Nat) (x1 : Int32) (x2 : Int32) (h : PH) : Mo (X12_findAway_g2 G t x1 x2 h) (X12_findAway_g2 G' t x1 x2 h) := X12_findAway_m2 (fun a0 a1 a2 a3 a4 a5 a6 => X12_findAway_n28 hg2 hg37 hg45 a0 a1 a2 a3 a4 a5 a6) hg37 t x1 x2 h
theorem X12_findAway_n37 {G G' : (Nat → Int32 → Int32 → PH → Option Rs) × (Nat → Int32 → PH → Option Rs) × (Nat → Int32 → Int32 → PH → Option Rs)} (hg2 : ∀ a0 a1 a2 a3, Mo ((G).1 a0 a1 a2 a3) ((G').1 a0 a1 a2 a3)) (hg37 : ∀ a0 a1 a2, Mo ((G).2.1 a0 a1 a2) ((G').2.1 a0 a1 a2)) (hg45 : ∀ a0 a1 a2 a3, Mo ((G).2.2 a0 a1 a2 a3) ((G').2.2 a0 a1 a2 a3)) (t : Nat) (x2 : Int32) (h : PH) : Mo (X12_findAway_g37 G t x2 h) (X12_findAway_g37 G' t x2 h) := X12_findAway_m37 hg45 t x2 h
theorem X12_findAway_n191 {G G' : (Nat → Int32 → Int32 → PH → Option Rs) × (Nat → Int32 → PH → Option Rs) × (Nat → Int32 → Int32 → PH → Option Rs)} (hg2 : ∀ a0 a1 a2 a3, Mo ((G).1 a0 a1 a2 a3) ((G').1 a0 a1 a2 a3)) (hg37 : ∀ a0 a1 a2, Mo ((G).2.1 a0 a1 a2) ((G').2.1 a0 a1 a2)) (hg45 : ∀ a0 a1 a2 a3, Mo ((G).2.2 a0 a1 a2 a3) ((G').2.2 a0 a1 a2 a3)) (t : Nat) (x2 : Int32) (x3 : Int32) (h : PH) : Mo (X12_findAway_g191 G t x2 x3 h) (X12_findAway_g191 G' t x2 x3 h) := X12_findAway_m191 hg45 t x2 x3 h
theorem X12_findAway_n143 {G G' : (Nat → Int32 → Int32 → PH → Option Rs) × (Nat → Int32 → PH → Option Rs) × (Nat → Int32 → Int32 → PH → Option Rs)} (hg2 : ∀ a0 a1 a2 a3, Mo ((G).1 a0 a1 a2 a3) ((G').1 a0 a1 a2 a3)) (hg37 : ∀ a0 a1 a2, Mo ((G).2.1 a0 a1 a2) ((G').2.1 a0 a1 a2)) (hg45 : ∀ a0 a1 a2 a3, Mo ((G).2.2 a0 a1 a2 a3) ((G').2.2 a0 a1 a2 a3)) (t : Nat) (x2 : Int32) (x3 : Int32) (x5 : Int32) (x6 : Int32) (x7 : Int32) (h : PH) : Mo (X12_findAway_g143 G t x2 x3 x5 x6 x7 h) (X12_findAway_g143 G' t x2 x3 x5 x6 x7 h) := X12_findAway_m143 (fun a0 a1 a2 a3 => X12_findAway_n191 hg2 hg37 hg45 a0 a1 a2 a3) t x2 x3 x5 x6 x7 h
theorem X12_findAway_n45 {G G' : (Nat → Int32 → Int32 → PH → Option Rs) × (Nat → Int32 → PH → Option Rs) × (Nat → Int32 → Int32 → PH → Option Rs)} (hg2 : ∀ a0 a1 a2 a3, Mo ((G).1 a0 a1 a2 a3) ((G').1 a0 a1 a2 a3)) (hg37 : ∀ a0 a1 a2, Mo ((G).2.1 a0 a1 a2) ((G').2.1 a0 a1 a2)) (hg45 : ∀ a0 a1 a2 a3, Mo ((G).2.2 a0 a1 a2 a3) ((G').2.2 a0 a1 a2 a3)) (t : Nat) (x2 : Int32) (x3 : Int32) (h : PH) : Mo (X12_findAway_g45 G t x2 x3 h) (X12_findAway_g45 G' t x2 x3 h) := X12_findAway_m45 hg37 (fun a0 a1 a2 a3 a4 a5 a6 => X12_findAway_n143 hg2 hg37 hg45 a0 a1 a2 a3 a4 a5 a6) t x2 x3 h
theorem X12_findAway_fm : ∀ n, (∀ a0 a1 a2 a3, Mo ((X12_findAway_fam n).1 a0 a1 a2 a3) ((X12_findAway_fam (n + 1)).1 a0 a1 a2 a3)) ∧ (∀ a0 a1 a2, Mo ((X12_findAway_fam n).2.1 a0 a1 a2) ((X12_findAway_fam (n + 1)).2.1 a0 a1 a2)) ∧ (∀ a0 a1 a2 a3, Mo ((X12_findAway_fam n).2.2 a0 a1 a2 a3) ((X12_findAway_fam (n + 1)).2.2 a0 a1 a2 a3))
  | 0 => ⟨fun _ _ _ _ => mo_no, fun _ _ _ => mo_no, fun _ _ _ _ => mo_no⟩
  | n + 1 => by
    obtain ⟨ih2, ih37, ih45⟩ := X12_findAway_fm n
    exact ⟨fun a0 a1 a2 a3 => X12_findAway_n2 ih2 ih37 ih45 a0 a1 a2 a3, fun a0 a1 a2 => X12_findAway_n37 ih2 ih37 ih45 a0 a1 a2, fun a0 a1 a2 a3 => X12_findAway_n45 ih2 ih37 ih45 a0 a1 a2 a3⟩
noncomputable def X12_findAway (t : Nat) (x1 : Int32) (h : PH) : Option Rs := lim (fun n => X12_findAway_g0 (X12_findAway_fam n) t x1 h)
theorem X12_findAway_iff {t : Nat} {x1 : Int32} {h : PH} {r : Rs} : X12_findAway t x1 h = some r ↔ ∃ n, X12_findAway_g0 (X12_findAway_fam n) t x1 h = some r := lim_iff (fun n => by
  obtain ⟨ih2, ih37, ih45⟩ := X12_findAway_fm n
  exact X12_findAway_n0 ih2 ih37 ih45 t x1 h)
noncomputable abbrev X12_findAway_F : List PV → PH → Option Rs := FW_T11I (X12_findAway)
set_option maxRecDepth 100000 in
theorem X12_findAway_gd (l : Launch) : Gd l 1 yX12_findAway cX12_findAway 8 none (X12_findAway_F)   := Gd_of (by decide +kernel) (fun z hzl as h r e => by
  obtain ⟨hst, e⟩ := gL_of e
  obtain ⟨t, q0, e⟩ := gT_of e
  obtain ⟨x1, q1, e⟩ := gI_of e
  rw [st_2 hst q0 q1]
  obtain ⟨n, e⟩ := lim_of e
  obtain ⟨hG2, hG37, hG45⟩ := X12_findAway_k (z := z) n
  exact ⟨show 2 ≤ 8 by decide, X12_findAway_s0 hG2 _ _ _ _ ((X12_findAway_l0 (X12_findAway_fam n).1 t x1 h).trans e)⟩)
abbrev X12_far_x (z : CZ) : CX := mx RX12 cX12_far 4 4 (some .int) "far" z
noncomputable def X12_far_b0 (c_X12_isPlace : Nat → Int32 → PH → Option Rs) (c_X12_isGoal : Nat → Int32 → PH → Option Rs) (c_X12_areWheels : Int32 → PH → Option Rs) (c_X12_looks : Nat → Int32 → PH → Option Rs) (c_X12_findAway : Nat → Int32 → PH → Option Rs) : Kn := (a_al 0 (a_il 1 (a_vI 11 1 (FW_T11I c_X12_isPlace) (a_z (a_ic (-1000000001) a_ir) (a_al 0 (a_il 2 (a_vI 11 1 (FW_T11I c_X12_isGoal) (a_z (a_ic (-1000000001) a_ir) (a_il 3 (a_sI 1 (FW_I c_X12_areWheels) (a_z (a_ic (-1000000001) a_ir) (a_al 0 (a_il 3 (a_vV 11 1 (FW_T11I c_X12_looks) (a_al 0 (a_il 2 (a_vV 11 1 (FW_T11I c_X12_findAway) (a_al 0 (a_gR 11 730 55 (a_il 1 (a_ald 55 3520 (a_ic 1000000 (a_lt (a_al 0 (a_gR 11 730 55 (a_il 1 (a_ald 55 3520 a_ir)))) (a_ic (-1000000005) a_ir))))))))))))))))))))))))
set_option maxRecDepth 100000 in
theorem X12_far_s0 {z : CZ} : SK (X12_far_x z) 0 (X12_far_b0 X12_isPlace X12_isGoal X12_areWheels X12_looks X12_findAway) := (s_aloadn (pc := 0) dX12_far_0 rfl (s_iloadn (pc := 1) dX12_far_1 rfl (s_vI (pc := 2) (run_virtual (X12_isPlace_gd _) (show 1 < 4 by decide) cy_X12_isPlace (by decide) rfl w_1461 w_s29 w_1459 dX12_far_2) (s_ifeq (pc := 5) dX12_far_5 (by decide) (s_ldc (pc := 23) w_1466 dX12_far_23 (s_ir (pc := 25) rfl dX12_far_25)) (s_aloadn (pc := 8) dX12_far_8 rfl (s_iloadn (pc := 9) dX12_far_9 rfl (s_vI (pc := 10) (run_virtual (X12_isGoal_gd _) (show 1 < 4 by decide) cy_X12_isGoal (by decide) rfl w_1505 w_s34 w_1503 dX12_far_10) (s_ifeq (pc := 13) dX12_far_13 (by decide) (s_ldc (pc := 23) w_1466 dX12_far_23 (s_ir (pc := 25) rfl dX12_far_25)) (s_iloadn (pc := 16) dX12_far_16 rfl (s_sI (pc := 17) (run_static (X12_areWheels_gd _) (show 1 < 4 by decide) cy_X12_areWheels w_1673 w_1672 dX12_far_17) (s_ifne (pc := 20) dX12_far_20 (by decide) (s_aloadn (pc := 26) dX12_far_26 rfl (s_iloadn (pc := 27) dX12_far_27 rfl (s_vV (pc := 28) (run_virtual (X12_looks_gd _) (show 3 < 4 by decide) cy_X12_looks (by decide) rfl w_1677 w_s56 w_1675 dX12_far_28) (s_aloadn (pc := 31) dX12_far_31 rfl (s_iloadn (pc := 32) dX12_far_32 rfl (s_vV (pc := 33) (run_virtual (X12_findAway_gd _) (show 1 < 4 by decide) cy_X12_findAway (by decide) rfl w_1681 w_s57 w_1679 dX12_far_33) (s_aloadn (pc := 36) dX12_far_36 rfl (s_gR (pc := 37) (f := 26) ko_11 (by decide) rfl rfl w_1321 dX12_far_37 (s_iloadn (pc := 40) dX12_far_40 rfl (s_iald (pc := 41) (by decide) (by decide) rfl rfl rfl dX12_far_41 (s_ldc (pc := 42) w_1683 dX12_far_42 (s_cmplt (pc := 44) dX12_far_44 (by decide) (s_aloadn (pc := 52) dX12_far_52 rfl (s_gR (pc := 53) (f := 26) ko_11 (by decide) rfl rfl w_1321 dX12_far_53 (s_iloadn (pc := 56) dX12_far_56 rfl (s_iald (pc := 57) (by decide) (by decide) rfl rfl rfl dX12_far_57 (s_ir (pc := 58) rfl dX12_far_58))))) (s_ldc (pc := 47) w_1515 dX12_far_47 (s_goto (pc := 49) dX12_far_49 (by decide) (s_ir (pc := 58) rfl dX12_far_58))))))))))))))) (s_ldc (pc := 23) w_1466 dX12_far_23 (s_ir (pc := 25) rfl dX12_far_25)))))))))))))
noncomputable def X12_far_f0 (c_X12_isPlace : Nat → Int32 → PH → Option Rs) (c_X12_isGoal : Nat → Int32 → PH → Option Rs) (c_X12_areWheels : Int32 → PH → Option Rs) (c_X12_looks : Nat → Int32 → PH → Option Rs) (c_X12_findAway : Nat → Int32 → PH → Option Rs) (t : Nat) (x1 : Int32) (x2 : Int32) (x3 : Int32) (h : PH) : Option Rs :=
  cI (c_X12_isPlace t x1 h) fun v2 h1 =>
  if v2 = 0 then
    some (some (.inl (-1000000001)), h1)
  else
    cI (c_X12_isGoal t x2 h1) fun v4 h3 =>
    if v4 = 0 then
      some (some (.inl (-1000000001)), h3)
    else
      cI (c_X12_areWheels x3 h3) fun v6 h5 =>
      if v6 = 0 then
        some (some (.inl (-1000000001)), h5)
      else
        cV (c_X12_looks t x3 h5) fun h7 =>
        cV (c_X12_findAway t x2 h7) fun h8 =>
        nn (hR h8 730 t 0) fun r9 =>
        ix x1 (hL h8 55 r9) fun j10 =>
        if (hI h8 3520 r9 j10) < 1000000 then
          nn (hR h8 730 t 0) fun r11 =>
          ix x1 (hL h8 55 r11) fun j12 =>
          some (some (.inl (hI h8 3520 r11 j12)), h8)
        else
          some (some (.inl (-1000000005)), h8)
set_option maxRecDepth 100000 in
theorem X12_far_l0 (c_X12_isPlace : Nat → Int32 → PH → Option Rs) (c_X12_isGoal : Nat → Int32 → PH → Option Rs) (c_X12_areWheels : Int32 → PH → Option Rs) (c_X12_looks : Nat → Int32 → PH → Option Rs) (c_X12_findAway : Nat → Int32 → PH → Option Rs) (t : Nat) (x1 : Int32) (x2 : Int32) (x3 : Int32) (h : PH) : X12_far_b0 c_X12_isPlace c_X12_isGoal c_X12_areWheels c_X12_looks c_X12_findAway [some (.inr (11, t + 1)), some (.inl x1), some (.inl x2), some (.inl x3)] [] h = X12_far_f0 c_X12_isPlace c_X12_isGoal c_X12_areWheels c_X12_looks c_X12_findAway t x1 x2 x3 h := rfl
noncomputable def X12_far_g0 (t : Nat) (x1 : Int32) (x2 : Int32) (x3 : Int32) (h : PH) : Option Rs := X12_far_f0 X12_isPlace X12_isGoal X12_areWheels X12_looks X12_findAway t x1 x2 x3 h
noncomputable def X12_far (t : Nat) (x1 : Int32) (x2 : Int32) (x3 : Int32) (h : PH) : Option Rs := X12_far_g0 t x1 x2 x3 h
noncomputable abbrev X12_far_F : List PV → PH → Option Rs := FW_T11III (X12_far)
set_option maxRecDepth 100000 in
theorem X12_far_gd (l : Launch) : Gd l 4 yX12_far cX12_far 4 (some .int) (X12_far_F)   := Gd_of (by decide +kernel) (fun z hzl as h r e => by
  obtain ⟨hst, e⟩ := gL_of e
  obtain ⟨t, q0, e⟩ := gT_of e
  obtain ⟨x1, q1, e⟩ := gI_of e
  obtain ⟨x2, q2, e⟩ := gI_of e
  obtain ⟨x3, q3, e⟩ := gI_of e
  rw [st_4 hst q0 q1 q2 q3]
  exact ⟨show 4 ≤ 4 by decide, X12_far_s0 _ _ _ _ ((X12_far_l0 X12_isPlace X12_isGoal X12_areWheels X12_looks X12_findAway t x1 x2 x3 h).trans e)⟩)
abbrev X12_passFrom_x (z : CZ) : CX := mx RX12 cX12_passFrom 4 1 (some .int) "passFrom" z
noncomputable def X12_passFrom_b0 (c_X12_wayFrom : Nat → Int32 → Int32 → PH → Option Rs) : Kn := (a_al 0 (a_il 1 (a_il 2 (a_vI 11 2 (FW_T11II c_X12_wayFrom) (a_is 3 (a_il 3 (a_n (a_ic (-1) a_ir) (a_al 0 (a_gR 11 728 53 (a_il 3 (a_ald 53 3392 (a_z (a_ic (-1) a_ir) (a_il 3 a_ir)))))))))))))
set_option maxRecDepth 100000 in
theorem X12_passFrom_s0 {z : CZ} : SK (X12_passFrom_x z) 0 (X12_passFrom_b0 X12_wayFrom) := (s_aloadn (pc := 0) dX12_passFrom_0 rfl (s_iloadn (pc := 1) dX12_passFrom_1 rfl (s_iloadn (pc := 2) dX12_passFrom_2 rfl (s_vI (pc := 3) (run_virtual (X12_wayFrom_gd _) (show 0 < 1 by decide) cy_X12_wayFrom (by decide) rfl w_1469 w_s30 w_1467 dX12_passFrom_3) (s_istoren (pc := 6) dX12_passFrom_6 rfl (show 3 < 4 by decide) (s_iloadn (pc := 7) dX12_passFrom_7 rfl (s_iflt (pc := 8) dX12_passFrom_8 (by decide) (s_iconst (pc := 24) dX12_passFrom_24 c_ic_m1 (s_ir (pc := 25) rfl dX12_passFrom_25)) (s_aloadn (pc := 11) dX12_passFrom_11 rfl (s_gR (pc := 12) (f := 24) ko_11 (by decide) rfl rfl w_1319 dX12_passFrom_12 (s_iloadn (pc := 15) dX12_passFrom_15 rfl (s_zald (pc := 16) (by decide) (by decide) rfl rfl rfl dX12_passFrom_16 (s_ifeq (pc := 17) dX12_passFrom_17 (by decide) (s_iconst (pc := 24) dX12_passFrom_24 c_ic_m1 (s_ir (pc := 25) rfl dX12_passFrom_25)) (s_iloadn (pc := 20) dX12_passFrom_20 rfl (s_goto (pc := 21) dX12_passFrom_21 (by decide) (s_ir (pc := 25) rfl dX12_passFrom_25)))))))))))))))
noncomputable def X12_passFrom_f0 (c_X12_wayFrom : Nat → Int32 → Int32 → PH → Option Rs) (t : Nat) (x1 : Int32) (x2 : Int32) (h : PH) : Option Rs :=
  cI (c_X12_wayFrom t x1 x2 h) fun v2 h1 =>
  if v2 < 0 then
    some (some (.inl (-1)), h1)
  else
    nn (hR h1 728 t 0) fun r3 =>
    ix v2 (hL h1 53 r3) fun j4 =>
    if (hI h1 3392 r3 j4) = 0 then
      some (some (.inl (-1)), h1)
    else
      some (some (.inl v2), h1)
set_option maxRecDepth 100000 in
theorem X12_passFrom_l0 (c_X12_wayFrom : Nat → Int32 → Int32 → PH → Option Rs) (t : Nat) (x1 : Int32) (x2 : Int32) (h : PH) : X12_passFrom_b0 c_X12_wayFrom [some (.inr (11, t + 1)), some (.inl x1), some (.inl x2), none] [] h = X12_passFrom_f0 c_X12_wayFrom t x1 x2 h := rfl
noncomputable def X12_passFrom_g0 (t : Nat) (x1 : Int32) (x2 : Int32) (h : PH) : Option Rs := X12_passFrom_f0 X12_wayFrom t x1 x2 h
noncomputable def X12_passFrom (t : Nat) (x1 : Int32) (x2 : Int32) (h : PH) : Option Rs := X12_passFrom_g0 t x1 x2 h
noncomputable abbrev X12_passFrom_F : List PV → PH → Option Rs := FW_T11II (X12_passFrom)
set_option maxRecDepth 100000 in
theorem X12_passFrom_gd (l : Launch) : Gd l 1 yX12_passFrom cX12_passFrom 4 (some .int) (X12_passFrom_F)   := Gd_of (by decide +kernel) (fun z hzl as h r e => by
  obtain ⟨hst, e⟩ := gL_of e
  obtain ⟨t, q0, e⟩ := gT_of e
  obtain ⟨x1, q1, e⟩ := gI_of e
  obtain ⟨x2, q2, e⟩ := gI_of e
  rw [st_3 hst q0 q1 q2]
  exact ⟨show 3 ≤ 4 by decide, X12_passFrom_s0 _ _ _ _ ((X12_passFrom_l0 X12_wayFrom t x1 x2 h).trans e)⟩)
abbrev X12_otherEnd_x (z : CZ) : CX := mx RX12 cX12_otherEnd 4 0 (some .int) "otherEnd" z
noncomputable def X12_otherEnd_b0 : Kn := (a_ic 15 (a_ic 6 (a_il 1 (a_b (fun a b => a * b) (a_b (fun a b => a + b) (a_is 3 (a_al 0 (a_gR 11 704 41 (a_il 3 (a_ald 41 2624 (a_il 2 (a_eq (a_al 0 (a_gR 11 704 41 (a_il 3 (a_ic 1 (a_b (fun a b => a + b) (a_ald 41 2624 a_ir)))))) (a_al 0 (a_gR 11 704 41 (a_il 3 (a_ald 41 2624 a_ir))))))))))))))))
set_option maxRecDepth 100000 in
theorem X12_otherEnd_s0 {z : CZ} : SK (X12_otherEnd_x z) 0 (X12_otherEnd_b0) := (s_bipush (pc := 0) dX12_otherEnd_0 c_bp_15 (s_bipush (pc := 2) dX12_otherEnd_2 c_bp_6 (s_iloadn (pc := 4) dX12_otherEnd_4 rfl (s_imul (pc := 5) dX12_otherEnd_5 (s_iadd (pc := 6) dX12_otherEnd_6 (s_istoren (pc := 7) dX12_otherEnd_7 rfl (show 3 < 4 by decide) (s_aloadn (pc := 8) dX12_otherEnd_8 rfl (s_gR (pc := 9) (f := 0) ko_11 (by decide) rfl rfl w_1295 dX12_otherEnd_9 (s_iloadn (pc := 12) dX12_otherEnd_12 rfl (s_iald (pc := 13) (by decide) (by decide) rfl rfl rfl dX12_otherEnd_13 (s_iloadn (pc := 14) dX12_otherEnd_14 rfl (s_cmpne (pc := 15) dX12_otherEnd_15 (by decide) (s_aloadn (pc := 29) dX12_otherEnd_29 rfl (s_gR (pc := 30) (f := 0) ko_11 (by decide) rfl rfl w_1295 dX12_otherEnd_30 (s_iloadn (pc := 33) dX12_otherEnd_33 rfl (s_iald (pc := 34) (by decide) (by decide) rfl rfl rfl dX12_otherEnd_34 (s_ir (pc := 35) rfl dX12_otherEnd_35))))) (s_aloadn (pc := 18) dX12_otherEnd_18 rfl (s_gR (pc := 19) (f := 0) ko_11 (by decide) rfl rfl w_1295 dX12_otherEnd_19 (s_iloadn (pc := 22) dX12_otherEnd_22 rfl (s_iconst (pc := 23) dX12_otherEnd_23 c_ic_1 (s_iadd (pc := 24) dX12_otherEnd_24 (s_iald (pc := 25) (by decide) (by decide) rfl rfl rfl dX12_otherEnd_25 (s_goto (pc := 26) dX12_otherEnd_26 (by decide) (s_ir (pc := 35) rfl dX12_otherEnd_35))))))))))))))))))))
noncomputable def X12_otherEnd_f0 (t : Nat) (x1 : Int32) (x2 : Int32) (h : PH) : Option Rs :=
  nn (hR h 704 t 0) fun r1 =>
  ix (15 + (6 * x1)) (hL h 41 r1) fun j2 =>
  if (hI h 2624 r1 j2) = x2 then
    nn (hR h 704 t 0) fun r5 =>
    ix ((15 + (6 * x1)) + 1) (hL h 41 r5) fun j6 =>
    some (some (.inl (hI h 2624 r5 j6)), h)
  else
    nn (hR h 704 t 0) fun r3 =>
    ix (15 + (6 * x1)) (hL h 41 r3) fun j4 =>
    some (some (.inl (hI h 2624 r3 j4)), h)
set_option maxRecDepth 100000 in
theorem X12_otherEnd_l0 (t : Nat) (x1 : Int32) (x2 : Int32) (h : PH) : X12_otherEnd_b0 [some (.inr (11, t + 1)), some (.inl x1), some (.inl x2), none] [] h = X12_otherEnd_f0 t x1 x2 h := rfl
noncomputable def X12_otherEnd_g0 (t : Nat) (x1 : Int32) (x2 : Int32) (h : PH) : Option Rs := X12_otherEnd_f0 t x1 x2 h
noncomputable def X12_otherEnd (t : Nat) (x1 : Int32) (x2 : Int32) (h : PH) : Option Rs := X12_otherEnd_g0 t x1 x2 h
noncomputable abbrev X12_otherEnd_F : List PV → PH → Option Rs := FW_T11II (X12_otherEnd)
set_option maxRecDepth 100000 in
theorem X12_otherEnd_gd (l : Launch) : Gd l 0 yX12_otherEnd cX12_otherEnd 4 (some .int) (X12_otherEnd_F)   := Gd_of (by decide +kernel) (fun z hzl as h r e => by
  obtain ⟨hst, e⟩ := gL_of e
  obtain ⟨t, q0, e⟩ := gT_of e
  obtain ⟨x1, q1, e⟩ := gI_of e
  obtain ⟨x2, q2, e⟩ := gI_of e
  rw [st_3 hst q0 q1 q2]
  exact ⟨show 3 ≤ 4 by decide, X12_otherEnd_s0 _ _ _ _ ((X12_otherEnd_l0 t x1 x2 h).trans e)⟩)
abbrev X12_nextFrom_x (z : CZ) : CX := mx RX12 cX12_nextFrom 4 2 (some .int) "nextFrom" z
noncomputable def X12_nextFrom_b0 (k24 : Kn) : Kn := (a_al 0 (a_gR 11 730 55 (a_il 1 (a_ald 55 3520 (a_z (a_ic (-1) a_ir) (a_al 0 (a_gR 11 730 55 (a_il 1 (a_ald 55 3520 (a_ic 1000000 (a_lt (a_ic 0 (a_is 2 k24)) (a_ic (-1) a_ir))))))))))))
set_option maxRecDepth 100000 in
theorem X12_nextFrom_s0 {z : CZ} {k24 : Kn} (hk24 : SK (X12_nextFrom_x z) 24 k24) : SK (X12_nextFrom_x z) 0 (X12_nextFrom_b0 k24) := (s_aloadn (pc := 0) dX12_nextFrom_0 rfl (s_gR (pc := 1) (f := 26) ko_11 (by decide) rfl rfl w_1321 dX12_nextFrom_1 (s_iloadn (pc := 4) dX12_nextFrom_4 rfl (s_iald (pc := 5) (by decide) (by decide) rfl rfl rfl dX12_nextFrom_5 (s_ifeq (pc := 6) dX12_nextFrom_6 (by decide) (s_iconst (pc := 20) dX12_nextFrom_20 c_ic_m1 (s_ir (pc := 21) rfl dX12_nextFrom_21)) (s_aloadn (pc := 9) dX12_nextFrom_9 rfl (s_gR (pc := 10) (f := 26) ko_11 (by decide) rfl rfl w_1321 dX12_nextFrom_10 (s_iloadn (pc := 13) dX12_nextFrom_13 rfl (s_iald (pc := 14) (by decide) (by decide) rfl rfl rfl dX12_nextFrom_14 (s_ldc (pc := 15) w_1683 dX12_nextFrom_15 (s_cmplt (pc := 17) dX12_nextFrom_17 (by decide) (s_iconst (pc := 22) dX12_nextFrom_22 c_ic_0 (s_istoren (pc := 23) dX12_nextFrom_23 rfl (show 2 < 4 by decide) hk24)) (s_iconst (pc := 20) dX12_nextFrom_20 c_ic_m1 (s_ir (pc := 21) rfl dX12_nextFrom_21)))))))))))))
noncomputable def X12_nextFrom_b24 (c_X12_passFrom : Nat → Int32 → Int32 → PH → Option Rs) (c_X12_otherEnd : Nat → Int32 → Int32 → PH → Option Rs) (k78 : Kn) : Kn := (a_il 2 (a_ic 8 (a_lt (a_al 0 (a_il 1 (a_il 2 (a_vI 11 2 (FW_T11II c_X12_passFrom) (a_is 3 (a_il 3 (a_n k78 (a_al 0 (a_gR 11 730 55 (a_al 0 (a_il 3 (a_il 1 (a_vI 11 2 (FW_T11II c_X12_otherEnd) (a_ald 55 3520 (a_al 0 (a_gR 11 704 41 (a_ic 15 (a_ic 6 (a_il 3 (a_b (fun a b => a * b) (a_b (fun a b => a + b) (a_ic 4 (a_b (fun a b => a + b) (a_ald 41 2624 (a_b (fun a b => a + b) (a_al 0 (a_gR 11 730 55 (a_il 1 (a_ald 55 3520 (a_eq (a_il 2 a_ir) k78)))))))))))))))))))))))))))))) (a_ic (-1) a_ir))))
set_option maxRecDepth 100000 in
theorem X12_nextFrom_s24 {z : CZ} {k78 : Kn} (hk78 : SK (X12_nextFrom_x z) 78 k78) : SK (X12_nextFrom_x z) 24 (X12_nextFrom_b24 X12_passFrom X12_otherEnd k78) := (s_iloadn (pc := 24) dX12_nextFrom_24 rfl (s_bipush (pc := 25) dX12_nextFrom_25 c_bp_8 (s_cmpge (pc := 27) dX12_nextFrom_27 (by decide) (s_iconst (pc := 84) dX12_nextFrom_84 c_ic_m1 (s_ir (pc := 85) rfl dX12_nextFrom_85)) (s_aloadn (pc := 30) dX12_nextFrom_30 rfl (s_iloadn (pc := 31) dX12_nextFrom_31 rfl (s_iloadn (pc := 32) dX12_nextFrom_32 rfl (s_vI (pc := 33) (run_virtual (X12_passFrom_gd _) (show 1 < 2 by decide) cy_X12_passFrom (by decide) rfl w_1694 w_s59 w_1692 dX12_nextFrom_33) (s_istoren (pc := 36) dX12_nextFrom_36 rfl (show 3 < 4 by decide) (s_iloadn (pc := 37) dX12_nextFrom_37 rfl (s_iflt (pc := 38) dX12_nextFrom_38 (by decide) hk78 (s_aloadn (pc := 41) dX12_nextFrom_41 rfl (s_gR (pc := 42) (f := 26) ko_11 (by decide) rfl rfl w_1321 dX12_nextFrom_42 (s_aloadn (pc := 45) dX12_nextFrom_45 rfl (s_iloadn (pc := 46) dX12_nextFrom_46 rfl (s_iloadn (pc := 47) dX12_nextFrom_47 rfl (s_vI (pc := 48) (run_virtual (X12_otherEnd_gd _) (show 0 < 2 by decide) cy_X12_otherEnd (by decide) rfl w_1698 w_s60 w_1696 dX12_nextFrom_48) (s_iald (pc := 51) (by decide) (by decide) rfl rfl rfl dX12_nextFrom_51 (s_aloadn (pc := 52) dX12_nextFrom_52 rfl (s_gR (pc := 53) (f := 0) ko_11 (by decide) rfl rfl w_1295 dX12_nextFrom_53 (s_bipush (pc := 56) dX12_nextFrom_56 c_bp_15 (s_bipush (pc := 58) dX12_nextFrom_58 c_bp_6 (s_iloadn (pc := 60) dX12_nextFrom_60 rfl (s_imul (pc := 61) dX12_nextFrom_61 (s_iadd (pc := 62) dX12_nextFrom_62 (s_iconst (pc := 63) dX12_nextFrom_63 c_ic_4 (s_iadd (pc := 64) dX12_nextFrom_64 (s_iald (pc := 65) (by decide) (by decide) rfl rfl rfl dX12_nextFrom_65 (s_iadd (pc := 66) dX12_nextFrom_66 (s_aloadn (pc := 67) dX12_nextFrom_67 rfl (s_gR (pc := 68) (f := 26) ko_11 (by decide) rfl rfl w_1321 dX12_nextFrom_68 (s_iloadn (pc := 71) dX12_nextFrom_71 rfl (s_iald (pc := 72) (by decide) (by decide) rfl rfl rfl dX12_nextFrom_72 (s_cmpne (pc := 73) dX12_nextFrom_73 (by decide) hk78 (s_iloadn (pc := 76) dX12_nextFrom_76 rfl (s_ir (pc := 77) rfl dX12_nextFrom_77)))))))))))))))))))))))))))))))))))
noncomputable def X12_nextFrom_b78 (k24 : Kn) : Kn := (a_inc 2 1 k24)
set_option maxRecDepth 100000 in
theorem X12_nextFrom_s78 {z : CZ} {k24 : Kn} (hk24 : SK (X12_nextFrom_x z) 24 k24) : SK (X12_nextFrom_x z) 78 (X12_nextFrom_b78 k24) := (s_iinc (pc := 78) dX12_nextFrom_78 c_ic_1 (show 2 < 4 by decide) (s_goto (pc := 81) dX12_nextFrom_81 (by decide) hk24))
noncomputable def X12_nextFrom_u24 (g : Nat → Int32 → Int32 → PH → Option Rs) : Kn := fun ls st h => gL 0 st (gT 11 ls 0 fun t => gI ls 1 fun x1 => gI ls 2 fun x2 => g t x1 x2 h)
noncomputable def X12_nextFrom_u78 (g : Nat → Int32 → Int32 → PH → Option Rs) : Kn := fun ls st h => gL 0 st (gT 11 ls 0 fun t => gI ls 1 fun x1 => gI ls 2 fun x2 => g t x1 x2 h)
noncomputable def X12_nextFrom_f0 (g24 : Nat → Int32 → Int32 → PH → Option Rs) (t : Nat) (x1 : Int32) (h : PH) : Option Rs :=
  nn (hR h 730 t 0) fun r1 =>
  ix x1 (hL h 55 r1) fun j2 =>
  if (hI h 3520 r1 j2) = 0 then
    some (some (.inl (-1)), h)
  else
    nn (hR h 730 t 0) fun r3 =>
    ix x1 (hL h 55 r3) fun j4 =>
    if (hI h 3520 r3 j4) < 1000000 then
      g24 t x1 0 h
    else
      some (some (.inl (-1)), h)
set_option maxRecDepth 100000 in
theorem X12_nextFrom_l0 (g24 : Nat → Int32 → Int32 → PH → Option Rs) (t : Nat) (x1 : Int32) (h : PH) : X12_nextFrom_b0 (X12_nextFrom_u24 g24) [some (.inr (11, t + 1)), some (.inl x1), none, none] [] h = X12_nextFrom_f0 g24 t x1 h := rfl
theorem X12_nextFrom_m0 {g24 G24 : Nat → Int32 → Int32 → PH → Option Rs} (hg24 : ∀ a0 a1 a2 a3, Mo (g24 a0 a1 a2 a3) (G24 a0 a1 a2 a3)) (t : Nat) (x1 : Int32) (h : PH) : Mo (X12_nextFrom_f0 g24 t x1 h) (X12_nextFrom_f0 G24 t x1 h) := (mo_nn fun r1 => (mo_ix fun j2 => (mo_if mo_rf (mo_nn fun r3 => (mo_ix fun j4 => (mo_if (hg24 t x1 0 h) mo_rf))))))
noncomputable def X12_nextFrom_f24 (c_X12_passFrom : Nat → Int32 → Int32 → PH → Option Rs) (c_X12_otherEnd : Nat → Int32 → Int32 → PH → Option Rs) (g78 : Nat → Int32 → Int32 → PH → Option Rs) (t : Nat) (x1 : Int32) (x2 : Int32) (h : PH) : Option Rs :=
  if x2 < 8 then
    cI (c_X12_passFrom t x1 x2 h) fun v6 h5 =>
    if v6 < 0 then
      g78 t x1 x2 h5
    else
      cI (c_X12_otherEnd t v6 x1 h5) fun v8 h7 =>
      nn (hR h5 730 t 0) fun r9 =>
      ix v8 (hL h7 55 r9) fun j10 =>
      nn (hR h7 704 t 0) fun r11 =>
      ix ((15 + (6 * v6)) + 4) (hL h7 41 r11) fun j12 =>
      nn (hR h7 730 t 0) fun r13 =>
      ix x1 (hL h7 55 r13) fun j14 =>
      if ((hI h7 3520 r9 j10) + (hI h7 2624 r11 j12)) = (hI h7 3520 r13 j14) then
        some (some (.inl x2), h7)
      else
        g78 t x1 x2 h7
  else
    some (some (.inl (-1)), h)
set_option maxRecDepth 100000 in
theorem X12_nextFrom_l24 (c_X12_passFrom : Nat → Int32 → Int32 → PH → Option Rs) (c_X12_otherEnd : Nat → Int32 → Int32 → PH → Option Rs) (g78 : Nat → Int32 → Int32 → PH → Option Rs) (t : Nat) (x1 : Int32) (x2 : Int32) (h : PH) : X12_nextFrom_b24 c_X12_passFrom c_X12_otherEnd (X12_nextFrom_u78 g78) [some (.inr (11, t + 1)), some (.inl x1), some (.inl x2), none] [] h = X12_nextFrom_f24 c_X12_passFrom c_X12_otherEnd g78 t x1 x2 h := rfl
theorem X12_nextFrom_m24 {c_X12_passFrom : Nat → Int32 → Int32 → PH → Option Rs} {c_X12_otherEnd : Nat → Int32 → Int32 → PH → Option Rs} {g78 G78 : Nat → Int32 → Int32 → PH → Option Rs} (hg78 : ∀ a0 a1 a2 a3, Mo (g78 a0 a1 a2 a3) (G78 a0 a1 a2 a3)) (t : Nat) (x1 : Int32) (x2 : Int32) (h : PH) : Mo (X12_nextFrom_f24 c_X12_passFrom c_X12_otherEnd g78 t x1 x2 h) (X12_nextFrom_f24 c_X12_passFrom c_X12_otherEnd G78 t x1 x2 h) := (mo_if (mo_cI fun v6 h5 => (mo_if (hg78 t x1 x2 h5) (mo_cI fun v8 h7 => (mo_nn fun r9 => (mo_ix fun j10 => (mo_nn fun r11 => (mo_ix fun j12 => (mo_nn fun r13 => (mo_ix fun j14 => (mo_if mo_rf (hg78 t x1 x2 h7))))))))))) mo_rf)
theorem X12_nextFrom_w24 {z : CZ} {g78 : Nat → Int32 → Int32 → PH → Option Rs} (hk78 : SK (X12_nextFrom_x z) 78 (X12_nextFrom_u78 g78)) : SK (X12_nextFrom_x z) 24 (X12_nextFrom_u24 (X12_nextFrom_f24 X12_passFrom X12_otherEnd g78)) := by
  intro ls st h r e
  obtain ⟨hst, e⟩ := gL_of e
  obtain ⟨t, q0, e⟩ := gT_of e
  obtain ⟨x1, q1, e⟩ := gI_of e
  obtain ⟨x2, q2, e⟩ := gI_of e
  rw [st_0 hst]
  exact WK.sub (canon := [some (.inr (11, t + 1)), some (.inl x1), some (.inl x2), none]) rfl ⟨q0, q1, q2, trivial⟩ (X12_nextFrom_s24 hk78 _ _ _ _ ((X12_nextFrom_l24 X12_passFrom X12_otherEnd g78 t x1 x2 h).trans e))
noncomputable def X12_nextFrom_f78 (g24 : Nat → Int32 → Int32 → PH → Option Rs) (t : Nat) (x1 : Int32) (x2 : Int32) (h : PH) : Option Rs :=
  g24 t x1 (x2 + 1) h
set_option maxRecDepth 100000 in
theorem X12_nextFrom_l78 (g24 : Nat → Int32 → Int32 → PH → Option Rs) (t : Nat) (x1 : Int32) (x2 : Int32) (h : PH) : X12_nextFrom_b78 (X12_nextFrom_u24 g24) [some (.inr (11, t + 1)), some (.inl x1), some (.inl x2), none] [] h = X12_nextFrom_f78 g24 t x1 x2 h := rfl
theorem X12_nextFrom_m78 {g24 G24 : Nat → Int32 → Int32 → PH → Option Rs} (hg24 : ∀ a0 a1 a2 a3, Mo (g24 a0 a1 a2 a3) (G24 a0 a1 a2 a3)) (t : Nat) (x1 : Int32) (x2 : Int32) (h : PH) : Mo (X12_nextFrom_f78 g24 t x1 x2 h) (X12_nextFrom_f78 G24 t x1 x2 h) := (hg24 t x1 (x2 + 1) h)
theorem X12_nextFrom_w78 {z : CZ} {g24 : Nat → Int32 → Int32 → PH → Option Rs} (hk24 : SK (X12_nextFrom_x z) 24 (X12_nextFrom_u24 g24)) : SK (X12_nextFrom_x z) 78 (X12_nextFrom_u78 (X12_nextFrom_f78 g24)) := by
  intro ls st h r e
  obtain ⟨hst, e⟩ := gL_of e
  obtain ⟨t, q0, e⟩ := gT_of e
  obtain ⟨x1, q1, e⟩ := gI_of e
  obtain ⟨x2, q2, e⟩ := gI_of e
  rw [st_0 hst]
  exact WK.sub (canon := [some (.inr (11, t + 1)), some (.inl x1), some (.inl x2), none]) rfl ⟨q0, q1, q2, trivial⟩ (X12_nextFrom_s78 hk24 _ _ _ _ ((X12_nextFrom_l78 g24 t x1 x2 h).trans e))
noncomputable def X12_nextFrom_g0 (G : (Nat → Int32 → Int32 → PH → Option Rs)) (t : Nat) (x1 : Int32) (h : PH) : Option Rs := X12_nextFrom_f0 (G) t x1 h
noncomputable def X12_nextFrom_g78 (G : (Nat → Int32 → Int32 → PH → Option Rs)) (t : Nat) (x1 : Int32) (x2 : Int32) (h : PH) : Option Rs := X12_nextFrom_f78 (G) t x1 x2 h
noncomputable def X12_nextFrom_g24 (G : (Nat → Int32 → Int32 → PH → Option Rs)) (t : Nat) (x1 : Int32) (x2 : Int32) (h : PH) : Option Rs := X12_nextFrom_f24 X12_passFrom X12_otherEnd (X12_nextFrom_g78 G) t x1 x2 h
theorem X12_nextFrom_v78 {z : CZ} {G : (Nat → Int32 → Int32 → PH → Option Rs)} (hG24 : SK (X12_nextFrom_x z) 24 (X12_nextFrom_u24 (G))) : SK (X12_nextFrom_x z) 78 (X12_nextFrom_u78 (X12_nextFrom_g78 G)) := X12_nextFrom_w78 hG24
theorem X12_nextFrom_v24 {z : CZ} {G : (Nat → Int32 → Int32 → PH → Option Rs)} (hG24 : SK (X12_nextFrom_x z) 24 (X12_nextFrom_u24 (G))) : SK (X12_nextFrom_x z) 24 (X12_nextFrom_u24 (X12_nextFrom_g24 G)) := X12_nextFrom_w24 (X12_nextFrom_v78 hG24)
noncomputable def X12_nextFrom_fam : Nat → (Nat → Int32 → Int32 → PH → Option Rs)
  | 0 => fun _ _ _ _ => none
  | n + 1 => X12_nextFrom_g24 (X12_nextFrom_fam n)
theorem X12_nextFrom_k {z : CZ} : ∀ n, SK (X12_nextFrom_x z) 24 (X12_nextFrom_u24 (X12_nextFrom_fam n))
  | 0 => (fun ls st h r e => by
      obtain ⟨_, e⟩ := gL_of e
      obtain ⟨_, _, e⟩ := gT_of e
      obtain ⟨_, _, e⟩ := gI_of e
      obtain ⟨_, _, e⟩ := gI_of e
      cases e)
  | n + 1 => by
    obtain ih24 := X12_nextFrom_k n
    exact X12_nextFrom_v24 ih24
theorem X12_nextFrom_n0 {G G' : (Nat → Int32 → Int32 → PH → Option Rs)} (hg24 : ∀ a0 a1 a2 a3, Mo ((G) a0 a1 a2 a3) ((G') a0 a1 a2 a3)) (t : Nat) (x1 : Int32) (h : PH) : Mo (X12_nextFrom_g0 G t x1 h) (X12_nextFrom_g0 G' t x1 h) := X12_nextFrom_m0 hg24 t x1 h
theorem X12_nextFrom_n78 {G G' : (Nat → Int32 → Int32 → PH → Option Rs)} (hg24 : ∀ a0 a1 a2 a3, Mo ((G) a0 a1 a2 a3) ((G') a0 a1 a2 a3)) (t : Nat) (x1 : Int32) (x2 : Int32) (h : PH) : Mo (X12_nextFrom_g78 G t x1 x2 h) (X12_nextFrom_g78 G' t x1 x2 h) := X12_nextFrom_m78 hg24 t x1 x2 h
theorem X12_nextFrom_n24 {G G' : (Nat → Int32 → Int32 → PH → Option Rs)} (hg24 : ∀ a0 a1 a2 a3, Mo ((G) a0 a1 a2 a3) ((G') a0 a1 a2 a3)) (t : Nat) (x1 : Int32) (x2 : Int32) (h : PH) : Mo (X12_nextFrom_g24 G t x1 x2 h) (X12_nextFrom_g24 G' t x1 x2 h) := X12_nextFrom_m24 (fun a0 a1 a2 a3 => X12_nextFrom_n78 hg24 a0 a1 a2 a3) t x1 x2 h
theorem X12_nextFrom_fm : ∀ n, (∀ a0 a1 a2 a3, Mo ((X12_nextFrom_fam n) a0 a1 a2 a3) ((X12_nextFrom_fam (n + 1)) a0 a1 a2 a3))
  | 0 => fun _ _ _ _ => mo_no
  | n + 1 => by
    obtain ih24 := X12_nextFrom_fm n
    exact fun a0 a1 a2 a3 => X12_nextFrom_n24 ih24 a0 a1 a2 a3
noncomputable def X12_nextFrom (t : Nat) (x1 : Int32) (h : PH) : Option Rs := lim (fun n => X12_nextFrom_g0 (X12_nextFrom_fam n) t x1 h)
theorem X12_nextFrom_iff {t : Nat} {x1 : Int32} {h : PH} {r : Rs} : X12_nextFrom t x1 h = some r ↔ ∃ n, X12_nextFrom_g0 (X12_nextFrom_fam n) t x1 h = some r := lim_iff (fun n => by
  obtain ih24 := X12_nextFrom_fm n
  exact X12_nextFrom_n0 ih24 t x1 h)
noncomputable abbrev X12_nextFrom_F : List PV → PH → Option Rs := FW_T11I (X12_nextFrom)
set_option maxRecDepth 100000 in
theorem X12_nextFrom_gd (l : Launch) : Gd l 2 yX12_nextFrom cX12_nextFrom 4 (some .int) (X12_nextFrom_F)   := Gd_of (by decide +kernel) (fun z hzl as h r e => by
  obtain ⟨hst, e⟩ := gL_of e
  obtain ⟨t, q0, e⟩ := gT_of e
  obtain ⟨x1, q1, e⟩ := gI_of e
  rw [st_2 hst q0 q1]
  obtain ⟨n, e⟩ := lim_of e
  obtain hG24 := X12_nextFrom_k (z := z) n
  exact ⟨show 2 ≤ 4 by decide, X12_nextFrom_s0 hG24 _ _ _ _ ((X12_nextFrom_l0 (X12_nextFrom_fam n) t x1 h).trans e)⟩)
abbrev X12_next_x (z : CZ) : CX := mx RX12 cX12_next 5 4 (some .int) "next" z
noncomputable def X12_next_b0 (c_X12_isPlace : Nat → Int32 → PH → Option Rs) (c_X12_isGoal : Nat → Int32 → PH → Option Rs) (c_X12_areWheels : Int32 → PH → Option Rs) (c_X12_looks : Nat → Int32 → PH → Option Rs) (c_X12_findAway : Nat → Int32 → PH → Option Rs) (c_X12_nextFrom : Nat → Int32 → PH → Option Rs) : Kn := (a_al 0 (a_il 1 (a_vI 11 1 (FW_T11I c_X12_isPlace) (a_z (a_ic (-1000000001) a_ir) (a_al 0 (a_il 2 (a_vI 11 1 (FW_T11I c_X12_isGoal) (a_z (a_ic (-1000000001) a_ir) (a_il 3 (a_sI 1 (FW_I c_X12_areWheels) (a_z (a_ic (-1000000001) a_ir) (a_al 0 (a_il 3 (a_vV 11 1 (FW_T11I c_X12_looks) (a_al 0 (a_il 2 (a_vV 11 1 (FW_T11I c_X12_findAway) (a_al 0 (a_il 1 (a_vI 11 1 (FW_T11I c_X12_nextFrom) (a_is 4 (a_il 4 (a_n (a_ic (-1000000005) a_ir) (a_il 4 a_ir))))))))))))))))))))))))
set_option maxRecDepth 100000 in
theorem X12_next_s0 {z : CZ} : SK (X12_next_x z) 0 (X12_next_b0 X12_isPlace X12_isGoal X12_areWheels X12_looks X12_findAway X12_nextFrom) := (s_aloadn (pc := 0) dX12_next_0 rfl (s_iloadn (pc := 1) dX12_next_1 rfl (s_vI (pc := 2) (run_virtual (X12_isPlace_gd _) (show 1 < 4 by decide) cy_X12_isPlace (by decide) rfl w_1461 w_s29 w_1459 dX12_next_2) (s_ifeq (pc := 5) dX12_next_5 (by decide) (s_ldc (pc := 23) w_1466 dX12_next_23 (s_ir (pc := 25) rfl dX12_next_25)) (s_aloadn (pc := 8) dX12_next_8 rfl (s_iloadn (pc := 9) dX12_next_9 rfl (s_vI (pc := 10) (run_virtual (X12_isGoal_gd _) (show 1 < 4 by decide) cy_X12_isGoal (by decide) rfl w_1505 w_s34 w_1503 dX12_next_10) (s_ifeq (pc := 13) dX12_next_13 (by decide) (s_ldc (pc := 23) w_1466 dX12_next_23 (s_ir (pc := 25) rfl dX12_next_25)) (s_iloadn (pc := 16) dX12_next_16 rfl (s_sI (pc := 17) (run_static (X12_areWheels_gd _) (show 1 < 4 by decide) cy_X12_areWheels w_1673 w_1672 dX12_next_17) (s_ifne (pc := 20) dX12_next_20 (by decide) (s_aloadn (pc := 26) dX12_next_26 rfl (s_iloadn (pc := 27) dX12_next_27 rfl (s_vV (pc := 28) (run_virtual (X12_looks_gd _) (show 3 < 4 by decide) cy_X12_looks (by decide) rfl w_1677 w_s56 w_1675 dX12_next_28) (s_aloadn (pc := 31) dX12_next_31 rfl (s_iloadn (pc := 32) dX12_next_32 rfl (s_vV (pc := 33) (run_virtual (X12_findAway_gd _) (show 1 < 4 by decide) cy_X12_findAway (by decide) rfl w_1681 w_s57 w_1679 dX12_next_33) (s_aloadn (pc := 36) dX12_next_36 rfl (s_iloadn (pc := 37) dX12_next_37 rfl (s_vI (pc := 38) (run_virtual (X12_nextFrom_gd _) (show 2 < 4 by decide) cy_X12_nextFrom (by decide) rfl w_1690 w_s58 w_1688 dX12_next_38) (s_istore (pc := 41) dX12_next_41 (show 4 < 5 by decide) (s_iload (pc := 43) dX12_next_43 (s_ifge (pc := 45) dX12_next_45 (by decide) (s_iload (pc := 53) dX12_next_53 (s_ir (pc := 55) rfl dX12_next_55)) (s_ldc (pc := 48) w_1515 dX12_next_48 (s_goto (pc := 50) dX12_next_50 (by decide) (s_ir (pc := 55) rfl dX12_next_55))))))))))))))) (s_ldc (pc := 23) w_1466 dX12_next_23 (s_ir (pc := 25) rfl dX12_next_25)))))))))))))
noncomputable def X12_next_f0 (c_X12_isPlace : Nat → Int32 → PH → Option Rs) (c_X12_isGoal : Nat → Int32 → PH → Option Rs) (c_X12_areWheels : Int32 → PH → Option Rs) (c_X12_looks : Nat → Int32 → PH → Option Rs) (c_X12_findAway : Nat → Int32 → PH → Option Rs) (c_X12_nextFrom : Nat → Int32 → PH → Option Rs) (t : Nat) (x1 : Int32) (x2 : Int32) (x3 : Int32) (h : PH) : Option Rs :=
  cI (c_X12_isPlace t x1 h) fun v2 h1 =>
  if v2 = 0 then
    some (some (.inl (-1000000001)), h1)
  else
    cI (c_X12_isGoal t x2 h1) fun v4 h3 =>
    if v4 = 0 then
      some (some (.inl (-1000000001)), h3)
    else
      cI (c_X12_areWheels x3 h3) fun v6 h5 =>
      if v6 = 0 then
        some (some (.inl (-1000000001)), h5)
      else
        cV (c_X12_looks t x3 h5) fun h7 =>
        cV (c_X12_findAway t x2 h7) fun h8 =>
        cI (c_X12_nextFrom t x1 h8) fun v10 h9 =>
        if v10 < 0 then
          some (some (.inl (-1000000005)), h9)
        else
          some (some (.inl v10), h9)
set_option maxRecDepth 100000 in
theorem X12_next_l0 (c_X12_isPlace : Nat → Int32 → PH → Option Rs) (c_X12_isGoal : Nat → Int32 → PH → Option Rs) (c_X12_areWheels : Int32 → PH → Option Rs) (c_X12_looks : Nat → Int32 → PH → Option Rs) (c_X12_findAway : Nat → Int32 → PH → Option Rs) (c_X12_nextFrom : Nat → Int32 → PH → Option Rs) (t : Nat) (x1 : Int32) (x2 : Int32) (x3 : Int32) (h : PH) : X12_next_b0 c_X12_isPlace c_X12_isGoal c_X12_areWheels c_X12_looks c_X12_findAway c_X12_nextFrom [some (.inr (11, t + 1)), some (.inl x1), some (.inl x2), some (.inl x3), none] [] h = X12_next_f0 c_X12_isPlace c_X12_isGoal c_X12_areWheels c_X12_looks c_X12_findAway c_X12_nextFrom t x1 x2 x3 h := rfl
noncomputable def X12_next_g0 (t : Nat) (x1 : Int32) (x2 : Int32) (x3 : Int32) (h : PH) : Option Rs := X12_next_f0 X12_isPlace X12_isGoal X12_areWheels X12_looks X12_findAway X12_nextFrom t x1 x2 x3 h
noncomputable def X12_next (t : Nat) (x1 : Int32) (x2 : Int32) (x3 : Int32) (h : PH) : Option Rs := X12_next_g0 t x1 x2 x3 h
noncomputable abbrev X12_next_F : List PV → PH → Option Rs := FW_T11III (X12_next)
set_option maxRecDepth 100000 in
theorem X12_next_gd (l : Launch) : Gd l 4 yX12_next cX12_next 5 (some .int) (X12_next_F)   := Gd_of (by decide +kernel) (fun z hzl as h r e => by
  obtain ⟨hst, e⟩ := gL_of e
  obtain ⟨t, q0, e⟩ := gT_of e
  obtain ⟨x1, q1, e⟩ := gI_of e
  obtain ⟨x2, q2, e⟩ := gI_of e
  obtain ⟨x3, q3, e⟩ := gI_of e
  rw [st_4 hst q0 q1 q2 q3]
  exact ⟨show 4 ≤ 5 by decide, X12_next_s0 _ _ _ _ ((X12_next_l0 X12_isPlace X12_isGoal X12_areWheels X12_looks X12_findAway X12_nextFrom t x1 x2 x3 h).trans e)⟩)
abbrev X12_rowOf_x (z : CZ) : CX := mx RX12 cX12_rowOf 4 2 (some .int) "rowOf" z
noncomputable def X12_rowOf_b0 (k2 : Kn) : Kn := (a_ic 0 (a_is 3 k2))
set_option maxRecDepth 100000 in
theorem X12_rowOf_s0 {z : CZ} {k2 : Kn} (hk2 : SK (X12_rowOf_x z) 2 k2) : SK (X12_rowOf_x z) 0 (X12_rowOf_b0 k2) := (s_iconst (pc := 0) dX12_rowOf_0 c_ic_0 (s_istoren (pc := 1) dX12_rowOf_1 rfl (show 3 < 4 by decide) hk2))
noncomputable def X12_rowOf_b2 (c_X12_rowsOf : Nat → Int32 → PH → Option Rs) (c_X12_nameAt : Nat → Int32 → Int32 → PH → Option Rs) (k2 : Kn) : Kn := (a_il 3 (a_al 0 (a_il 1 (a_vI 11 1 (FW_T11I c_X12_rowsOf) (a_lt (a_al 0 (a_il 1 (a_il 3 (a_vI 11 2 (FW_T11II c_X12_nameAt) (a_il 2 (a_eq (a_il 3 a_ir) (a_inc 3 1 k2))))))) (a_ic (-1) a_ir))))))
set_option maxRecDepth 100000 in
theorem X12_rowOf_s2 {z : CZ} {k2 : Kn} (hk2 : SK (X12_rowOf_x z) 2 k2) : SK (X12_rowOf_x z) 2 (X12_rowOf_b2 X12_rowsOf X12_nameAt k2) := (s_iloadn (pc := 2) dX12_rowOf_2 rfl (s_aloadn (pc := 3) dX12_rowOf_3 rfl (s_iloadn (pc := 4) dX12_rowOf_4 rfl (s_vI (pc := 5) (run_virtual (X12_rowsOf_gd _) (show 1 < 2 by decide) cy_X12_rowsOf (by decide) rfl w_1538 w_s39 w_1536 dX12_rowOf_5) (s_cmpge (pc := 8) dX12_rowOf_8 (by decide) (s_iconst (pc := 29) dX12_rowOf_29 c_ic_m1 (s_ir (pc := 30) rfl dX12_rowOf_30)) (s_aloadn (pc := 11) dX12_rowOf_11 rfl (s_iloadn (pc := 12) dX12_rowOf_12 rfl (s_iloadn (pc := 13) dX12_rowOf_13 rfl (s_vI (pc := 14) (run_virtual (X12_nameAt_gd _) (show 0 < 2 by decide) cy_X12_nameAt (by decide) rfl w_1591 w_s44 w_1589 dX12_rowOf_14) (s_iloadn (pc := 17) dX12_rowOf_17 rfl (s_cmpne (pc := 18) dX12_rowOf_18 (by decide) (s_iinc (pc := 23) dX12_rowOf_23 c_ic_1 (show 3 < 4 by decide) (s_goto (pc := 26) dX12_rowOf_26 (by decide) hk2)) (s_iloadn (pc := 21) dX12_rowOf_21 rfl (s_ir (pc := 22) rfl dX12_rowOf_22)))))))))))))
noncomputable def X12_rowOf_u2 (g : Nat → Int32 → Int32 → Int32 → PH → Option Rs) : Kn := fun ls st h => gL 0 st (gT 11 ls 0 fun t => gI ls 1 fun x1 => gI ls 2 fun x2 => gI ls 3 fun x3 => g t x1 x2 x3 h)
noncomputable def X12_rowOf_f0 (g2 : Nat → Int32 → Int32 → Int32 → PH → Option Rs) (t : Nat) (x1 : Int32) (x2 : Int32) (h : PH) : Option Rs :=
  g2 t x1 x2 0 h
set_option maxRecDepth 100000 in
theorem X12_rowOf_l0 (g2 : Nat → Int32 → Int32 → Int32 → PH → Option Rs) (t : Nat) (x1 : Int32) (x2 : Int32) (h : PH) : X12_rowOf_b0 (X12_rowOf_u2 g2) [some (.inr (11, t + 1)), some (.inl x1), some (.inl x2), none] [] h = X12_rowOf_f0 g2 t x1 x2 h := rfl
theorem X12_rowOf_m0 {g2 G2 : Nat → Int32 → Int32 → Int32 → PH → Option Rs} (hg2 : ∀ a0 a1 a2 a3 a4, Mo (g2 a0 a1 a2 a3 a4) (G2 a0 a1 a2 a3 a4)) (t : Nat) (x1 : Int32) (x2 : Int32) (h : PH) : Mo (X12_rowOf_f0 g2 t x1 x2 h) (X12_rowOf_f0 G2 t x1 x2 h) := (hg2 t x1 x2 0 h)
noncomputable def X12_rowOf_f2 (c_X12_rowsOf : Nat → Int32 → PH → Option Rs) (c_X12_nameAt : Nat → Int32 → Int32 → PH → Option Rs) (g2 : Nat → Int32 → Int32 → Int32 → PH → Option Rs) (t : Nat) (x1 : Int32) (x2 : Int32) (x3 : Int32) (h : PH) : Option Rs :=
  cI (c_X12_rowsOf t x1 h) fun v2 h1 =>
  if x3 < v2 then
    cI (c_X12_nameAt t x1 x3 h1) fun v4 h3 =>
    if v4 = x2 then
      some (some (.inl x3), h3)
    else
      g2 t x1 x2 (x3 + 1) h3
  else
    some (some (.inl (-1)), h1)
set_option maxRecDepth 100000 in
theorem X12_rowOf_l2 (c_X12_rowsOf : Nat → Int32 → PH → Option Rs) (c_X12_nameAt : Nat → Int32 → Int32 → PH → Option Rs) (g2 : Nat → Int32 → Int32 → Int32 → PH → Option Rs) (t : Nat) (x1 : Int32) (x2 : Int32) (x3 : Int32) (h : PH) : X12_rowOf_b2 c_X12_rowsOf c_X12_nameAt (X12_rowOf_u2 g2) [some (.inr (11, t + 1)), some (.inl x1), some (.inl x2), some (.inl x3)] [] h = X12_rowOf_f2 c_X12_rowsOf c_X12_nameAt g2 t x1 x2 x3 h := rfl
theorem X12_rowOf_m2 {c_X12_rowsOf : Nat → Int32 → PH → Option Rs} {c_X12_nameAt : Nat → Int32 → Int32 → PH → Option Rs} {g2 G2 : Nat → Int32 → Int32 → Int32 → PH → Option Rs} (hg2 : ∀ a0 a1 a2 a3 a4, Mo (g2 a0 a1 a2 a3 a4) (G2 a0 a1 a2 a3 a4)) (t : Nat) (x1 : Int32) (x2 : Int32) (x3 : Int32) (h : PH) : Mo (X12_rowOf_f2 c_X12_rowsOf c_X12_nameAt g2 t x1 x2 x3 h) (X12_rowOf_f2 c_X12_rowsOf c_X12_nameAt G2 t x1 x2 x3 h) := (mo_cI fun v2 h1 => (mo_if (mo_cI fun v4 h3 => (mo_if mo_rf (hg2 t x1 x2 (x3 + 1) h3))) mo_rf))
theorem X12_rowOf_w2 {z : CZ} {g2 : Nat → Int32 → Int32 → Int32 → PH → Option Rs} (hk2 : SK (X12_rowOf_x z) 2 (X12_rowOf_u2 g2)) : SK (X12_rowOf_x z) 2 (X12_rowOf_u2 (X12_rowOf_f2 X12_rowsOf X12_nameAt g2)) := by
  intro ls st h r e
  obtain ⟨hst, e⟩ := gL_of e
  obtain ⟨t, q0, e⟩ := gT_of e
  obtain ⟨x1, q1, e⟩ := gI_of e
  obtain ⟨x2, q2, e⟩ := gI_of e
  obtain ⟨x3, q3, e⟩ := gI_of e
  rw [st_0 hst]
  exact WK.sub (canon := [some (.inr (11, t + 1)), some (.inl x1), some (.inl x2), some (.inl x3)]) rfl ⟨q0, q1, q2, q3, trivial⟩ (X12_rowOf_s2 hk2 _ _ _ _ ((X12_rowOf_l2 X12_rowsOf X12_nameAt g2 t x1 x2 x3 h).trans e))
noncomputable def X12_rowOf_g0 (G : (Nat → Int32 → Int32 → Int32 → PH → Option Rs)) (t : Nat) (x1 : Int32) (x2 : Int32) (h : PH) : Option Rs := X12_rowOf_f0 (G) t x1 x2 h
noncomputable def X12_rowOf_g2 (G : (Nat → Int32 → Int32 → Int32 → PH → Option Rs)) (t : Nat) (x1 : Int32) (x2 : Int32) (x3 : Int32) (h : PH) : Option Rs := X12_rowOf_f2 X12_rowsOf X12_nameAt (G) t x1 x2 x3 h
theorem X12_rowOf_v2 {z : CZ} {G : (Nat → Int32 → Int32 → Int32 → PH → Option Rs)} (hG2 : SK (X12_rowOf_x z) 2 (X12_rowOf_u2 (G))) : SK (X12_rowOf_x z) 2 (X12_rowOf_u2 (X12_rowOf_g2 G)) := X12_rowOf_w2 hG2
noncomputable def X12_rowOf_fam : Nat → (Nat → Int32 → Int32 → Int32 → PH → Option Rs)
  | 0 => fun _ _ _ _ _ => none
  | n + 1 => X12_rowOf_g2 (X12_rowOf_fam n)
theorem X12_rowOf_k {z : CZ} : ∀ n, SK (X12_rowOf_x z) 2 (X12_rowOf_u2 (X12_rowOf_fam n))
  | 0 => (fun ls st h r e => by
      obtain ⟨_, e⟩ := gL_of e
      obtain ⟨_, _, e⟩ := gT_of e
      obtain ⟨_, _, e⟩ := gI_of e
      obtain ⟨_, _, e⟩ := gI_of e
      obtain ⟨_, _, e⟩ := gI_of e
      cases e)
  | n + 1 => by
    obtain ih2 := X12_rowOf_k n
    exact X12_rowOf_v2 ih2
theorem X12_rowOf_n0 {G G' : (Nat → Int32 → Int32 → Int32 → PH → Option Rs)} (hg2 : ∀ a0 a1 a2 a3 a4, Mo ((G) a0 a1 a2 a3 a4) ((G') a0 a1 a2 a3 a4)) (t : Nat) (x1 : Int32) (x2 : Int32) (h : PH) : Mo (X12_rowOf_g0 G t x1 x2 h) (X12_rowOf_g0 G' t x1 x2 h) := X12_rowOf_m0 hg2 t x1 x2 h
theorem X12_rowOf_n2 {G G' : (Nat → Int32 → Int32 → Int32 → PH → Option Rs)} (hg2 : ∀ a0 a1 a2 a3 a4, Mo ((G) a0 a1 a2 a3 a4) ((G') a0 a1 a2 a3 a4)) (t : Nat) (x1 : Int32) (x2 : Int32) (x3 : Int32) (h : PH) : Mo (X12_rowOf_g2 G t x1 x2 x3 h) (X12_rowOf_g2 G' t x1 x2 x3 h) := X12_rowOf_m2 hg2 t x1 x2 x3 h
theorem X12_rowOf_fm : ∀ n, (∀ a0 a1 a2 a3 a4, Mo ((X12_rowOf_fam n) a0 a1 a2 a3 a4) ((X12_rowOf_fam (n + 1)) a0 a1 a2 a3 a4))
  | 0 => fun _ _ _ _ _ => mo_no
  | n + 1 => by
    obtain ih2 := X12_rowOf_fm n
    exact fun a0 a1 a2 a3 a4 => X12_rowOf_n2 ih2 a0 a1 a2 a3 a4
noncomputable def X12_rowOf (t : Nat) (x1 : Int32) (x2 : Int32) (h : PH) : Option Rs := lim (fun n => X12_rowOf_g0 (X12_rowOf_fam n) t x1 x2 h)
theorem X12_rowOf_iff {t : Nat} {x1 : Int32} {x2 : Int32} {h : PH} {r : Rs} : X12_rowOf t x1 x2 h = some r ↔ ∃ n, X12_rowOf_g0 (X12_rowOf_fam n) t x1 x2 h = some r := lim_iff (fun n => by
  obtain ih2 := X12_rowOf_fm n
  exact X12_rowOf_n0 ih2 t x1 x2 h)
noncomputable abbrev X12_rowOf_F : List PV → PH → Option Rs := FW_T11II (X12_rowOf)
set_option maxRecDepth 100000 in
theorem X12_rowOf_gd (l : Launch) : Gd l 2 yX12_rowOf cX12_rowOf 4 (some .int) (X12_rowOf_F)   := Gd_of (by decide +kernel) (fun z hzl as h r e => by
  obtain ⟨hst, e⟩ := gL_of e
  obtain ⟨t, q0, e⟩ := gT_of e
  obtain ⟨x1, q1, e⟩ := gI_of e
  obtain ⟨x2, q2, e⟩ := gI_of e
  rw [st_3 hst q0 q1 q2]
  obtain ⟨n, e⟩ := lim_of e
  obtain hG2 := X12_rowOf_k (z := z) n
  exact ⟨show 3 ≤ 4 by decide, X12_rowOf_s0 hG2 _ _ _ _ ((X12_rowOf_l0 (X12_rowOf_fam n) t x1 x2 h).trans e)⟩)
abbrev X12_signWith_x (z : CZ) : CX := mx RX12 cX12_signWith 6 3 (some .int) "signWith" z
noncomputable def X12_signWith_b0 (k5 : Kn) : Kn := (a_ic (-1) (a_is 3 (a_ic 0 (a_is 4 k5))))
set_option maxRecDepth 100000 in
theorem X12_signWith_s0 {z : CZ} {k5 : Kn} (hk5 : SK (X12_signWith_x z) 5 k5) : SK (X12_signWith_x z) 0 (X12_signWith_b0 k5) := (s_iconst (pc := 0) dX12_signWith_0 c_ic_m1 (s_istoren (pc := 1) dX12_signWith_1 rfl (show 3 < 6 by decide) (s_iconst (pc := 2) dX12_signWith_2 c_ic_0 (s_istore (pc := 3) dX12_signWith_3 (show 4 < 6 by decide) hk5))))
noncomputable def X12_signWith_b5 (c_X12_of5 : Nat → Int32 → Int32 → PH → Option Rs) (c_X12_rowOf : Nat → Int32 → Int32 → PH → Option Rs) (k53 : Kn) : Kn := (a_il 4 (a_al 0 (a_gR 11 704 41 (a_ic 6 (a_ald 41 2624 (a_lt (a_al 0 (a_il 4 (a_ic 0 (a_vI 11 2 (FW_T11II c_X12_of5) (a_il 1 (a_eq (a_al 0 (a_gR 11 729 54 (a_il 4 (a_ald 54 3456 (a_z (a_ic 0 k53) (a_al 0 (a_il 4 (a_il 2 (a_vI 11 2 (FW_T11II c_X12_rowOf) (a_n (a_ic 0 k53) (a_ic 1 k53))))))))))) (a_ic 0 k53))))))) (a_il 3 a_ir)))))))
set_option maxRecDepth 100000 in
theorem X12_signWith_s5 {z : CZ} {k53 : Kn} (hk53 : SK (X12_signWith_x z) 53 k53) : SK (X12_signWith_x z) 5 (X12_signWith_b5 X12_of5 X12_rowOf k53) := (s_iload (pc := 5) dX12_signWith_5 (s_aloadn (pc := 7) dX12_signWith_7 rfl (s_gR (pc := 8) (f := 0) ko_11 (by decide) rfl rfl w_1295 dX12_signWith_8 (s_bipush (pc := 11) dX12_signWith_11 c_bp_6 (s_iald (pc := 13) (by decide) (by decide) rfl rfl rfl dX12_signWith_13 (s_cmpge (pc := 14) dX12_signWith_14 (by decide) (s_iloadn (pc := 99) dX12_signWith_99 rfl (s_ir (pc := 100) rfl dX12_signWith_100)) (s_aloadn (pc := 17) dX12_signWith_17 rfl (s_iload (pc := 18) dX12_signWith_18 (s_iconst (pc := 20) dX12_signWith_20 c_ic_0 (s_vI (pc := 21) (run_virtual (X12_of5_gd _) (show 0 < 3 by decide) cy_X12_of5 (by decide) rfl w_1534 w_s38 w_1532 dX12_signWith_21) (s_iloadn (pc := 24) dX12_signWith_24 rfl (s_cmpne (pc := 25) dX12_signWith_25 (by decide) (s_iconst (pc := 52) dX12_signWith_52 c_ic_0 hk53) (s_aloadn (pc := 28) dX12_signWith_28 rfl (s_gR (pc := 29) (f := 25) ko_11 (by decide) rfl rfl w_1320 dX12_signWith_29 (s_iload (pc := 32) dX12_signWith_32 (s_zald (pc := 34) (by decide) (by decide) rfl rfl rfl dX12_signWith_34 (s_ifeq (pc := 35) dX12_signWith_35 (by decide) (s_iconst (pc := 52) dX12_signWith_52 c_ic_0 hk53) (s_aloadn (pc := 38) dX12_signWith_38 rfl (s_iload (pc := 39) dX12_signWith_39 (s_iloadn (pc := 41) dX12_signWith_41 rfl (s_vI (pc := 42) (run_virtual (X12_rowOf_gd _) (show 2 < 3 by decide) cy_X12_rowOf (by decide) rfl w_1718 w_s64 w_1716 dX12_signWith_42) (s_iflt (pc := 45) dX12_signWith_45 (by decide) (s_iconst (pc := 52) dX12_signWith_52 c_ic_0 hk53) (s_iconst (pc := 48) dX12_signWith_48 c_ic_1 (s_goto (pc := 49) dX12_signWith_49 (by decide) hk53))))))))))))))))))))))))
noncomputable def X12_signWith_b53 (c_X12_of5 : Nat → Int32 → Int32 → PH → Option Rs) (c_X12_seenBy : Int32 → PH → Option Rs) (k86 k91 : Kn) : Kn := (a_is 5 (a_il 5 (a_z k91 (a_il 3 (a_n k86 (a_al 0 (a_il 4 (a_ic 1 (a_vI 11 2 (FW_T11II c_X12_of5) (a_sI 1 (FW_I c_X12_seenBy) (a_al 0 (a_il 3 (a_ic 1 (a_vI 11 2 (FW_T11II c_X12_of5) (a_sI 1 (FW_I c_X12_seenBy) (a_gt k86 k91))))))))))))))))
set_option maxRecDepth 100000 in
theorem X12_signWith_s53 {z : CZ} {k86 k91 : Kn} (hk86 : SK (X12_signWith_x z) 86 k86) (hk91 : SK (X12_signWith_x z) 91 k91) : SK (X12_signWith_x z) 53 (X12_signWith_b53 X12_of5 X12_seenBy k86 k91) := (s_istore (pc := 53) dX12_signWith_53 (show 5 < 6 by decide) (s_iload (pc := 55) dX12_signWith_55 (s_ifeq (pc := 57) dX12_signWith_57 (by decide) hk91 (s_iloadn (pc := 60) dX12_signWith_60 rfl (s_iflt (pc := 61) dX12_signWith_61 (by decide) hk86 (s_aloadn (pc := 64) dX12_signWith_64 rfl (s_iload (pc := 65) dX12_signWith_65 (s_iconst (pc := 67) dX12_signWith_67 c_ic_1 (s_vI (pc := 68) (run_virtual (X12_of5_gd _) (show 0 < 3 by decide) cy_X12_of5 (by decide) rfl w_1534 w_s38 w_1532 dX12_signWith_68) (s_sI (pc := 71) (run_static (X12_seenBy_gd _) (show 0 < 3 by decide) cy_X12_seenBy w_1544 w_1543 dX12_signWith_71) (s_aloadn (pc := 74) dX12_signWith_74 rfl (s_iloadn (pc := 75) dX12_signWith_75 rfl (s_iconst (pc := 76) dX12_signWith_76 c_ic_1 (s_vI (pc := 77) (run_virtual (X12_of5_gd _) (show 0 < 3 by decide) cy_X12_of5 (by decide) rfl w_1534 w_s38 w_1532 dX12_signWith_77) (s_sI (pc := 80) (run_static (X12_seenBy_gd _) (show 0 < 3 by decide) cy_X12_seenBy w_1544 w_1543 dX12_signWith_80) (s_cmple (pc := 83) dX12_signWith_83 (by decide) hk91 hk86))))))))))))))))
noncomputable def X12_signWith_b86 (k92 : Kn) : Kn := (a_il 4 k92)
set_option maxRecDepth 100000 in
theorem X12_signWith_s86 {z : CZ} {k92 : Kn} (hk92 : SK (X12_signWith_x z) 92 k92) : SK (X12_signWith_x z) 86 (X12_signWith_b86 k92) := (s_iload (pc := 86) dX12_signWith_86 (s_goto (pc := 88) dX12_signWith_88 (by decide) hk92))
noncomputable def X12_signWith_b91 (k92 : Kn) : Kn := (a_il 3 k92)
set_option maxRecDepth 100000 in
theorem X12_signWith_s91 {z : CZ} {k92 : Kn} (hk92 : SK (X12_signWith_x z) 92 k92) : SK (X12_signWith_x z) 91 (X12_signWith_b91 k92) := (s_iloadn (pc := 91) dX12_signWith_91 rfl hk92)
noncomputable def X12_signWith_b92 (k5 : Kn) : Kn := (a_is 3 (a_inc 4 1 k5))
set_option maxRecDepth 100000 in
theorem X12_signWith_s92 {z : CZ} {k5 : Kn} (hk5 : SK (X12_signWith_x z) 5 k5) : SK (X12_signWith_x z) 92 (X12_signWith_b92 k5) := (s_istoren (pc := 92) dX12_signWith_92 rfl (show 3 < 6 by decide) (s_iinc (pc := 93) dX12_signWith_93 c_ic_1 (show 4 < 6 by decide) (s_goto (pc := 96) dX12_signWith_96 (by decide) hk5)))
noncomputable def X12_signWith_u5 (g : Nat → Int32 → Int32 → Int32 → Int32 → PH → Option Rs) : Kn := fun ls st h => gL 0 st (gT 11 ls 0 fun t => gI ls 1 fun x1 => gI ls 2 fun x2 => gI ls 3 fun x3 => gI ls 4 fun x4 => g t x1 x2 x3 x4 h)
noncomputable def X12_signWith_u53 (g : Nat → Int32 → Int32 → Int32 → Int32 → Int32 → PH → Option Rs) : Kn := fun ls st h => gL 1 st (gT 11 ls 0 fun t => gI ls 1 fun x1 => gI ls 2 fun x2 => gI ls 3 fun x3 => gI ls 4 fun x4 => gI (st.map some) 0 fun s0 => g t x1 x2 x3 x4 s0 h)
noncomputable def X12_signWith_u86 (g : Nat → Int32 → Int32 → Int32 → PH → Option Rs) : Kn := fun ls st h => gL 0 st (gT 11 ls 0 fun t => gI ls 1 fun x1 => gI ls 2 fun x2 => gI ls 4 fun x4 => g t x1 x2 x4 h)
noncomputable def X12_signWith_u91 (g : Nat → Int32 → Int32 → Int32 → Int32 → PH → Option Rs) : Kn := fun ls st h => gL 0 st (gT 11 ls 0 fun t => gI ls 1 fun x1 => gI ls 2 fun x2 => gI ls 3 fun x3 => gI ls 4 fun x4 => g t x1 x2 x3 x4 h)
noncomputable def X12_signWith_u92 (g : Nat → Int32 → Int32 → Int32 → Int32 → PH → Option Rs) : Kn := fun ls st h => gL 1 st (gT 11 ls 0 fun t => gI ls 1 fun x1 => gI ls 2 fun x2 => gI ls 4 fun x4 => gI (st.map some) 0 fun s0 => g t x1 x2 x4 s0 h)
noncomputable def X12_signWith_f0 (g5 : Nat → Int32 → Int32 → Int32 → Int32 → PH → Option Rs) (t : Nat) (x1 : Int32) (x2 : Int32) (h : PH) : Option Rs :=
  g5 t x1 x2 (-1) 0 h
set_option maxRecDepth 100000 in
theorem X12_signWith_l0 (g5 : Nat → Int32 → Int32 → Int32 → Int32 → PH → Option Rs) (t : Nat) (x1 : Int32) (x2 : Int32) (h : PH) : X12_signWith_b0 (X12_signWith_u5 g5) [some (.inr (11, t + 1)), some (.inl x1), some (.inl x2), none, none, none] [] h = X12_signWith_f0 g5 t x1 x2 h := rfl
theorem X12_signWith_m0 {g5 G5 : Nat → Int32 → Int32 → Int32 → Int32 → PH → Option Rs} (hg5 : ∀ a0 a1 a2 a3 a4 a5, Mo (g5 a0 a1 a2 a3 a4 a5) (G5 a0 a1 a2 a3 a4 a5)) (t : Nat) (x1 : Int32) (x2 : Int32) (h : PH) : Mo (X12_signWith_f0 g5 t x1 x2 h) (X12_signWith_f0 G5 t x1 x2 h) := (hg5 t x1 x2 (-1) 0 h)
noncomputable def X12_signWith_f5 (c_X12_of5 : Nat → Int32 → Int32 → PH → Option Rs) (c_X12_rowOf : Nat → Int32 → Int32 → PH → Option Rs) (g53 : Nat → Int32 → Int32 → Int32 → Int32 → Int32 → PH → Option Rs) (t : Nat) (x1 : Int32) (x2 : Int32) (x3 : Int32) (x4 : Int32) (h : PH) : Option Rs :=
  nn (hR h 704 t 0) fun r1 =>
  ix 6 (hL h 41 r1) fun j2 =>
  if x4 < (hI h 2624 r1 j2) then
    cI (c_X12_of5 t x4 0 h) fun v4 h3 =>
    if v4 = x1 then
      nn (hR h3 729 t 0) fun r5 =>
      ix x4 (hL h3 54 r5) fun j6 =>
      if (hI h3 3456 r5 j6) = 0 then
        g53 t x1 x2 x3 x4 0 h3
      else
        cI (c_X12_rowOf t x4 x2 h3) fun v8 h7 =>
        if v8 < 0 then
          g53 t x1 x2 x3 x4 0 h7
        else
          g53 t x1 x2 x3 x4 1 h7
    else
      g53 t x1 x2 x3 x4 0 h3
  else
    some (some (.inl x3), h)
set_option maxRecDepth 100000 in
theorem X12_signWith_l5 (c_X12_of5 : Nat → Int32 → Int32 → PH → Option Rs) (c_X12_rowOf : Nat → Int32 → Int32 → PH → Option Rs) (g53 : Nat → Int32 → Int32 → Int32 → Int32 → Int32 → PH → Option Rs) (t : Nat) (x1 : Int32) (x2 : Int32) (x3 : Int32) (x4 : Int32) (h : PH) : X12_signWith_b5 c_X12_of5 c_X12_rowOf (X12_signWith_u53 g53) [some (.inr (11, t + 1)), some (.inl x1), some (.inl x2), some (.inl x3), some (.inl x4), none] [] h = X12_signWith_f5 c_X12_of5 c_X12_rowOf g53 t x1 x2 x3 x4 h := rfl
theorem X12_signWith_m5 {c_X12_of5 : Nat → Int32 → Int32 → PH → Option Rs} {c_X12_rowOf : Nat → Int32 → Int32 → PH → Option Rs} {g53 G53 : Nat → Int32 → Int32 → Int32 → Int32 → Int32 → PH → Option Rs} (hg53 : ∀ a0 a1 a2 a3 a4 a5 a6, Mo (g53 a0 a1 a2 a3 a4 a5 a6) (G53 a0 a1 a2 a3 a4 a5 a6)) (t : Nat) (x1 : Int32) (x2 : Int32) (x3 : Int32) (x4 : Int32) (h : PH) : Mo (X12_signWith_f5 c_X12_of5 c_X12_rowOf g53 t x1 x2 x3 x4 h) (X12_signWith_f5 c_X12_of5 c_X12_rowOf G53 t x1 x2 x3 x4 h) := (mo_nn fun r1 => (mo_ix fun j2 => (mo_if (mo_cI fun v4 h3 => (mo_if (mo_nn fun r5 => (mo_ix fun j6 => (mo_if (hg53 t x1 x2 x3 x4 0 h3) (mo_cI fun v8 h7 => (mo_if (hg53 t x1 x2 x3 x4 0 h7) (hg53 t x1 x2 x3 x4 1 h7)))))) (hg53 t x1 x2 x3 x4 0 h3))) mo_rf)))
theorem X12_signWith_w5 {z : CZ} {g53 : Nat → Int32 → Int32 → Int32 → Int32 → Int32 → PH → Option Rs} (hk53 : SK (X12_signWith_x z) 53 (X12_signWith_u53 g53)) : SK (X12_signWith_x z) 5 (X12_signWith_u5 (X12_signWith_f5 X12_of5 X12_rowOf g53)) := by
  intro ls st h r e
  obtain ⟨hst, e⟩ := gL_of e
  obtain ⟨t, q0, e⟩ := gT_of e
  obtain ⟨x1, q1, e⟩ := gI_of e
  obtain ⟨x2, q2, e⟩ := gI_of e
  obtain ⟨x3, q3, e⟩ := gI_of e
  obtain ⟨x4, q4, e⟩ := gI_of e
  rw [st_0 hst]
  exact WK.sub (canon := [some (.inr (11, t + 1)), some (.inl x1), some (.inl x2), some (.inl x3), some (.inl x4), none]) rfl ⟨q0, q1, q2, q3, q4, trivial⟩ (X12_signWith_s5 hk53 _ _ _ _ ((X12_signWith_l5 X12_of5 X12_rowOf g53 t x1 x2 x3 x4 h).trans e))
noncomputable def X12_signWith_f53 (c_X12_of5 : Nat → Int32 → Int32 → PH → Option Rs) (c_X12_seenBy : Int32 → PH → Option Rs) (g86 : Nat → Int32 → Int32 → Int32 → PH → Option Rs) (g91 : Nat → Int32 → Int32 → Int32 → Int32 → PH → Option Rs) (t : Nat) (x1 : Int32) (x2 : Int32) (x3 : Int32) (x4 : Int32) (s0 : Int32) (h : PH) : Option Rs :=
  if s0 = 0 then
    g91 t x1 x2 x3 x4 h
  else
    if x3 < 0 then
      g86 t x1 x2 x4 h
    else
      cI (c_X12_of5 t x4 1 h) fun v10 h9 =>
      cI (c_X12_seenBy v10 h9) fun v12 h11 =>
      cI (c_X12_of5 t x3 1 h11) fun v14 h13 =>
      cI (c_X12_seenBy v14 h13) fun v16 h15 =>
      if v16 < v12 then
        g86 t x1 x2 x4 h15
      else
        g91 t x1 x2 x3 x4 h15
set_option maxRecDepth 100000 in
theorem X12_signWith_l53 (c_X12_of5 : Nat → Int32 → Int32 → PH → Option Rs) (c_X12_seenBy : Int32 → PH → Option Rs) (g86 : Nat → Int32 → Int32 → Int32 → PH → Option Rs) (g91 : Nat → Int32 → Int32 → Int32 → Int32 → PH → Option Rs) (t : Nat) (x1 : Int32) (x2 : Int32) (x3 : Int32) (x4 : Int32) (s0 : Int32) (h : PH) : X12_signWith_b53 c_X12_of5 c_X12_seenBy (X12_signWith_u86 g86) (X12_signWith_u91 g91) [some (.inr (11, t + 1)), some (.inl x1), some (.inl x2), some (.inl x3), some (.inl x4), none] [.inl s0] h = X12_signWith_f53 c_X12_of5 c_X12_seenBy g86 g91 t x1 x2 x3 x4 s0 h := rfl
theorem X12_signWith_m53 {c_X12_of5 : Nat → Int32 → Int32 → PH → Option Rs} {c_X12_seenBy : Int32 → PH → Option Rs} {g86 G86 : Nat → Int32 → Int32 → Int32 → PH → Option Rs} {g91 G91 : Nat → Int32 → Int32 → Int32 → Int32 → PH → Option Rs} (hg86 : ∀ a0 a1 a2 a3 a4, Mo (g86 a0 a1 a2 a3 a4) (G86 a0 a1 a2 a3 a4)) (hg91 : ∀ a0 a1 a2 a3 a4 a5, Mo (g91 a0 a1 a2 a3 a4 a5) (G91 a0 a1 a2 a3 a4 a5)) (t : Nat) (x1 : Int32) (x2 : Int32) (x3 : Int32) (x4 : Int32) (s0 : Int32) (h : PH) : Mo (X12_signWith_f53 c_X12_of5 c_X12_seenBy g86 g91 t x1 x2 x3 x4 s0 h) (X12_signWith_f53 c_X12_of5 c_X12_seenBy G86 G91 t x1 x2 x3 x4 s0 h) := (mo_if (hg91 t x1 x2 x3 x4 h) (mo_if (hg86 t x1 x2 x4 h) (mo_cI fun v10 h9 => (mo_cI fun v12 h11 => (mo_cI fun v14 h13 => (mo_cI fun v16 h15 => (mo_if (hg86 t x1 x2 x4 h15) (hg91 t x1 x2 x3 x4 h15))))))))
theorem X12_signWith_w53 {z : CZ} {g86 : Nat → Int32 → Int32 → Int32 → PH → Option Rs} {g91 : Nat → Int32 → Int32 → Int32 → Int32 → PH → Option Rs} (hk86 : SK (X12_signWith_x z) 86 (X12_signWith_u86 g86)) (hk91 : SK (X12_signWith_x z) 91 (X12_signWith_u91 g91)) : SK (X12_signWith_x z) 53 (X12_signWith_u53 (X12_signWith_f53 X12_of5 X12_seenBy g86 g91)) := by
  intro ls st h r e
  obtain ⟨hst, e⟩ := gL_of e
  obtain ⟨t, q0, e⟩ := gT_of e
  obtain ⟨x1, q1, e⟩ := gI_of e
  obtain ⟨x2, q2, e⟩ := gI_of e
  obtain ⟨x3, q3, e⟩ := gI_of e
  obtain ⟨x4, q4, e⟩ := gI_of e
  obtain ⟨s0, q5, e⟩ := gI_of e
  rw [st_1 hst q5]
  exact WK.sub (canon := [some (.inr (11, t + 1)), some (.inl x1), some (.inl x2), some (.inl x3), some (.inl x4), none]) rfl ⟨q0, q1, q2, q3, q4, trivial⟩ (X12_signWith_s53 hk86 hk91 _ _ _ _ ((X12_signWith_l53 X12_of5 X12_seenBy g86 g91 t x1 x2 x3 x4 s0 h).trans e))
noncomputable def X12_signWith_f86 (g92 : Nat → Int32 → Int32 → Int32 → Int32 → PH → Option Rs) (t : Nat) (x1 : Int32) (x2 : Int32) (x4 : Int32) (h : PH) : Option Rs :=
  g92 t x1 x2 x4 x4 h
set_option maxRecDepth 100000 in
theorem X12_signWith_l86 (g92 : Nat → Int32 → Int32 → Int32 → Int32 → PH → Option Rs) (t : Nat) (x1 : Int32) (x2 : Int32) (x4 : Int32) (h : PH) : X12_signWith_b86 (X12_signWith_u92 g92) [some (.inr (11, t + 1)), some (.inl x1), some (.inl x2), none, some (.inl x4), none] [] h = X12_signWith_f86 g92 t x1 x2 x4 h := rfl
theorem X12_signWith_m86 {g92 G92 : Nat → Int32 → Int32 → Int32 → Int32 → PH → Option Rs} (hg92 : ∀ a0 a1 a2 a3 a4 a5, Mo (g92 a0 a1 a2 a3 a4 a5) (G92 a0 a1 a2 a3 a4 a5)) (t : Nat) (x1 : Int32) (x2 : Int32) (x4 : Int32) (h : PH) : Mo (X12_signWith_f86 g92 t x1 x2 x4 h) (X12_signWith_f86 G92 t x1 x2 x4 h) := (hg92 t x1 x2 x4 x4 h)
theorem X12_signWith_w86 {z : CZ} {g92 : Nat → Int32 → Int32 → Int32 → Int32 → PH → Option Rs} (hk92 : SK (X12_signWith_x z) 92 (X12_signWith_u92 g92)) : SK (X12_signWith_x z) 86 (X12_signWith_u86 (X12_signWith_f86 g92)) := by
  intro ls st h r e
  obtain ⟨hst, e⟩ := gL_of e
  obtain ⟨t, q0, e⟩ := gT_of e
  obtain ⟨x1, q1, e⟩ := gI_of e
  obtain ⟨x2, q2, e⟩ := gI_of e
  obtain ⟨x4, q3, e⟩ := gI_of e
  rw [st_0 hst]
  exact WK.sub (canon := [some (.inr (11, t + 1)), some (.inl x1), some (.inl x2), none, some (.inl x4), none]) rfl ⟨q0, q1, q2, q3, trivial⟩ (X12_signWith_s86 hk92 _ _ _ _ ((X12_signWith_l86 g92 t x1 x2 x4 h).trans e))
noncomputable def X12_signWith_f91 (g92 : Nat → Int32 → Int32 → Int32 → Int32 → PH → Option Rs) (t : Nat) (x1 : Int32) (x2 : Int32) (x3 : Int32) (x4 : Int32) (h : PH) : Option Rs :=
  g92 t x1 x2 x4 x3 h
set_option maxRecDepth 100000 in
theorem X12_signWith_l91 (g92 : Nat → Int32 → Int32 → Int32 → Int32 → PH → Option Rs) (t : Nat) (x1 : Int32) (x2 : Int32) (x3 : Int32) (x4 : Int32) (h : PH) : X12_signWith_b91 (X12_signWith_u92 g92) [some (.inr (11, t + 1)), some (.inl x1), some (.inl x2), some (.inl x3), some (.inl x4), none] [] h = X12_signWith_f91 g92 t x1 x2 x3 x4 h := rfl
theorem X12_signWith_m91 {g92 G92 : Nat → Int32 → Int32 → Int32 → Int32 → PH → Option Rs} (hg92 : ∀ a0 a1 a2 a3 a4 a5, Mo (g92 a0 a1 a2 a3 a4 a5) (G92 a0 a1 a2 a3 a4 a5)) (t : Nat) (x1 : Int32) (x2 : Int32) (x3 : Int32) (x4 : Int32) (h : PH) : Mo (X12_signWith_f91 g92 t x1 x2 x3 x4 h) (X12_signWith_f91 G92 t x1 x2 x3 x4 h) := (hg92 t x1 x2 x4 x3 h)
theorem X12_signWith_w91 {z : CZ} {g92 : Nat → Int32 → Int32 → Int32 → Int32 → PH → Option Rs} (hk92 : SK (X12_signWith_x z) 92 (X12_signWith_u92 g92)) : SK (X12_signWith_x z) 91 (X12_signWith_u91 (X12_signWith_f91 g92)) := by
  intro ls st h r e
  obtain ⟨hst, e⟩ := gL_of e
  obtain ⟨t, q0, e⟩ := gT_of e
  obtain ⟨x1, q1, e⟩ := gI_of e
  obtain ⟨x2, q2, e⟩ := gI_of e
  obtain ⟨x3, q3, e⟩ := gI_of e
  obtain ⟨x4, q4, e⟩ := gI_of e
  rw [st_0 hst]
  exact WK.sub (canon := [some (.inr (11, t + 1)), some (.inl x1), some (.inl x2), some (.inl x3), some (.inl x4), none]) rfl ⟨q0, q1, q2, q3, q4, trivial⟩ (X12_signWith_s91 hk92 _ _ _ _ ((X12_signWith_l91 g92 t x1 x2 x3 x4 h).trans e))
noncomputable def X12_signWith_f92 (g5 : Nat → Int32 → Int32 → Int32 → Int32 → PH → Option Rs) (t : Nat) (x1 : Int32) (x2 : Int32) (x4 : Int32) (s0 : Int32) (h : PH) : Option Rs :=
  g5 t x1 x2 s0 (x4 + 1) h
set_option maxRecDepth 100000 in
theorem X12_signWith_l92 (g5 : Nat → Int32 → Int32 → Int32 → Int32 → PH → Option Rs) (t : Nat) (x1 : Int32) (x2 : Int32) (x4 : Int32) (s0 : Int32) (h : PH) : X12_signWith_b92 (X12_signWith_u5 g5) [some (.inr (11, t + 1)), some (.inl x1), some (.inl x2), none, some (.inl x4), none] [.inl s0] h = X12_signWith_f92 g5 t x1 x2 x4 s0 h := rfl
theorem X12_signWith_m92 {g5 G5 : Nat → Int32 → Int32 → Int32 → Int32 → PH → Option Rs} (hg5 : ∀ a0 a1 a2 a3 a4 a5, Mo (g5 a0 a1 a2 a3 a4 a5) (G5 a0 a1 a2 a3 a4 a5)) (t : Nat) (x1 : Int32) (x2 : Int32) (x4 : Int32) (s0 : Int32) (h : PH) : Mo (X12_signWith_f92 g5 t x1 x2 x4 s0 h) (X12_signWith_f92 G5 t x1 x2 x4 s0 h) := (hg5 t x1 x2 s0 (x4 + 1) h)
theorem X12_signWith_w92 {z : CZ} {g5 : Nat → Int32 → Int32 → Int32 → Int32 → PH → Option Rs} (hk5 : SK (X12_signWith_x z) 5 (X12_signWith_u5 g5)) : SK (X12_signWith_x z) 92 (X12_signWith_u92 (X12_signWith_f92 g5)) := by
  intro ls st h r e
  obtain ⟨hst, e⟩ := gL_of e
  obtain ⟨t, q0, e⟩ := gT_of e
  obtain ⟨x1, q1, e⟩ := gI_of e
  obtain ⟨x2, q2, e⟩ := gI_of e
  obtain ⟨x4, q3, e⟩ := gI_of e
  obtain ⟨s0, q4, e⟩ := gI_of e
  rw [st_1 hst q4]
  exact WK.sub (canon := [some (.inr (11, t + 1)), some (.inl x1), some (.inl x2), none, some (.inl x4), none]) rfl ⟨q0, q1, q2, q3, trivial⟩ (X12_signWith_s92 hk5 _ _ _ _ ((X12_signWith_l92 g5 t x1 x2 x4 s0 h).trans e))
noncomputable def X12_signWith_g0 (G : (Nat → Int32 → Int32 → Int32 → Int32 → PH → Option Rs)) (t : Nat) (x1 : Int32) (x2 : Int32) (h : PH) : Option Rs := X12_signWith_f0 (G) t x1 x2 h
noncomputable def X12_signWith_g92 (G : (Nat → Int32 → Int32 → Int32 → Int32 → PH → Option Rs)) (t : Nat) (x1 : Int32) (x2 : Int32) (x4 : Int32) (s0 : Int32) (h : PH) : Option Rs := X12_signWith_f92 (G) t x1 x2 x4 s0 h
noncomputable def X12_signWith_g86 (G : (Nat → Int32 → Int32 → Int32 → Int32 → PH → Option Rs)) (t : Nat) (x1 : Int32) (x2 : Int32) (x4 : Int32) (h : PH) : Option Rs := X12_signWith_f86 (X12_signWith_g92 G) t x1 x2 x4 h
noncomputable def X12_signWith_g91 (G : (Nat → Int32 → Int32 → Int32 → Int32 → PH → Option Rs)) (t : Nat) (x1 : Int32) (x2 : Int32) (x3 : Int32) (x4 : Int32) (h : PH) : Option Rs := X12_signWith_f91 (X12_signWith_g92 G) t x1 x2 x3 x4 h
noncomputable def X12_signWith_g53 (G : (Nat → Int32 → Int32 → Int32 → Int32 → PH → Option Rs)) (t : Nat) (x1 : Int32) (x2 : Int32) (x3 : Int32) (x4 : Int32) (s0 : Int32) (h : PH) : Option Rs := X12_signWith_f53 X12_of5 X12_seenBy (X12_signWith_g86 G) (X12_signWith_g91 G) t x1 x2 x3 x4 s0 h
noncomputable def X12_signWith_g5 (G : (Nat → Int32 → Int32 → Int32 → Int32 → PH → Option Rs)) (t : Nat) (x1 : Int32) (x2 : Int32) (x3 : Int32) (x4 : Int32) (h : PH) : Option Rs := X12_signWith_f5 X12_of5 X12_rowOf (X12_signWith_g53 G) t x1 x2 x3 x4 h
theorem X12_signWith_v92 {z : CZ} {G : (Nat → Int32 → Int32 → Int32 → Int32 → PH → Option Rs)} (hG5 : SK (X12_signWith_x z) 5 (X12_signWith_u5 (G))) : SK (X12_signWith_x z) 92 (X12_signWith_u92 (X12_signWith_g92 G)) := X12_signWith_w92 (g5 := (G)) hG5
theorem X12_signWith_v86 {z : CZ} {G : (Nat → Int32 → Int32 → Int32 → Int32 → PH → Option Rs)} (hG5 : SK (X12_signWith_x z) 5 (X12_signWith_u5 (G))) : SK (X12_signWith_x z) 86 (X12_signWith_u86 (X12_signWith_g86 G)) := X12_signWith_w86 (g92 := (X12_signWith_g92 G)) (X12_signWith_v92 hG5)
theorem X12_signWith_v91 {z : CZ} {G : (Nat → Int32 → Int32 → Int32 → Int32 → PH → Option Rs)} (hG5 : SK (X12_signWith_x z) 5 (X12_signWith_u5 (G))) : SK (X12_signWith_x z) 91 (X12_signWith_u91 (X12_signWith_g91 G)) := X12_signWith_w91 (g92 := (X12_signWith_g92 G)) (X12_signWith_v92 hG5)
theorem X12_signWith_v53 {z : CZ} {G : (Nat → Int32 → Int32 → Int32 → Int32 → PH → Option Rs)} (hG5 : SK (X12_signWith_x z) 5 (X12_signWith_u5 (G))) : SK (X12_signWith_x z) 53 (X12_signWith_u53 (X12_signWith_g53 G)) := X12_signWith_w53 (g86 := (X12_signWith_g86 G)) (g91 := (X12_signWith_g91 G)) (X12_signWith_v86 hG5) (X12_signWith_v91 hG5)
theorem X12_signWith_v5 {z : CZ} {G : (Nat → Int32 → Int32 → Int32 → Int32 → PH → Option Rs)} (hG5 : SK (X12_signWith_x z) 5 (X12_signWith_u5 (G))) : SK (X12_signWith_x z) 5 (X12_signWith_u5 (X12_signWith_g5 G)) := X12_signWith_w5 (g53 := (X12_signWith_g53 G)) (X12_signWith_v53 hG5)
noncomputable def X12_signWith_fam : Nat → (Nat → Int32 → Int32 → Int32 → Int32 → PH → Option Rs)
  | 0 => fun _ _ _ _ _ _ => none
  | n + 1 => X12_signWith_g5 (X12_signWith_fam n)
theorem X12_signWith_k {z : CZ} : ∀ n, SK (X12_signWith_x z) 5 (X12_signWith_u5 (X12_signWith_fam n))
  | 0 => (fun ls st h r e => by
      obtain ⟨_, e⟩ := gL_of e
      obtain ⟨_, _, e⟩ := gT_of e
      obtain ⟨_, _, e⟩ := gI_of e
      obtain ⟨_, _, e⟩ := gI_of e
      obtain ⟨_, _, e⟩ := gI_of e
      obtain ⟨_, _, e⟩ := gI_of e
      cases e)
  | n + 1 => by
    obtain ih5 := X12_signWith_k n
    exact X12_signWith_v5 ih5
theorem X12_signWith_n0 {G G' : (Nat → Int32 → Int32 → Int32 → Int32 → PH → Option Rs)} (hg5 : ∀ a0 a1 a2 a3 a4 a5, Mo ((G) a0 a1 a2 a3 a4 a5) ((G') a0 a1 a2 a3 a4 a5)) (t : Nat) (x1 : Int32) (x2 : Int32) (h : PH) : Mo (X12_signWith_g0 G t x1 x2 h) (X12_signWith_g0 G' t x1 x2 h) := X12_signWith_m0 hg5 t x1 x2 h
theorem X12_signWith_n92 {G G' : (Nat → Int32 → Int32 → Int32 → Int32 → PH → Option Rs)} (hg5 : ∀ a0 a1 a2 a3 a4 a5, Mo ((G) a0 a1 a2 a3 a4 a5) ((G') a0 a1 a2 a3 a4 a5)) (t : Nat) (x1 : Int32) (x2 : Int32) (x4 : Int32) (s0 : Int32) (h : PH) : Mo (X12_signWith_g92 G t x1 x2 x4 s0 h) (X12_signWith_g92 G' t x1 x2 x4 s0 h) := X12_signWith_m92 hg5 t x1 x2 x4 s0 h
theorem X12_signWith_n86 {G G' : (Nat → Int32 → Int32 → Int32 → Int32 → PH → Option Rs)} (hg5 : ∀ a0 a1 a2 a3 a4 a5, Mo ((G) a0 a1 a2 a3 a4 a5) ((G') a0 a1 a2 a3 a4 a5)) (t : Nat) (x1 : Int32) (x2 : Int32) (x4 : Int32) (h : PH) : Mo (X12_signWith_g86 G t x1 x2 x4 h) (X12_signWith_g86 G' t x1 x2 x4 h) := X12_signWith_m86 (fun a0 a1 a2 a3 a4 a5 => X12_signWith_n92 hg5 a0 a1 a2 a3 a4 a5) t x1 x2 x4 h
theorem X12_signWith_n91 {G G' : (Nat → Int32 → Int32 → Int32 → Int32 → PH → Option Rs)} (hg5 : ∀ a0 a1 a2 a3 a4 a5, Mo ((G) a0 a1 a2 a3 a4 a5) ((G') a0 a1 a2 a3 a4 a5)) (t : Nat) (x1 : Int32) (x2 : Int32) (x3 : Int32) (x4 : Int32) (h : PH) : Mo (X12_signWith_g91 G t x1 x2 x3 x4 h) (X12_signWith_g91 G' t x1 x2 x3 x4 h) := X12_signWith_m91 (fun a0 a1 a2 a3 a4 a5 => X12_signWith_n92 hg5 a0 a1 a2 a3 a4 a5) t x1 x2 x3 x4 h
theorem X12_signWith_n53 {G G' : (Nat → Int32 → Int32 → Int32 → Int32 → PH → Option Rs)} (hg5 : ∀ a0 a1 a2 a3 a4 a5, Mo ((G) a0 a1 a2 a3 a4 a5) ((G') a0 a1 a2 a3 a4 a5)) (t : Nat) (x1 : Int32) (x2 : Int32) (x3 : Int32) (x4 : Int32) (s0 : Int32) (h : PH) : Mo (X12_signWith_g53 G t x1 x2 x3 x4 s0 h) (X12_signWith_g53 G' t x1 x2 x3 x4 s0 h) := X12_signWith_m53 (fun a0 a1 a2 a3 a4 => X12_signWith_n86 hg5 a0 a1 a2 a3 a4) (fun a0 a1 a2 a3 a4 a5 => X12_signWith_n91 hg5 a0 a1 a2 a3 a4 a5) t x1 x2 x3 x4 s0 h
theorem X12_signWith_n5 {G G' : (Nat → Int32 → Int32 → Int32 → Int32 → PH → Option Rs)} (hg5 : ∀ a0 a1 a2 a3 a4 a5, Mo ((G) a0 a1 a2 a3 a4 a5) ((G') a0 a1 a2 a3 a4 a5)) (t : Nat) (x1 : Int32) (x2 : Int32) (x3 : Int32) (x4 : Int32) (h : PH) : Mo (X12_signWith_g5 G t x1 x2 x3 x4 h) (X12_signWith_g5 G' t x1 x2 x3 x4 h) := X12_signWith_m5 (fun a0 a1 a2 a3 a4 a5 a6 => X12_signWith_n53 hg5 a0 a1 a2 a3 a4 a5 a6) t x1 x2 x3 x4 h
theorem X12_signWith_fm : ∀ n, (∀ a0 a1 a2 a3 a4 a5, Mo ((X12_signWith_fam n) a0 a1 a2 a3 a4 a5) ((X12_signWith_fam (n + 1)) a0 a1 a2 a3 a4 a5))
  | 0 => fun _ _ _ _ _ _ => mo_no
  | n + 1 => by
    obtain ih5 := X12_signWith_fm n
    exact fun a0 a1 a2 a3 a4 a5 => X12_signWith_n5 ih5 a0 a1 a2 a3 a4 a5
noncomputable def X12_signWith (t : Nat) (x1 : Int32) (x2 : Int32) (h : PH) : Option Rs := lim (fun n => X12_signWith_g0 (X12_signWith_fam n) t x1 x2 h)
theorem X12_signWith_iff {t : Nat} {x1 : Int32} {x2 : Int32} {h : PH} {r : Rs} : X12_signWith t x1 x2 h = some r ↔ ∃ n, X12_signWith_g0 (X12_signWith_fam n) t x1 x2 h = some r := lim_iff (fun n => by
  obtain ih5 := X12_signWith_fm n
  exact X12_signWith_n0 ih5 t x1 x2 h)
noncomputable abbrev X12_signWith_F : List PV → PH → Option Rs := FW_T11II (X12_signWith)
set_option maxRecDepth 100000 in
theorem X12_signWith_gd (l : Launch) : Gd l 3 yX12_signWith cX12_signWith 6 (some .int) (X12_signWith_F)   := Gd_of (by decide +kernel) (fun z hzl as h r e => by
  obtain ⟨hst, e⟩ := gL_of e
  obtain ⟨t, q0, e⟩ := gT_of e
  obtain ⟨x1, q1, e⟩ := gI_of e
  obtain ⟨x2, q2, e⟩ := gI_of e
  rw [st_3 hst q0 q1 q2]
  obtain ⟨n, e⟩ := lim_of e
  obtain hG5 := X12_signWith_k (z := z) n
  exact ⟨show 3 ≤ 6 by decide, X12_signWith_s0 hG5 _ _ _ _ ((X12_signWith_l0 (X12_signWith_fam n) t x1 x2 h).trans e)⟩)
abbrev X12_toldAt_x (z : CZ) : CX := mx RX12 cX12_toldAt 5 4 (some .int) "toldAt" z
noncomputable def X12_toldAt_b0 (k28 : Kn) : Kn := (a_al 0 (a_gI 11 737 (a_il 1 (a_b jshr (a_ic 1 (a_b (fun a b => a &&& b) (a_ic 1 (a_eq (a_al 0 (a_gR 11 738 58 (a_il 1 (a_ald 58 3712 (a_n k28 (a_al 0 (a_gR 11 738 58 (a_il 1 (a_ald 58 3712 a_ir))))))))) k28))))))))
set_option maxRecDepth 100000 in
theorem X12_toldAt_s0 {z : CZ} {k28 : Kn} (hk28 : SK (X12_toldAt_x z) 28 k28) : SK (X12_toldAt_x z) 0 (X12_toldAt_b0 k28) := (s_aloadn (pc := 0) dX12_toldAt_0 rfl (s_gI (pc := 1) (f := 33) ko_11 (by decide) rfl rfl w_1328 dX12_toldAt_1 (s_iloadn (pc := 4) dX12_toldAt_4 rfl (s_ishr (pc := 5) dX12_toldAt_5 (s_iconst (pc := 6) dX12_toldAt_6 c_ic_1 (s_iand (pc := 7) dX12_toldAt_7 (s_iconst (pc := 8) dX12_toldAt_8 c_ic_1 (s_cmpne (pc := 9) dX12_toldAt_9 (by decide) hk28 (s_aloadn (pc := 12) dX12_toldAt_12 rfl (s_gR (pc := 13) (f := 34) ko_11 (by decide) rfl rfl w_1329 dX12_toldAt_13 (s_iloadn (pc := 16) dX12_toldAt_16 rfl (s_iald (pc := 17) (by decide) (by decide) rfl rfl rfl dX12_toldAt_17 (s_iflt (pc := 18) dX12_toldAt_18 (by decide) hk28 (s_aloadn (pc := 21) dX12_toldAt_21 rfl (s_gR (pc := 22) (f := 34) ko_11 (by decide) rfl rfl w_1329 dX12_toldAt_22 (s_iloadn (pc := 25) dX12_toldAt_25 rfl (s_iald (pc := 26) (by decide) (by decide) rfl rfl rfl dX12_toldAt_26 (s_ir (pc := 27) rfl dX12_toldAt_27))))))))))))))))))
noncomputable def X12_toldAt_b28 (c_X12_signWith : Nat → Int32 → Int32 → PH → Option Rs) (c_X12_groupOf : Nat → Int32 → PH → Option Rs) (k68 : Kn) : Kn := (a_il 2 (a_is 3 (a_al 0 (a_il 1 (a_il 3 (a_vI 11 2 (FW_T11II c_X12_signWith) (a_is 4 (a_il 4 (a_n (a_al 0 (a_il 2 (a_vI 11 1 (FW_T11I c_X12_groupOf) (a_n k68 (a_ic 10 (a_al 0 (a_il 2 (a_vI 11 1 (FW_T11I c_X12_groupOf) (a_b (fun a b => a + b) (a_is 3 (a_al 0 (a_il 1 (a_il 3 (a_vI 11 2 (FW_T11II c_X12_signWith) (a_is 4 k68))))))))))))))) k68)))))))))
set_option maxRecDepth 100000 in
theorem X12_toldAt_s28 {z : CZ} {k68 : Kn} (hk68 : SK (X12_toldAt_x z) 68 k68) : SK (X12_toldAt_x z) 28 (X12_toldAt_b28 X12_signWith X12_groupOf k68) := (s_iloadn (pc := 28) dX12_toldAt_28 rfl (s_istoren (pc := 29) dX12_toldAt_29 rfl (show 3 < 5 by decide) (s_aloadn (pc := 30) dX12_toldAt_30 rfl (s_iloadn (pc := 31) dX12_toldAt_31 rfl (s_iloadn (pc := 32) dX12_toldAt_32 rfl (s_vI (pc := 33) (run_virtual (X12_signWith_gd _) (show 3 < 4 by decide) cy_X12_signWith (by decide) rfl w_1714 w_s63 w_1712 dX12_toldAt_33) (s_istore (pc := 36) dX12_toldAt_36 (show 4 < 5 by decide) (s_iload (pc := 38) dX12_toldAt_38 (s_ifge (pc := 40) dX12_toldAt_40 (by decide) hk68 (s_aloadn (pc := 43) dX12_toldAt_43 rfl (s_iloadn (pc := 44) dX12_toldAt_44 rfl (s_vI (pc := 45) (run_virtual (X12_groupOf_gd _) (show 0 < 4 by decide) cy_X12_groupOf (by decide) rfl w_1513 w_s36 w_1511 dX12_toldAt_45) (s_iflt (pc := 48) dX12_toldAt_48 (by decide) hk68 (s_bipush (pc := 51) dX12_toldAt_51 c_bp_10 (s_aloadn (pc := 53) dX12_toldAt_53 rfl (s_iloadn (pc := 54) dX12_toldAt_54 rfl (s_vI (pc := 55) (run_virtual (X12_groupOf_gd _) (show 0 < 4 by decide) cy_X12_groupOf (by decide) rfl w_1513 w_s36 w_1511 dX12_toldAt_55) (s_iadd (pc := 58) dX12_toldAt_58 (s_istoren (pc := 59) dX12_toldAt_59 rfl (show 3 < 5 by decide) (s_aloadn (pc := 60) dX12_toldAt_60 rfl (s_iloadn (pc := 61) dX12_toldAt_61 rfl (s_iloadn (pc := 62) dX12_toldAt_62 rfl (s_vI (pc := 63) (run_virtual (X12_signWith_gd _) (show 3 < 4 by decide) cy_X12_signWith (by decide) rfl w_1714 w_s63 w_1712 dX12_toldAt_63) (s_istore (pc := 66) dX12_toldAt_66 (show 4 < 5 by decide) hk68))))))))))))))))))))))))
noncomputable def X12_toldAt_b68 (c_X12_rowOf : Nat → Int32 → Int32 → PH → Option Rs) (c_X12_arrowAt : Nat → Int32 → Int32 → PH → Option Rs) : Kn := (a_il 4 (a_n (a_ic (-1) a_ir) (a_al 0 (a_il 4 (a_pI 11 734 (a_al 0 (a_il 4 (a_al 0 (a_il 4 (a_il 3 (a_vI 11 2 (FW_T11II c_X12_rowOf) (a_vI 11 2 (FW_T11II c_X12_arrowAt) a_ir))))))))))))
set_option maxRecDepth 100000 in
theorem X12_toldAt_s68 {z : CZ} : SK (X12_toldAt_x z) 68 (X12_toldAt_b68 X12_rowOf X12_arrowAt) := (s_iload (pc := 68) dX12_toldAt_68 (s_ifge (pc := 70) dX12_toldAt_70 (by decide) (s_aloadn (pc := 75) dX12_toldAt_75 rfl (s_iload (pc := 76) dX12_toldAt_76 (s_pI (pc := 78) (f := 30) ko_11 (by decide) rfl rfl rfl (by decide +kernel) w_1325 dX12_toldAt_78 (s_aloadn (pc := 81) dX12_toldAt_81 rfl (s_iload (pc := 82) dX12_toldAt_82 (s_aloadn (pc := 84) dX12_toldAt_84 rfl (s_iload (pc := 85) dX12_toldAt_85 (s_iloadn (pc := 87) dX12_toldAt_87 rfl (s_vI (pc := 88) (run_virtual (X12_rowOf_gd _) (show 2 < 4 by decide) cy_X12_rowOf (by decide) rfl w_1718 w_s64 w_1716 dX12_toldAt_88) (s_vI (pc := 91) (run_virtual (X12_arrowAt_gd _) (show 0 < 4 by decide) cy_X12_arrowAt (by decide) rfl w_1595 w_s45 w_1593 dX12_toldAt_91) (s_ir (pc := 94) rfl dX12_toldAt_94))))))))))) (s_iconst (pc := 73) dX12_toldAt_73 c_ic_m1 (s_ir (pc := 74) rfl dX12_toldAt_74))))
noncomputable def X12_toldAt_u28 (g : Nat → Int32 → Int32 → PH → Option Rs) : Kn := fun ls st h => gL 0 st (gT 11 ls 0 fun t => gI ls 1 fun x1 => gI ls 2 fun x2 => g t x1 x2 h)
noncomputable def X12_toldAt_u68 (g : Nat → Int32 → Int32 → PH → Option Rs) : Kn := fun ls st h => gL 0 st (gT 11 ls 0 fun t => gI ls 3 fun x3 => gI ls 4 fun x4 => g t x3 x4 h)
noncomputable def X12_toldAt_f0 (g28 : Nat → Int32 → Int32 → PH → Option Rs) (t : Nat) (x1 : Int32) (x2 : Int32) (h : PH) : Option Rs :=
  if ((jshr (hI h 737 t 0) x1) &&& 1) = 1 then
    nn (hR h 738 t 0) fun r1 =>
    ix x1 (hL h 58 r1) fun j2 =>
    if (hI h 3712 r1 j2) < 0 then
      g28 t x1 x2 h
    else
      nn (hR h 738 t 0) fun r3 =>
      ix x1 (hL h 58 r3) fun j4 =>
      some (some (.inl (hI h 3712 r3 j4)), h)
  else
    g28 t x1 x2 h
set_option maxRecDepth 100000 in
theorem X12_toldAt_l0 (g28 : Nat → Int32 → Int32 → PH → Option Rs) (t : Nat) (x1 : Int32) (x2 : Int32) (h : PH) : X12_toldAt_b0 (X12_toldAt_u28 g28) [some (.inr (11, t + 1)), some (.inl x1), some (.inl x2), none, none] [] h = X12_toldAt_f0 g28 t x1 x2 h := rfl
theorem X12_toldAt_m0 {g28 G28 : Nat → Int32 → Int32 → PH → Option Rs} (hg28 : ∀ a0 a1 a2 a3, Mo (g28 a0 a1 a2 a3) (G28 a0 a1 a2 a3)) (t : Nat) (x1 : Int32) (x2 : Int32) (h : PH) : Mo (X12_toldAt_f0 g28 t x1 x2 h) (X12_toldAt_f0 G28 t x1 x2 h) := (mo_if (mo_nn fun r1 => (mo_ix fun j2 => (mo_if (hg28 t x1 x2 h) (mo_nn fun r3 => (mo_ix fun j4 => mo_rf))))) (hg28 t x1 x2 h))
noncomputable def X12_toldAt_f28 (c_X12_signWith : Nat → Int32 → Int32 → PH → Option Rs) (c_X12_groupOf : Nat → Int32 → PH → Option Rs) (g68 : Nat → Int32 → Int32 → PH → Option Rs) (t : Nat) (x1 : Int32) (x2 : Int32) (h : PH) : Option Rs :=
  cI (c_X12_signWith t x1 x2 h) fun v6 h5 =>
  if v6 < 0 then
    cI (c_X12_groupOf t x2 h5) fun v8 h7 =>
    if v8 < 0 then
      g68 t x2 v6 h7
    else
      cI (c_X12_groupOf t x2 h7) fun v10 h9 =>
      cI (c_X12_signWith t x1 (10 + v10) h9) fun v12 h11 =>
      g68 t (10 + v10) v12 h11
  else
    g68 t x2 v6 h5
set_option maxRecDepth 100000 in
theorem X12_toldAt_l28 (c_X12_signWith : Nat → Int32 → Int32 → PH → Option Rs) (c_X12_groupOf : Nat → Int32 → PH → Option Rs) (g68 : Nat → Int32 → Int32 → PH → Option Rs) (t : Nat) (x1 : Int32) (x2 : Int32) (h : PH) : X12_toldAt_b28 c_X12_signWith c_X12_groupOf (X12_toldAt_u68 g68) [some (.inr (11, t + 1)), some (.inl x1), some (.inl x2), none, none] [] h = X12_toldAt_f28 c_X12_signWith c_X12_groupOf g68 t x1 x2 h := rfl
theorem X12_toldAt_m28 {c_X12_signWith : Nat → Int32 → Int32 → PH → Option Rs} {c_X12_groupOf : Nat → Int32 → PH → Option Rs} {g68 G68 : Nat → Int32 → Int32 → PH → Option Rs} (hg68 : ∀ a0 a1 a2 a3, Mo (g68 a0 a1 a2 a3) (G68 a0 a1 a2 a3)) (t : Nat) (x1 : Int32) (x2 : Int32) (h : PH) : Mo (X12_toldAt_f28 c_X12_signWith c_X12_groupOf g68 t x1 x2 h) (X12_toldAt_f28 c_X12_signWith c_X12_groupOf G68 t x1 x2 h) := (mo_cI fun v6 h5 => (mo_if (mo_cI fun v8 h7 => (mo_if (hg68 t x2 v6 h7) (mo_cI fun v10 h9 => (mo_cI fun v12 h11 => (hg68 t (10 + v10) v12 h11))))) (hg68 t x2 v6 h5)))
theorem X12_toldAt_w28 {z : CZ} {g68 : Nat → Int32 → Int32 → PH → Option Rs} (hk68 : SK (X12_toldAt_x z) 68 (X12_toldAt_u68 g68)) : SK (X12_toldAt_x z) 28 (X12_toldAt_u28 (X12_toldAt_f28 X12_signWith X12_groupOf g68)) := by
  intro ls st h r e
  obtain ⟨hst, e⟩ := gL_of e
  obtain ⟨t, q0, e⟩ := gT_of e
  obtain ⟨x1, q1, e⟩ := gI_of e
  obtain ⟨x2, q2, e⟩ := gI_of e
  rw [st_0 hst]
  exact WK.sub (canon := [some (.inr (11, t + 1)), some (.inl x1), some (.inl x2), none, none]) rfl ⟨q0, q1, q2, trivial⟩ (X12_toldAt_s28 hk68 _ _ _ _ ((X12_toldAt_l28 X12_signWith X12_groupOf g68 t x1 x2 h).trans e))
noncomputable def X12_toldAt_f68 (c_X12_rowOf : Nat → Int32 → Int32 → PH → Option Rs) (c_X12_arrowAt : Nat → Int32 → Int32 → PH → Option Rs) (t : Nat) (x3 : Int32) (x4 : Int32) (h : PH) : Option Rs :=
  if x4 < 0 then
    some (some (.inl (-1)), h)
  else
    wr (pI h 734 t 0 x4) fun h13 =>
    cI (c_X12_rowOf t x4 x3 h13) fun v15 h14 =>
    cI (c_X12_arrowAt t x4 v15 h14) fun v17 h16 =>
    some (some (.inl v17), h16)
set_option maxRecDepth 100000 in
theorem X12_toldAt_l68 (c_X12_rowOf : Nat → Int32 → Int32 → PH → Option Rs) (c_X12_arrowAt : Nat → Int32 → Int32 → PH → Option Rs) (t : Nat) (x3 : Int32) (x4 : Int32) (h : PH) : X12_toldAt_b68 c_X12_rowOf c_X12_arrowAt [some (.inr (11, t + 1)), none, none, some (.inl x3), some (.inl x4)] [] h = X12_toldAt_f68 c_X12_rowOf c_X12_arrowAt t x3 x4 h := rfl
theorem X12_toldAt_w68 {z : CZ} : SK (X12_toldAt_x z) 68 (X12_toldAt_u68 (X12_toldAt_f68 X12_rowOf X12_arrowAt)) := by
  intro ls st h r e
  obtain ⟨hst, e⟩ := gL_of e
  obtain ⟨t, q0, e⟩ := gT_of e
  obtain ⟨x3, q1, e⟩ := gI_of e
  obtain ⟨x4, q2, e⟩ := gI_of e
  rw [st_0 hst]
  exact WK.sub (canon := [some (.inr (11, t + 1)), none, none, some (.inl x3), some (.inl x4)]) rfl ⟨q0, q1, q2, trivial⟩ (X12_toldAt_s68 _ _ _ _ ((X12_toldAt_l68 X12_rowOf X12_arrowAt t x3 x4 h).trans e))
noncomputable def X12_toldAt_g68 (t : Nat) (x3 : Int32) (x4 : Int32) (h : PH) : Option Rs := X12_toldAt_f68 X12_rowOf X12_arrowAt t x3 x4 h
noncomputable def X12_toldAt_g28 (t : Nat) (x1 : Int32) (x2 : Int32) (h : PH) : Option Rs := X12_toldAt_f28 X12_signWith X12_groupOf (X12_toldAt_g68) t x1 x2 h
noncomputable def X12_toldAt_g0 (t : Nat) (x1 : Int32) (x2 : Int32) (h : PH) : Option Rs := X12_toldAt_f0 (X12_toldAt_g28) t x1 x2 h
theorem X12_toldAt_v68 {z : CZ} : SK (X12_toldAt_x z) 68 (X12_toldAt_u68 (X12_toldAt_g68)) := X12_toldAt_w68
theorem X12_toldAt_v28 {z : CZ} : SK (X12_toldAt_x z) 28 (X12_toldAt_u28 (X12_toldAt_g28)) := X12_toldAt_w28 (X12_toldAt_v68)
noncomputable def X12_toldAt (t : Nat) (x1 : Int32) (x2 : Int32) (h : PH) : Option Rs := X12_toldAt_g0 t x1 x2 h
noncomputable abbrev X12_toldAt_F : List PV → PH → Option Rs := FW_T11II (X12_toldAt)
set_option maxRecDepth 100000 in
theorem X12_toldAt_gd (l : Launch) : Gd l 4 yX12_toldAt cX12_toldAt 5 (some .int) (X12_toldAt_F)   := Gd_of (by decide +kernel) (fun z hzl as h r e => by
  obtain ⟨hst, e⟩ := gL_of e
  obtain ⟨t, q0, e⟩ := gT_of e
  obtain ⟨x1, q1, e⟩ := gI_of e
  obtain ⟨x2, q2, e⟩ := gI_of e
  rw [st_3 hst q0 q1 q2]
  exact ⟨show 3 ≤ 5 by decide, X12_toldAt_s0 (X12_toldAt_v28) _ _ _ _ ((X12_toldAt_l0 (X12_toldAt_g28) t x1 x2 h).trans e)⟩)
abbrev X12_onlyFrom_x (z : CZ) : CX := mx RX12 cX12_onlyFrom 7 2 (some .int) "onlyFrom" z
noncomputable def X12_onlyFrom_b0 (k8 : Kn) : Kn := (a_ic (-1) (a_is 3 (a_ic 0 (a_is 4 (a_ic 0 (a_is 5 k8))))))
set_option maxRecDepth 100000 in
theorem X12_onlyFrom_s0 {z : CZ} {k8 : Kn} (hk8 : SK (X12_onlyFrom_x z) 8 k8) : SK (X12_onlyFrom_x z) 0 (X12_onlyFrom_b0 k8) := (s_iconst (pc := 0) dX12_onlyFrom_0 c_ic_m1 (s_istoren (pc := 1) dX12_onlyFrom_1 rfl (show 3 < 7 by decide) (s_iconst (pc := 2) dX12_onlyFrom_2 c_ic_0 (s_istore (pc := 3) dX12_onlyFrom_3 (show 4 < 7 by decide) (s_iconst (pc := 5) dX12_onlyFrom_5 c_ic_0 (s_istore (pc := 6) dX12_onlyFrom_6 (show 5 < 7 by decide) hk8))))))
noncomputable def X12_onlyFrom_b8 (c_X12_passFrom : Nat → Int32 → Int32 → PH → Option Rs) (k41 : Kn) : Kn := (a_il 5 (a_ic 8 (a_lt (a_al 0 (a_il 1 (a_il 5 (a_vI 11 2 (FW_T11II c_X12_passFrom) (a_is 6 (a_il 6 (a_n k41 (a_il 6 (a_il 2 (a_eq k41 (a_il 5 (a_is 3 (a_inc 4 1 k41))))))))))))) (a_il 4 (a_ic 1 (a_eq (a_il 3 a_ir) (a_ic (-1) a_ir)))))))
set_option maxRecDepth 100000 in
theorem X12_onlyFrom_s8 {z : CZ} {k41 : Kn} (hk41 : SK (X12_onlyFrom_x z) 41 k41) : SK (X12_onlyFrom_x z) 8 (X12_onlyFrom_b8 X12_passFrom k41) := (s_iload (pc := 8) dX12_onlyFrom_8 (s_bipush (pc := 10) dX12_onlyFrom_10 c_bp_8 (s_cmpge (pc := 12) dX12_onlyFrom_12 (by decide) (s_iload (pc := 47) dX12_onlyFrom_47 (s_iconst (pc := 49) dX12_onlyFrom_49 c_ic_1 (s_cmpne (pc := 50) dX12_onlyFrom_50 (by decide) (s_iconst (pc := 57) dX12_onlyFrom_57 c_ic_m1 (s_ir (pc := 58) rfl dX12_onlyFrom_58)) (s_iloadn (pc := 53) dX12_onlyFrom_53 rfl (s_goto (pc := 54) dX12_onlyFrom_54 (by decide) (s_ir (pc := 58) rfl dX12_onlyFrom_58)))))) (s_aloadn (pc := 15) dX12_onlyFrom_15 rfl (s_iloadn (pc := 16) dX12_onlyFrom_16 rfl (s_iload (pc := 17) dX12_onlyFrom_17 (s_vI (pc := 19) (run_virtual (X12_passFrom_gd _) (show 1 < 2 by decide) cy_X12_passFrom (by decide) rfl w_1694 w_s59 w_1692 dX12_onlyFrom_19) (s_istore (pc := 22) dX12_onlyFrom_22 (show 6 < 7 by decide) (s_iload (pc := 24) dX12_onlyFrom_24 (s_iflt (pc := 26) dX12_onlyFrom_26 (by decide) hk41 (s_iload (pc := 29) dX12_onlyFrom_29 (s_iloadn (pc := 31) dX12_onlyFrom_31 rfl (s_cmpeq (pc := 32) dX12_onlyFrom_32 (by decide) hk41 (s_iload (pc := 35) dX12_onlyFrom_35 (s_istoren (pc := 37) dX12_onlyFrom_37 rfl (show 3 < 7 by decide) (s_iinc (pc := 38) dX12_onlyFrom_38 c_ic_1 (show 4 < 7 by decide) hk41))))))))))))))))
noncomputable def X12_onlyFrom_b41 (k8 : Kn) : Kn := (a_inc 5 1 k8)
set_option maxRecDepth 100000 in
theorem X12_onlyFrom_s41 {z : CZ} {k8 : Kn} (hk8 : SK (X12_onlyFrom_x z) 8 k8) : SK (X12_onlyFrom_x z) 41 (X12_onlyFrom_b41 k8) := (s_iinc (pc := 41) dX12_onlyFrom_41 c_ic_1 (show 5 < 7 by decide) (s_goto (pc := 44) dX12_onlyFrom_44 (by decide) hk8))
noncomputable def X12_onlyFrom_u8 (g : Nat → Int32 → Int32 → Int32 → Int32 → Int32 → PH → Option Rs) : Kn := fun ls st h => gL 0 st (gT 11 ls 0 fun t => gI ls 1 fun x1 => gI ls 2 fun x2 => gI ls 3 fun x3 => gI ls 4 fun x4 => gI ls 5 fun x5 => g t x1 x2 x3 x4 x5 h)
noncomputable def X12_onlyFrom_u41 (g : Nat → Int32 → Int32 → Int32 → Int32 → Int32 → PH → Option Rs) : Kn := fun ls st h => gL 0 st (gT 11 ls 0 fun t => gI ls 1 fun x1 => gI ls 2 fun x2 => gI ls 3 fun x3 => gI ls 4 fun x4 => gI ls 5 fun x5 => g t x1 x2 x3 x4 x5 h)
noncomputable def X12_onlyFrom_f0 (g8 : Nat → Int32 → Int32 → Int32 → Int32 → Int32 → PH → Option Rs) (t : Nat) (x1 : Int32) (x2 : Int32) (h : PH) : Option Rs :=
  g8 t x1 x2 (-1) 0 0 h
set_option maxRecDepth 100000 in
theorem X12_onlyFrom_l0 (g8 : Nat → Int32 → Int32 → Int32 → Int32 → Int32 → PH → Option Rs) (t : Nat) (x1 : Int32) (x2 : Int32) (h : PH) : X12_onlyFrom_b0 (X12_onlyFrom_u8 g8) [some (.inr (11, t + 1)), some (.inl x1), some (.inl x2), none, none, none, none] [] h = X12_onlyFrom_f0 g8 t x1 x2 h := rfl
theorem X12_onlyFrom_m0 {g8 G8 : Nat → Int32 → Int32 → Int32 → Int32 → Int32 → PH → Option Rs} (hg8 : ∀ a0 a1 a2 a3 a4 a5 a6, Mo (g8 a0 a1 a2 a3 a4 a5 a6) (G8 a0 a1 a2 a3 a4 a5 a6)) (t : Nat) (x1 : Int32) (x2 : Int32) (h : PH) : Mo (X12_onlyFrom_f0 g8 t x1 x2 h) (X12_onlyFrom_f0 G8 t x1 x2 h) := (hg8 t x1 x2 (-1) 0 0 h)
noncomputable def X12_onlyFrom_f8 (c_X12_passFrom : Nat → Int32 → Int32 → PH → Option Rs) (g41 : Nat → Int32 → Int32 → Int32 → Int32 → Int32 → PH → Option Rs) (t : Nat) (x1 : Int32) (x2 : Int32) (x3 : Int32) (x4 : Int32) (x5 : Int32) (h : PH) : Option Rs :=
  if x5 < 8 then
    cI (c_X12_passFrom t x1 x5 h) fun v2 h1 =>
    if v2 < 0 then
      g41 t x1 x2 x3 x4 x5 h1
    else
      if v2 = x2 then
        g41 t x1 x2 x3 x4 x5 h1
      else
        g41 t x1 x2 x5 (x4 + 1) x5 h1
  else
    if x4 = 1 then
      some (some (.inl x3), h)
    else
      some (some (.inl (-1)), h)
set_option maxRecDepth 100000 in
theorem X12_onlyFrom_l8 (c_X12_passFrom : Nat → Int32 → Int32 → PH → Option Rs) (g41 : Nat → Int32 → Int32 → Int32 → Int32 → Int32 → PH → Option Rs) (t : Nat) (x1 : Int32) (x2 : Int32) (x3 : Int32) (x4 : Int32) (x5 : Int32) (h : PH) : X12_onlyFrom_b8 c_X12_passFrom (X12_onlyFrom_u41 g41) [some (.inr (11, t + 1)), some (.inl x1), some (.inl x2), some (.inl x3), some (.inl x4), some (.inl x5), none] [] h = X12_onlyFrom_f8 c_X12_passFrom g41 t x1 x2 x3 x4 x5 h := rfl
theorem X12_onlyFrom_m8 {c_X12_passFrom : Nat → Int32 → Int32 → PH → Option Rs} {g41 G41 : Nat → Int32 → Int32 → Int32 → Int32 → Int32 → PH → Option Rs} (hg41 : ∀ a0 a1 a2 a3 a4 a5 a6, Mo (g41 a0 a1 a2 a3 a4 a5 a6) (G41 a0 a1 a2 a3 a4 a5 a6)) (t : Nat) (x1 : Int32) (x2 : Int32) (x3 : Int32) (x4 : Int32) (x5 : Int32) (h : PH) : Mo (X12_onlyFrom_f8 c_X12_passFrom g41 t x1 x2 x3 x4 x5 h) (X12_onlyFrom_f8 c_X12_passFrom G41 t x1 x2 x3 x4 x5 h) := (mo_if (mo_cI fun v2 h1 => (mo_if (hg41 t x1 x2 x3 x4 x5 h1) (mo_if (hg41 t x1 x2 x3 x4 x5 h1) (hg41 t x1 x2 x5 (x4 + 1) x5 h1)))) (mo_if mo_rf mo_rf))
theorem X12_onlyFrom_w8 {z : CZ} {g41 : Nat → Int32 → Int32 → Int32 → Int32 → Int32 → PH → Option Rs} (hk41 : SK (X12_onlyFrom_x z) 41 (X12_onlyFrom_u41 g41)) : SK (X12_onlyFrom_x z) 8 (X12_onlyFrom_u8 (X12_onlyFrom_f8 X12_passFrom g41)) := by
  intro ls st h r e
  obtain ⟨hst, e⟩ := gL_of e
  obtain ⟨t, q0, e⟩ := gT_of e
  obtain ⟨x1, q1, e⟩ := gI_of e
  obtain ⟨x2, q2, e⟩ := gI_of e
  obtain ⟨x3, q3, e⟩ := gI_of e
  obtain ⟨x4, q4, e⟩ := gI_of e
  obtain ⟨x5, q5, e⟩ := gI_of e
  rw [st_0 hst]
  exact WK.sub (canon := [some (.inr (11, t + 1)), some (.inl x1), some (.inl x2), some (.inl x3), some (.inl x4), some (.inl x5), none]) rfl ⟨q0, q1, q2, q3, q4, q5, trivial⟩ (X12_onlyFrom_s8 hk41 _ _ _ _ ((X12_onlyFrom_l8 X12_passFrom g41 t x1 x2 x3 x4 x5 h).trans e))
noncomputable def X12_onlyFrom_f41 (g8 : Nat → Int32 → Int32 → Int32 → Int32 → Int32 → PH → Option Rs) (t : Nat) (x1 : Int32) (x2 : Int32) (x3 : Int32) (x4 : Int32) (x5 : Int32) (h : PH) : Option Rs :=
  g8 t x1 x2 x3 x4 (x5 + 1) h
set_option maxRecDepth 100000 in
theorem X12_onlyFrom_l41 (g8 : Nat → Int32 → Int32 → Int32 → Int32 → Int32 → PH → Option Rs) (t : Nat) (x1 : Int32) (x2 : Int32) (x3 : Int32) (x4 : Int32) (x5 : Int32) (h : PH) : X12_onlyFrom_b41 (X12_onlyFrom_u8 g8) [some (.inr (11, t + 1)), some (.inl x1), some (.inl x2), some (.inl x3), some (.inl x4), some (.inl x5), none] [] h = X12_onlyFrom_f41 g8 t x1 x2 x3 x4 x5 h := rfl
theorem X12_onlyFrom_m41 {g8 G8 : Nat → Int32 → Int32 → Int32 → Int32 → Int32 → PH → Option Rs} (hg8 : ∀ a0 a1 a2 a3 a4 a5 a6, Mo (g8 a0 a1 a2 a3 a4 a5 a6) (G8 a0 a1 a2 a3 a4 a5 a6)) (t : Nat) (x1 : Int32) (x2 : Int32) (x3 : Int32) (x4 : Int32) (x5 : Int32) (h : PH) : Mo (X12_onlyFrom_f41 g8 t x1 x2 x3 x4 x5 h) (X12_onlyFrom_f41 G8 t x1 x2 x3 x4 x5 h) := (hg8 t x1 x2 x3 x4 (x5 + 1) h)
theorem X12_onlyFrom_w41 {z : CZ} {g8 : Nat → Int32 → Int32 → Int32 → Int32 → Int32 → PH → Option Rs} (hk8 : SK (X12_onlyFrom_x z) 8 (X12_onlyFrom_u8 g8)) : SK (X12_onlyFrom_x z) 41 (X12_onlyFrom_u41 (X12_onlyFrom_f41 g8)) := by
  intro ls st h r e
  obtain ⟨hst, e⟩ := gL_of e
  obtain ⟨t, q0, e⟩ := gT_of e
  obtain ⟨x1, q1, e⟩ := gI_of e
  obtain ⟨x2, q2, e⟩ := gI_of e
  obtain ⟨x3, q3, e⟩ := gI_of e
  obtain ⟨x4, q4, e⟩ := gI_of e
  obtain ⟨x5, q5, e⟩ := gI_of e
  rw [st_0 hst]
  exact WK.sub (canon := [some (.inr (11, t + 1)), some (.inl x1), some (.inl x2), some (.inl x3), some (.inl x4), some (.inl x5), none]) rfl ⟨q0, q1, q2, q3, q4, q5, trivial⟩ (X12_onlyFrom_s41 hk8 _ _ _ _ ((X12_onlyFrom_l41 g8 t x1 x2 x3 x4 x5 h).trans e))
noncomputable def X12_onlyFrom_g0 (G : (Nat → Int32 → Int32 → Int32 → Int32 → Int32 → PH → Option Rs)) (t : Nat) (x1 : Int32) (x2 : Int32) (h : PH) : Option Rs := X12_onlyFrom_f0 (G) t x1 x2 h
noncomputable def X12_onlyFrom_g41 (G : (Nat → Int32 → Int32 → Int32 → Int32 → Int32 → PH → Option Rs)) (t : Nat) (x1 : Int32) (x2 : Int32) (x3 : Int32) (x4 : Int32) (x5 : Int32) (h : PH) : Option Rs := X12_onlyFrom_f41 (G) t x1 x2 x3 x4 x5 h
noncomputable def X12_onlyFrom_g8 (G : (Nat → Int32 → Int32 → Int32 → Int32 → Int32 → PH → Option Rs)) (t : Nat) (x1 : Int32) (x2 : Int32) (x3 : Int32) (x4 : Int32) (x5 : Int32) (h : PH) : Option Rs := X12_onlyFrom_f8 X12_passFrom (X12_onlyFrom_g41 G) t x1 x2 x3 x4 x5 h
theorem X12_onlyFrom_v41 {z : CZ} {G : (Nat → Int32 → Int32 → Int32 → Int32 → Int32 → PH → Option Rs)} (hG8 : SK (X12_onlyFrom_x z) 8 (X12_onlyFrom_u8 (G))) : SK (X12_onlyFrom_x z) 41 (X12_onlyFrom_u41 (X12_onlyFrom_g41 G)) := X12_onlyFrom_w41 hG8
theorem X12_onlyFrom_v8 {z : CZ} {G : (Nat → Int32 → Int32 → Int32 → Int32 → Int32 → PH → Option Rs)} (hG8 : SK (X12_onlyFrom_x z) 8 (X12_onlyFrom_u8 (G))) : SK (X12_onlyFrom_x z) 8 (X12_onlyFrom_u8 (X12_onlyFrom_g8 G)) := X12_onlyFrom_w8 (X12_onlyFrom_v41 hG8)
noncomputable def X12_onlyFrom_fam : Nat → (Nat → Int32 → Int32 → Int32 → Int32 → Int32 → PH → Option Rs)
  | 0 => fun _ _ _ _ _ _ _ => none
  | n + 1 => X12_onlyFrom_g8 (X12_onlyFrom_fam n)
theorem X12_onlyFrom_k {z : CZ} : ∀ n, SK (X12_onlyFrom_x z) 8 (X12_onlyFrom_u8 (X12_onlyFrom_fam n))
  | 0 => (fun ls st h r e => by
      obtain ⟨_, e⟩ := gL_of e
      obtain ⟨_, _, e⟩ := gT_of e
      obtain ⟨_, _, e⟩ := gI_of e
      obtain ⟨_, _, e⟩ := gI_of e
      obtain ⟨_, _, e⟩ := gI_of e
      obtain ⟨_, _, e⟩ := gI_of e
      obtain ⟨_, _, e⟩ := gI_of e
      cases e)
  | n + 1 => by
    obtain ih8 := X12_onlyFrom_k n
    exact X12_onlyFrom_v8 ih8
theorem X12_onlyFrom_n0 {G G' : (Nat → Int32 → Int32 → Int32 → Int32 → Int32 → PH → Option Rs)} (hg8 : ∀ a0 a1 a2 a3 a4 a5 a6, Mo ((G) a0 a1 a2 a3 a4 a5 a6) ((G') a0 a1 a2 a3 a4 a5 a6)) (t : Nat) (x1 : Int32) (x2 : Int32) (h : PH) : Mo (X12_onlyFrom_g0 G t x1 x2 h) (X12_onlyFrom_g0 G' t x1 x2 h) := X12_onlyFrom_m0 hg8 t x1 x2 h
theorem X12_onlyFrom_n41 {G G' : (Nat → Int32 → Int32 → Int32 → Int32 → Int32 → PH → Option Rs)} (hg8 : ∀ a0 a1 a2 a3 a4 a5 a6, Mo ((G) a0 a1 a2 a3 a4 a5 a6) ((G') a0 a1 a2 a3 a4 a5 a6)) (t : Nat) (x1 : Int32) (x2 : Int32) (x3 : Int32) (x4 : Int32) (x5 : Int32) (h : PH) : Mo (X12_onlyFrom_g41 G t x1 x2 x3 x4 x5 h) (X12_onlyFrom_g41 G' t x1 x2 x3 x4 x5 h) := X12_onlyFrom_m41 hg8 t x1 x2 x3 x4 x5 h
theorem X12_onlyFrom_n8 {G G' : (Nat → Int32 → Int32 → Int32 → Int32 → Int32 → PH → Option Rs)} (hg8 : ∀ a0 a1 a2 a3 a4 a5 a6, Mo ((G) a0 a1 a2 a3 a4 a5 a6) ((G') a0 a1 a2 a3 a4 a5 a6)) (t : Nat) (x1 : Int32) (x2 : Int32) (x3 : Int32) (x4 : Int32) (x5 : Int32) (h : PH) : Mo (X12_onlyFrom_g8 G t x1 x2 x3 x4 x5 h) (X12_onlyFrom_g8 G' t x1 x2 x3 x4 x5 h) := X12_onlyFrom_m8 (fun a0 a1 a2 a3 a4 a5 a6 => X12_onlyFrom_n41 hg8 a0 a1 a2 a3 a4 a5 a6) t x1 x2 x3 x4 x5 h
theorem X12_onlyFrom_fm : ∀ n, (∀ a0 a1 a2 a3 a4 a5 a6, Mo ((X12_onlyFrom_fam n) a0 a1 a2 a3 a4 a5 a6) ((X12_onlyFrom_fam (n + 1)) a0 a1 a2 a3 a4 a5 a6))
  | 0 => fun _ _ _ _ _ _ _ => mo_no
  | n + 1 => by
    obtain ih8 := X12_onlyFrom_fm n
    exact fun a0 a1 a2 a3 a4 a5 a6 => X12_onlyFrom_n8 ih8 a0 a1 a2 a3 a4 a5 a6
noncomputable def X12_onlyFrom (t : Nat) (x1 : Int32) (x2 : Int32) (h : PH) : Option Rs := lim (fun n => X12_onlyFrom_g0 (X12_onlyFrom_fam n) t x1 x2 h)
theorem X12_onlyFrom_iff {t : Nat} {x1 : Int32} {x2 : Int32} {h : PH} {r : Rs} : X12_onlyFrom t x1 x2 h = some r ↔ ∃ n, X12_onlyFrom_g0 (X12_onlyFrom_fam n) t x1 x2 h = some r := lim_iff (fun n => by
  obtain ih8 := X12_onlyFrom_fm n
  exact X12_onlyFrom_n0 ih8 t x1 x2 h)
noncomputable abbrev X12_onlyFrom_F : List PV → PH → Option Rs := FW_T11II (X12_onlyFrom)
set_option maxRecDepth 100000 in
theorem X12_onlyFrom_gd (l : Launch) : Gd l 2 yX12_onlyFrom cX12_onlyFrom 7 (some .int) (X12_onlyFrom_F)   := Gd_of (by decide +kernel) (fun z hzl as h r e => by
  obtain ⟨hst, e⟩ := gL_of e
  obtain ⟨t, q0, e⟩ := gT_of e
  obtain ⟨x1, q1, e⟩ := gI_of e
  obtain ⟨x2, q2, e⟩ := gI_of e
  rw [st_3 hst q0 q1 q2]
  obtain ⟨n, e⟩ := lim_of e
  obtain hG8 := X12_onlyFrom_k (z := z) n
  exact ⟨show 3 ≤ 7 by decide, X12_onlyFrom_s0 hG8 _ _ _ _ ((X12_onlyFrom_l0 (X12_onlyFrom_fam n) t x1 x2 h).trans e)⟩)
