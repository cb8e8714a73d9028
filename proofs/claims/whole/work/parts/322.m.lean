abbrev X12_mark_x (z : CZ) : CX := mx RX12 cX12_mark 5 2 (some .int) "mark" z
noncomputable def X12_mark_b0 (c_X12_isSheet : Int32 → PH → Option Rs) (c_X12_in : Int32 → Int32 → Int32 → PH → Option Rs) (k82 : Kn) : Kn := (a_il 1 (a_sI 1 (FW_I c_X12_isSheet) (a_z (a_ic (-1000000001) a_ir) (a_al 0 (a_gR 11 745 62 (a_il 1 (a_ald 62 3968 (a_n (a_ic (-1000000011) a_ir) (a_il 2 (a_ic 0 (a_al 0 (a_gR 11 746 63 (a_il 1 (a_ald 63 4032 (a_ic 1 (a_b (fun a b => a - b) (a_sI 3 (FW_III c_X12_in) (a_z (a_ic (-1000000013) a_ir) (a_al 0 (a_gR 11 747 64 (a_ic 24 (a_il 1 (a_b (fun a b => a * b) (a_il 2 (a_b (fun a b => a + b) (a_ald 64 4096 (a_is 4 (a_al 0 (a_gR 11 747 64 (a_ic 24 (a_il 1 (a_b (fun a b => a * b) (a_il 2 (a_b (fun a b => a + b) (a_al 0 (a_gR 11 745 62 (a_il 1 (a_ald 62 3968 (a_z (a_il 3 (a_u jb k82)) (a_il 3 (a_u js k82)))))))))))))))))))))))))))))))))))))))))
set_option maxRecDepth 100000 in
theorem X12_mark_s0 {z : CZ} {k82 : Kn} (hk82 : SK (X12_mark_x z) 82 k82) : SK (X12_mark_x z) 0 (X12_mark_b0 X12_isSheet X12_in k82) := (s_iloadn (pc := 0) dX12_mark_0 rfl (s_sI (pc := 1) (run_static (X12_isSheet_gd _) (show 1 < 2 by decide) cy_X12_isSheet w_1825 w_1824 dX12_mark_1) (s_ifne (pc := 4) dX12_mark_4 (by decide) (s_aloadn (pc := 10) dX12_mark_10 rfl (s_gR (pc := 11) (f := 41) ko_11 (by decide) rfl rfl w_1336 dX12_mark_11 (s_iloadn (pc := 14) dX12_mark_14 rfl (s_iald (pc := 15) (by decide) (by decide) rfl rfl rfl dX12_mark_15 (s_ifge (pc := 16) dX12_mark_16 (by decide) (s_iloadn (pc := 23) dX12_mark_23 rfl (s_iconst (pc := 24) dX12_mark_24 c_ic_0 (s_aloadn (pc := 25) dX12_mark_25 rfl (s_gR (pc := 26) (f := 42) ko_11 (by decide) rfl rfl w_1337 dX12_mark_26 (s_iloadn (pc := 29) dX12_mark_29 rfl (s_iald (pc := 30) (by decide) (by decide) rfl rfl rfl dX12_mark_30 (s_iconst (pc := 31) dX12_mark_31 c_ic_1 (s_isub (pc := 32) dX12_mark_32 (s_sI (pc := 33) (run_static (X12_in_gd _) (show 0 < 2 by decide) cy_X12_in w_1464 w_1463 dX12_mark_33) (s_ifne (pc := 36) dX12_mark_36 (by decide) (s_aloadn (pc := 43) dX12_mark_43 rfl (s_gR (pc := 44) (f := 43) ko_11 (by decide) rfl rfl w_1338 dX12_mark_44 (s_bipush (pc := 47) dX12_mark_47 c_bp_24 (s_iloadn (pc := 49) dX12_mark_49 rfl (s_imul (pc := 50) dX12_mark_50 (s_iloadn (pc := 51) dX12_mark_51 rfl (s_iadd (pc := 52) dX12_mark_52 (s_iald (pc := 53) (by decide) (by decide) rfl rfl rfl dX12_mark_53 (s_istore (pc := 54) dX12_mark_54 (show 4 < 5 by decide) (s_aloadn (pc := 56) dX12_mark_56 rfl (s_gR (pc := 57) (f := 43) ko_11 (by decide) rfl rfl w_1338 dX12_mark_57 (s_bipush (pc := 60) dX12_mark_60 c_bp_24 (s_iloadn (pc := 62) dX12_mark_62 rfl (s_imul (pc := 63) dX12_mark_63 (s_iloadn (pc := 64) dX12_mark_64 rfl (s_iadd (pc := 65) dX12_mark_65 (s_aloadn (pc := 66) dX12_mark_66 rfl (s_gR (pc := 67) (f := 41) ko_11 (by decide) rfl rfl w_1336 dX12_mark_67 (s_iloadn (pc := 70) dX12_mark_70 rfl (s_iald (pc := 71) (by decide) (by decide) rfl rfl rfl dX12_mark_71 (s_ifne (pc := 72) dX12_mark_72 (by decide) (s_iloadn (pc := 80) dX12_mark_80 rfl (s_i2s (pc := 81) dX12_mark_81 hk82)) (s_iloadn (pc := 75) dX12_mark_75 rfl (s_i2b (pc := 76) dX12_mark_76 (s_goto (pc := 77) dX12_mark_77 (by decide) hk82)))))))))))))))))))))))) (s_ldcw (pc := 39) w_1833 dX12_mark_39 (s_ir (pc := 42) rfl dX12_mark_42)))))))))))) (s_ldcw (pc := 19) w_1832 dX12_mark_19 (s_ir (pc := 22) rfl dX12_mark_22))))))) (s_ldc (pc := 7) w_1466 dX12_mark_7 (s_ir (pc := 9) rfl dX12_mark_9)))))
noncomputable def X12_mark_b82 : Kn := (a_ast 64 4096 (fun a => a) (a_il 4 a_ir))
set_option maxRecDepth 100000 in
theorem X12_mark_s82 {z : CZ} : SK (X12_mark_x z) 82 (X12_mark_b82) := (s_iast (pc := 82) (by decide) (by decide) rfl rfl rfl dX12_mark_82 (s_iload (pc := 83) dX12_mark_83 (s_ir (pc := 85) rfl dX12_mark_85)))
noncomputable def X12_mark_u82 (g : Int32 → Int32 → Int32 → Nat → PH → Option Rs) : Kn := fun ls st h => gL 3 st (gI ls 4 fun x4 => gI (st.map some) 0 fun s0 => gI (st.map some) 1 fun s1 => gR 64 (st.map some) 2 fun s2 => g x4 s0 s1 s2 h)
noncomputable def X12_mark_f0 (c_X12_isSheet : Int32 → PH → Option Rs) (c_X12_in : Int32 → Int32 → Int32 → PH → Option Rs) (g82 : Int32 → Int32 → Int32 → Nat → PH → Option Rs) (t : Nat) (x1 : Int32) (x2 : Int32) (x3 : Int32) (h : PH) : Option Rs :=
  cI (c_X12_isSheet x1 h) fun v2 h1 =>
  if v2 = 0 then
    some (some (.inl (-1000000001)), h1)
  else
    nn (hR h1 745 t 0) fun r3 =>
    ix x1 (hL h1 62 r3) fun j4 =>
    if (hI h1 3968 r3 j4) < 0 then
      some (some (.inl (-1000000011)), h1)
    else
      nn (hR h1 746 t 0) fun r5 =>
      ix x1 (hL h1 63 r5) fun j6 =>
      cI (c_X12_in x2 0 ((hI h1 4032 r5 j6) - 1) h1) fun v8 h7 =>
      if v8 = 0 then
        some (some (.inl (-1000000013)), h7)
      else
        nn (hR h7 747 t 0) fun r9 =>
        ix ((24 * x1) + x2) (hL h7 64 r9) fun j10 =>
        nn (hR h7 745 t 0) fun r11 =>
        ix x1 (hL h7 62 r11) fun j12 =>
        if (hI h7 3968 r11 j12) = 0 then
          g82 (hI h7 4096 r9 j10) (jb x3) ((24 * x1) + x2) (hR h7 747 t 0) h7
        else
          g82 (hI h7 4096 r9 j10) (js x3) ((24 * x1) + x2) (hR h7 747 t 0) h7
set_option maxRecDepth 100000 in
theorem X12_mark_l0 (c_X12_isSheet : Int32 → PH → Option Rs) (c_X12_in : Int32 → Int32 → Int32 → PH → Option Rs) (g82 : Int32 → Int32 → Int32 → Nat → PH → Option Rs) (t : Nat) (x1 : Int32) (x2 : Int32) (x3 : Int32) (h : PH) : X12_mark_b0 c_X12_isSheet c_X12_in (X12_mark_u82 g82) [some (.inr (11, t + 1)), some (.inl x1), some (.inl x2), some (.inl x3), none] [] h = X12_mark_f0 c_X12_isSheet c_X12_in g82 t x1 x2 x3 h := rfl
theorem X12_mark_m0 {c_X12_isSheet : Int32 → PH → Option Rs} {c_X12_in : Int32 → Int32 → Int32 → PH → Option Rs} {g82 G82 : Int32 → Int32 → Int32 → Nat → PH → Option Rs} (hg82 : ∀ a0 a1 a2 a3 a4, Mo (g82 a0 a1 a2 a3 a4) (G82 a0 a1 a2 a3 a4)) (t : Nat) (x1 : Int32) (x2 : Int32) (x3 : Int32) (h : PH) : Mo (X12_mark_f0 c_X12_isSheet c_X12_in g82 t x1 x2 x3 h) (X12_mark_f0 c_X12_isSheet c_X12_in G82 t x1 x2 x3 h) := (mo_cI fun v2 h1 => (mo_if mo_rf (mo_nn fun r3 => (mo_ix fun j4 => (mo_if mo_rf (mo_nn fun r5 => (mo_ix fun j6 => (mo_cI fun v8 h7 => (mo_if mo_rf (mo_nn fun r9 => (mo_ix fun j10 => (mo_nn fun r11 => (mo_ix fun j12 => (mo_if (hg82 (hI h7 4096 r9 j10) (jb x3) ((24 * x1) + x2) (hR h7 747 t 0) h7) (hg82 (hI h7 4096 r9 j10) (js x3) ((24 * x1) + x2) (hR h7 747 t 0) h7)))))))))))))))
noncomputable def X12_mark_f82 (x4 : Int32) (s0 : Int32) (s1 : Int32) (s2 : Nat) (h : PH) : Option Rs :=
  nn s2 fun r13 =>
  ix s1 (hL h 64 r13) fun j14 =>
  wr (pI h 4096 r13 j14 s0) fun h15 =>
  some (some (.inl x4), h15)
set_option maxRecDepth 100000 in
theorem X12_mark_l82 (x4 : Int32) (s0 : Int32) (s1 : Int32) (s2 : Nat) (h : PH) : X12_mark_b82 [none, none, none, none, some (.inl x4)] [.inl s0, .inl s1, .inr (64, s2)] h = X12_mark_f82 x4 s0 s1 s2 h := rfl
theorem X12_mark_w82 {z : CZ} : SK (X12_mark_x z) 82 (X12_mark_u82 (X12_mark_f82)) := by
  intro ls st h r e
  obtain ⟨hst, e⟩ := gL_of e
  obtain ⟨x4, q0, e⟩ := gI_of e
  obtain ⟨s0, q1, e⟩ := gI_of e
  obtain ⟨s1, q2, e⟩ := gI_of e
  obtain ⟨s2, q3, e⟩ := gR_of e
  rw [st_3 hst q1 q2 q3]
  exact WK.sub (canon := [none, none, none, none, some (.inl x4)]) rfl ⟨q0, trivial⟩ (X12_mark_s82 _ _ _ _ ((X12_mark_l82 x4 s0 s1 s2 h).trans e))
noncomputable def X12_mark_g82 (x4 : Int32) (s0 : Int32) (s1 : Int32) (s2 : Nat) (h : PH) : Option Rs := X12_mark_f82 x4 s0 s1 s2 h
noncomputable def X12_mark_g0 (t : Nat) (x1 : Int32) (x2 : Int32) (x3 : Int32) (h : PH) : Option Rs := X12_mark_f0 X12_isSheet X12_in (X12_mark_g82) t x1 x2 x3 h
theorem X12_mark_v82 {z : CZ} : SK (X12_mark_x z) 82 (X12_mark_u82 (X12_mark_g82)) := X12_mark_w82
noncomputable def X12_mark (t : Nat) (x1 : Int32) (x2 : Int32) (x3 : Int32) (h : PH) : Option Rs := X12_mark_g0 t x1 x2 x3 h
noncomputable abbrev X12_mark_F : List PV → PH → Option Rs := FW_T11III (X12_mark)
set_option maxRecDepth 100000 in
theorem X12_mark_gd (l : Launch) : Gd l 2 yX12_mark cX12_mark 5 (some .int) (X12_mark_F)   := Gd_of (by decide +kernel) (fun z hzl as h r e => by
  obtain ⟨hst, e⟩ := gL_of e
  obtain ⟨t, q0, e⟩ := gT_of e
  obtain ⟨x1, q1, e⟩ := gI_of e
  obtain ⟨x2, q2, e⟩ := gI_of e
  obtain ⟨x3, q3, e⟩ := gI_of e
  rw [st_4 hst q0 q1 q2 q3]
  exact ⟨show 4 ≤ 5 by decide, X12_mark_s0 (X12_mark_v82) _ _ _ _ ((X12_mark_l0 X12_isSheet X12_in (X12_mark_g82) t x1 x2 x3 h).trans e)⟩)
abbrev X12_fill_x (z : CZ) : CX := mx RX12 cX12_fill 6 2 (some .int) "fill" z
noncomputable def X12_fill_b0 (c_X12_isSign : Nat → Int32 → PH → Option Rs) (c_X12_isSheet : Int32 → PH → Option Rs) (c_X12_saves : Nat → PH → Option Rs) (k40 : Kn) : Kn := (a_al 0 (a_il 1 (a_vI 11 1 (FW_T11I c_X12_isSign) (a_z (a_ic (-1000000001) a_ir) (a_il 2 (a_sI 1 (FW_I c_X12_isSheet) (a_z (a_ic (-1000000001) a_ir) (a_al 0 (a_gR 11 745 62 (a_il 2 (a_ald 62 3968 (a_n (a_ic (-1000000011) a_ir) (a_al 0 (a_vV 11 0 (FW_T11 c_X12_saves) (a_ic 0 (a_is 3 (a_ic 1 (a_is 4 k40))))))))))))))))))
set_option maxRecDepth 100000 in
theorem X12_fill_s0 {z : CZ} {k40 : Kn} (hk40 : SK (X12_fill_x z) 40 k40) : SK (X12_fill_x z) 0 (X12_fill_b0 X12_isSign X12_isSheet X12_saves k40) := (s_aloadn (pc := 0) dX12_fill_0 rfl (s_iloadn (pc := 1) dX12_fill_1 rfl (s_vI (pc := 2) (run_virtual (X12_isSign_gd _) (show 1 < 2 by decide) cy_X12_isSign (by decide) rfl w_1530 w_s37 w_1528 dX12_fill_2) (s_ifeq (pc := 5) dX12_fill_5 (by decide) (s_ldc (pc := 15) w_1466 dX12_fill_15 (s_ir (pc := 17) rfl dX12_fill_17)) (s_iloadn (pc := 8) dX12_fill_8 rfl (s_sI (pc := 9) (run_static (X12_isSheet_gd _) (show 1 < 2 by decide) cy_X12_isSheet w_1825 w_1824 dX12_fill_9) (s_ifne (pc := 12) dX12_fill_12 (by decide) (s_aloadn (pc := 18) dX12_fill_18 rfl (s_gR (pc := 19) (f := 41) ko_11 (by decide) rfl rfl w_1336 dX12_fill_19 (s_iloadn (pc := 22) dX12_fill_22 rfl (s_iald (pc := 23) (by decide) (by decide) rfl rfl rfl dX12_fill_23 (s_ifge (pc := 24) dX12_fill_24 (by decide) (s_aloadn (pc := 31) dX12_fill_31 rfl (s_vV (pc := 32) (run_virtual (X12_saves_gd _) (show 0 < 2 by decide) cy_X12_saves (by decide) rfl w_1579 w_s42 w_1577 dX12_fill_32) (s_iconst (pc := 35) dX12_fill_35 c_ic_0 (s_istoren (pc := 36) dX12_fill_36 rfl (show 3 < 6 by decide) (s_iconst (pc := 37) dX12_fill_37 c_ic_1 (s_istore (pc := 38) dX12_fill_38 (show 4 < 6 by decide) hk40)))))) (s_ldcw (pc := 27) w_1832 dX12_fill_27 (s_ir (pc := 30) rfl dX12_fill_30))))))) (s_ldc (pc := 15) w_1466 dX12_fill_15 (s_ir (pc := 17) rfl dX12_fill_17)))))))))
noncomputable def X12_fill_b40 (c_X12_of5 : Nat → Int32 → Int32 → PH → Option Rs) (c_X12_mostBy : Int32 → PH → Option Rs) (c_X12_in : Int32 → Int32 → Int32 → PH → Option Rs) (k121 k156 : Kn) : Kn := (a_il 4 (a_z k156 (a_il 3 (a_al 0 (a_il 1 (a_ic 1 (a_vI 11 2 (FW_T11II c_X12_of5) (a_sI 1 (FW_I c_X12_mostBy) (a_lt (a_ic 24 (a_il 2 (a_b (fun a b => a * b) (a_ic 2 (a_il 3 (a_b (fun a b => a * b) (a_b (fun a b => a + b) (a_is 5 (a_ic 2 (a_il 3 (a_b (fun a b => a * b) (a_ic 1 (a_b (fun a b => a + b) (a_al 0 (a_gR 11 746 63 (a_il 2 (a_ald 63 4032 (a_lt (a_al 0 (a_gR 11 747 64 (a_il 5 (a_ald 64 4096 (a_ic 0 (a_ic 13 (a_sI 3 (FW_III c_X12_in) (a_z (a_ic 0 k121) (a_al 0 (a_gR 11 747 64 (a_il 5 (a_ic 1 (a_b (fun a b => a + b) (a_ald 64 4096 (a_ic 0 (a_ic 7 (a_sI 3 (FW_III c_X12_in) (a_z (a_ic 0 k121) (a_ic 1 k121))))))))))))))))))) (a_ic 0 k121))))))))))))))))))) k156)))))))))
set_option maxRecDepth 100000 in
theorem X12_fill_s40 {z : CZ} {k121 k156 : Kn} (hk121 : SK (X12_fill_x z) 121 k121) (hk156 : SK (X12_fill_x z) 156 k156) : SK (X12_fill_x z) 40 (X12_fill_b40 X12_of5 X12_mostBy X12_in k121 k156) := (s_iload (pc := 40) dX12_fill_40 (s_ifeq (pc := 42) dX12_fill_42 (by decide) hk156 (s_iloadn (pc := 45) dX12_fill_45 rfl (s_aloadn (pc := 46) dX12_fill_46 rfl (s_iloadn (pc := 47) dX12_fill_47 rfl (s_iconst (pc := 48) dX12_fill_48 c_ic_1 (s_vI (pc := 49) (run_virtual (X12_of5_gd _) (show 0 < 2 by decide) cy_X12_of5 (by decide) rfl w_1534 w_s38 w_1532 dX12_fill_49) (s_sI (pc := 52) (run_static (X12_mostBy_gd _) (show 0 < 2 by decide) cy_X12_mostBy w_1541 w_1540 dX12_fill_52) (s_cmpge (pc := 55) dX12_fill_55 (by decide) hk156 (s_bipush (pc := 58) dX12_fill_58 c_bp_24 (s_iloadn (pc := 60) dX12_fill_60 rfl (s_imul (pc := 61) dX12_fill_61 (s_iconst (pc := 62) dX12_fill_62 c_ic_2 (s_iloadn (pc := 63) dX12_fill_63 rfl (s_imul (pc := 64) dX12_fill_64 (s_iadd (pc := 65) dX12_fill_65 (s_istore (pc := 66) dX12_fill_66 (show 5 < 6 by decide) (s_iconst (pc := 68) dX12_fill_68 c_ic_2 (s_iloadn (pc := 69) dX12_fill_69 rfl (s_imul (pc := 70) dX12_fill_70 (s_iconst (pc := 71) dX12_fill_71 c_ic_1 (s_iadd (pc := 72) dX12_fill_72 (s_aloadn (pc := 73) dX12_fill_73 rfl (s_gR (pc := 74) (f := 42) ko_11 (by decide) rfl rfl w_1337 dX12_fill_74 (s_iloadn (pc := 77) dX12_fill_77 rfl (s_iald (pc := 78) (by decide) (by decide) rfl rfl rfl dX12_fill_78 (s_cmpge (pc := 79) dX12_fill_79 (by decide) (s_iconst (pc := 120) dX12_fill_120 c_ic_0 hk121) (s_aloadn (pc := 82) dX12_fill_82 rfl (s_gR (pc := 83) (f := 43) ko_11 (by decide) rfl rfl w_1338 dX12_fill_83 (s_iload (pc := 86) dX12_fill_86 (s_iald (pc := 88) (by decide) (by decide) rfl rfl rfl dX12_fill_88 (s_iconst (pc := 89) dX12_fill_89 c_ic_0 (s_bipush (pc := 90) dX12_fill_90 c_bp_13 (s_sI (pc := 92) (run_static (X12_in_gd _) (show 0 < 2 by decide) cy_X12_in w_1464 w_1463 dX12_fill_92) (s_ifeq (pc := 95) dX12_fill_95 (by decide) (s_iconst (pc := 120) dX12_fill_120 c_ic_0 hk121) (s_aloadn (pc := 98) dX12_fill_98 rfl (s_gR (pc := 99) (f := 43) ko_11 (by decide) rfl rfl w_1338 dX12_fill_99 (s_iload (pc := 102) dX12_fill_102 (s_iconst (pc := 104) dX12_fill_104 c_ic_1 (s_iadd (pc := 105) dX12_fill_105 (s_iald (pc := 106) (by decide) (by decide) rfl rfl rfl dX12_fill_106 (s_iconst (pc := 107) dX12_fill_107 c_ic_0 (s_bipush (pc := 108) dX12_fill_108 c_bp_7 (s_sI (pc := 110) (run_static (X12_in_gd _) (show 0 < 2 by decide) cy_X12_in w_1464 w_1463 dX12_fill_110) (s_ifeq (pc := 113) dX12_fill_113 (by decide) (s_iconst (pc := 120) dX12_fill_120 c_ic_0 hk121) (s_iconst (pc := 116) dX12_fill_116 c_ic_1 (s_goto (pc := 117) dX12_fill_117 (by decide) hk121)))))))))))))))))))))))))))))))))))))))))))))))
noncomputable def X12_fill_b121 (c_X12_setsRow : Nat → Int32 → Int32 → Int32 → Int32 → PH → Option Rs) (k153 : Kn) : Kn := (a_is 4 (a_il 4 (a_z k153 (a_al 0 (a_il 1 (a_il 3 (a_al 0 (a_gR 11 747 64 (a_il 5 (a_ald 64 4096 (a_al 0 (a_gR 11 747 64 (a_il 5 (a_ic 1 (a_b (fun a b => a + b) (a_ald 64 4096 (a_vV 11 4 (FW_T11IIII c_X12_setsRow) (a_inc 3 1 k153))))))))))))))))))
set_option maxRecDepth 100000 in
theorem X12_fill_s121 {z : CZ} {k153 : Kn} (hk153 : SK (X12_fill_x z) 153 k153) : SK (X12_fill_x z) 121 (X12_fill_b121 X12_setsRow k153) := (s_istore (pc := 121) dX12_fill_121 (show 4 < 6 by decide) (s_iload (pc := 123) dX12_fill_123 (s_ifeq (pc := 125) dX12_fill_125 (by decide) hk153 (s_aloadn (pc := 128) dX12_fill_128 rfl (s_iloadn (pc := 129) dX12_fill_129 rfl (s_iloadn (pc := 130) dX12_fill_130 rfl (s_aloadn (pc := 131) dX12_fill_131 rfl (s_gR (pc := 132) (f := 43) ko_11 (by decide) rfl rfl w_1338 dX12_fill_132 (s_iload (pc := 135) dX12_fill_135 (s_iald (pc := 137) (by decide) (by decide) rfl rfl rfl dX12_fill_137 (s_aloadn (pc := 138) dX12_fill_138 rfl (s_gR (pc := 139) (f := 43) ko_11 (by decide) rfl rfl w_1338 dX12_fill_139 (s_iload (pc := 142) dX12_fill_142 (s_iconst (pc := 144) dX12_fill_144 c_ic_1 (s_iadd (pc := 145) dX12_fill_145 (s_iald (pc := 146) (by decide) (by decide) rfl rfl rfl dX12_fill_146 (s_vV (pc := 147) (run_virtual (X12_setsRow_gd _) (show 0 < 2 by decide) cy_X12_setsRow (by decide) rfl w_1583 w_s43 w_1581 dX12_fill_147) (s_iinc (pc := 150) dX12_fill_150 c_ic_1 (show 3 < 6 by decide) hk153))))))))))))))))))
noncomputable def X12_fill_b153 (k40 : Kn) : Kn := k40
set_option maxRecDepth 100000 in
theorem X12_fill_s153 {z : CZ} {k40 : Kn} (hk40 : SK (X12_fill_x z) 40 k40) : SK (X12_fill_x z) 153 (X12_fill_b153 k40) := (s_goto (pc := 153) dX12_fill_153 (by decide) hk40)
noncomputable def X12_fill_b156 : Kn := (a_al 0 (a_gR 11 704 41 (a_ic 155 (a_ic 5 (a_il 1 (a_b (fun a b => a * b) (a_b (fun a b => a + b) (a_ic 2 (a_b (fun a b => a + b) (a_il 3 (a_ast 41 2624 (fun a => a) (a_il 3 a_ir))))))))))))
set_option maxRecDepth 100000 in
theorem X12_fill_s156 {z : CZ} : SK (X12_fill_x z) 156 (X12_fill_b156) := (s_aloadn (pc := 156) dX12_fill_156 rfl (s_gR (pc := 157) (f := 0) ko_11 (by decide) rfl rfl w_1295 dX12_fill_157 (s_sipush (pc := 160) dX12_fill_160 c_sp_155 (s_iconst (pc := 163) dX12_fill_163 c_ic_5 (s_iloadn (pc := 164) dX12_fill_164 rfl (s_imul (pc := 165) dX12_fill_165 (s_iadd (pc := 166) dX12_fill_166 (s_iconst (pc := 167) dX12_fill_167 c_ic_2 (s_iadd (pc := 168) dX12_fill_168 (s_iloadn (pc := 169) dX12_fill_169 rfl (s_iast (pc := 170) (by decide) (by decide) rfl rfl rfl dX12_fill_170 (s_iloadn (pc := 171) dX12_fill_171 rfl (s_ir (pc := 172) rfl dX12_fill_172)))))))))))))
noncomputable def X12_fill_u40 (g : Nat → Int32 → Int32 → Int32 → Int32 → PH → Option Rs) : Kn := fun ls st h => gL 0 st (gT 11 ls 0 fun t => gI ls 1 fun x1 => gI ls 2 fun x2 => gI ls 3 fun x3 => gI ls 4 fun x4 => g t x1 x2 x3 x4 h)
noncomputable def X12_fill_u121 (g : Nat → Int32 → Int32 → Int32 → Int32 → Int32 → PH → Option Rs) : Kn := fun ls st h => gL 1 st (gT 11 ls 0 fun t => gI ls 1 fun x1 => gI ls 2 fun x2 => gI ls 3 fun x3 => gI ls 5 fun x5 => gI (st.map some) 0 fun s0 => g t x1 x2 x3 x5 s0 h)
noncomputable def X12_fill_u153 (g : Nat → Int32 → Int32 → Int32 → Int32 → PH → Option Rs) : Kn := fun ls st h => gL 0 st (gT 11 ls 0 fun t => gI ls 1 fun x1 => gI ls 2 fun x2 => gI ls 3 fun x3 => gI ls 4 fun x4 => g t x1 x2 x3 x4 h)
noncomputable def X12_fill_u156 (g : Nat → Int32 → Int32 → PH → Option Rs) : Kn := fun ls st h => gL 0 st (gT 11 ls 0 fun t => gI ls 1 fun x1 => gI ls 3 fun x3 => g t x1 x3 h)
noncomputable def X12_fill_f0 (c_X12_isSign : Nat → Int32 → PH → Option Rs) (c_X12_isSheet : Int32 → PH → Option Rs) (c_X12_saves : Nat → PH → Option Rs) (g40 : Nat → Int32 → Int32 → Int32 → Int32 → PH → Option Rs) (t : Nat) (x1 : Int32) (x2 : Int32) (h : PH) : Option Rs :=
  cI (c_X12_isSign t x1 h) fun v2 h1 =>
  if v2 = 0 then
    some (some (.inl (-1000000001)), h1)
  else
    cI (c_X12_isSheet x2 h1) fun v4 h3 =>
    if v4 = 0 then
      some (some (.inl (-1000000001)), h3)
    else
      nn (hR h3 745 t 0) fun r5 =>
      ix x2 (hL h3 62 r5) fun j6 =>
      if (hI h3 3968 r5 j6) < 0 then
        some (some (.inl (-1000000011)), h3)
      else
        cV (c_X12_saves t h3) fun h7 =>
        g40 t x1 x2 0 1 h7
set_option maxRecDepth 100000 in
theorem X12_fill_l0 (c_X12_isSign : Nat → Int32 → PH → Option Rs) (c_X12_isSheet : Int32 → PH → Option Rs) (c_X12_saves : Nat → PH → Option Rs) (g40 : Nat → Int32 → Int32 → Int32 → Int32 → PH → Option Rs) (t : Nat) (x1 : Int32) (x2 : Int32) (h : PH) : X12_fill_b0 c_X12_isSign c_X12_isSheet c_X12_saves (X12_fill_u40 g40) [some (.inr (11, t + 1)), some (.inl x1), some (.inl x2), none, none, none] [] h = X12_fill_f0 c_X12_isSign c_X12_isSheet c_X12_saves g40 t x1 x2 h := rfl
theorem X12_fill_m0 {c_X12_isSign : Nat → Int32 → PH → Option Rs} {c_X12_isSheet : Int32 → PH → Option Rs} {c_X12_saves : Nat → PH → Option Rs} {g40 G40 : Nat → Int32 → Int32 → Int32 → Int32 → PH → Option Rs} (hg40 : ∀ a0 a1 a2 a3 a4 a5, Mo (g40 a0 a1 a2 a3 a4 a5) (G40 a0 a1 a2 a3 a4 a5)) (t : Nat) (x1 : Int32) (x2 : Int32) (h : PH) : Mo (X12_fill_f0 c_X12_isSign c_X12_isSheet c_X12_saves g40 t x1 x2 h) (X12_fill_f0 c_X12_isSign c_X12_isSheet c_X12_saves G40 t x1 x2 h) := (mo_cI fun v2 h1 => (mo_if mo_rf (mo_cI fun v4 h3 => (mo_if mo_rf (mo_nn fun r5 => (mo_ix fun j6 => (mo_if mo_rf (mo_cV fun h7 => (hg40 t x1 x2 0 1 h7)))))))))
noncomputable def X12_fill_f40 (c_X12_of5 : Nat → Int32 → Int32 → PH → Option Rs) (c_X12_mostBy : Int32 → PH → Option Rs) (c_X12_in : Int32 → Int32 → Int32 → PH → Option Rs) (g121 : Nat → Int32 → Int32 → Int32 → Int32 → Int32 → PH → Option Rs) (g156 : Nat → Int32 → Int32 → PH → Option Rs) (t : Nat) (x1 : Int32) (x2 : Int32) (x3 : Int32) (x4 : Int32) (h : PH) : Option Rs :=
  if x4 = 0 then
    g156 t x1 x3 h
  else
    cI (c_X12_of5 t x1 1 h) fun v9 h8 =>
    cI (c_X12_mostBy v9 h8) fun v11 h10 =>
    if x3 < v11 then
      nn (hR h10 746 t 0) fun r12 =>
      ix x2 (hL h10 63 r12) fun j13 =>
      if ((2 * x3) + 1) < (hI h10 4032 r12 j13) then
        nn (hR h10 747 t 0) fun r14 =>
        ix ((24 * x2) + (2 * x3)) (hL h10 64 r14) fun j15 =>
        cI (c_X12_in (hI h10 4096 r14 j15) 0 13 h10) fun v17 h16 =>
        if v17 = 0 then
          g121 t x1 x2 x3 ((24 * x2) + (2 * x3)) 0 h16
        else
          nn (hR h16 747 t 0) fun r18 =>
          ix (((24 * x2) + (2 * x3)) + 1) (hL h16 64 r18) fun j19 =>
          cI (c_X12_in (hI h16 4096 r18 j19) 0 7 h16) fun v21 h20 =>
          if v21 = 0 then
            g121 t x1 x2 x3 ((24 * x2) + (2 * x3)) 0 h20
          else
            g121 t x1 x2 x3 ((24 * x2) + (2 * x3)) 1 h20
      else
        g121 t x1 x2 x3 ((24 * x2) + (2 * x3)) 0 h10
    else
      g156 t x1 x3 h10
set_option maxRecDepth 100000 in
theorem X12_fill_l40 (c_X12_of5 : Nat → Int32 → Int32 → PH → Option Rs) (c_X12_mostBy : Int32 → PH → Option Rs) (c_X12_in : Int32 → Int32 → Int32 → PH → Option Rs) (g121 : Nat → Int32 → Int32 → Int32 → Int32 → Int32 → PH → Option Rs) (g156 : Nat → Int32 → Int32 → PH → Option Rs) (t : Nat) (x1 : Int32) (x2 : Int32) (x3 : Int32) (x4 : Int32) (h : PH) : X12_fill_b40 c_X12_of5 c_X12_mostBy c_X12_in (X12_fill_u121 g121) (X12_fill_u156 g156) [some (.inr (11, t + 1)), some (.inl x1), some (.inl x2), some (.inl x3), some (.inl x4), none] [] h = X12_fill_f40 c_X12_of5 c_X12_mostBy c_X12_in g121 g156 t x1 x2 x3 x4 h := rfl
theorem X12_fill_m40 {c_X12_of5 : Nat → Int32 → Int32 → PH → Option Rs} {c_X12_mostBy : Int32 → PH → Option Rs} {c_X12_in : Int32 → Int32 → Int32 → PH → Option Rs} {g121 G121 : Nat → Int32 → Int32 → Int32 → Int32 → Int32 → PH → Option Rs} {g156 G156 : Nat → Int32 → Int32 → PH → Option Rs} (hg121 : ∀ a0 a1 a2 a3 a4 a5 a6, Mo (g121 a0 a1 a2 a3 a4 a5 a6) (G121 a0 a1 a2 a3 a4 a5 a6)) (hg156 : ∀ a0 a1 a2 a3, Mo (g156 a0 a1 a2 a3) (G156 a0 a1 a2 a3)) (t : Nat) (x1 : Int32) (x2 : Int32) (x3 : Int32) (x4 : Int32) (h : PH) : Mo (X12_fill_f40 c_X12_of5 c_X12_mostBy c_X12_in g121 g156 t x1 x2 x3 x4 h) (X12_fill_f40 c_X12_of5 c_X12_mostBy c_X12_in G121 G156 t x1 x2 x3 x4 h) := (mo_if (hg156 t x1 x3 h) (mo_cI fun v9 h8 => (mo_cI fun v11 h10 => (mo_if (mo_nn fun r12 => (mo_ix fun j13 => (mo_if (mo_nn fun r14 => (mo_ix fun j15 => (mo_cI fun v17 h16 => (mo_if (hg121 t x1 x2 x3 ((24 * x2) + (2 * x3)) 0 h16) (mo_nn fun r18 => (mo_ix fun j19 => (mo_cI fun v21 h20 => (mo_if (hg121 t x1 x2 x3 ((24 * x2) + (2 * x3)) 0 h20) (hg121 t x1 x2 x3 ((24 * x2) + (2 * x3)) 1 h20))))))))) (hg121 t x1 x2 x3 ((24 * x2) + (2 * x3)) 0 h10)))) (hg156 t x1 x3 h10)))))
theorem X12_fill_w40 {z : CZ} {g121 : Nat → Int32 → Int32 → Int32 → Int32 → Int32 → PH → Option Rs} {g156 : Nat → Int32 → Int32 → PH → Option Rs} (hk121 : SK (X12_fill_x z) 121 (X12_fill_u121 g121)) (hk156 : SK (X12_fill_x z) 156 (X12_fill_u156 g156)) : SK (X12_fill_x z) 40 (X12_fill_u40 (X12_fill_f40 X12_of5 X12_mostBy X12_in g121 g156)) := by
  intro ls st h r e
  obtain ⟨hst, e⟩ := gL_of e
  obtain ⟨t, q0, e⟩ := gT_of e
  obtain ⟨x1, q1, e⟩ := gI_of e
  obtain ⟨x2, q2, e⟩ := gI_of e
  obtain ⟨x3, q3, e⟩ := gI_of e
  obtain ⟨x4, q4, e⟩ := gI_of e
  rw [st_0 hst]
  exact WK.sub (canon := [some (.inr (11, t + 1)), some (.inl x1), some (.inl x2), some (.inl x3), some (.inl x4), none]) rfl ⟨q0, q1, q2, q3, q4, trivial⟩ (X12_fill_s40 hk121 hk156 _ _ _ _ ((X12_fill_l40 X12_of5 X12_mostBy X12_in g121 g156 t x1 x2 x3 x4 h).trans e))
noncomputable def X12_fill_f121 (c_X12_setsRow : Nat → Int32 → Int32 → Int32 → Int32 → PH → Option Rs) (g153 : Nat → Int32 → Int32 → Int32 → Int32 → PH → Option Rs) (t : Nat) (x1 : Int32) (x2 : Int32) (x3 : Int32) (x5 : Int32) (s0 : Int32) (h : PH) : Option Rs :=
  if s0 = 0 then
    g153 t x1 x2 x3 s0 h
  else
    nn (hR h 747 t 0) fun r22 =>
    ix x5 (hL h 64 r22) fun j23 =>
    nn (hR h 747 t 0) fun r24 =>
    ix (x5 + 1) (hL h 64 r24) fun j25 =>
    cV (c_X12_setsRow t x1 x3 (hI h 4096 r22 j23) (hI h 4096 r24 j25) h) fun h26 =>
    g153 t x1 x2 (x3 + 1) s0 h26
set_option maxRecDepth 100000 in
theorem X12_fill_l121 (c_X12_setsRow : Nat → Int32 → Int32 → Int32 → Int32 → PH → Option Rs) (g153 : Nat → Int32 → Int32 → Int32 → Int32 → PH → Option Rs) (t : Nat) (x1 : Int32) (x2 : Int32) (x3 : Int32) (x5 : Int32) (s0 : Int32) (h : PH) : X12_fill_b121 c_X12_setsRow (X12_fill_u153 g153) [some (.inr (11, t + 1)), some (.inl x1), some (.inl x2), some (.inl x3), none, some (.inl x5)] [.inl s0] h = X12_fill_f121 c_X12_setsRow g153 t x1 x2 x3 x5 s0 h := rfl
theorem X12_fill_m121 {c_X12_setsRow : Nat → Int32 → Int32 → Int32 → Int32 → PH → Option Rs} {g153 G153 : Nat → Int32 → Int32 → Int32 → Int32 → PH → Option Rs} (hg153 : ∀ a0 a1 a2 a3 a4 a5, Mo (g153 a0 a1 a2 a3 a4 a5) (G153 a0 a1 a2 a3 a4 a5)) (t : Nat) (x1 : Int32) (x2 : Int32) (x3 : Int32) (x5 : Int32) (s0 : Int32) (h : PH) : Mo (X12_fill_f121 c_X12_setsRow g153 t x1 x2 x3 x5 s0 h) (X12_fill_f121 c_X12_setsRow G153 t x1 x2 x3 x5 s0 h) := (mo_if (hg153 t x1 x2 x3 s0 h) (mo_nn fun r22 => (mo_ix fun j23 => (mo_nn fun r24 => (mo_ix fun j25 => (mo_cV fun h26 => (hg153 t x1 x2 (x3 + 1) s0 h26)))))))
theorem X12_fill_w121 {z : CZ} {g153 : Nat → Int32 → Int32 → Int32 → Int32 → PH → Option Rs} (hk153 : SK (X12_fill_x z) 153 (X12_fill_u153 g153)) : SK (X12_fill_x z) 121 (X12_fill_u121 (X12_fill_f121 X12_setsRow g153)) := by
  intro ls st h r e
  obtain ⟨hst, e⟩ := gL_of e
  obtain ⟨t, q0, e⟩ := gT_of e
  obtain ⟨x1, q1, e⟩ := gI_of e
  obtain ⟨x2, q2, e⟩ := gI_of e
  obtain ⟨x3, q3, e⟩ := gI_of e
  obtain ⟨x5, q4, e⟩ := gI_of e
  obtain ⟨s0, q5, e⟩ := gI_of e
  rw [st_1 hst q5]
  exact WK.sub (canon := [some (.inr (11, t + 1)), some (.inl x1), some (.inl x2), some (.inl x3), none, some (.inl x5)]) rfl ⟨q0, q1, q2, q3, q4, trivial⟩ (X12_fill_s121 hk153 _ _ _ _ ((X12_fill_l121 X12_setsRow g153 t x1 x2 x3 x5 s0 h).trans e))
noncomputable def X12_fill_f153 (g40 : Nat → Int32 → Int32 → Int32 → Int32 → PH → Option Rs) (t : Nat) (x1 : Int32) (x2 : Int32) (x3 : Int32) (x4 : Int32) (h : PH) : Option Rs :=
  g40 t x1 x2 x3 x4 h
set_option maxRecDepth 100000 in
theorem X12_fill_l153 (g40 : Nat → Int32 → Int32 → Int32 → Int32 → PH → Option Rs) (t : Nat) (x1 : Int32) (x2 : Int32) (x3 : Int32) (x4 : Int32) (h : PH) : X12_fill_b153 (X12_fill_u40 g40) [some (.inr (11, t + 1)), some (.inl x1), some (.inl x2), some (.inl x3), some (.inl x4), none] [] h = X12_fill_f153 g40 t x1 x2 x3 x4 h := rfl
theorem X12_fill_m153 {g40 G40 : Nat → Int32 → Int32 → Int32 → Int32 → PH → Option Rs} (hg40 : ∀ a0 a1 a2 a3 a4 a5, Mo (g40 a0 a1 a2 a3 a4 a5) (G40 a0 a1 a2 a3 a4 a5)) (t : Nat) (x1 : Int32) (x2 : Int32) (x3 : Int32) (x4 : Int32) (h : PH) : Mo (X12_fill_f153 g40 t x1 x2 x3 x4 h) (X12_fill_f153 G40 t x1 x2 x3 x4 h) := (hg40 t x1 x2 x3 x4 h)
theorem X12_fill_w153 {z : CZ} {g40 : Nat → Int32 → Int32 → Int32 → Int32 → PH → Option Rs} (hk40 : SK (X12_fill_x z) 40 (X12_fill_u40 g40)) : SK (X12_fill_x z) 153 (X12_fill_u153 (X12_fill_f153 g40)) := by
  intro ls st h r e
  obtain ⟨hst, e⟩ := gL_of e
  obtain ⟨t, q0, e⟩ := gT_of e
  obtain ⟨x1, q1, e⟩ := gI_of e
  obtain ⟨x2, q2, e⟩ := gI_of e
  obtain ⟨x3, q3, e⟩ := gI_of e
  obtain ⟨x4, q4, e⟩ := gI_of e
  rw [st_0 hst]
  exact WK.sub (canon := [some (.inr (11, t + 1)), some (.inl x1), some (.inl x2), some (.inl x3), some (.inl x4), none]) rfl ⟨q0, q1, q2, q3, q4, trivial⟩ (X12_fill_s153 hk40 _ _ _ _ ((X12_fill_l153 g40 t x1 x2 x3 x4 h).trans e))
noncomputable def X12_fill_f156 (t : Nat) (x1 : Int32) (x3 : Int32) (h : PH) : Option Rs :=
  nn (hR h 704 t 0) fun r27 =>
  ix ((155 + (5 * x1)) + 2) (hL h 41 r27) fun j28 =>
  wr (pI h 2624 r27 j28 x3) fun h29 =>
  some (some (.inl x3), h29)
set_option maxRecDepth 100000 in
theorem X12_fill_l156 (t : Nat) (x1 : Int32) (x3 : Int32) (h : PH) : X12_fill_b156 [some (.inr (11, t + 1)), some (.inl x1), none, some (.inl x3), none, none] [] h = X12_fill_f156 t x1 x3 h := rfl
theorem X12_fill_w156 {z : CZ} : SK (X12_fill_x z) 156 (X12_fill_u156 (X12_fill_f156)) := by
  intro ls st h r e
  obtain ⟨hst, e⟩ := gL_of e
  obtain ⟨t, q0, e⟩ := gT_of e
  obtain ⟨x1, q1, e⟩ := gI_of e
  obtain ⟨x3, q2, e⟩ := gI_of e
  rw [st_0 hst]
  exact WK.sub (canon := [some (.inr (11, t + 1)), some (.inl x1), none, some (.inl x3), none, none]) rfl ⟨q0, q1, q2, trivial⟩ (X12_fill_s156 _ _ _ _ ((X12_fill_l156 t x1 x3 h).trans e))
noncomputable def X12_fill_g0 (G : (Nat → Int32 → Int32 → Int32 → Int32 → PH → Option Rs)) (t : Nat) (x1 : Int32) (x2 : Int32) (h : PH) : Option Rs := X12_fill_f0 X12_isSign X12_isSheet X12_saves (G) t x1 x2 h
noncomputable def X12_fill_g153 (G : (Nat → Int32 → Int32 → Int32 → Int32 → PH → Option Rs)) (t : Nat) (x1 : Int32) (x2 : Int32) (x3 : Int32) (x4 : Int32) (h : PH) : Option Rs := X12_fill_f153 (G) t x1 x2 x3 x4 h
noncomputable def X12_fill_g121 (G : (Nat → Int32 → Int32 → Int32 → Int32 → PH → Option Rs)) (t : Nat) (x1 : Int32) (x2 : Int32) (x3 : Int32) (x5 : Int32) (s0 : Int32) (h : PH) : Option Rs := X12_fill_f121 X12_setsRow (X12_fill_g153 G) t x1 x2 x3 x5 s0 h
noncomputable def X12_fill_g156 (G : (Nat → Int32 → Int32 → Int32 → Int32 → PH → Option Rs)) (t : Nat) (x1 : Int32) (x3 : Int32) (h : PH) : Option Rs := X12_fill_f156 t x1 x3 h
noncomputable def X12_fill_g40 (G : (Nat → Int32 → Int32 → Int32 → Int32 → PH → Option Rs)) (t : Nat) (x1 : Int32) (x2 : Int32) (x3 : Int32) (x4 : Int32) (h : PH) : Option Rs := X12_fill_f40 X12_of5 X12_mostBy X12_in (X12_fill_g121 G) (X12_fill_g156 G) t x1 x2 x3 x4 h
theorem X12_fill_v153 {z : CZ} {G : (Nat → Int32 → Int32 → Int32 → Int32 → PH → Option Rs)} (hG40 : SK (X12_fill_x z) 40 (X12_fill_u40 (G))) : SK (X12_fill_x z) 153 (X12_fill_u153 (X12_fill_g153 G)) := X12_fill_w153 hG40
theorem X12_fill_v121 {z : CZ} {G : (Nat → Int32 → Int32 → Int32 → Int32 → PH → Option Rs)} (hG40 : SK (X12_fill_x z) 40 (X12_fill_u40 (G))) : SK (X12_fill_x z) 121 (X12_fill_u121 (X12_fill_g121 G)) := X12_fill_w121 (X12_fill_v153 hG40)
theorem X12_fill_v156 {z : CZ} {G : (Nat → Int32 → Int32 → Int32 → Int32 → PH → Option Rs)} (hG40 : SK (X12_fill_x z) 40 (X12_fill_u40 (G))) : SK (X12_fill_x z) 156 (X12_fill_u156 (X12_fill_g156 G)) := X12_fill_w156
theorem X12_fill_v40 {z : CZ} {G : (Nat → Int32 → Int32 → Int32 → Int32 → PH → Option Rs)} (hG40 : SK (X12_fill_x z) 40 (X12_fill_u40 (G))) : SK (X12_fill_x z) 40 (X12_fill_u40 (X12_fill_g40 G)) := X12_fill_w40 (X12_fill_v121 hG40) (X12_fill_v156 hG40)
noncomputable def X12_fill_fam : Nat → (Nat → Int32 → Int32 → Int32 → Int32 → PH → Option Rs)
  | 0 => fun _ _ _ _ _ _ => none
  | n + 1 => X12_fill_g40 (X12_fill_fam n)
theorem X12_fill_k {z : CZ} : ∀ n, SK (X12_fill_x z) 40 (X12_fill_u40 (X12_fill_fam n))
  | 0 => (fun ls st h r e => by
      obtain ⟨_, e⟩ := gL_of e
      obtain ⟨_, _, e⟩ := gT_of e
      obtain ⟨_, _, e⟩ := gI_of e
      obtain ⟨_, _, e⟩ := gI_of e
      obtain ⟨_, _, e⟩ := gI_of e
      obtain ⟨_, _, e⟩ := gI_of e
      cases e)
  | n + 1 => by
    obtain ih40 := X12_fill_k n
    exact X12_fill_v40 ih40
theorem X12_fill_n0 {G G' : (Nat → Int32 → Int32 → Int32 → Int32 → PH → Option Rs)} (hg40 : ∀ a0 a1 a2 a3 a4 a5, Mo ((G) a0 a1 a2 a3 a4 a5) ((G') a0 a1 a2 a3 a4 a5)) (t : Nat) (x1 : Int32) (x2 : Int32) (h : PH) : Mo (X12_fill_g0 G t x1 x2 h) (X12_fill_g0 G' t x1 x2 h) := X12_fill_m0 hg40 t x1 x2 h
theorem X12_fill_n153 {G G' : (Nat → Int32 → Int32 → Int32 → Int32 → PH → Option Rs)} (hg40 : ∀ a0 a1 a2 a3 a4 a5, Mo ((G) a0 a1 a2 a3 a4 a5) ((G') a0 a1 a2 a3 a4 a5)) (t : Nat) (x1 : Int32) (x2 : Int32) (x3 : Int32) (x4 : Int32) (h : PH) : Mo (X12_fill_g153 G t x1 x2 x3 x4 h) (X12_fill_g153 G' t x1 x2 x3 x4 h) := X12_fill_m153 hg40 t x1 x2 x3 x4 h
theorem X12_fill_n121 {G G' : (Nat → Int32 → Int32 → Int32 → Int32 → PH → Option Rs)} (hg40 : ∀ a0 a1 a2 a3 a4 a5, Mo ((G) a0 a1 a2 a3 a4 a5) ((G') a0 a1 a2 a3 a4 a5)) (t : Nat) (x1 : Int32) (x2 : Int32) (x3 : Int32) (x5 : Int32) (s0 : Int32) (h : PH) : Mo (X12_fill_g121 G t x1 x2 x3 x5 s0 h) (X12_fill_g121 G' t x1 x2 x3 x5 s0 h) := X12_fill_m121 (fun a0 a1 a2 a3 a4 a5 => X12_fill_n153 hg40 a0 a1 a2 a3 a4 a5) t x1 x2 x3 x5 s0 h
theorem X12_fill_n156 {G G' : (Nat → Int32 → Int32 → Int32 → Int32 → PH → Option Rs)} (hg40 : ∀ a0 a1 a2 a3 a4 a5, Mo ((G) a0 a1 a2 a3 a4 a5) ((G') a0 a1 a2 a3 a4 a5)) (t : Nat) (x1 : Int32) (x3 : Int32) (h : PH) : Mo (X12_fill_g156 G t x1 x3 h) (X12_fill_g156 G' t x1 x3 h) := mo_rf
theorem X12_fill_n40 {G G' : (Nat → Int32 → Int32 → Int32 → Int32 → PH → Option Rs)} (hg40 : ∀ a0 a1 a2 a3 a4 a5, Mo ((G) a0 a1 a2 a3 a4 a5) ((G') a0 a1 a2 a3 a4 a5)) (t : Nat) (x1 : Int32) (x2 : Int32) (x3 : Int32) (x4 : Int32) (h : PH) : Mo (X12_fill_g40 G t x1 x2 x3 x4 h) (X12_fill_g40 G' t x1 x2 x3 x4 h) := X12_fill_m40 (fun a0 a1 a2 a3 a4 a5 a6 => X12_fill_n121 hg40 a0 a1 a2 a3 a4 a5 a6) (fun a0 a1 a2 a3 => X12_fill_n156 hg40 a0 a1 a2 a3) t x1 x2 x3 x4 h
theorem X12_fill_fm : ∀ n, (∀ a0 a1 a2 a3 a4 a5, Mo ((X12_fill_fam n) a0 a1 a2 a3 a4 a5) ((X12_fill_fam (n + 1)) a0 a1 a2 a3 a4 a5))
  | 0 => fun _ _ _ _ _ _ => mo_no
  | n + 1 => by
    obtain ih40 := X12_fill_fm n
    exact fun a0 a1 a2 a3 a4 a5 => X12_fill_n40 ih40 a0 a1 a2 a3 a4 a5
noncomputable def X12_fill (t : Nat) (x1 : Int32) (x2 : Int32) (h : PH) : Option Rs := lim (fun n => X12_fill_g0 (X12_fill_fam n) t x1 x2 h)
theorem X12_fill_iff {t : Nat} {x1 : Int32} {x2 : Int32} {h : PH} {r : Rs} : X12_fill t x1 x2 h = some r ↔ ∃ n, X12_fill_g0 (X12_fill_fam n) t x1 x2 h = some r := lim_iff (fun n => by
  obtain ih40 := X12_fill_fm n
  exact X12_fill_n0 ih40 t x1 x2 h)
noncomputable abbrev X12_fill_F : List PV → PH → Option Rs := FW_T11II (X12_fill)
set_option maxRecDepth 100000 in
theorem X12_fill_gd (l : Launch) : Gd l 2 yX12_fill cX12_fill 6 (some .int) (X12_fill_F)   := Gd_of (by decide +kernel) (fun z hzl as h r e => by
  obtain ⟨hst, e⟩ := gL_of e
  obtain ⟨t, q0, e⟩ := gT_of e
  obtain ⟨x1, q1, e⟩ := gI_of e
  obtain ⟨x2, q2, e⟩ := gI_of e
  rw [st_3 hst q0 q1 q2]
  obtain ⟨n, e⟩ := lim_of e
  obtain hG40 := X12_fill_k (z := z) n
  exact ⟨show 3 ≤ 6 by decide, X12_fill_s0 hG40 _ _ _ _ ((X12_fill_l0 X12_isSign X12_isSheet X12_saves (X12_fill_fam n) t x1 x2 h).trans e)⟩)
abbrev X12_copy_x (z : CZ) : CX := mx RX12 cX12_copy 7 2 (some .int) "copy" z
noncomputable def X12_copy_b0 (c_X12_isSheet : Int32 → PH → Option Rs) (k105 : Kn) : Kn := (a_il 1 (a_sI 1 (FW_I c_X12_isSheet) (a_z (a_ic (-1000000001) a_ir) (a_il 3 (a_sI 1 (FW_I c_X12_isSheet) (a_z (a_ic (-1000000001) a_ir) (a_al 0 (a_gR 11 745 62 (a_il 1 (a_ald 62 3968 (a_n (a_ic (-1000000011) a_ir) (a_al 0 (a_gR 11 745 62 (a_il 3 (a_ald 62 3968 (a_n (a_ic (-1000000011) a_ir) (a_al 0 (a_gR 11 745 62 (a_il 1 (a_ald 62 3968 (a_al 0 (a_gR 11 745 62 (a_il 3 (a_ald 62 3968 (a_eq (a_il 2 (a_n (a_ic (-1000000013) a_ir) (a_il 4 (a_n (a_ic (-1000000013) a_ir) (a_il 5 (a_n (a_ic (-1000000013) a_ir) (a_il 2 (a_al 0 (a_gR 11 746 63 (a_il 1 (a_ald 63 4032 (a_il 5 (a_b (fun a b => a - b) (a_gt (a_ic (-1000000013) a_ir) (a_il 4 (a_al 0 (a_gR 11 746 63 (a_il 3 (a_ald 63 4032 (a_il 5 (a_b (fun a b => a - b) (a_gt (a_ic (-1000000013) a_ir) (a_ic 0 (a_is 6 k105)))))))))))))))))))))))) (a_ic (-1000000012) a_ir))))))))))))))))))))))))))
set_option maxRecDepth 100000 in
theorem X12_copy_s0 {z : CZ} {k105 : Kn} (hk105 : SK (X12_copy_x z) 105 k105) : SK (X12_copy_x z) 0 (X12_copy_b0 X12_isSheet k105) := (s_iloadn (pc := 0) dX12_copy_0 rfl (s_sI (pc := 1) (run_static (X12_isSheet_gd _) (show 1 < 2 by decide) cy_X12_isSheet w_1825 w_1824 dX12_copy_1) (s_ifeq (pc := 4) dX12_copy_4 (by decide) (s_ldc (pc := 14) w_1466 dX12_copy_14 (s_ir (pc := 16) rfl dX12_copy_16)) (s_iloadn (pc := 7) dX12_copy_7 rfl (s_sI (pc := 8) (run_static (X12_isSheet_gd _) (show 1 < 2 by decide) cy_X12_isSheet w_1825 w_1824 dX12_copy_8) (s_ifne (pc := 11) dX12_copy_11 (by decide) (s_aloadn (pc := 17) dX12_copy_17 rfl (s_gR (pc := 18) (f := 41) ko_11 (by decide) rfl rfl w_1336 dX12_copy_18 (s_iloadn (pc := 21) dX12_copy_21 rfl (s_iald (pc := 22) (by decide) (by decide) rfl rfl rfl dX12_copy_22 (s_iflt (pc := 23) dX12_copy_23 (by decide) (s_ldcw (pc := 35) w_1832 dX12_copy_35 (s_ir (pc := 38) rfl dX12_copy_38)) (s_aloadn (pc := 26) dX12_copy_26 rfl (s_gR (pc := 27) (f := 41) ko_11 (by decide) rfl rfl w_1336 dX12_copy_27 (s_iloadn (pc := 30) dX12_copy_30 rfl (s_iald (pc := 31) (by decide) (by decide) rfl rfl rfl dX12_copy_31 (s_ifge (pc := 32) dX12_copy_32 (by decide) (s_aloadn (pc := 39) dX12_copy_39 rfl (s_gR (pc := 40) (f := 41) ko_11 (by decide) rfl rfl w_1336 dX12_copy_40 (s_iloadn (pc := 43) dX12_copy_43 rfl (s_iald (pc := 44) (by decide) (by decide) rfl rfl rfl dX12_copy_44 (s_aloadn (pc := 45) dX12_copy_45 rfl (s_gR (pc := 46) (f := 41) ko_11 (by decide) rfl rfl w_1336 dX12_copy_46 (s_iloadn (pc := 49) dX12_copy_49 rfl (s_iald (pc := 50) (by decide) (by decide) rfl rfl rfl dX12_copy_50 (s_cmpeq (pc := 51) dX12_copy_51 (by decide) (s_iloadn (pc := 57) dX12_copy_57 rfl (s_iflt (pc := 58) dX12_copy_58 (by decide) (s_ldcw (pc := 98) w_1833 dX12_copy_98 (s_ir (pc := 101) rfl dX12_copy_101)) (s_iload (pc := 61) dX12_copy_61 (s_iflt (pc := 63) dX12_copy_63 (by decide) (s_ldcw (pc := 98) w_1833 dX12_copy_98 (s_ir (pc := 101) rfl dX12_copy_101)) (s_iload (pc := 66) dX12_copy_66 (s_iflt (pc := 68) dX12_copy_68 (by decide) (s_ldcw (pc := 98) w_1833 dX12_copy_98 (s_ir (pc := 101) rfl dX12_copy_101)) (s_iloadn (pc := 71) dX12_copy_71 rfl (s_aloadn (pc := 72) dX12_copy_72 rfl (s_gR (pc := 73) (f := 42) ko_11 (by decide) rfl rfl w_1337 dX12_copy_73 (s_iloadn (pc := 76) dX12_copy_76 rfl (s_iald (pc := 77) (by decide) (by decide) rfl rfl rfl dX12_copy_77 (s_iload (pc := 78) dX12_copy_78 (s_isub (pc := 80) dX12_copy_80 (s_cmpgt (pc := 81) dX12_copy_81 (by decide) (s_ldcw (pc := 98) w_1833 dX12_copy_98 (s_ir (pc := 101) rfl dX12_copy_101)) (s_iload (pc := 84) dX12_copy_84 (s_aloadn (pc := 86) dX12_copy_86 rfl (s_gR (pc := 87) (f := 42) ko_11 (by decide) rfl rfl w_1337 dX12_copy_87 (s_iloadn (pc := 90) dX12_copy_90 rfl (s_iald (pc := 91) (by decide) (by decide) rfl rfl rfl dX12_copy_91 (s_iload (pc := 92) dX12_copy_92 (s_isub (pc := 94) dX12_copy_94 (s_cmple (pc := 95) dX12_copy_95 (by decide) (s_iconst (pc := 102) dX12_copy_102 c_ic_0 (s_istore (pc := 103) dX12_copy_103 (show 6 < 7 by decide) hk105)) (s_ldcw (pc := 98) w_1833 dX12_copy_98 (s_ir (pc := 101) rfl dX12_copy_101)))))))))))))))))))))))) (s_ldc (pc := 54) w_1564 dX12_copy_54 (s_ir (pc := 56) rfl dX12_copy_56))))))))))) (s_ldcw (pc := 35) w_1832 dX12_copy_35 (s_ir (pc := 38) rfl dX12_copy_38)))))))))))) (s_ldc (pc := 14) w_1466 dX12_copy_14 (s_ir (pc := 16) rfl dX12_copy_16))))))))
noncomputable def X12_copy_b105 (k105 k142 : Kn) : Kn := (a_il 6 (a_il 5 (a_lt (a_al 0 (a_gR 11 752 69 (a_il 6 (a_al 0 (a_gR 11 747 64 (a_ic 24 (a_il 1 (a_b (fun a b => a * b) (a_il 2 (a_b (fun a b => a + b) (a_il 6 (a_b (fun a b => a + b) (a_ald 64 4096 (a_ast 69 4416 (fun a => a) (a_inc 6 1 k105))))))))))))))) (a_ic 0 (a_is 6 k142)))))
set_option maxRecDepth 100000 in
theorem X12_copy_s105 {z : CZ} {k105 k142 : Kn} (hk105 : SK (X12_copy_x z) 105 k105) (hk142 : SK (X12_copy_x z) 142 k142) : SK (X12_copy_x z) 105 (X12_copy_b105 k105 k142) := (s_iload (pc := 105) dX12_copy_105 (s_iload (pc := 107) dX12_copy_107 (s_cmpge (pc := 109) dX12_copy_109 (by decide) (s_iconst (pc := 139) dX12_copy_139 c_ic_0 (s_istore (pc := 140) dX12_copy_140 (show 6 < 7 by decide) hk142)) (s_aloadn (pc := 112) dX12_copy_112 rfl (s_gR (pc := 113) (f := 48) ko_11 (by decide) rfl rfl w_1343 dX12_copy_113 (s_iload (pc := 116) dX12_copy_116 (s_aloadn (pc := 118) dX12_copy_118 rfl (s_gR (pc := 119) (f := 43) ko_11 (by decide) rfl rfl w_1338 dX12_copy_119 (s_bipush (pc := 122) dX12_copy_122 c_bp_24 (s_iloadn (pc := 124) dX12_copy_124 rfl (s_imul (pc := 125) dX12_copy_125 (s_iloadn (pc := 126) dX12_copy_126 rfl (s_iadd (pc := 127) dX12_copy_127 (s_iload (pc := 128) dX12_copy_128 (s_iadd (pc := 130) dX12_copy_130 (s_iald (pc := 131) (by decide) (by decide) rfl rfl rfl dX12_copy_131 (s_iast (pc := 132) (by decide) (by decide) rfl rfl rfl dX12_copy_132 (s_iinc (pc := 133) dX12_copy_133 c_ic_1 (show 6 < 7 by decide) (s_goto (pc := 136) dX12_copy_136 (by decide) hk105)))))))))))))))))))
noncomputable def X12_copy_b142 (k142 : Kn) : Kn := (a_il 6 (a_il 5 (a_lt (a_al 0 (a_gR 11 747 64 (a_ic 24 (a_il 3 (a_b (fun a b => a * b) (a_il 4 (a_b (fun a b => a + b) (a_il 6 (a_b (fun a b => a + b) (a_al 0 (a_gR 11 752 69 (a_il 6 (a_ald 69 4416 (a_ast 64 4096 (fun a => a) (a_inc 6 1 k142))))))))))))))) (a_il 5 a_ir))))
set_option maxRecDepth 100000 in
theorem X12_copy_s142 {z : CZ} {k142 : Kn} (hk142 : SK (X12_copy_x z) 142 k142) : SK (X12_copy_x z) 142 (X12_copy_b142 k142) := (s_iload (pc := 142) dX12_copy_142 (s_iload (pc := 144) dX12_copy_144 (s_cmpge (pc := 146) dX12_copy_146 (by decide) (s_iload (pc := 177) dX12_copy_177 (s_ir (pc := 179) rfl dX12_copy_179)) (s_aloadn (pc := 149) dX12_copy_149 rfl (s_gR (pc := 150) (f := 43) ko_11 (by decide) rfl rfl w_1338 dX12_copy_150 (s_bipush (pc := 153) dX12_copy_153 c_bp_24 (s_iloadn (pc := 155) dX12_copy_155 rfl (s_imul (pc := 156) dX12_copy_156 (s_iload (pc := 157) dX12_copy_157 (s_iadd (pc := 159) dX12_copy_159 (s_iload (pc := 160) dX12_copy_160 (s_iadd (pc := 162) dX12_copy_162 (s_aloadn (pc := 163) dX12_copy_163 rfl (s_gR (pc := 164) (f := 48) ko_11 (by decide) rfl rfl w_1343 dX12_copy_164 (s_iload (pc := 167) dX12_copy_167 (s_iald (pc := 169) (by decide) (by decide) rfl rfl rfl dX12_copy_169 (s_iast (pc := 170) (by decide) (by decide) rfl rfl rfl dX12_copy_170 (s_iinc (pc := 171) dX12_copy_171 c_ic_1 (show 6 < 7 by decide) (s_goto (pc := 174) dX12_copy_174 (by decide) hk142)))))))))))))))))))
noncomputable def X12_copy_u105 (g : Nat → Int32 → Int32 → Int32 → Int32 → Int32 → Int32 → PH → Option Rs) : Kn := fun ls st h => gL 0 st (gT 11 ls 0 fun t => gI ls 1 fun x1 => gI ls 2 fun x2 => gI ls 3 fun x3 => gI ls 4 fun x4 => gI ls 5 fun x5 => gI ls 6 fun x6 => g t x1 x2 x3 x4 x5 x6 h)
noncomputable def X12_copy_u142 (g : Nat → Int32 → Int32 → Int32 → Int32 → PH → Option Rs) : Kn := fun ls st h => gL 0 st (gT 11 ls 0 fun t => gI ls 3 fun x3 => gI ls 4 fun x4 => gI ls 5 fun x5 => gI ls 6 fun x6 => g t x3 x4 x5 x6 h)
noncomputable def X12_copy_f0 (c_X12_isSheet : Int32 → PH → Option Rs) (g105 : Nat → Int32 → Int32 → Int32 → Int32 → Int32 → Int32 → PH → Option Rs) (t : Nat) (x1 : Int32) (x2 : Int32) (x3 : Int32) (x4 : Int32) (x5 : Int32) (h : PH) : Option Rs :=
  cI (c_X12_isSheet x1 h) fun v2 h1 =>
  if v2 = 0 then
    some (some (.inl (-1000000001)), h1)
  else
    cI (c_X12_isSheet x3 h1) fun v4 h3 =>
    if v4 = 0 then
      some (some (.inl (-1000000001)), h3)
    else
      nn (hR h3 745 t 0) fun r5 =>
      ix x1 (hL h3 62 r5) fun j6 =>
      if (hI h3 3968 r5 j6) < 0 then
        some (some (.inl (-1000000011)), h3)
      else
        nn (hR h3 745 t 0) fun r7 =>
        ix x3 (hL h3 62 r7) fun j8 =>
        if (hI h3 3968 r7 j8) < 0 then
          some (some (.inl (-1000000011)), h3)
        else
          nn (hR h3 745 t 0) fun r9 =>
          ix x1 (hL h3 62 r9) fun j10 =>
          nn (hR h3 745 t 0) fun r11 =>
          ix x3 (hL h3 62 r11) fun j12 =>
          if (hI h3 3968 r9 j10) = (hI h3 3968 r11 j12) then
            if x2 < 0 then
              some (some (.inl (-1000000013)), h3)
            else
              if x4 < 0 then
                some (some (.inl (-1000000013)), h3)
              else
                if x5 < 0 then
                  some (some (.inl (-1000000013)), h3)
                else
                  nn (hR h3 746 t 0) fun r13 =>
                  ix x1 (hL h3 63 r13) fun j14 =>
                  if ((hI h3 4032 r13 j14) - x5) < x2 then
                    some (some (.inl (-1000000013)), h3)
                  else
                    nn (hR h3 746 t 0) fun r15 =>
                    ix x3 (hL h3 63 r15) fun j16 =>
                    if ((hI h3 4032 r15 j16) - x5) < x4 then
                      some (some (.inl (-1000000013)), h3)
                    else
                      g105 t x1 x2 x3 x4 x5 0 h3
          else
            some (some (.inl (-1000000012)), h3)
set_option maxRecDepth 100000 in
theorem X12_copy_l0 (c_X12_isSheet : Int32 → PH → Option Rs) (g105 : Nat → Int32 → Int32 → Int32 → Int32 → Int32 → Int32 → PH → Option Rs) (t : Nat) (x1 : Int32) (x2 : Int32) (x3 : Int32) (x4 : Int32) (x5 : Int32) (h : PH) : X12_copy_b0 c_X12_isSheet (X12_copy_u105 g105) [some (.inr (11, t + 1)), some (.inl x1), some (.inl x2), some (.inl x3), some (.inl x4), some (.inl x5), none] [] h = X12_copy_f0 c_X12_isSheet g105 t x1 x2 x3 x4 x5 h := rfl
theorem X12_copy_m0 {c_X12_isSheet : Int32 → PH → Option Rs} {g105 G105 : Nat → Int32 → Int32 → Int32 → Int32 → Int32 → Int32 → PH → Option Rs} (hg105 : ∀ a0 a1 a2 a3 a4 a5 a6 a7, Mo (g105 a0 a1 a2 a3 a4 a5 a6 a7) (G105 a0 a1 a2 a3 a4 a5 a6 a7)) (t : Nat) (x1 : Int32) (x2 : Int32) (x3 : Int32) (x4 : Int32) (x5 : Int32) (h : PH) : Mo (X12_copy_f0 c_X12_isSheet g105 t x1 x2 x3 x4 x5 h) (X12_copy_f0 c_X12_isSheet G105 t x1 x2 x3 x4 x5 h) := (mo_cI fun v2 h1 => (mo_if mo_rf (mo_cI fun v4 h3 => (mo_if mo_rf (mo_nn fun r5 => (mo_ix fun j6 => (mo_if mo_rf (mo_nn fun r7 => (mo_ix fun j8 => (mo_if mo_rf (mo_nn fun r9 => (mo_ix fun j10 => (mo_nn fun r11 => (mo_ix fun j12 => (mo_if (mo_if mo_rf (mo_if mo_rf (mo_if mo_rf (mo_nn fun r13 => (mo_ix fun j14 => (mo_if mo_rf (mo_nn fun r15 => (mo_ix fun j16 => (mo_if mo_rf (hg105 t x1 x2 x3 x4 x5 0 h3)))))))))) mo_rf)))))))))))))))
noncomputable def X12_copy_f105 (g105 : Nat → Int32 → Int32 → Int32 → Int32 → Int32 → Int32 → PH → Option Rs) (g142 : Nat → Int32 → Int32 → Int32 → Int32 → PH → Option Rs) (t : Nat) (x1 : Int32) (x2 : Int32) (x3 : Int32) (x4 : Int32) (x5 : Int32) (x6 : Int32) (h : PH) : Option Rs :=
  if x6 < x5 then
    nn (hR h 747 t 0) fun r17 =>
    ix (((24 * x1) + x2) + x6) (hL h 64 r17) fun j18 =>
    nn (hR h 752 t 0) fun r19 =>
    ix x6 (hL h 69 r19) fun j20 =>
    wr (pI h 4416 r19 j20 (hI h 4096 r17 j18)) fun h21 =>
    g105 t x1 x2 x3 x4 x5 (x6 + 1) h21
  else
    g142 t x3 x4 x5 0 h
set_option maxRecDepth 100000 in
theorem X12_copy_l105 (g105 : Nat → Int32 → Int32 → Int32 → Int32 → Int32 → Int32 → PH → Option Rs) (g142 : Nat → Int32 → Int32 → Int32 → Int32 → PH → Option Rs) (t : Nat) (x1 : Int32) (x2 : Int32) (x3 : Int32) (x4 : Int32) (x5 : Int32) (x6 : Int32) (h : PH) : X12_copy_b105 (X12_copy_u105 g105) (X12_copy_u142 g142) [some (.inr (11, t + 1)), some (.inl x1), some (.inl x2), some (.inl x3), some (.inl x4), some (.inl x5), some (.inl x6)] [] h = X12_copy_f105 g105 g142 t x1 x2 x3 x4 x5 x6 h := rfl
theorem X12_copy_m105 {g105 G105 : Nat → Int32 → Int32 → Int32 → Int32 → Int32 → Int32 → PH → Option Rs} {g142 G142 : Nat → Int32 → Int32 → Int32 → Int32 → PH → Option Rs} (hg105 : ∀ a0 a1 a2 a3 a4 a5 a6 a7, Mo (g105 a0 a1 a2 a3 a4 a5 a6 a7) (G105 a0 a1 a2 a3 a4 a5 a6 a7)) (hg142 : ∀ a0 a1 a2 a3 a4 a5, Mo (g142 a0 a1 a2 a3 a4 a5) (G142 a0 a1 a2 a3 a4 a5)) (t : Nat) (x1 : Int32) (x2 : Int32) (x3 : Int32) (x4 : Int32) (x5 : Int32) (x6 : Int32) (h : PH) : Mo (X12_copy_f105 g105 g142 t x1 x2 x3 x4 x5 x6 h) (X12_copy_f105 G105 G142 t x1 x2 x3 x4 x5 x6 h) := (mo_if (mo_nn fun r17 => (mo_ix fun j18 => (mo_nn fun r19 => (mo_ix fun j20 => (mo_wr fun h21 => (hg105 t x1 x2 x3 x4 x5 (x6 + 1) h21)))))) (hg142 t x3 x4 x5 0 h))
theorem X12_copy_w105 {z : CZ} {g105 : Nat → Int32 → Int32 → Int32 → Int32 → Int32 → Int32 → PH → Option Rs} {g142 : Nat → Int32 → Int32 → Int32 → Int32 → PH → Option Rs} (hk105 : SK (X12_copy_x z) 105 (X12_copy_u105 g105)) (hk142 : SK (X12_copy_x z) 142 (X12_copy_u142 g142)) : SK (X12_copy_x z) 105 (X12_copy_u105 (X12_copy_f105 g105 g142)) := by
  intro ls st h r e
  obtain ⟨hst, e⟩ := gL_of e
  obtain ⟨t, q0, e⟩ := gT_of e
  obtain ⟨x1, q1, e⟩ := gI_of e
  obtain ⟨x2, q2, e⟩ := gI_of e
  obtain ⟨x3, q3, e⟩ := gI_of e
  obtain ⟨x4, q4, e⟩ := gI_of e
  obtain ⟨x5, q5, e⟩ := gI_of e
  obtain ⟨x6, q6, e⟩ := gI_of e
  rw [st_0 hst]
  exact WK.sub (canon := [some (.inr (11, t + 1)), some (.inl x1), some (.inl x2), some (.inl x3), some (.inl x4), some (.inl x5), some (.inl x6)]) rfl ⟨q0, q1, q2, q3, q4, q5, q6, trivial⟩ (X12_copy_s105 hk105 hk142 _ _ _ _ ((X12_copy_l105 g105 g142 t x1 x2 x3 x4 x5 x6 h).trans e))
noncomputable def X12_copy_f142 (g142 : Nat → Int32 → Int32 → Int32 → Int32 → PH → Option Rs) (t : Nat) (x3 : Int32) (x4 : Int32) (x5 : Int32) (x6 : Int32) (h : PH) : Option Rs :=
  if x6 < x5 then
    nn (hR h 752 t 0) fun r22 =>
    ix x6 (hL h 69 r22) fun j23 =>
    nn (hR h 747 t 0) fun r24 =>
    ix (((24 * x3) + x4) + x6) (hL h 64 r24) fun j25 =>
    wr (pI h 4096 r24 j25 (hI h 4416 r22 j23)) fun h26 =>
    g142 t x3 x4 x5 (x6 + 1) h26
  else
    some (some (.inl x5), h)
set_option maxRecDepth 100000 in
theorem X12_copy_l142 (g142 : Nat → Int32 → Int32 → Int32 → Int32 → PH → Option Rs) (t : Nat) (x3 : Int32) (x4 : Int32) (x5 : Int32) (x6 : Int32) (h : PH) : X12_copy_b142 (X12_copy_u142 g142) [some (.inr (11, t + 1)), none, none, some (.inl x3), some (.inl x4), some (.inl x5), some (.inl x6)] [] h = X12_copy_f142 g142 t x3 x4 x5 x6 h := rfl
theorem X12_copy_m142 {g142 G142 : Nat → Int32 → Int32 → Int32 → Int32 → PH → Option Rs} (hg142 : ∀ a0 a1 a2 a3 a4 a5, Mo (g142 a0 a1 a2 a3 a4 a5) (G142 a0 a1 a2 a3 a4 a5)) (t : Nat) (x3 : Int32) (x4 : Int32) (x5 : Int32) (x6 : Int32) (h : PH) : Mo (X12_copy_f142 g142 t x3 x4 x5 x6 h) (X12_copy_f142 G142 t x3 x4 x5 x6 h) := (mo_if (mo_nn fun r22 => (mo_ix fun j23 => (mo_nn fun r24 => (mo_ix fun j25 => (mo_wr fun h26 => (hg142 t x3 x4 x5 (x6 + 1) h26)))))) mo_rf)
theorem X12_copy_w142 {z : CZ} {g142 : Nat → Int32 → Int32 → Int32 → Int32 → PH → Option Rs} (hk142 : SK (X12_copy_x z) 142 (X12_copy_u142 g142)) : SK (X12_copy_x z) 142 (X12_copy_u142 (X12_copy_f142 g142)) := by
  intro ls st h r e
  obtain ⟨hst, e⟩ := gL_of e
  obtain ⟨t, q0, e⟩ := gT_of e
  obtain ⟨x3, q1, e⟩ := gI_of e
  obtain ⟨x4, q2, e⟩ := gI_of e
  obtain ⟨x5, q3, e⟩ := gI_of e
  obtain ⟨x6, q4, e⟩ := gI_of e
  rw [st_0 hst]
  exact WK.sub (canon := [some (.inr (11, t + 1)), none, none, some (.inl x3), some (.inl x4), some (.inl x5), some (.inl x6)]) rfl ⟨q0, q1, q2, q3, q4, trivial⟩ (X12_copy_s142 hk142 _ _ _ _ ((X12_copy_l142 g142 t x3 x4 x5 x6 h).trans e))
noncomputable def X12_copy_g0 (G : (Nat → Int32 → Int32 → Int32 → Int32 → Int32 → Int32 → PH → Option Rs) × (Nat → Int32 → Int32 → Int32 → Int32 → PH → Option Rs)) (t : Nat) (x1 : Int32) (x2 : Int32) (x3 : Int32) (x4 : Int32) (x5 : Int32) (h : PH) : Option Rs := X12_copy_f0 X12_isSheet (G).1 t x1 x2 x3 x4 x5 h
noncomputable def X12_copy_g105 (G : (Nat → Int32 → Int32 → Int32 → Int32 → Int32 → Int32 → PH → Option Rs) × (Nat → Int32 → Int32 → Int32 → Int32 → PH → Option Rs)) (t : Nat) (x1 : Int32) (x2 : Int32) (x3 : Int32) (x4 : Int32) (x5 : Int32) (x6 : Int32) (h : PH) : Option Rs := X12_copy_f105 (G).1 (G).2 t x1 x2 x3 x4 x5 x6 h
noncomputable def X12_copy_g142 (G : (Nat → Int32 → Int32 → Int32 → Int32 → Int32 → Int32 → PH → Option Rs) × (Nat → Int32 → Int32 → Int32 → Int32 → PH → Option Rs)) (t : Nat) (x3 : Int32) (x4 : Int32) (x5 : Int32) (x6 : Int32) (h : PH) : Option Rs := X12_copy_f142 (G).2 t x3 x4 x5 x6 h
theorem X12_copy_v105 {z : CZ} {G : (Nat → Int32 → Int32 → Int32 → Int32 → Int32 → Int32 → PH → Option Rs) × (Nat → Int32 → Int32 → Int32 → Int32 → PH → Option Rs)} (hG105 : SK (X12_copy_x z) 105 (X12_copy_u105 (G).1)) (hG142 : SK (X12_copy_x z) 142 (X12_copy_u142 (G).2)) : SK (X12_copy_x z) 105 (X12_copy_u105 (X12_copy_g105 G)) := X12_copy_w105 hG105 hG142
theorem X12_copy_v142 {z : CZ} {G : (Nat → Int32 → Int32 → Int32 → Int32 → Int32 → Int32 → PH → Option Rs) × (Nat → Int32 → Int32 → Int32 → Int32 → PH → Option Rs)} (hG105 : SK (X12_copy_x z) 105 (X12_copy_u105 (G).1)) (hG142 : SK (X12_copy_x z) 142 (X12_copy_u142 (G).2)) : SK (X12_copy_x z) 142 (X12_copy_u142 (X12_copy_g142 G)) := X12_copy_w142 hG142
noncomputable def X12_copy_fam : Nat → (Nat → Int32 → Int32 → Int32 → Int32 → Int32 → Int32 → PH → Option Rs) × (Nat → Int32 → Int32 → Int32 → Int32 → PH → Option Rs)
  | 0 => (fun _ _ _ _ _ _ _ _ => none, fun _ _ _ _ _ _ => none)
  | n + 1 => (X12_copy_g105 (X12_copy_fam n), X12_copy_g142 (X12_copy_fam n))
theorem X12_copy_k {z : CZ} : ∀ n, SK (X12_copy_x z) 105 (X12_copy_u105 (X12_copy_fam n).1) ∧ SK (X12_copy_x z) 142 (X12_copy_u142 (X12_copy_fam n).2)
  | 0 => ⟨(fun ls st h r e => by
      obtain ⟨_, e⟩ := gL_of e
      obtain ⟨_, _, e⟩ := gT_of e
      obtain ⟨_, _, e⟩ := gI_of e
      obtain ⟨_, _, e⟩ := gI_of e
      obtain ⟨_, _, e⟩ := gI_of e
      obtain ⟨_, _, e⟩ := gI_of e
      obtain ⟨_, _, e⟩ := gI_of e
      obtain ⟨_, _, e⟩ := gI_of e
      cases e), (fun ls st h r e => by
      obtain ⟨_, e⟩ := gL_of e
      obtain ⟨_, _, e⟩ := gT_of e
      obtain ⟨_, _, e⟩ := gI_of e
      obtain ⟨_, _, e⟩ := gI_of e
      obtain ⟨_, _, e⟩ := gI_of e
      obtain ⟨_, _, e⟩ := gI_of e
      cases e)⟩
  | n + 1 => by
    obtain ⟨ih105, ih142⟩ := X12_copy_k n
    exact ⟨X12_copy_v105 ih105 ih142, X12_copy_v142 ih105 ih142⟩
theorem X12_copy_n0 {G G' : (Nat → Int32 → Int32 → Int32 → Int32 → Int32 → Int32 → PH → Option Rs) × (Nat → Int32 → Int32 → Int32 → Int32 → PH → Option Rs)} (hg105 : ∀ a0 a1 a2 a3 a4 a5 a6 a7, Mo ((G).1 a0 a1 a2 a3 a4 a5 a6 a7) ((G').1 a0 a1 a2 a3 a4 a5 a6 a7)) (hg142 : ∀ a0 a1 a2 a3 a4 a5, Mo ((G).2 a0 a1 a2 a3 a4 a5) ((G').2 a0 a1 a2 a3 a4 a5)) (t : Nat) (x1 : Int32) (x2 : Int32) (x3 : Int32) (x4 : Int32) (x5 : Int32) (h : PH) : Mo (X12_copy_g0 G t x1 x2 x3 x4 x5 h) (X12_copy_g0 G' t x1 x2 x3 x4 x5 h) := X12_copy_m0 hg105 t x1 x2 x3 x4 x5 h
theorem X12_copy_n105 {G G' : (Nat → Int32 → Int32 → Int32 → Int32 → Int32 → Int32 → PH → Option Rs) × (Nat → Int32 → Int32 → Int32 → Int32 → PH → Option Rs)} (hg105 : ∀ a0 a1 a2 a3 a4 a5 a6 a7, Mo ((G).1 a0 a1 a2 a3 a4 a5 a6 a7) ((G').1 a0 a1 a2 a3 a4 a5 a6 a7)) (hg142 : ∀ a0 a1 a2 a3 a4 a5, Mo ((G).2 a0 a1 a2 a3 a4 a5) ((G').2 a0 a1 a2 a3 a4 a5)) (t : Nat) (x1 : Int32) (x2 : Int32) (x3 : Int32) (x4 : Int32) (x5 : Int32) (x6 : Int32) (h : PH) : Mo (X12_copy_g105 G t x1 x2 x3 x4 x5 x6 h) (X12_copy_g105 G' t x1 x2 x3 x4 x5 x6 h) := X12_copy_m105 hg105 hg142 t x1 x2 x3 x4 x5 x6 h
theorem X12_copy_n142 {G G' : (Nat → Int32 → Int32 → Int32 → Int32 → Int32 → Int32 → PH → Option Rs) × (Nat → Int32 → Int32 → Int32 → Int32 → PH → Option Rs)} (hg105 : ∀ a0 a1 a2 a3 a4 a5 a6 a7, Mo ((G).1 a0 a1 a2 a3 a4 a5 a6 a7) ((G').1 a0 a1 a2 a3 a4 a5 a6 a7)) (hg142 : ∀ a0 a1 a2 a3 a4 a5, Mo ((G).2 a0 a1 a2 a3 a4 a5) ((G').2 a0 a1 a2 a3 a4 a5)) (t : Nat) (x3 : Int32) (x4 : Int32) (x5 : Int32) (x6 : Int32) (h : PH) : Mo (X12_copy_g142 G t x3 x4 x5 x6 h) (X12_copy_g142 G' t x3 x4 x5 x6 h) := X12_copy_m142 hg142 t x3 x4 x5 x6 h
theorem X12_copy_fm : ∀ n, (∀ a0 a1 a2 a3 a4 a5 a6 a7, Mo ((X12_copy_fam n).1 a0 a1 a2 a3 a4 a5 a6 a7) ((X12_copy_fam (n + 1)).1 a0 a1 a2 a3 a4 a5 a6 a7)) ∧ (∀ a0 a1 a2 a3 a4 a5, Mo ((X12_copy_fam n).2 a0 a1 a2 a3 a4 a5) ((X12_copy_fam (n + 1)).2 a0 a1 a2 a3 a4 a5))
  | 0 => ⟨fun _ _ _ _ _ _ _ _ => mo_no, fun _ _ _ _ _ _ => mo_no⟩
  | n + 1 => by
    obtain ⟨ih105, ih142⟩ := X12_copy_fm n
    exact ⟨fun a0 a1 a2 a3 a4 a5 a6 a7 => X12_copy_n105 ih105 ih142 a0 a1 a2 a3 a4 a5 a6 a7, fun a0 a1 a2 a3 a4 a5 => X12_copy_n142 ih105 ih142 a0 a1 a2 a3 a4 a5⟩
noncomputable def X12_copy (t : Nat) (x1 : Int32) (x2 : Int32) (x3 : Int32) (x4 : Int32) (x5 : Int32) (h : PH) : Option Rs := lim (fun n => X12_copy_g0 (X12_copy_fam n) t x1 x2 x3 x4 x5 h)
theorem X12_copy_iff {t : Nat} {x1 : Int32} {x2 : Int32} {x3 : Int32} {x4 : Int32} {x5 : Int32} {h : PH} {r : Rs} : X12_copy t x1 x2 x3 x4 x5 h = some r ↔ ∃ n, X12_copy_g0 (X12_copy_fam n) t x1 x2 x3 x4 x5 h = some r := lim_iff (fun n => by
  obtain ⟨ih105, ih142⟩ := X12_copy_fm n
  exact X12_copy_n0 ih105 ih142 t x1 x2 x3 x4 x5 h)
noncomputable abbrev X12_copy_F : List PV → PH → Option Rs := FW_T11IIIII (X12_copy)
set_option maxRecDepth 100000 in
theorem X12_copy_gd (l : Launch) : Gd l 2 yX12_copy cX12_copy 7 (some .int) (X12_copy_F)   := Gd_of (by decide +kernel) (fun z hzl as h r e => by
  obtain ⟨hst, e⟩ := gL_of e
  obtain ⟨t, q0, e⟩ := gT_of e
  obtain ⟨x1, q1, e⟩ := gI_of e
  obtain ⟨x2, q2, e⟩ := gI_of e
  obtain ⟨x3, q3, e⟩ := gI_of e
  obtain ⟨x4, q4, e⟩ := gI_of e
  obtain ⟨x5, q5, e⟩ := gI_of e
  rw [st_6 hst q0 q1 q2 q3 q4 q5]
  obtain ⟨n, e⟩ := lim_of e
  obtain ⟨hG105, hG142⟩ := X12_copy_k (z := z) n
  exact ⟨show 6 ≤ 7 by decide, X12_copy_s0 hG105 _ _ _ _ ((X12_copy_l0 X12_isSheet (X12_copy_fam n).1 t x1 x2 x3 x4 x5 h).trans e)⟩)
abbrev X12_isSlot_x (z : CZ) : CX := mx RX12 cX12_isSlot 1 1 (some .boolean) "isSlot" z
noncomputable def X12_isSlot_b0 (c_X12_in : Int32 → Int32 → Int32 → PH → Option Rs) : Kn := (a_il 0 (a_ic 0 (a_ic 4 (a_sI 3 (FW_III c_X12_in) a_zr))))
set_option maxRecDepth 100000 in
theorem X12_isSlot_s0 {z : CZ} : SK (X12_isSlot_x z) 0 (X12_isSlot_b0 X12_in) := (s_iloadn (pc := 0) dX12_isSlot_0 rfl (s_iconst (pc := 1) dX12_isSlot_1 c_ic_0 (s_iconst (pc := 2) dX12_isSlot_2 c_ic_4 (s_sI (pc := 3) (run_static (X12_in_gd _) (show 0 < 1 by decide) cy_X12_in w_1464 w_1463 dX12_isSlot_3) (s_zr (pc := 6) rfl dX12_isSlot_6)))))
noncomputable def X12_isSlot_f0 (c_X12_in : Int32 → Int32 → Int32 → PH → Option Rs) (x0 : Int32) (h : PH) : Option Rs :=
  cI (c_X12_in x0 0 4 h) fun v2 h1 =>
  bz v2 <|
  some (some (.inl v2), h1)
set_option maxRecDepth 100000 in
theorem X12_isSlot_l0 (c_X12_in : Int32 → Int32 → Int32 → PH → Option Rs) (x0 : Int32) (h : PH) : X12_isSlot_b0 c_X12_in [some (.inl x0)] [] h = X12_isSlot_f0 c_X12_in x0 h := rfl
noncomputable def X12_isSlot_g0 (x0 : Int32) (h : PH) : Option Rs := X12_isSlot_f0 X12_in x0 h
noncomputable def X12_isSlot (x0 : Int32) (h : PH) : Option Rs := X12_isSlot_g0 x0 h
noncomputable abbrev X12_isSlot_F : List PV → PH → Option Rs := FW_I (X12_isSlot)
set_option maxRecDepth 100000 in
theorem X12_isSlot_gd (l : Launch) : Gd l 1 yX12_isSlot cX12_isSlot 1 (some .boolean) (X12_isSlot_F)   := Gd_of (by decide +kernel) (fun z hzl as h r e => by
  obtain ⟨hst, e⟩ := gL_of e
  obtain ⟨x0, q0, e⟩ := gI_of e
  rw [st_1 hst q0]
  exact ⟨show 1 ≤ 1 by decide, X12_isSlot_s0 _ _ _ _ ((X12_isSlot_l0 X12_in x0 h).trans e)⟩)
abbrev X12_lay_x (z : CZ) : CX := mx RX12 cX12_lay 6 2 (some .int) "lay" z
noncomputable def X12_lay_b0 (c_X12_isSlot : Int32 → PH → Option Rs) (c_X12_in : Int32 → Int32 → Int32 → PH → Option Rs) (c_X12_isSign : Nat → Int32 → PH → Option Rs) (k29 : Kn) : Kn := (a_il 1 (a_sI 1 (FW_I c_X12_isSlot) (a_z (a_ic (-1000000001) a_ir) (a_il 2 (a_ic 0 (a_ic 3 (a_sI 3 (FW_III c_X12_in) (a_z (a_ic (-1000000001) a_ir) (a_il 2 (a_ic 1 (a_eq (a_al 0 (a_il 3 (a_vI 11 1 (FW_T11I c_X12_isSign) (a_z (a_ic (-1000000001) a_ir) k29)))) k29)))))))))))
set_option maxRecDepth 100000 in
theorem X12_lay_s0 {z : CZ} {k29 : Kn} (hk29 : SK (X12_lay_x z) 29 k29) : SK (X12_lay_x z) 0 (X12_lay_b0 X12_isSlot X12_in X12_isSign k29) := (s_iloadn (pc := 0) dX12_lay_0 rfl (s_sI (pc := 1) (run_static (X12_isSlot_gd _) (show 1 < 2 by decide) cy_X12_isSlot w_1847 w_1846 dX12_lay_1) (s_ifeq (pc := 4) dX12_lay_4 (by decide) (s_ldc (pc := 41) w_1466 dX12_lay_41 (s_ir (pc := 43) rfl dX12_lay_43)) (s_iloadn (pc := 7) dX12_lay_7 rfl (s_iconst (pc := 8) dX12_lay_8 c_ic_0 (s_iconst (pc := 9) dX12_lay_9 c_ic_3 (s_sI (pc := 10) (run_static (X12_in_gd _) (show 0 < 2 by decide) cy_X12_in w_1464 w_1463 dX12_lay_10) (s_ifeq (pc := 13) dX12_lay_13 (by decide) (s_ldc (pc := 41) w_1466 dX12_lay_41 (s_ir (pc := 43) rfl dX12_lay_43)) (s_iloadn (pc := 16) dX12_lay_16 rfl (s_iconst (pc := 17) dX12_lay_17 c_ic_1 (s_cmpne (pc := 18) dX12_lay_18 (by decide) hk29 (s_aloadn (pc := 21) dX12_lay_21 rfl (s_iloadn (pc := 22) dX12_lay_22 rfl (s_vI (pc := 23) (run_virtual (X12_isSign_gd _) (show 1 < 2 by decide) cy_X12_isSign (by decide) rfl w_1530 w_s37 w_1528 dX12_lay_23) (s_ifeq (pc := 26) dX12_lay_26 (by decide) (s_ldc (pc := 41) w_1466 dX12_lay_41 (s_ir (pc := 43) rfl dX12_lay_43)) hk29)))))))))))))))
noncomputable def X12_lay_b29 (c_X12_isSheet : Int32 → PH → Option Rs) (k44 : Kn) : Kn := (a_il 2 (a_ic 2 (a_eq (a_il 3 (a_sI 1 (FW_I c_X12_isSheet) (a_z (a_ic (-1000000001) a_ir) k44))) k44)))
set_option maxRecDepth 100000 in
theorem X12_lay_s29 {z : CZ} {k44 : Kn} (hk44 : SK (X12_lay_x z) 44 k44) : SK (X12_lay_x z) 29 (X12_lay_b29 X12_isSheet k44) := (s_iloadn (pc := 29) dX12_lay_29 rfl (s_iconst (pc := 30) dX12_lay_30 c_ic_2 (s_cmpne (pc := 31) dX12_lay_31 (by decide) hk44 (s_iloadn (pc := 34) dX12_lay_34 rfl (s_sI (pc := 35) (run_static (X12_isSheet_gd _) (show 1 < 2 by decide) cy_X12_isSheet w_1825 w_1824 dX12_lay_35) (s_ifne (pc := 38) dX12_lay_38 (by decide) hk44 (s_ldc (pc := 41) w_1466 dX12_lay_41 (s_ir (pc := 43) rfl dX12_lay_43))))))))
noncomputable def X12_lay_b44 (k62 : Kn) : Kn := (a_il 2 (a_ic 2 (a_eq (a_al 0 (a_gR 11 745 62 (a_il 3 (a_ald 62 3968 (a_n (a_ic (-1000000011) a_ir) k62))))) k62)))
set_option maxRecDepth 100000 in
theorem X12_lay_s44 {z : CZ} {k62 : Kn} (hk62 : SK (X12_lay_x z) 62 k62) : SK (X12_lay_x z) 44 (X12_lay_b44 k62) := (s_iloadn (pc := 44) dX12_lay_44 rfl (s_iconst (pc := 45) dX12_lay_45 c_ic_2 (s_cmpne (pc := 46) dX12_lay_46 (by decide) hk62 (s_aloadn (pc := 49) dX12_lay_49 rfl (s_gR (pc := 50) (f := 41) ko_11 (by decide) rfl rfl w_1336 dX12_lay_50 (s_iloadn (pc := 53) dX12_lay_53 rfl (s_iald (pc := 54) (by decide) (by decide) rfl rfl rfl dX12_lay_54 (s_ifge (pc := 55) dX12_lay_55 (by decide) hk62 (s_ldcw (pc := 58) w_1832 dX12_lay_58 (s_ir (pc := 61) rfl dX12_lay_61))))))))))
noncomputable def X12_lay_b62 (c_X12_of5 : Nat → Int32 → Int32 → PH → Option Rs) (k111 : Kn) : Kn := (a_al 0 (a_gR 11 748 65 (a_il 1 (a_ald 65 4160 (a_is 4 (a_al 0 (a_gR 11 748 65 (a_il 1 (a_il 2 (a_ast 65 4160 (fun a => a) (a_al 0 (a_gR 11 749 66 (a_il 1 (a_il 2 (a_ic 1 (a_eq (a_al 0 (a_il 3 (a_ic 1 (a_vI 11 2 (FW_T11II c_X12_of5) k111)))) (a_il 2 (a_ic 2 (a_eq (a_al 0 (a_gR 11 746 63 (a_il 3 (a_ald 63 4032 k111)))) (a_il 3 k111))))))))))))))))))))
set_option maxRecDepth 100000 in
theorem X12_lay_s62 {z : CZ} {k111 : Kn} (hk111 : SK (X12_lay_x z) 111 k111) : SK (X12_lay_x z) 62 (X12_lay_b62 X12_of5 k111) := (s_aloadn (pc := 62) dX12_lay_62 rfl (s_gR (pc := 63) (f := 44) ko_11 (by decide) rfl rfl w_1339 dX12_lay_63 (s_iloadn (pc := 66) dX12_lay_66 rfl (s_iald (pc := 67) (by decide) (by decide) rfl rfl rfl dX12_lay_67 (s_istore (pc := 68) dX12_lay_68 (show 4 < 6 by decide) (s_aloadn (pc := 70) dX12_lay_70 rfl (s_gR (pc := 71) (f := 44) ko_11 (by decide) rfl rfl w_1339 dX12_lay_71 (s_iloadn (pc := 74) dX12_lay_74 rfl (s_iloadn (pc := 75) dX12_lay_75 rfl (s_iast (pc := 76) (by decide) (by decide) rfl rfl rfl dX12_lay_76 (s_aloadn (pc := 77) dX12_lay_77 rfl (s_gR (pc := 78) (f := 45) ko_11 (by decide) rfl rfl w_1340 dX12_lay_78 (s_iloadn (pc := 81) dX12_lay_81 rfl (s_iloadn (pc := 82) dX12_lay_82 rfl (s_iconst (pc := 83) dX12_lay_83 c_ic_1 (s_cmpne (pc := 84) dX12_lay_84 (by decide) (s_iloadn (pc := 96) dX12_lay_96 rfl (s_iconst (pc := 97) dX12_lay_97 c_ic_2 (s_cmpne (pc := 98) dX12_lay_98 (by decide) (s_iloadn (pc := 110) dX12_lay_110 rfl hk111) (s_aloadn (pc := 101) dX12_lay_101 rfl (s_gR (pc := 102) (f := 42) ko_11 (by decide) rfl rfl w_1337 dX12_lay_102 (s_iloadn (pc := 105) dX12_lay_105 rfl (s_iald (pc := 106) (by decide) (by decide) rfl rfl rfl dX12_lay_106 (s_goto (pc := 107) dX12_lay_107 (by decide) hk111)))))))) (s_aloadn (pc := 87) dX12_lay_87 rfl (s_iloadn (pc := 88) dX12_lay_88 rfl (s_iconst (pc := 89) dX12_lay_89 c_ic_1 (s_vI (pc := 90) (run_virtual (X12_of5_gd _) (show 0 < 2 by decide) cy_X12_of5 (by decide) rfl w_1534 w_s38 w_1532 dX12_lay_90) (s_goto (pc := 93) dX12_lay_93 (by decide) hk111)))))))))))))))))))))
noncomputable def X12_lay_b111 (c_X12_rowsOf : Nat → Int32 → PH → Option Rs) (k131 : Kn) : Kn := (a_ast 66 4224 (fun a => a) (a_al 0 (a_gR 11 750 67 (a_il 1 (a_il 2 (a_ic 1 (a_eq (a_al 0 (a_il 3 (a_vI 11 1 (FW_T11I c_X12_rowsOf) k131))) (a_ic 0 k131))))))))
set_option maxRecDepth 100000 in
theorem X12_lay_s111 {z : CZ} {k131 : Kn} (hk131 : SK (X12_lay_x z) 131 k131) : SK (X12_lay_x z) 111 (X12_lay_b111 X12_rowsOf k131) := (s_iast (pc := 111) (by decide) (by decide) rfl rfl rfl dX12_lay_111 (s_aloadn (pc := 112) dX12_lay_112 rfl (s_gR (pc := 113) (f := 46) ko_11 (by decide) rfl rfl w_1341 dX12_lay_113 (s_iloadn (pc := 116) dX12_lay_116 rfl (s_iloadn (pc := 117) dX12_lay_117 rfl (s_iconst (pc := 118) dX12_lay_118 c_ic_1 (s_cmpne (pc := 119) dX12_lay_119 (by decide) (s_iconst (pc := 130) dX12_lay_130 c_ic_0 hk131) (s_aloadn (pc := 122) dX12_lay_122 rfl (s_iloadn (pc := 123) dX12_lay_123 rfl (s_vI (pc := 124) (run_virtual (X12_rowsOf_gd _) (show 1 < 2 by decide) cy_X12_rowsOf (by decide) rfl w_1538 w_s39 w_1536 dX12_lay_124) (s_goto (pc := 127) dX12_lay_127 (by decide) hk131)))))))))))
noncomputable def X12_lay_b131 (k135 : Kn) : Kn := (a_ast 67 4288 (fun a => a) (a_ic 0 (a_is 5 k135)))
set_option maxRecDepth 100000 in
theorem X12_lay_s131 {z : CZ} {k135 : Kn} (hk135 : SK (X12_lay_x z) 135 k135) : SK (X12_lay_x z) 131 (X12_lay_b131 k135) := (s_iast (pc := 131) (by decide) (by decide) rfl rfl rfl dX12_lay_131 (s_iconst (pc := 132) dX12_lay_132 c_ic_0 (s_istore (pc := 133) dX12_lay_133 (show 5 < 6 by decide) hk135)))
noncomputable def X12_lay_b135 (k135 : Kn) : Kn := (a_il 5 (a_ic 24 (a_lt (a_il 2 (a_ic 2 (a_eq (a_al 0 (a_gR 11 751 68 (a_ic 24 (a_il 1 (a_b (fun a b => a * b) (a_il 5 (a_b (fun a b => a + b) (a_al 0 (a_gR 11 747 64 (a_ic 24 (a_il 3 (a_b (fun a b => a * b) (a_il 5 (a_b (fun a b => a + b) (a_ald 64 4096 (a_ast 68 4352 (fun a => a) (a_inc 5 1 k135))))))))))))))))) (a_il 4 a_ir)))) (a_il 4 a_ir))))
set_option maxRecDepth 100000 in
theorem X12_lay_s135 {z : CZ} {k135 : Kn} (hk135 : SK (X12_lay_x z) 135 k135) : SK (X12_lay_x z) 135 (X12_lay_b135 k135) := (s_iload (pc := 135) dX12_lay_135 (s_bipush (pc := 137) dX12_lay_137 c_bp_24 (s_cmpge (pc := 139) dX12_lay_139 (by decide) (s_iload (pc := 177) dX12_lay_177 (s_ir (pc := 179) rfl dX12_lay_179)) (s_iloadn (pc := 142) dX12_lay_142 rfl (s_iconst (pc := 143) dX12_lay_143 c_ic_2 (s_cmpne (pc := 144) dX12_lay_144 (by decide) (s_iload (pc := 177) dX12_lay_177 (s_ir (pc := 179) rfl dX12_lay_179)) (s_aloadn (pc := 147) dX12_lay_147 rfl (s_gR (pc := 148) (f := 47) ko_11 (by decide) rfl rfl w_1342 dX12_lay_148 (s_bipush (pc := 151) dX12_lay_151 c_bp_24 (s_iloadn (pc := 153) dX12_lay_153 rfl (s_imul (pc := 154) dX12_lay_154 (s_iload (pc := 155) dX12_lay_155 (s_iadd (pc := 157) dX12_lay_157 (s_aloadn (pc := 158) dX12_lay_158 rfl (s_gR (pc := 159) (f := 43) ko_11 (by decide) rfl rfl w_1338 dX12_lay_159 (s_bipush (pc := 162) dX12_lay_162 c_bp_24 (s_iloadn (pc := 164) dX12_lay_164 rfl (s_imul (pc := 165) dX12_lay_165 (s_iload (pc := 166) dX12_lay_166 (s_iadd (pc := 168) dX12_lay_168 (s_iald (pc := 169) (by decide) (by decide) rfl rfl rfl dX12_lay_169 (s_iast (pc := 170) (by decide) (by decide) rfl rfl rfl dX12_lay_170 (s_iinc (pc := 171) dX12_lay_171 c_ic_1 (show 5 < 6 by decide) (s_goto (pc := 174) dX12_lay_174 (by decide) hk135))))))))))))))))))))))))
noncomputable def X12_lay_u29 (g : Nat → Int32 → Int32 → Int32 → PH → Option Rs) : Kn := fun ls st h => gL 0 st (gT 11 ls 0 fun t => gI ls 1 fun x1 => gI ls 2 fun x2 => gI ls 3 fun x3 => g t x1 x2 x3 h)
noncomputable def X12_lay_u44 (g : Nat → Int32 → Int32 → Int32 → PH → Option Rs) : Kn := fun ls st h => gL 0 st (gT 11 ls 0 fun t => gI ls 1 fun x1 => gI ls 2 fun x2 => gI ls 3 fun x3 => g t x1 x2 x3 h)
noncomputable def X12_lay_u62 (g : Nat → Int32 → Int32 → Int32 → PH → Option Rs) : Kn := fun ls st h => gL 0 st (gT 11 ls 0 fun t => gI ls 1 fun x1 => gI ls 2 fun x2 => gI ls 3 fun x3 => g t x1 x2 x3 h)
noncomputable def X12_lay_u111 (g : Nat → Int32 → Int32 → Int32 → Int32 → Int32 → Int32 → Nat → PH → Option Rs) : Kn := fun ls st h => gL 3 st (gT 11 ls 0 fun t => gI ls 1 fun x1 => gI ls 2 fun x2 => gI ls 3 fun x3 => gI ls 4 fun x4 => gI (st.map some) 0 fun s0 => gI (st.map some) 1 fun s1 => gR 66 (st.map some) 2 fun s2 => g t x1 x2 x3 x4 s0 s1 s2 h)
noncomputable def X12_lay_u131 (g : Nat → Int32 → Int32 → Int32 → Int32 → Int32 → Int32 → Nat → PH → Option Rs) : Kn := fun ls st h => gL 3 st (gT 11 ls 0 fun t => gI ls 1 fun x1 => gI ls 2 fun x2 => gI ls 3 fun x3 => gI ls 4 fun x4 => gI (st.map some) 0 fun s0 => gI (st.map some) 1 fun s1 => gR 67 (st.map some) 2 fun s2 => g t x1 x2 x3 x4 s0 s1 s2 h)
noncomputable def X12_lay_u135 (g : Nat → Int32 → Int32 → Int32 → Int32 → Int32 → PH → Option Rs) : Kn := fun ls st h => gL 0 st (gT 11 ls 0 fun t => gI ls 1 fun x1 => gI ls 2 fun x2 => gI ls 3 fun x3 => gI ls 4 fun x4 => gI ls 5 fun x5 => g t x1 x2 x3 x4 x5 h)
noncomputable def X12_lay_f0 (c_X12_isSlot : Int32 → PH → Option Rs) (c_X12_in : Int32 → Int32 → Int32 → PH → Option Rs) (c_X12_isSign : Nat → Int32 → PH → Option Rs) (g29 : Nat → Int32 → Int32 → Int32 → PH → Option Rs) (t : Nat) (x1 : Int32) (x2 : Int32) (x3 : Int32) (h : PH) : Option Rs :=
  cI (c_X12_isSlot x1 h) fun v2 h1 =>
  if v2 = 0 then
    some (some (.inl (-1000000001)), h1)
  else
    cI (c_X12_in x2 0 3 h1) fun v4 h3 =>
    if v4 = 0 then
      some (some (.inl (-1000000001)), h3)
    else
      if x2 = 1 then
        cI (c_X12_isSign t x3 h3) fun v6 h5 =>
        if v6 = 0 then
          some (some (.inl (-1000000001)), h5)
        else
          g29 t x1 x2 x3 h5
      else
        g29 t x1 x2 x3 h3
set_option maxRecDepth 100000 in
theorem X12_lay_l0 (c_X12_isSlot : Int32 → PH → Option Rs) (c_X12_in : Int32 → Int32 → Int32 → PH → Option Rs) (c_X12_isSign : Nat → Int32 → PH → Option Rs) (g29 : Nat → Int32 → Int32 → Int32 → PH → Option Rs) (t : Nat) (x1 : Int32) (x2 : Int32) (x3 : Int32) (h : PH) : X12_lay_b0 c_X12_isSlot c_X12_in c_X12_isSign (X12_lay_u29 g29) [some (.inr (11, t + 1)), some (.inl x1), some (.inl x2), some (.inl x3), none, none] [] h = X12_lay_f0 c_X12_isSlot c_X12_in c_X12_isSign g29 t x1 x2 x3 h := rfl
theorem X12_lay_m0 {c_X12_isSlot : Int32 → PH → Option Rs} {c_X12_in : Int32 → Int32 → Int32 → PH → Option Rs} {c_X12_isSign : Nat → Int32 → PH → Option Rs} {g29 G29 : Nat → Int32 → Int32 → Int32 → PH → Option Rs} (hg29 : ∀ a0 a1 a2 a3 a4, Mo (g29 a0 a1 a2 a3 a4) (G29 a0 a1 a2 a3 a4)) (t : Nat) (x1 : Int32) (x2 : Int32) (x3 : Int32) (h : PH) : Mo (X12_lay_f0 c_X12_isSlot c_X12_in c_X12_isSign g29 t x1 x2 x3 h) (X12_lay_f0 c_X12_isSlot c_X12_in c_X12_isSign G29 t x1 x2 x3 h) := (mo_cI fun v2 h1 => (mo_if mo_rf (mo_cI fun v4 h3 => (mo_if mo_rf (mo_if (mo_cI fun v6 h5 => (mo_if mo_rf (hg29 t x1 x2 x3 h5))) (hg29 t x1 x2 x3 h3))))))
noncomputable def X12_lay_f29 (c_X12_isSheet : Int32 → PH → Option Rs) (g44 : Nat → Int32 → Int32 → Int32 → PH → Option Rs) (t : Nat) (x1 : Int32) (x2 : Int32) (x3 : Int32) (h : PH) : Option Rs :=
  if x2 = 2 then
    cI (c_X12_isSheet x3 h) fun v8 h7 =>
    if v8 = 0 then
      some (some (.inl (-1000000001)), h7)
    else
      g44 t x1 x2 x3 h7
  else
    g44 t x1 x2 x3 h
set_option maxRecDepth 100000 in
theorem X12_lay_l29 (c_X12_isSheet : Int32 → PH → Option Rs) (g44 : Nat → Int32 → Int32 → Int32 → PH → Option Rs) (t : Nat) (x1 : Int32) (x2 : Int32) (x3 : Int32) (h : PH) : X12_lay_b29 c_X12_isSheet (X12_lay_u44 g44) [some (.inr (11, t + 1)), some (.inl x1), some (.inl x2), some (.inl x3), none, none] [] h = X12_lay_f29 c_X12_isSheet g44 t x1 x2 x3 h := rfl
theorem X12_lay_m29 {c_X12_isSheet : Int32 → PH → Option Rs} {g44 G44 : Nat → Int32 → Int32 → Int32 → PH → Option Rs} (hg44 : ∀ a0 a1 a2 a3 a4, Mo (g44 a0 a1 a2 a3 a4) (G44 a0 a1 a2 a3 a4)) (t : Nat) (x1 : Int32) (x2 : Int32) (x3 : Int32) (h : PH) : Mo (X12_lay_f29 c_X12_isSheet g44 t x1 x2 x3 h) (X12_lay_f29 c_X12_isSheet G44 t x1 x2 x3 h) := (mo_if (mo_cI fun v8 h7 => (mo_if mo_rf (hg44 t x1 x2 x3 h7))) (hg44 t x1 x2 x3 h))
theorem X12_lay_w29 {z : CZ} {g44 : Nat → Int32 → Int32 → Int32 → PH → Option Rs} (hk44 : SK (X12_lay_x z) 44 (X12_lay_u44 g44)) : SK (X12_lay_x z) 29 (X12_lay_u29 (X12_lay_f29 X12_isSheet g44)) := by
  intro ls st h r e
  obtain ⟨hst, e⟩ := gL_of e
  obtain ⟨t, q0, e⟩ := gT_of e
  obtain ⟨x1, q1, e⟩ := gI_of e
  obtain ⟨x2, q2, e⟩ := gI_of e
  obtain ⟨x3, q3, e⟩ := gI_of e
  rw [st_0 hst]
  exact WK.sub (canon := [some (.inr (11, t + 1)), some (.inl x1), some (.inl x2), some (.inl x3), none, none]) rfl ⟨q0, q1, q2, q3, trivial⟩ (X12_lay_s29 hk44 _ _ _ _ ((X12_lay_l29 X12_isSheet g44 t x1 x2 x3 h).trans e))
noncomputable def X12_lay_f44 (g62 : Nat → Int32 → Int32 → Int32 → PH → Option Rs) (t : Nat) (x1 : Int32) (x2 : Int32) (x3 : Int32) (h : PH) : Option Rs :=
  if x2 = 2 then
    nn (hR h 745 t 0) fun r9 =>
    ix x3 (hL h 62 r9) fun j10 =>
    if (hI h 3968 r9 j10) < 0 then
      some (some (.inl (-1000000011)), h)
    else
      g62 t x1 x2 x3 h
  else
    g62 t x1 x2 x3 h
set_option maxRecDepth 100000 in
theorem X12_lay_l44 (g62 : Nat → Int32 → Int32 → Int32 → PH → Option Rs) (t : Nat) (x1 : Int32) (x2 : Int32) (x3 : Int32) (h : PH) : X12_lay_b44 (X12_lay_u62 g62) [some (.inr (11, t + 1)), some (.inl x1), some (.inl x2), some (.inl x3), none, none] [] h = X12_lay_f44 g62 t x1 x2 x3 h := rfl
theorem X12_lay_m44 {g62 G62 : Nat → Int32 → Int32 → Int32 → PH → Option Rs} (hg62 : ∀ a0 a1 a2 a3 a4, Mo (g62 a0 a1 a2 a3 a4) (G62 a0 a1 a2 a3 a4)) (t : Nat) (x1 : Int32) (x2 : Int32) (x3 : Int32) (h : PH) : Mo (X12_lay_f44 g62 t x1 x2 x3 h) (X12_lay_f44 G62 t x1 x2 x3 h) := (mo_if (mo_nn fun r9 => (mo_ix fun j10 => (mo_if mo_rf (hg62 t x1 x2 x3 h)))) (hg62 t x1 x2 x3 h))
theorem X12_lay_w44 {z : CZ} {g62 : Nat → Int32 → Int32 → Int32 → PH → Option Rs} (hk62 : SK (X12_lay_x z) 62 (X12_lay_u62 g62)) : SK (X12_lay_x z) 44 (X12_lay_u44 (X12_lay_f44 g62)) := by
  intro ls st h r e
  obtain ⟨hst, e⟩ := gL_of e
  obtain ⟨t, q0, e⟩ := gT_of e
  obtain ⟨x1, q1, e⟩ := gI_of e
  obtain ⟨x2, q2, e⟩ := gI_of e
  obtain ⟨x3, q3, e⟩ := gI_of e
  rw [st_0 hst]
  exact WK.sub (canon := [some (.inr (11, t + 1)), some (.inl x1), some (.inl x2), some (.inl x3), none, none]) rfl ⟨q0, q1, q2, q3, trivial⟩ (X12_lay_s44 hk62 _ _ _ _ ((X12_lay_l44 g62 t x1 x2 x3 h).trans e))
noncomputable def X12_lay_f62 (c_X12_of5 : Nat → Int32 → Int32 → PH → Option Rs) (g111 : Nat → Int32 → Int32 → Int32 → Int32 → Int32 → Int32 → Nat → PH → Option Rs) (t : Nat) (x1 : Int32) (x2 : Int32) (x3 : Int32) (h : PH) : Option Rs :=
  nn (hR h 748 t 0) fun r11 =>
  ix x1 (hL h 65 r11) fun j12 =>
  nn (hR h 748 t 0) fun r13 =>
  ix x1 (hL h 65 r13) fun j14 =>
  wr (pI h 4160 r13 j14 x2) fun h15 =>
  if x2 = 1 then
    cI (c_X12_of5 t x3 1 h15) fun v19 h18 =>
    g111 t x1 x2 x3 (hI h 4160 r11 j12) v19 x1 (hR h15 749 t 0) h18
  else
    if x2 = 2 then
      nn (hR h15 746 t 0) fun r16 =>
      ix x3 (hL h15 63 r16) fun j17 =>
      g111 t x1 x2 x3 (hI h 4160 r11 j12) (hI h15 4032 r16 j17) x1 (hR h15 749 t 0) h15
    else
      g111 t x1 x2 x3 (hI h 4160 r11 j12) x3 x1 (hR h15 749 t 0) h15
set_option maxRecDepth 100000 in
theorem X12_lay_l62 (c_X12_of5 : Nat → Int32 → Int32 → PH → Option Rs) (g111 : Nat → Int32 → Int32 → Int32 → Int32 → Int32 → Int32 → Nat → PH → Option Rs) (t : Nat) (x1 : Int32) (x2 : Int32) (x3 : Int32) (h : PH) : X12_lay_b62 c_X12_of5 (X12_lay_u111 g111) [some (.inr (11, t + 1)), some (.inl x1), some (.inl x2), some (.inl x3), none, none] [] h = X12_lay_f62 c_X12_of5 g111 t x1 x2 x3 h := rfl
theorem X12_lay_m62 {c_X12_of5 : Nat → Int32 → Int32 → PH → Option Rs} {g111 G111 : Nat → Int32 → Int32 → Int32 → Int32 → Int32 → Int32 → Nat → PH → Option Rs} (hg111 : ∀ a0 a1 a2 a3 a4 a5 a6 a7 a8, Mo (g111 a0 a1 a2 a3 a4 a5 a6 a7 a8) (G111 a0 a1 a2 a3 a4 a5 a6 a7 a8)) (t : Nat) (x1 : Int32) (x2 : Int32) (x3 : Int32) (h : PH) : Mo (X12_lay_f62 c_X12_of5 g111 t x1 x2 x3 h) (X12_lay_f62 c_X12_of5 G111 t x1 x2 x3 h) := (mo_nn fun r11 => (mo_ix fun j12 => (mo_nn fun r13 => (mo_ix fun j14 => (mo_wr fun h15 => (mo_if (mo_cI fun v19 h18 => (hg111 t x1 x2 x3 (hI h 4160 r11 j12) v19 x1 (hR h15 749 t 0) h18)) (mo_if (mo_nn fun r16 => (mo_ix fun j17 => (hg111 t x1 x2 x3 (hI h 4160 r11 j12) (hI h15 4032 r16 j17) x1 (hR h15 749 t 0) h15))) (hg111 t x1 x2 x3 (hI h 4160 r11 j12) x3 x1 (hR h15 749 t 0) h15))))))))
theorem X12_lay_w62 {z : CZ} {g111 : Nat → Int32 → Int32 → Int32 → Int32 → Int32 → Int32 → Nat → PH → Option Rs} (hk111 : SK (X12_lay_x z) 111 (X12_lay_u111 g111)) : SK (X12_lay_x z) 62 (X12_lay_u62 (X12_lay_f62 X12_of5 g111)) := by
  intro ls st h r e
  obtain ⟨hst, e⟩ := gL_of e
  obtain ⟨t, q0, e⟩ := gT_of e
  obtain ⟨x1, q1, e⟩ := gI_of e
  obtain ⟨x2, q2, e⟩ := gI_of e
  obtain ⟨x3, q3, e⟩ := gI_of e
  rw [st_0 hst]
  exact WK.sub (canon := [some (.inr (11, t + 1)), some (.inl x1), some (.inl x2), some (.inl x3), none, none]) rfl ⟨q0, q1, q2, q3, trivial⟩ (X12_lay_s62 hk111 _ _ _ _ ((X12_lay_l62 X12_of5 g111 t x1 x2 x3 h).trans e))
noncomputable def X12_lay_f111 (c_X12_rowsOf : Nat → Int32 → PH → Option Rs) (g131 : Nat → Int32 → Int32 → Int32 → Int32 → Int32 → Int32 → Nat → PH → Option Rs) (t : Nat) (x1 : Int32) (x2 : Int32) (x3 : Int32) (x4 : Int32) (s0 : Int32) (s1 : Int32) (s2 : Nat) (h : PH) : Option Rs :=
  nn s2 fun r20 =>
  ix s1 (hL h 66 r20) fun j21 =>
  wr (pI h 4224 r20 j21 s0) fun h22 =>
  if x2 = 1 then
    cI (c_X12_rowsOf t x3 h22) fun v24 h23 =>
    g131 t x1 x2 x3 x4 v24 x1 (hR h22 750 t 0) h23
  else
    g131 t x1 x2 x3 x4 0 x1 (hR h22 750 t 0) h22
set_option maxRecDepth 100000 in
theorem X12_lay_l111 (c_X12_rowsOf : Nat → Int32 → PH → Option Rs) (g131 : Nat → Int32 → Int32 → Int32 → Int32 → Int32 → Int32 → Nat → PH → Option Rs) (t : Nat) (x1 : Int32) (x2 : Int32) (x3 : Int32) (x4 : Int32) (s0 : Int32) (s1 : Int32) (s2 : Nat) (h : PH) : X12_lay_b111 c_X12_rowsOf (X12_lay_u131 g131) [some (.inr (11, t + 1)), some (.inl x1), some (.inl x2), some (.inl x3), some (.inl x4), none] [.inl s0, .inl s1, .inr (66, s2)] h = X12_lay_f111 c_X12_rowsOf g131 t x1 x2 x3 x4 s0 s1 s2 h := rfl
theorem X12_lay_m111 {c_X12_rowsOf : Nat → Int32 → PH → Option Rs} {g131 G131 : Nat → Int32 → Int32 → Int32 → Int32 → Int32 → Int32 → Nat → PH → Option Rs} (hg131 : ∀ a0 a1 a2 a3 a4 a5 a6 a7 a8, Mo (g131 a0 a1 a2 a3 a4 a5 a6 a7 a8) (G131 a0 a1 a2 a3 a4 a5 a6 a7 a8)) (t : Nat) (x1 : Int32) (x2 : Int32) (x3 : Int32) (x4 : Int32) (s0 : Int32) (s1 : Int32) (s2 : Nat) (h : PH) : Mo (X12_lay_f111 c_X12_rowsOf g131 t x1 x2 x3 x4 s0 s1 s2 h) (X12_lay_f111 c_X12_rowsOf G131 t x1 x2 x3 x4 s0 s1 s2 h) := (mo_nn fun r20 => (mo_ix fun j21 => (mo_wr fun h22 => (mo_if (mo_cI fun v24 h23 => (hg131 t x1 x2 x3 x4 v24 x1 (hR h22 750 t 0) h23)) (hg131 t x1 x2 x3 x4 0 x1 (hR h22 750 t 0) h22)))))
theorem X12_lay_w111 {z : CZ} {g131 : Nat → Int32 → Int32 → Int32 → Int32 → Int32 → Int32 → Nat → PH → Option Rs} (hk131 : SK (X12_lay_x z) 131 (X12_lay_u131 g131)) : SK (X12_lay_x z) 111 (X12_lay_u111 (X12_lay_f111 X12_rowsOf g131)) := by
  intro ls st h r e
  obtain ⟨hst, e⟩ := gL_of e
  obtain ⟨t, q0, e⟩ := gT_of e
  obtain ⟨x1, q1, e⟩ := gI_of e
  obtain ⟨x2, q2, e⟩ := gI_of e
  obtain ⟨x3, q3, e⟩ := gI_of e
  obtain ⟨x4, q4, e⟩ := gI_of e
  obtain ⟨s0, q5, e⟩ := gI_of e
  obtain ⟨s1, q6, e⟩ := gI_of e
  obtain ⟨s2, q7, e⟩ := gR_of e
  rw [st_3 hst q5 q6 q7]
  exact WK.sub (canon := [some (.inr (11, t + 1)), some (.inl x1), some (.inl x2), some (.inl x3), some (.inl x4), none]) rfl ⟨q0, q1, q2, q3, q4, trivial⟩ (X12_lay_s111 hk131 _ _ _ _ ((X12_lay_l111 X12_rowsOf g131 t x1 x2 x3 x4 s0 s1 s2 h).trans e))
noncomputable def X12_lay_f131 (g135 : Nat → Int32 → Int32 → Int32 → Int32 → Int32 → PH → Option Rs) (t : Nat) (x1 : Int32) (x2 : Int32) (x3 : Int32) (x4 : Int32) (s0 : Int32) (s1 : Int32) (s2 : Nat) (h : PH) : Option Rs :=
  nn s2 fun r25 =>
  ix s1 (hL h 67 r25) fun j26 =>
  wr (pI h 4288 r25 j26 s0) fun h27 =>
  g135 t x1 x2 x3 x4 0 h27
set_option maxRecDepth 100000 in
theorem X12_lay_l131 (g135 : Nat → Int32 → Int32 → Int32 → Int32 → Int32 → PH → Option Rs) (t : Nat) (x1 : Int32) (x2 : Int32) (x3 : Int32) (x4 : Int32) (s0 : Int32) (s1 : Int32) (s2 : Nat) (h : PH) : X12_lay_b131 (X12_lay_u135 g135) [some (.inr (11, t + 1)), some (.inl x1), some (.inl x2), some (.inl x3), some (.inl x4), none] [.inl s0, .inl s1, .inr (67, s2)] h = X12_lay_f131 g135 t x1 x2 x3 x4 s0 s1 s2 h := rfl
theorem X12_lay_m131 {g135 G135 : Nat → Int32 → Int32 → Int32 → Int32 → Int32 → PH → Option Rs} (hg135 : ∀ a0 a1 a2 a3 a4 a5 a6, Mo (g135 a0 a1 a2 a3 a4 a5 a6) (G135 a0 a1 a2 a3 a4 a5 a6)) (t : Nat) (x1 : Int32) (x2 : Int32) (x3 : Int32) (x4 : Int32) (s0 : Int32) (s1 : Int32) (s2 : Nat) (h : PH) : Mo (X12_lay_f131 g135 t x1 x2 x3 x4 s0 s1 s2 h) (X12_lay_f131 G135 t x1 x2 x3 x4 s0 s1 s2 h) := (mo_nn fun r25 => (mo_ix fun j26 => (mo_wr fun h27 => (hg135 t x1 x2 x3 x4 0 h27))))
theorem X12_lay_w131 {z : CZ} {g135 : Nat → Int32 → Int32 → Int32 → Int32 → Int32 → PH → Option Rs} (hk135 : SK (X12_lay_x z) 135 (X12_lay_u135 g135)) : SK (X12_lay_x z) 131 (X12_lay_u131 (X12_lay_f131 g135)) := by
  intro ls st h r e
  obtain ⟨hst, e⟩ := gL_of e
  obtain ⟨t, q0, e⟩ := gT_of e
  obtain ⟨x1, q1, e⟩ := gI_of e
  obtain ⟨x2, q2, e⟩ := gI_of e
  obtain ⟨x3, q3, e⟩ := gI_of e
  obtain ⟨x4, q4, e⟩ := gI_of e
  obtain ⟨s0, q5, e⟩ := gI_of e
  obtain ⟨s1, q6, e⟩ := gI_of e
  obtain ⟨s2, q7, e⟩ := gR_of e
  rw [st_3 hst q5 q6 q7]
  exact WK.sub (canon := [some (.inr (11, t + 1)), some (.inl x1), some (.inl x2), some (.inl x3), some (.inl x4), none]) rfl ⟨q0, q1, q2, q3, q4, trivial⟩ (X12_lay_s131 hk135 _ _ _ _ ((X12_lay_l131 g135 t x1 x2 x3 x4 s0 s1 s2 h).trans e))
noncomputable def X12_lay_f135 (g135 : Nat → Int32 → Int32 → Int32 → Int32 → Int32 → PH → Option Rs) (t : Nat) (x1 : Int32) (x2 : Int32) (x3 : Int32) (x4 : Int32) (x5 : Int32) (h : PH) : Option Rs :=
  if x5 < 24 then
    if x2 = 2 then
      nn (hR h 747 t 0) fun r28 =>
      ix ((24 * x3) + x5) (hL h 64 r28) fun j29 =>
      nn (hR h 751 t 0) fun r30 =>
      ix ((24 * x1) + x5) (hL h 68 r30) fun j31 =>
      wr (pI h 4352 r30 j31 (hI h 4096 r28 j29)) fun h32 =>
      g135 t x1 x2 x3 x4 (x5 + 1) h32
    else
      some (some (.inl x4), h)
  else
    some (some (.inl x4), h)
set_option maxRecDepth 100000 in
theorem X12_lay_l135 (g135 : Nat → Int32 → Int32 → Int32 → Int32 → Int32 → PH → Option Rs) (t : Nat) (x1 : Int32) (x2 : Int32) (x3 : Int32) (x4 : Int32) (x5 : Int32) (h : PH) : X12_lay_b135 (X12_lay_u135 g135) [some (.inr (11, t + 1)), some (.inl x1), some (.inl x2), some (.inl x3), some (.inl x4), some (.inl x5)] [] h = X12_lay_f135 g135 t x1 x2 x3 x4 x5 h := rfl
theorem X12_lay_m135 {g135 G135 : Nat → Int32 → Int32 → Int32 → Int32 → Int32 → PH → Option Rs} (hg135 : ∀ a0 a1 a2 a3 a4 a5 a6, Mo (g135 a0 a1 a2 a3 a4 a5 a6) (G135 a0 a1 a2 a3 a4 a5 a6)) (t : Nat) (x1 : Int32) (x2 : Int32) (x3 : Int32) (x4 : Int32) (x5 : Int32) (h : PH) : Mo (X12_lay_f135 g135 t x1 x2 x3 x4 x5 h) (X12_lay_f135 G135 t x1 x2 x3 x4 x5 h) := (mo_if (mo_if (mo_nn fun r28 => (mo_ix fun j29 => (mo_nn fun r30 => (mo_ix fun j31 => (mo_wr fun h32 => (hg135 t x1 x2 x3 x4 (x5 + 1) h32)))))) mo_rf) mo_rf)
theorem X12_lay_w135 {z : CZ} {g135 : Nat → Int32 → Int32 → Int32 → Int32 → Int32 → PH → Option Rs} (hk135 : SK (X12_lay_x z) 135 (X12_lay_u135 g135)) : SK (X12_lay_x z) 135 (X12_lay_u135 (X12_lay_f135 g135)) := by
  intro ls st h r e
  obtain ⟨hst, e⟩ := gL_of e
  obtain ⟨t, q0, e⟩ := gT_of e
  obtain ⟨x1, q1, e⟩ := gI_of e
  obtain ⟨x2, q2, e⟩ := gI_of e
  obtain ⟨x3, q3, e⟩ := gI_of e
  obtain ⟨x4, q4, e⟩ := gI_of e
  obtain ⟨x5, q5, e⟩ := gI_of e
  rw [st_0 hst]
  exact WK.sub (canon := [some (.inr (11, t + 1)), some (.inl x1), some (.inl x2), some (.inl x3), some (.inl x4), some (.inl x5)]) rfl ⟨q0, q1, q2, q3, q4, q5, trivial⟩ (X12_lay_s135 hk135 _ _ _ _ ((X12_lay_l135 g135 t x1 x2 x3 x4 x5 h).trans e))
noncomputable def X12_lay_g131 (G : (Nat → Int32 → Int32 → Int32 → Int32 → Int32 → PH → Option Rs)) (t : Nat) (x1 : Int32) (x2 : Int32) (x3 : Int32) (x4 : Int32) (s0 : Int32) (s1 : Int32) (s2 : Nat) (h : PH) : Option Rs := X12_lay_f131 (G) t x1 x2 x3 x4 s0 s1 s2 h
noncomputable def X12_lay_g111 (G : (Nat → Int32 → Int32 → Int32 → Int32 → Int32 → PH → Option Rs)) (t : Nat) (x1 : Int32) (x2 : Int32) (x3 : Int32) (x4 : Int32) (s0 : Int32) (s1 : Int32) (s2 : Nat) (h : PH) : Option Rs := X12_lay_f111 X12_rowsOf (X12_lay_g131 G) t x1 x2 x3 x4 s0 s1 s2 h
noncomputable def X12_lay_g62 (G : (Nat → Int32 → Int32 → Int32 → Int32 → Int32 → PH → Option Rs)) (t : Nat) (x1 : Int32) (x2 : Int32) (x3 : Int32) (h : PH) : Option Rs := X12_lay_f62 X12_of5 (X12_lay_g111 G) t x1 x2 x3 h
noncomputable def X12_lay_g44 (G : (Nat → Int32 → Int32 → Int32 → Int32 → Int32 → PH → Option Rs)) (t : Nat) (x1 : Int32) (x2 : Int32) (x3 : Int32) (h : PH) : Option Rs := X12_lay_f44 (X12_lay_g62 G) t x1 x2 x3 h
noncomputable def X12_lay_g29 (G : (Nat → Int32 → Int32 → Int32 → Int32 → Int32 → PH → Option Rs)) (t : Nat) (x1 : Int32) (x2 : Int32) (x3 : Int32) (h : PH) : Option Rs := X12_lay_f29 X12_isSheet (X12_lay_g44 G) t x1 x2 x3 h
noncomputable def X12_lay_g0 (G : (Nat → Int32 → Int32 → Int32 → Int32 → Int32 → PH → Option Rs)) (t : Nat) (x1 : Int32) (x2 : Int32) (x3 : Int32) (h : PH) : Option Rs := X12_lay_f0 X12_isSlot X12_in X12_isSign (X12_lay_g29 G) t x1 x2 x3 h
noncomputable def X12_lay_g135 (G : (Nat → Int32 → Int32 → Int32 → Int32 → Int32 → PH → Option Rs)) (t : Nat) (x1 : Int32) (x2 : Int32) (x3 : Int32) (x4 : Int32) (x5 : Int32) (h : PH) : Option Rs := X12_lay_f135 (G) t x1 x2 x3 x4 x5 h
theorem X12_lay_v131 {z : CZ} {G : (Nat → Int32 → Int32 → Int32 → Int32 → Int32 → PH → Option Rs)} (hG135 : SK (X12_lay_x z) 135 (X12_lay_u135 (G))) : SK (X12_lay_x z) 131 (X12_lay_u131 (X12_lay_g131 G)) := X12_lay_w131 hG135
theorem X12_lay_v111 {z : CZ} {G : (Nat → Int32 → Int32 → Int32 → Int32 → Int32 → PH → Option Rs)} (hG135 : SK (X12_lay_x z) 135 (X12_lay_u135 (G))) : SK (X12_lay_x z) 111 (X12_lay_u111 (X12_lay_g111 G)) := X12_lay_w111 (X12_lay_v131 hG135)
theorem X12_lay_v62 {z : CZ} {G : (Nat → Int32 → Int32 → Int32 → Int32 → Int32 → PH → Option Rs)} (hG135 : SK (X12_lay_x z) 135 (X12_lay_u135 (G))) : SK (X12_lay_x z) 62 (X12_lay_u62 (X12_lay_g62 G)) := X12_lay_w62 (X12_lay_v111 hG135)
theorem X12_lay_v44 {z : CZ} {G : (Nat → Int32 → Int32 → Int32 → Int32 → Int32 → PH → Option Rs)} (hG135 : SK (X12_lay_x z) 135 (X12_lay_u135 (G))) : SK (X12_lay_x z) 44 (X12_lay_u44 (X12_lay_g44 G)) := X12_lay_w44 (X12_lay_v62 hG135)
theorem X12_lay_v29 {z : CZ} {G : (Nat → Int32 → Int32 → Int32 → Int32 → Int32 → PH → Option Rs)} (hG135 : SK (X12_lay_x z) 135 (X12_lay_u135 (G))) : SK (X12_lay_x z) 29 (X12_lay_u29 (X12_lay_g29 G)) := X12_lay_w29 (X12_lay_v44 hG135)
theorem X12_lay_v135 {z : CZ} {G : (Nat → Int32 → Int32 → Int32 → Int32 → Int32 → PH → Option Rs)} (hG135 : SK (X12_lay_x z) 135 (X12_lay_u135 (G))) : SK (X12_lay_x z) 135 (X12_lay_u135 (X12_lay_g135 G)) := X12_lay_w135 hG135
noncomputable def X12_lay_fam : Nat → (Nat → Int32 → Int32 → Int32 → Int32 → Int32 → PH → Option Rs)
  | 0 => fun _ _ _ _ _ _ _ => none
  | n + 1 => X12_lay_g135 (X12_lay_fam n)
theorem X12_lay_k {z : CZ} : ∀ n, SK (X12_lay_x z) 135 (X12_lay_u135 (X12_lay_fam n))
  | 0 => (fun ls st h r e => by
      obtain ⟨_, e⟩ := gL_of e
      obtain ⟨_, _, e⟩ := gT_of e
      obtain ⟨_, _, e⟩ := gI_of e
      obtain ⟨_, _, e⟩ := gI_of e
      obtain ⟨_, _, e⟩ := gI_of e
      obtain ⟨_, _, e⟩ := gI_of e
      obtain ⟨_, _, e⟩ := gI_of e
      cases e)
  | n + 1 => by
    obtain ih135 := X12_lay_k n
    exact X12_lay_v135 ih135
theorem X12_lay_n131 {G G' : (Nat → Int32 → Int32 → Int32 → Int32 → Int32 → PH → Option Rs)} (hg135 : ∀ a0 a1 a2 a3 a4 a5 a6, Mo ((G) a0 a1 a2 a3 a4 a5 a6) ((G') a0 a1 a2 a3 a4 a5 a6)) (t : Nat) (x1 : Int32) (x2 : Int32) (x3 : Int32) (x4 : Int32) (s0 : Int32) (s1 : Int32) (s2 : Nat) (h : PH) : Mo (X12_lay_g131 G t x1 x2 x3 x4 s0 s1 s2 h) (X12_lay_g131 G' t x1 x2 x3 x4 s0 s1 s2 h) := X12_lay_m131 hg135 t x1 x2 x3 x4 s0 s1 s2 h
theorem X12_lay_n111 {G G' : (Nat → Int32 → Int32 → Int32 → Int32 → Int32 → PH → Option Rs)} (hg135 : ∀ a0 a1 a2 a3 a4 a5 a6, Mo ((G) a0 a1 a2 a3 a4 a5 a6) ((G') a0 a1 a2 a3 a4 a5 a6)) (t : Nat) (x1 : Int32) (x2 : Int32) (x3 : Int32) (x4 : Int32) (s0 : Int32) (s1 : Int32) (s2 : Nat) (h : PH) : Mo (X12_lay_g111 G t x1 x2 x3 x4 s0 s1 s2 h) (X12_lay_g111 G' t x1 x2 x3 x4 s0 s1 s2 h) := X12_lay_m111 (fun a0 a1 a2 a3 a4 a5 a6 a7 a8 => X12_lay_n131 hg135 a0 a1 a2 a3 a4 a5 a6 a7 a8) t x1 x2 x3 x4 s0 s1 s2 h
theorem X12_lay_n62 {G G' : (Nat → Int32 → Int32 → Int32 → Int32 → Int32 → PH → Option Rs)} (hg135 : ∀ a0 a1 a2 a3 a4 a5 a6, Mo ((G) a0 a1 a2 a3 a4 a5 a6) ((G') a0 a1 a2 a3 a4 a5 a6)) (t : Nat) (x1 : Int32) (x2 : Int32) (x3 : Int32) (h : PH) : Mo (X12_lay_g62 G t x1 x2 x3 h) (X12_lay_g62 G' t x1 x2 x3 h) := X12_lay_m62 (fun a0 a1 a2 a3 a4 a5 a6 a7 a8 => X12_lay_n111 hg135 a0 a1 a2 a3 a4 a5 a6 a7 a8) t x1 x2 x3 h
theorem X12_lay_n44 {G G' : (Nat → Int32 → Int32 → Int32 → Int32 → Int32 → PH → Option Rs)} (hg135 : ∀ a0 a1 a2 a3 a4 a5 a6, Mo ((G) a0 a1 a2 a3 a4 a5 a6) ((G') a0 a1 a2 a3 a4 a5 a6)) (t : Nat) (x1 : Int32) (x2 : Int32) (x3 : Int32) (h : PH) : Mo (X12_lay_g44 G t x1 x2 x3 h) (X12_lay_g44 G' t x1 x2 x3 h) := X12_lay_m44 (fun a0 a1 a2 a3 a4 => X12_lay_n62 hg135 a0 a1 a2 a3 a4) t x1 x2 x3 h
theorem X12_lay_n29 {G G' : (Nat → Int32 → Int32 → Int32 → Int32 → Int32 → PH → Option Rs)} (hg135 : ∀ a0 a1 a2 a3 a4 a5 a6, Mo ((G) a0 a1 a2 a3 a4 a5 a6) ((G') a0 a1 a2 a3 a4 a5 a6)) (t : Nat) (x1 : Int32) (x2 : Int32) (x3 : Int32) (h : PH) : Mo (X12_lay_g29 G t x1 x2 x3 h) (X12_lay_g29 G' t x1 x2 x3 h) := X12_lay_m29 (fun a0 a1 a2 a3 a4 => X12_lay_n44 hg135 a0 a1 a2 a3 a4) t x1 x2 x3 h
theorem X12_lay_n0 {G G' : (Nat → Int32 → Int32 → Int32 → Int32 → Int32 → PH → Option Rs)} (hg135 : ∀ a0 a1 a2 a3 a4 a5 a6, Mo ((G) a0 a1 a2 a3 a4 a5 a6) ((G') a0 a1 a2 a3 a4 a5 a6)) (t : Nat) (x1 : Int32) (x2 : Int32) (x3 : Int32) (h : PH) : Mo (X12_lay_g0 G t x1 x2 x3 h) (X12_lay_g0 G' t x1 x2 x3 h) := X12_lay_m0 (fun a0 a1 a2 a3 a4 => X12_lay_n29 hg135 a0 a1 a2 a3 a4) t x1 x2 x3 h
theorem X12_lay_n135 {G G' : (Nat → Int32 → Int32 → Int32 → Int32 → Int32 → PH → Option Rs)} (hg135 : ∀ a0 a1 a2 a3 a4 a5 a6, Mo ((G) a0 a1 a2 a3 a4 a5 a6) ((G') a0 a1 a2 a3 a4 a5 a6)) (t : Nat) (x1 : Int32) (x2 : Int32) (x3 : Int32) (x4 : Int32) (x5 : Int32) (h : PH) : Mo (X12_lay_g135 G t x1 x2 x3 x4 x5 h) (X12_lay_g135 G' t x1 x2 x3 x4 x5 h) := X12_lay_m135 hg135 t x1 x2 x3 x4 x5 h
theorem X12_lay_fm : ∀ n, (∀ a0 a1 a2 a3 a4 a5 a6, Mo ((X12_lay_fam n) a0 a1 a2 a3 a4 a5 a6) ((X12_lay_fam (n + 1)) a0 a1 a2 a3 a4 a5 a6))
  | 0 => fun _ _ _ _ _ _ _ => mo_no
  | n + 1 => by
    obtain ih135 := X12_lay_fm n
    exact fun a0 a1 a2 a3 a4 a5 a6 => X12_lay_n135 ih135 a0 a1 a2 a3 a4 a5 a6
noncomputable def X12_lay (t : Nat) (x1 : Int32) (x2 : Int32) (x3 : Int32) (h : PH) : Option Rs := lim (fun n => X12_lay_g0 (X12_lay_fam n) t x1 x2 x3 h)
theorem X12_lay_iff {t : Nat} {x1 : Int32} {x2 : Int32} {x3 : Int32} {h : PH} {r : Rs} : X12_lay t x1 x2 x3 h = some r ↔ ∃ n, X12_lay_g0 (X12_lay_fam n) t x1 x2 x3 h = some r := lim_iff (fun n => by
  obtain ih135 := X12_lay_fm n
  exact X12_lay_n0 ih135 t x1 x2 x3 h)
noncomputable abbrev X12_lay_F : List PV → PH → Option Rs := FW_T11III (X12_lay)
set_option maxRecDepth 100000 in
theorem X12_lay_gd (l : Launch) : Gd l 2 yX12_lay cX12_lay 6 (some .int) (X12_lay_F)   := Gd_of (by decide +kernel) (fun z hzl as h r e => by
  obtain ⟨hst, e⟩ := gL_of e
  obtain ⟨t, q0, e⟩ := gT_of e
  obtain ⟨x1, q1, e⟩ := gI_of e
  obtain ⟨x2, q2, e⟩ := gI_of e
  obtain ⟨x3, q3, e⟩ := gI_of e
  rw [st_4 hst q0 q1 q2 q3]
  obtain ⟨n, e⟩ := lim_of e
  obtain hG135 := X12_lay_k (z := z) n
  exact ⟨show 4 ≤ 6 by decide, X12_lay_s0 (X12_lay_v29 hG135) _ _ _ _ ((X12_lay_l0 X12_isSlot X12_in X12_isSign (X12_lay_g29 (X12_lay_fam n)) t x1 x2 x3 h).trans e)⟩)
abbrev X12_ask_x (z : CZ) : CX := mx RX12 cX12_ask 3 2 (some .int) "ask" z
noncomputable def X12_ask_b0 (c_X12_isSlot : Int32 → PH → Option Rs) (c_X12_in : Int32 → Int32 → Int32 → PH → Option Rs) (c_X12_isUnder : Int32 → Int32 → PH → Option Rs) (c_X12_priceBy : Int32 → Int32 → PH → Option Rs) : Kn := (a_il 1 (a_sI 1 (FW_I c_X12_isSlot) (a_z (a_ic (-1000000001) a_ir) (a_il 2 (a_ic 0 (a_ic 5 (a_sI 3 (FW_III c_X12_in) (a_z (a_ic (-1000000001) a_ir) (a_al 0 (a_gR 11 748 65 (a_il 1 (a_ald 65 4160 (a_z (a_ic (-1000000011) a_ir) (a_al 0 (a_gR 11 748 65 (a_il 1 (a_ald 65 4160 (a_ic 1 (a_eq (a_al 0 (a_gR 11 749 66 (a_il 1 (a_ald 66 4224 (a_il 2 (a_sI 2 (FW_II c_X12_isUnder) (a_z (a_ic (-1000000012) a_ir) (a_al 0 (a_gR 11 749 66 (a_il 1 (a_ald 66 4224 (a_al 0 (a_gR 11 750 67 (a_il 1 (a_ald 67 4288 (a_sI 2 (FW_II c_X12_priceBy) a_ir)))))))))))))))) (a_ic (-1000000012) a_ir))))))))))))))))))))
set_option maxRecDepth 100000 in
theorem X12_ask_s0 {z : CZ} : SK (X12_ask_x z) 0 (X12_ask_b0 X12_isSlot X12_in X12_isUnder X12_priceBy) := (s_iloadn (pc := 0) dX12_ask_0 rfl (s_sI (pc := 1) (run_static (X12_isSlot_gd _) (show 1 < 2 by decide) cy_X12_isSlot w_1847 w_1846 dX12_ask_1) (s_ifeq (pc := 4) dX12_ask_4 (by decide) (s_ldc (pc := 16) w_1466 dX12_ask_16 (s_ir (pc := 18) rfl dX12_ask_18)) (s_iloadn (pc := 7) dX12_ask_7 rfl (s_iconst (pc := 8) dX12_ask_8 c_ic_0 (s_iconst (pc := 9) dX12_ask_9 c_ic_5 (s_sI (pc := 10) (run_static (X12_in_gd _) (show 0 < 2 by decide) cy_X12_in w_1464 w_1463 dX12_ask_10) (s_ifne (pc := 13) dX12_ask_13 (by decide) (s_aloadn (pc := 19) dX12_ask_19 rfl (s_gR (pc := 20) (f := 44) ko_11 (by decide) rfl rfl w_1339 dX12_ask_20 (s_iloadn (pc := 23) dX12_ask_23 rfl (s_iald (pc := 24) (by decide) (by decide) rfl rfl rfl dX12_ask_24 (s_ifne (pc := 25) dX12_ask_25 (by decide) (s_aloadn (pc := 32) dX12_ask_32 rfl (s_gR (pc := 33) (f := 44) ko_11 (by decide) rfl rfl w_1339 dX12_ask_33 (s_iloadn (pc := 36) dX12_ask_36 rfl (s_iald (pc := 37) (by decide) (by decide) rfl rfl rfl dX12_ask_37 (s_iconst (pc := 38) dX12_ask_38 c_ic_1 (s_cmpne (pc := 39) dX12_ask_39 (by decide) (s_ldc (pc := 73) w_1564 dX12_ask_73 (s_ir (pc := 75) rfl dX12_ask_75)) (s_aloadn (pc := 42) dX12_ask_42 rfl (s_gR (pc := 43) (f := 45) ko_11 (by decide) rfl rfl w_1340 dX12_ask_43 (s_iloadn (pc := 46) dX12_ask_46 rfl (s_iald (pc := 47) (by decide) (by decide) rfl rfl rfl dX12_ask_47 (s_iloadn (pc := 48) dX12_ask_48 rfl (s_sI (pc := 49) (run_static (X12_isUnder_gd _) (show 0 < 2 by decide) cy_X12_isUnder w_1562 w_1561 dX12_ask_49) (s_ifeq (pc := 52) dX12_ask_52 (by decide) (s_ldc (pc := 73) w_1564 dX12_ask_73 (s_ir (pc := 75) rfl dX12_ask_75)) (s_aloadn (pc := 55) dX12_ask_55 rfl (s_gR (pc := 56) (f := 45) ko_11 (by decide) rfl rfl w_1340 dX12_ask_56 (s_iloadn (pc := 59) dX12_ask_59 rfl (s_iald (pc := 60) (by decide) (by decide) rfl rfl rfl dX12_ask_60 (s_aloadn (pc := 61) dX12_ask_61 rfl (s_gR (pc := 62) (f := 46) ko_11 (by decide) rfl rfl w_1341 dX12_ask_62 (s_iloadn (pc := 65) dX12_ask_65 rfl (s_iald (pc := 66) (by decide) (by decide) rfl rfl rfl dX12_ask_66 (s_sI (pc := 67) (run_static (X12_priceBy_gd _) (show 0 < 2 by decide) cy_X12_priceBy w_1547 w_1546 dX12_ask_67) (s_goto (pc := 70) dX12_ask_70 (by decide) (s_ir (pc := 75) rfl dX12_ask_75)))))))))))))))))))))))) (s_ldcw (pc := 28) w_1832 dX12_ask_28 (s_ir (pc := 31) rfl dX12_ask_31))))))) (s_ldc (pc := 16) w_1466 dX12_ask_16 (s_ir (pc := 18) rfl dX12_ask_18))))))))))
noncomputable def X12_ask_f0 (c_X12_isSlot : Int32 → PH → Option Rs) (c_X12_in : Int32 → Int32 → Int32 → PH → Option Rs) (c_X12_isUnder : Int32 → Int32 → PH → Option Rs) (c_X12_priceBy : Int32 → Int32 → PH → Option Rs) (t : Nat) (x1 : Int32) (x2 : Int32) (h : PH) : Option Rs :=
  cI (c_X12_isSlot x1 h) fun v2 h1 =>
  if v2 = 0 then
    some (some (.inl (-1000000001)), h1)
  else
    cI (c_X12_in x2 0 5 h1) fun v4 h3 =>
    if v4 = 0 then
      some (some (.inl (-1000000001)), h3)
    else
      nn (hR h3 748 t 0) fun r5 =>
      ix x1 (hL h3 65 r5) fun j6 =>
      if (hI h3 4160 r5 j6) = 0 then
        some (some (.inl (-1000000011)), h3)
      else
        nn (hR h3 748 t 0) fun r7 =>
        ix x1 (hL h3 65 r7) fun j8 =>
        if (hI h3 4160 r7 j8) = 1 then
          nn (hR h3 749 t 0) fun r9 =>
          ix x1 (hL h3 66 r9) fun j10 =>
          cI (c_X12_isUnder (hI h3 4224 r9 j10) x2 h3) fun v12 h11 =>
          if v12 = 0 then
            some (some (.inl (-1000000012)), h11)
          else
            nn (hR h11 749 t 0) fun r13 =>
            ix x1 (hL h11 66 r13) fun j14 =>
            nn (hR h11 750 t 0) fun r15 =>
            ix x1 (hL h11 67 r15) fun j16 =>
            cI (c_X12_priceBy (hI h11 4224 r13 j14) (hI h11 4288 r15 j16) h11) fun v18 h17 =>
            some (some (.inl v18), h17)
        else
          some (some (.inl (-1000000012)), h3)
set_option maxRecDepth 100000 in
theorem X12_ask_l0 (c_X12_isSlot : Int32 → PH → Option Rs) (c_X12_in : Int32 → Int32 → Int32 → PH → Option Rs) (c_X12_isUnder : Int32 → Int32 → PH → Option Rs) (c_X12_priceBy : Int32 → Int32 → PH → Option Rs) (t : Nat) (x1 : Int32) (x2 : Int32) (h : PH) : X12_ask_b0 c_X12_isSlot c_X12_in c_X12_isUnder c_X12_priceBy [some (.inr (11, t + 1)), some (.inl x1), some (.inl x2)] [] h = X12_ask_f0 c_X12_isSlot c_X12_in c_X12_isUnder c_X12_priceBy t x1 x2 h := rfl
noncomputable def X12_ask_g0 (t : Nat) (x1 : Int32) (x2 : Int32) (h : PH) : Option Rs := X12_ask_f0 X12_isSlot X12_in X12_isUnder X12_priceBy t x1 x2 h
noncomputable def X12_ask (t : Nat) (x1 : Int32) (x2 : Int32) (h : PH) : Option Rs := X12_ask_g0 t x1 x2 h
noncomputable abbrev X12_ask_F : List PV → PH → Option Rs := FW_T11II (X12_ask)
set_option maxRecDepth 100000 in
theorem X12_ask_gd (l : Launch) : Gd l 2 yX12_ask cX12_ask 3 (some .int) (X12_ask_F)   := Gd_of (by decide +kernel) (fun z hzl as h r e => by
  obtain ⟨hst, e⟩ := gL_of e
  obtain ⟨t, q0, e⟩ := gT_of e
  obtain ⟨x1, q1, e⟩ := gI_of e
  obtain ⟨x2, q2, e⟩ := gI_of e
  rw [st_3 hst q0 q1 q2]
  exact ⟨show 3 ≤ 3 by decide, X12_ask_s0 _ _ _ _ ((X12_ask_l0 X12_isSlot X12_in X12_isUnder X12_priceBy t x1 x2 h).trans e)⟩)
abbrev X12_item_x (z : CZ) : CX := mx RX12 cX12_item 3 2 (some .int) "item" z
noncomputable def X12_item_b0 (c_X12_isSlot : Int32 → PH → Option Rs) (c_X12_in : Int32 → Int32 → Int32 → PH → Option Rs) : Kn := (a_il 1 (a_sI 1 (FW_I c_X12_isSlot) (a_z (a_ic (-1000000001) a_ir) (a_al 0 (a_gR 11 748 65 (a_il 1 (a_ald 65 4160 (a_z (a_ic (-1000000011) a_ir) (a_al 0 (a_gR 11 748 65 (a_il 1 (a_ald 65 4160 (a_ic 2 (a_eq (a_il 2 (a_ic 0 (a_al 0 (a_gR 11 749 66 (a_il 1 (a_ald 66 4224 (a_ic 1 (a_b (fun a b => a - b) (a_sI 3 (FW_III c_X12_in) (a_z (a_ic (-1000000013) a_ir) (a_al 0 (a_gR 11 751 68 (a_ic 24 (a_il 1 (a_b (fun a b => a * b) (a_il 2 (a_b (fun a b => a + b) (a_ald 68 4352 a_ir)))))))))))))))))) (a_ic (-1000000012) a_ir)))))))))))))))
set_option maxRecDepth 100000 in
theorem X12_item_s0 {z : CZ} : SK (X12_item_x z) 0 (X12_item_b0 X12_isSlot X12_in) := (s_iloadn (pc := 0) dX12_item_0 rfl (s_sI (pc := 1) (run_static (X12_isSlot_gd _) (show 1 < 2 by decide) cy_X12_isSlot w_1847 w_1846 dX12_item_1) (s_ifne (pc := 4) dX12_item_4 (by decide) (s_aloadn (pc := 10) dX12_item_10 rfl (s_gR (pc := 11) (f := 44) ko_11 (by decide) rfl rfl w_1339 dX12_item_11 (s_iloadn (pc := 14) dX12_item_14 rfl (s_iald (pc := 15) (by decide) (by decide) rfl rfl rfl dX12_item_15 (s_ifne (pc := 16) dX12_item_16 (by decide) (s_aloadn (pc := 23) dX12_item_23 rfl (s_gR (pc := 24) (f := 44) ko_11 (by decide) rfl rfl w_1339 dX12_item_24 (s_iloadn (pc := 27) dX12_item_27 rfl (s_iald (pc := 28) (by decide) (by decide) rfl rfl rfl dX12_item_28 (s_iconst (pc := 29) dX12_item_29 c_ic_2 (s_cmpeq (pc := 30) dX12_item_30 (by decide) (s_iloadn (pc := 36) dX12_item_36 rfl (s_iconst (pc := 37) dX12_item_37 c_ic_0 (s_aloadn (pc := 38) dX12_item_38 rfl (s_gR (pc := 39) (f := 45) ko_11 (by decide) rfl rfl w_1340 dX12_item_39 (s_iloadn (pc := 42) dX12_item_42 rfl (s_iald (pc := 43) (by decide) (by decide) rfl rfl rfl dX12_item_43 (s_iconst (pc := 44) dX12_item_44 c_ic_1 (s_isub (pc := 45) dX12_item_45 (s_sI (pc := 46) (run_static (X12_in_gd _) (show 0 < 2 by decide) cy_X12_in w_1464 w_1463 dX12_item_46) (s_ifeq (pc := 49) dX12_item_49 (by decide) (s_ldcw (pc := 66) w_1833 dX12_item_66 (s_ir (pc := 69) rfl dX12_item_69)) (s_aloadn (pc := 52) dX12_item_52 rfl (s_gR (pc := 53) (f := 47) ko_11 (by decide) rfl rfl w_1342 dX12_item_53 (s_bipush (pc := 56) dX12_item_56 c_bp_24 (s_iloadn (pc := 58) dX12_item_58 rfl (s_imul (pc := 59) dX12_item_59 (s_iloadn (pc := 60) dX12_item_60 rfl (s_iadd (pc := 61) dX12_item_61 (s_iald (pc := 62) (by decide) (by decide) rfl rfl rfl dX12_item_62 (s_goto (pc := 63) dX12_item_63 (by decide) (s_ir (pc := 69) rfl dX12_item_69)))))))))))))))))))) (s_ldc (pc := 33) w_1564 dX12_item_33 (s_ir (pc := 35) rfl dX12_item_35)))))))) (s_ldcw (pc := 19) w_1832 dX12_item_19 (s_ir (pc := 22) rfl dX12_item_22))))))) (s_ldc (pc := 7) w_1466 dX12_item_7 (s_ir (pc := 9) rfl dX12_item_9)))))
noncomputable def X12_item_f0 (c_X12_isSlot : Int32 → PH → Option Rs) (c_X12_in : Int32 → Int32 → Int32 → PH → Option Rs) (t : Nat) (x1 : Int32) (x2 : Int32) (h : PH) : Option Rs :=
  cI (c_X12_isSlot x1 h) fun v2 h1 =>
  if v2 = 0 then
    some (some (.inl (-1000000001)), h1)
  else
    nn (hR h1 748 t 0) fun r3 =>
    ix x1 (hL h1 65 r3) fun j4 =>
    if (hI h1 4160 r3 j4) = 0 then
      some (some (.inl (-1000000011)), h1)
    else
      nn (hR h1 748 t 0) fun r5 =>
      ix x1 (hL h1 65 r5) fun j6 =>
      if (hI h1 4160 r5 j6) = 2 then
        nn (hR h1 749 t 0) fun r7 =>
        ix x1 (hL h1 66 r7) fun j8 =>
        cI (c_X12_in x2 0 ((hI h1 4224 r7 j8) - 1) h1) fun v10 h9 =>
        if v10 = 0 then
          some (some (.inl (-1000000013)), h9)
        else
          nn (hR h9 751 t 0) fun r11 =>
          ix ((24 * x1) + x2) (hL h9 68 r11) fun j12 =>
          some (some (.inl (hI h9 4352 r11 j12)), h9)
      else
        some (some (.inl (-1000000012)), h1)
set_option maxRecDepth 100000 in
theorem X12_item_l0 (c_X12_isSlot : Int32 → PH → Option Rs) (c_X12_in : Int32 → Int32 → Int32 → PH → Option Rs) (t : Nat) (x1 : Int32) (x2 : Int32) (h : PH) : X12_item_b0 c_X12_isSlot c_X12_in [some (.inr (11, t + 1)), some (.inl x1), some (.inl x2)] [] h = X12_item_f0 c_X12_isSlot c_X12_in t x1 x2 h := rfl
noncomputable def X12_item_g0 (t : Nat) (x1 : Int32) (x2 : Int32) (h : PH) : Option Rs := X12_item_f0 X12_isSlot X12_in t x1 x2 h
noncomputable def X12_item (t : Nat) (x1 : Int32) (x2 : Int32) (h : PH) : Option Rs := X12_item_g0 t x1 x2 h
noncomputable abbrev X12_item_F : List PV → PH → Option Rs := FW_T11II (X12_item)
set_option maxRecDepth 100000 in
theorem X12_item_gd (l : Launch) : Gd l 2 yX12_item cX12_item 3 (some .int) (X12_item_F)   := Gd_of (by decide +kernel) (fun z hzl as h r e => by
  obtain ⟨hst, e⟩ := gL_of e
  obtain ⟨t, q0, e⟩ := gT_of e
  obtain ⟨x1, q1, e⟩ := gI_of e
  obtain ⟨x2, q2, e⟩ := gI_of e
  rw [st_3 hst q0 q1 q2]
  exact ⟨show 3 ≤ 3 by decide, X12_item_s0 _ _ _ _ ((X12_item_l0 X12_isSlot X12_in t x1 x2 h).trans e)⟩)
abbrev X12_rest_x (z : CZ) : CX := mx RX12 cX12_rest 3 2 (some .int) "rest" z
noncomputable def X12_rest_b0 (c_X12_isSlot : Int32 → PH → Option Rs) : Kn := (a_il 1 (a_sI 1 (FW_I c_X12_isSlot) (a_z (a_ic (-1000000001) a_ir) (a_al 0 (a_gR 11 748 65 (a_il 1 (a_ald 65 4160 (a_z (a_ic (-1000000011) a_ir) (a_al 0 (a_gR 11 748 65 (a_il 1 (a_ald 65 4160 (a_ic 3 (a_eq (a_il 2 (a_z (a_ic (-1000000002) a_ir) (a_il 2 (a_ic (-1) (a_eq (a_ic 0 a_ir) (a_al 0 (a_gR 11 749 66 (a_il 1 (a_ald 66 4224 (a_il 2 (a_rem a_ir))))))))))) (a_ic (-1000000012) a_ir)))))))))))))))
set_option maxRecDepth 100000 in
theorem X12_rest_s0 {z : CZ} : SK (X12_rest_x z) 0 (X12_rest_b0 X12_isSlot) := (s_iloadn (pc := 0) dX12_rest_0 rfl (s_sI (pc := 1) (run_static (X12_isSlot_gd _) (show 1 < 2 by decide) cy_X12_isSlot w_1847 w_1846 dX12_rest_1) (s_ifne (pc := 4) dX12_rest_4 (by decide) (s_aloadn (pc := 10) dX12_rest_10 rfl (s_gR (pc := 11) (f := 44) ko_11 (by decide) rfl rfl w_1339 dX12_rest_11 (s_iloadn (pc := 14) dX12_rest_14 rfl (s_iald (pc := 15) (by decide) (by decide) rfl rfl rfl dX12_rest_15 (s_ifne (pc := 16) dX12_rest_16 (by decide) (s_aloadn (pc := 23) dX12_rest_23 rfl (s_gR (pc := 24) (f := 44) ko_11 (by decide) rfl rfl w_1339 dX12_rest_24 (s_iloadn (pc := 27) dX12_rest_27 rfl (s_iald (pc := 28) (by decide) (by decide) rfl rfl rfl dX12_rest_28 (s_iconst (pc := 29) dX12_rest_29 c_ic_3 (s_cmpeq (pc := 30) dX12_rest_30 (by decide) (s_iloadn (pc := 36) dX12_rest_36 rfl (s_ifne (pc := 37) dX12_rest_37 (by decide) (s_iloadn (pc := 45) dX12_rest_45 rfl (s_iconst (pc := 46) dX12_rest_46 c_ic_m1 (s_cmpne (pc := 47) dX12_rest_47 (by decide) (s_aloadn (pc := 54) dX12_rest_54 rfl (s_gR (pc := 55) (f := 45) ko_11 (by decide) rfl rfl w_1340 dX12_rest_55 (s_iloadn (pc := 58) dX12_rest_58 rfl (s_iald (pc := 59) (by decide) (by decide) rfl rfl rfl dX12_rest_59 (s_iloadn (pc := 60) dX12_rest_60 rfl (s_irem (pc := 61) dX12_rest_61 (s_ir (pc := 62) rfl dX12_rest_62))))))) (s_iconst (pc := 50) dX12_rest_50 c_ic_0 (s_goto (pc := 51) dX12_rest_51 (by decide) (s_ir (pc := 62) rfl dX12_rest_62)))))) (s_ldc (pc := 40) w_1471 dX12_rest_40 (s_goto (pc := 42) dX12_rest_42 (by decide) (s_ir (pc := 62) rfl dX12_rest_62))))) (s_ldc (pc := 33) w_1564 dX12_rest_33 (s_ir (pc := 35) rfl dX12_rest_35)))))))) (s_ldcw (pc := 19) w_1832 dX12_rest_19 (s_ir (pc := 22) rfl dX12_rest_22))))))) (s_ldc (pc := 7) w_1466 dX12_rest_7 (s_ir (pc := 9) rfl dX12_rest_9)))))
noncomputable def X12_rest_f0 (c_X12_isSlot : Int32 → PH → Option Rs) (t : Nat) (x1 : Int32) (x2 : Int32) (h : PH) : Option Rs :=
  cI (c_X12_isSlot x1 h) fun v2 h1 =>
  if v2 = 0 then
    some (some (.inl (-1000000001)), h1)
  else
    nn (hR h1 748 t 0) fun r3 =>
    ix x1 (hL h1 65 r3) fun j4 =>
    if (hI h1 4160 r3 j4) = 0 then
      some (some (.inl (-1000000011)), h1)
    else
      nn (hR h1 748 t 0) fun r5 =>
      ix x1 (hL h1 65 r5) fun j6 =>
      if (hI h1 4160 r5 j6) = 3 then
        if x2 = 0 then
          some (some (.inl (-1000000002)), h1)
        else
          if x2 = (-1) then
            some (some (.inl 0), h1)
          else
            nn (hR h1 749 t 0) fun r7 =>
            ix x1 (hL h1 66 r7) fun j8 =>
            dv x2 <|
            some (some (.inl (jrem (hI h1 4224 r7 j8) x2)), h1)
      else
        some (some (.inl (-1000000012)), h1)
set_option maxRecDepth 100000 in
theorem X12_rest_l0 (c_X12_isSlot : Int32 → PH → Option Rs) (t : Nat) (x1 : Int32) (x2 : Int32) (h : PH) : X12_rest_b0 c_X12_isSlot [some (.inr (11, t + 1)), some (.inl x1), some (.inl x2)] [] h = X12_rest_f0 c_X12_isSlot t x1 x2 h := rfl
noncomputable def X12_rest_g0 (t : Nat) (x1 : Int32) (x2 : Int32) (h : PH) : Option Rs := X12_rest_f0 X12_isSlot t x1 x2 h
noncomputable def X12_rest (t : Nat) (x1 : Int32) (x2 : Int32) (h : PH) : Option Rs := X12_rest_g0 t x1 x2 h
noncomputable abbrev X12_rest_F : List PV → PH → Option Rs := FW_T11II (X12_rest)
set_option maxRecDepth 100000 in
theorem X12_rest_gd (l : Launch) : Gd l 2 yX12_rest cX12_rest 3 (some .int) (X12_rest_F)   := Gd_of (by decide +kernel) (fun z hzl as h r e => by
  obtain ⟨hst, e⟩ := gL_of e
  obtain ⟨t, q0, e⟩ := gT_of e
  obtain ⟨x1, q1, e⟩ := gI_of e
  obtain ⟨x2, q2, e⟩ := gI_of e
  rw [st_3 hst q0 q1 q2]
  exact ⟨show 3 ≤ 3 by decide, X12_rest_s0 _ _ _ _ ((X12_rest_l0 X12_isSlot t x1 x2 h).trans e)⟩)
