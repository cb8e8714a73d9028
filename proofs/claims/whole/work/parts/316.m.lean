abbrev X12_takesKey_x (z : CZ) : CX := mx RX12 cX12_takesKey 5 2 (some .boolean) "takesKey" z
noncomputable def X12_takesKey_b0 (k12 : Kn) : Kn := (a_al 0 (a_gI 11 714 (a_ic 1 (a_eq (a_ic 0 (a_is 1 k12)) (a_ic 0 a_zr)))))
set_option maxRecDepth 100000 in
theorem X12_takesKey_s0 {z : CZ} {k12 : Kn} (hk12 : SK (X12_takesKey_x z) 12 k12) : SK (X12_takesKey_x z) 0 (X12_takesKey_b0 k12) := (s_aloadn (pc := 0) dX12_takesKey_0 rfl (s_gI (pc := 1) (f := 10) ko_11 (by decide) rfl rfl w_1305 dX12_takesKey_1 (s_iconst (pc := 4) dX12_takesKey_4 c_ic_1 (s_cmpeq (pc := 5) dX12_takesKey_5 (by decide) (s_iconst (pc := 10) dX12_takesKey_10 c_ic_0 (s_istoren (pc := 11) dX12_takesKey_11 rfl (show 1 < 5 by decide) hk12)) (s_iconst (pc := 8) dX12_takesKey_8 c_ic_0 (s_zr (pc := 9) rfl dX12_takesKey_9))))))
noncomputable def X12_takesKey_b12 (k51 : Kn) : Kn := (a_il 1 (a_ic 3 (a_lt (a_al 0 (a_gR 11 719 47 (a_il 1 (a_ic 1 (a_b (fun a b => a + b) (a_ald 47 3008 (a_al 0 (a_gR 11 719 47 (a_il 1 (a_ald 47 3008 (a_b (fun a b => a - b) (a_is 2 (a_il 2 (a_al 0 (a_gI 11 712 (a_al 0 (a_gI 11 713 (a_b (fun a b => a - b) (a_eq (a_ic 1 k51) (a_ic 0 k51)))))))))))))))))))) (a_ic 0 a_zr))))
set_option maxRecDepth 100000 in
theorem X12_takesKey_s12 {z : CZ} {k51 : Kn} (hk51 : SK (X12_takesKey_x z) 51 k51) : SK (X12_takesKey_x z) 12 (X12_takesKey_b12 k51) := (s_iloadn (pc := 12) dX12_takesKey_12 rfl (s_iconst (pc := 13) dX12_takesKey_13 c_ic_3 (s_cmpge (pc := 14) dX12_takesKey_14 (by decide) (s_iconst (pc := 127) dX12_takesKey_127 c_ic_0 (s_zr (pc := 128) rfl dX12_takesKey_128)) (s_aloadn (pc := 17) dX12_takesKey_17 rfl (s_gR (pc := 18) (f := 15) ko_11 (by decide) rfl rfl w_1310 dX12_takesKey_18 (s_iloadn (pc := 21) dX12_takesKey_21 rfl (s_iconst (pc := 22) dX12_takesKey_22 c_ic_1 (s_iadd (pc := 23) dX12_takesKey_23 (s_iald (pc := 24) (by decide) (by decide) rfl rfl rfl dX12_takesKey_24 (s_aloadn (pc := 25) dX12_takesKey_25 rfl (s_gR (pc := 26) (f := 15) ko_11 (by decide) rfl rfl w_1310 dX12_takesKey_26 (s_iloadn (pc := 29) dX12_takesKey_29 rfl (s_iald (pc := 30) (by decide) (by decide) rfl rfl rfl dX12_takesKey_30 (s_isub (pc := 31) dX12_takesKey_31 (s_istoren (pc := 32) dX12_takesKey_32 rfl (show 2 < 5 by decide) (s_iloadn (pc := 33) dX12_takesKey_33 rfl (s_aloadn (pc := 34) dX12_takesKey_34 rfl (s_gI (pc := 35) (f := 8) ko_11 (by decide) rfl rfl w_1303 dX12_takesKey_35 (s_aloadn (pc := 38) dX12_takesKey_38 rfl (s_gI (pc := 39) (f := 9) ko_11 (by decide) rfl rfl w_1304 dX12_takesKey_39 (s_isub (pc := 42) dX12_takesKey_42 (s_cmpne (pc := 43) dX12_takesKey_43 (by decide) (s_iconst (pc := 50) dX12_takesKey_50 c_ic_0 hk51) (s_iconst (pc := 46) dX12_takesKey_46 c_ic_1 (s_goto (pc := 47) dX12_takesKey_47 (by decide) hk51))))))))))))))))))))))))
noncomputable def X12_takesKey_b51 (k55 : Kn) : Kn := (a_is 3 (a_ic 0 (a_is 4 k55)))
set_option maxRecDepth 100000 in
theorem X12_takesKey_s51 {z : CZ} {k55 : Kn} (hk55 : SK (X12_takesKey_x z) 55 k55) : SK (X12_takesKey_x z) 51 (X12_takesKey_b51 k55) := (s_istoren (pc := 51) dX12_takesKey_51 rfl (show 3 < 5 by decide) (s_iconst (pc := 52) dX12_takesKey_52 c_ic_0 (s_istore (pc := 53) dX12_takesKey_53 (show 4 < 5 by decide) hk55)))
noncomputable def X12_takesKey_b55 (k99 k106 : Kn) : Kn := (a_il 4 (a_il 2 (a_lt (a_il 3 (a_z k106 (a_al 0 (a_gR 11 710 45 (a_al 0 (a_gI 11 713 (a_il 4 (a_b (fun a b => a + b) (a_ald 45 2880 (a_al 0 (a_gR 11 718 46 (a_al 0 (a_gR 11 719 47 (a_il 1 (a_ald 47 3008 (a_il 4 (a_b (fun a b => a + b) (a_ald 46 2944 (a_eq (a_ic 1 k99) (a_ic 0 k99)))))))))))))))))))) k106)))
set_option maxRecDepth 100000 in
theorem X12_takesKey_s55 {z : CZ} {k99 k106 : Kn} (hk99 : SK (X12_takesKey_x z) 99 k99) (hk106 : SK (X12_takesKey_x z) 106 k106) : SK (X12_takesKey_x z) 55 (X12_takesKey_b55 k99 k106) := (s_iload (pc := 55) dX12_takesKey_55 (s_iloadn (pc := 57) dX12_takesKey_57 rfl (s_cmpge (pc := 58) dX12_takesKey_58 (by decide) hk106 (s_iloadn (pc := 61) dX12_takesKey_61 rfl (s_ifeq (pc := 62) dX12_takesKey_62 (by decide) hk106 (s_aloadn (pc := 65) dX12_takesKey_65 rfl (s_gR (pc := 66) (f := 6) ko_11 (by decide) rfl rfl w_1301 dX12_takesKey_66 (s_aloadn (pc := 69) dX12_takesKey_69 rfl (s_gI (pc := 70) (f := 9) ko_11 (by decide) rfl rfl w_1304 dX12_takesKey_70 (s_iload (pc := 73) dX12_takesKey_73 (s_iadd (pc := 75) dX12_takesKey_75 (s_iald (pc := 76) (by decide) (by decide) rfl rfl rfl dX12_takesKey_76 (s_aloadn (pc := 77) dX12_takesKey_77 rfl (s_gR (pc := 78) (f := 14) ko_11 (by decide) rfl rfl w_1309 dX12_takesKey_78 (s_aloadn (pc := 81) dX12_takesKey_81 rfl (s_gR (pc := 82) (f := 15) ko_11 (by decide) rfl rfl w_1310 dX12_takesKey_82 (s_iloadn (pc := 85) dX12_takesKey_85 rfl (s_iald (pc := 86) (by decide) (by decide) rfl rfl rfl dX12_takesKey_86 (s_iload (pc := 87) dX12_takesKey_87 (s_iadd (pc := 89) dX12_takesKey_89 (s_cald (pc := 90) (by decide) (by decide) rfl rfl rfl dX12_takesKey_90 (s_cmpne (pc := 91) dX12_takesKey_91 (by decide) (s_iconst (pc := 98) dX12_takesKey_98 c_ic_0 hk99) (s_iconst (pc := 94) dX12_takesKey_94 c_ic_1 (s_goto (pc := 95) dX12_takesKey_95 (by decide) hk99))))))))))))))))))))))))
noncomputable def X12_takesKey_b99 (k55 : Kn) : Kn := (a_is 3 (a_inc 4 1 k55))
set_option maxRecDepth 100000 in
theorem X12_takesKey_s99 {z : CZ} {k55 : Kn} (hk55 : SK (X12_takesKey_x z) 55 k55) : SK (X12_takesKey_x z) 99 (X12_takesKey_b99 k55) := (s_istoren (pc := 99) dX12_takesKey_99 rfl (show 3 < 5 by decide) (s_iinc (pc := 100) dX12_takesKey_100 c_ic_1 (show 4 < 5 by decide) (s_goto (pc := 103) dX12_takesKey_103 (by decide) hk55)))
noncomputable def X12_takesKey_b106 (c_X12_go : Nat → PH → Option Rs) (k12 : Kn) : Kn := (a_il 3 (a_z (a_inc 1 1 k12) (a_al 0 (a_il 1 (a_pI 11 717 (a_al 0 (a_vV 11 0 (FW_T11 c_X12_go) (a_ic 1 a_zr))))))))
set_option maxRecDepth 100000 in
theorem X12_takesKey_s106 {z : CZ} {k12 : Kn} (hk12 : SK (X12_takesKey_x z) 12 k12) : SK (X12_takesKey_x z) 106 (X12_takesKey_b106 X12_go k12) := (s_iloadn (pc := 106) dX12_takesKey_106 rfl (s_ifeq (pc := 107) dX12_takesKey_107 (by decide) (s_iinc (pc := 121) dX12_takesKey_121 c_ic_1 (show 1 < 5 by decide) (s_goto (pc := 124) dX12_takesKey_124 (by decide) hk12)) (s_aloadn (pc := 110) dX12_takesKey_110 rfl (s_iloadn (pc := 111) dX12_takesKey_111 rfl (s_pI (pc := 112) (f := 13) ko_11 (by decide) rfl rfl rfl (by decide +kernel) w_1308 dX12_takesKey_112 (s_aloadn (pc := 115) dX12_takesKey_115 rfl (s_vV (pc := 116) (run_virtual (X12_go_gd _) (show 1 < 2 by decide) cy_X12_go (by decide) rfl w_1619 w_s46 w_1617 dX12_takesKey_116) (s_iconst (pc := 119) dX12_takesKey_119 c_ic_1 (s_zr (pc := 120) rfl dX12_takesKey_120)))))))))
noncomputable def X12_takesKey_u12 (g : Nat → Int32 → PH → Option Rs) : Kn := fun ls st h => gL 0 st (gT 11 ls 0 fun t => gI ls 1 fun x1 => g t x1 h)
noncomputable def X12_takesKey_u51 (g : Nat → Int32 → Int32 → Int32 → PH → Option Rs) : Kn := fun ls st h => gL 1 st (gT 11 ls 0 fun t => gI ls 1 fun x1 => gI ls 2 fun x2 => gI (st.map some) 0 fun s0 => g t x1 x2 s0 h)
noncomputable def X12_takesKey_u55 (g : Nat → Int32 → Int32 → Int32 → Int32 → PH → Option Rs) : Kn := fun ls st h => gL 0 st (gT 11 ls 0 fun t => gI ls 1 fun x1 => gI ls 2 fun x2 => gI ls 3 fun x3 => gI ls 4 fun x4 => g t x1 x2 x3 x4 h)
noncomputable def X12_takesKey_u99 (g : Nat → Int32 → Int32 → Int32 → Int32 → PH → Option Rs) : Kn := fun ls st h => gL 1 st (gT 11 ls 0 fun t => gI ls 1 fun x1 => gI ls 2 fun x2 => gI ls 4 fun x4 => gI (st.map some) 0 fun s0 => g t x1 x2 x4 s0 h)
noncomputable def X12_takesKey_u106 (g : Nat → Int32 → Int32 → PH → Option Rs) : Kn := fun ls st h => gL 0 st (gT 11 ls 0 fun t => gI ls 1 fun x1 => gI ls 3 fun x3 => g t x1 x3 h)
noncomputable def X12_takesKey_f0 (g12 : Nat → Int32 → PH → Option Rs) (t : Nat) (h : PH) : Option Rs :=
  if (hI h 714 t 0) = 1 then
    g12 t 0 h
  else
    bz 0 <|
    some (some (.inl 0), h)
set_option maxRecDepth 100000 in
theorem X12_takesKey_l0 (g12 : Nat → Int32 → PH → Option Rs) (t : Nat) (h : PH) : X12_takesKey_b0 (X12_takesKey_u12 g12) [some (.inr (11, t + 1)), none, none, none, none] [] h = X12_takesKey_f0 g12 t h := rfl
theorem X12_takesKey_m0 {g12 G12 : Nat → Int32 → PH → Option Rs} (hg12 : ∀ a0 a1 a2, Mo (g12 a0 a1 a2) (G12 a0 a1 a2)) (t : Nat) (h : PH) : Mo (X12_takesKey_f0 g12 t h) (X12_takesKey_f0 G12 t h) := (mo_if (hg12 t 0 h) (mo_bz mo_rf))
noncomputable def X12_takesKey_f12 (g51 : Nat → Int32 → Int32 → Int32 → PH → Option Rs) (t : Nat) (x1 : Int32) (h : PH) : Option Rs :=
  if x1 < 3 then
    nn (hR h 719 t 0) fun r1 =>
    ix (x1 + 1) (hL h 47 r1) fun j2 =>
    nn (hR h 719 t 0) fun r3 =>
    ix x1 (hL h 47 r3) fun j4 =>
    if ((hI h 3008 r1 j2) - (hI h 3008 r3 j4)) = ((hI h 712 t 0) - (hI h 713 t 0)) then
      g51 t x1 ((hI h 3008 r1 j2) - (hI h 3008 r3 j4)) 1 h
    else
      g51 t x1 ((hI h 3008 r1 j2) - (hI h 3008 r3 j4)) 0 h
  else
    bz 0 <|
    some (some (.inl 0), h)
set_option maxRecDepth 100000 in
theorem X12_takesKey_l12 (g51 : Nat → Int32 → Int32 → Int32 → PH → Option Rs) (t : Nat) (x1 : Int32) (h : PH) : X12_takesKey_b12 (X12_takesKey_u51 g51) [some (.inr (11, t + 1)), some (.inl x1), none, none, none] [] h = X12_takesKey_f12 g51 t x1 h := rfl
theorem X12_takesKey_m12 {g51 G51 : Nat → Int32 → Int32 → Int32 → PH → Option Rs} (hg51 : ∀ a0 a1 a2 a3 a4, Mo (g51 a0 a1 a2 a3 a4) (G51 a0 a1 a2 a3 a4)) (t : Nat) (x1 : Int32) (h : PH) : Mo (X12_takesKey_f12 g51 t x1 h) (X12_takesKey_f12 G51 t x1 h) := (mo_if (mo_nn fun r1 => (mo_ix fun j2 => (mo_nn fun r3 => (mo_ix fun j4 => (mo_if (hg51 t x1 ((hI h 3008 r1 j2) - (hI h 3008 r3 j4)) 1 h) (hg51 t x1 ((hI h 3008 r1 j2) - (hI h 3008 r3 j4)) 0 h)))))) (mo_bz mo_rf))
theorem X12_takesKey_w12 {z : CZ} {g51 : Nat → Int32 → Int32 → Int32 → PH → Option Rs} (hk51 : SK (X12_takesKey_x z) 51 (X12_takesKey_u51 g51)) : SK (X12_takesKey_x z) 12 (X12_takesKey_u12 (X12_takesKey_f12 g51)) := by
  intro ls st h r e
  obtain ⟨hst, e⟩ := gL_of e
  obtain ⟨t, q0, e⟩ := gT_of e
  obtain ⟨x1, q1, e⟩ := gI_of e
  rw [st_0 hst]
  exact WK.sub (canon := [some (.inr (11, t + 1)), some (.inl x1), none, none, none]) rfl ⟨q0, q1, trivial⟩ (X12_takesKey_s12 hk51 _ _ _ _ ((X12_takesKey_l12 g51 t x1 h).trans e))
noncomputable def X12_takesKey_f51 (g55 : Nat → Int32 → Int32 → Int32 → Int32 → PH → Option Rs) (t : Nat) (x1 : Int32) (x2 : Int32) (s0 : Int32) (h : PH) : Option Rs :=
  g55 t x1 x2 s0 0 h
set_option maxRecDepth 100000 in
theorem X12_takesKey_l51 (g55 : Nat → Int32 → Int32 → Int32 → Int32 → PH → Option Rs) (t : Nat) (x1 : Int32) (x2 : Int32) (s0 : Int32) (h : PH) : X12_takesKey_b51 (X12_takesKey_u55 g55) [some (.inr (11, t + 1)), some (.inl x1), some (.inl x2), none, none] [.inl s0] h = X12_takesKey_f51 g55 t x1 x2 s0 h := rfl
theorem X12_takesKey_m51 {g55 G55 : Nat → Int32 → Int32 → Int32 → Int32 → PH → Option Rs} (hg55 : ∀ a0 a1 a2 a3 a4 a5, Mo (g55 a0 a1 a2 a3 a4 a5) (G55 a0 a1 a2 a3 a4 a5)) (t : Nat) (x1 : Int32) (x2 : Int32) (s0 : Int32) (h : PH) : Mo (X12_takesKey_f51 g55 t x1 x2 s0 h) (X12_takesKey_f51 G55 t x1 x2 s0 h) := (hg55 t x1 x2 s0 0 h)
theorem X12_takesKey_w51 {z : CZ} {g55 : Nat → Int32 → Int32 → Int32 → Int32 → PH → Option Rs} (hk55 : SK (X12_takesKey_x z) 55 (X12_takesKey_u55 g55)) : SK (X12_takesKey_x z) 51 (X12_takesKey_u51 (X12_takesKey_f51 g55)) := by
  intro ls st h r e
  obtain ⟨hst, e⟩ := gL_of e
  obtain ⟨t, q0, e⟩ := gT_of e
  obtain ⟨x1, q1, e⟩ := gI_of e
  obtain ⟨x2, q2, e⟩ := gI_of e
  obtain ⟨s0, q3, e⟩ := gI_of e
  rw [st_1 hst q3]
  exact WK.sub (canon := [some (.inr (11, t + 1)), some (.inl x1), some (.inl x2), none, none]) rfl ⟨q0, q1, q2, trivial⟩ (X12_takesKey_s51 hk55 _ _ _ _ ((X12_takesKey_l51 g55 t x1 x2 s0 h).trans e))
noncomputable def X12_takesKey_f55 (g99 : Nat → Int32 → Int32 → Int32 → Int32 → PH → Option Rs) (g106 : Nat → Int32 → Int32 → PH → Option Rs) (t : Nat) (x1 : Int32) (x2 : Int32) (x3 : Int32) (x4 : Int32) (h : PH) : Option Rs :=
  if x4 < x2 then
    if x3 = 0 then
      g106 t x1 x3 h
    else
      nn (hR h 710 t 0) fun r5 =>
      ix ((hI h 713 t 0) + x4) (hL h 45 r5) fun j6 =>
      nn (hR h 719 t 0) fun r7 =>
      ix x1 (hL h 47 r7) fun j8 =>
      nn (hR h 718 t 0) fun r9 =>
      ix ((hI h 3008 r7 j8) + x4) (hL h 46 r9) fun j10 =>
      if (hI h 2880 r5 j6) = (hI h 2944 r9 j10) then
        g99 t x1 x2 x4 1 h
      else
        g99 t x1 x2 x4 0 h
  else
    g106 t x1 x3 h
set_option maxRecDepth 100000 in
theorem X12_takesKey_l55 (g99 : Nat → Int32 → Int32 → Int32 → Int32 → PH → Option Rs) (g106 : Nat → Int32 → Int32 → PH → Option Rs) (t : Nat) (x1 : Int32) (x2 : Int32) (x3 : Int32) (x4 : Int32) (h : PH) : X12_takesKey_b55 (X12_takesKey_u99 g99) (X12_takesKey_u106 g106) [some (.inr (11, t + 1)), some (.inl x1), some (.inl x2), some (.inl x3), some (.inl x4)] [] h = X12_takesKey_f55 g99 g106 t x1 x2 x3 x4 h := rfl
theorem X12_takesKey_m55 {g99 G99 : Nat → Int32 → Int32 → Int32 → Int32 → PH → Option Rs} {g106 G106 : Nat → Int32 → Int32 → PH → Option Rs} (hg99 : ∀ a0 a1 a2 a3 a4 a5, Mo (g99 a0 a1 a2 a3 a4 a5) (G99 a0 a1 a2 a3 a4 a5)) (hg106 : ∀ a0 a1 a2 a3, Mo (g106 a0 a1 a2 a3) (G106 a0 a1 a2 a3)) (t : Nat) (x1 : Int32) (x2 : Int32) (x3 : Int32) (x4 : Int32) (h : PH) : Mo (X12_takesKey_f55 g99 g106 t x1 x2 x3 x4 h) (X12_takesKey_f55 G99 G106 t x1 x2 x3 x4 h) := (mo_if (mo_if (hg106 t x1 x3 h) (mo_nn fun r5 => (mo_ix fun j6 => (mo_nn fun r7 => (mo_ix fun j8 => (mo_nn fun r9 => (mo_ix fun j10 => (mo_if (hg99 t x1 x2 x4 1 h) (hg99 t x1 x2 x4 0 h))))))))) (hg106 t x1 x3 h))
theorem X12_takesKey_w55 {z : CZ} {g99 : Nat → Int32 → Int32 → Int32 → Int32 → PH → Option Rs} {g106 : Nat → Int32 → Int32 → PH → Option Rs} (hk99 : SK (X12_takesKey_x z) 99 (X12_takesKey_u99 g99)) (hk106 : SK (X12_takesKey_x z) 106 (X12_takesKey_u106 g106)) : SK (X12_takesKey_x z) 55 (X12_takesKey_u55 (X12_takesKey_f55 g99 g106)) := by
  intro ls st h r e
  obtain ⟨hst, e⟩ := gL_of e
  obtain ⟨t, q0, e⟩ := gT_of e
  obtain ⟨x1, q1, e⟩ := gI_of e
  obtain ⟨x2, q2, e⟩ := gI_of e
  obtain ⟨x3, q3, e⟩ := gI_of e
  obtain ⟨x4, q4, e⟩ := gI_of e
  rw [st_0 hst]
  exact WK.sub (canon := [some (.inr (11, t + 1)), some (.inl x1), some (.inl x2), some (.inl x3), some (.inl x4)]) rfl ⟨q0, q1, q2, q3, q4, trivial⟩ (X12_takesKey_s55 hk99 hk106 _ _ _ _ ((X12_takesKey_l55 g99 g106 t x1 x2 x3 x4 h).trans e))
noncomputable def X12_takesKey_f99 (g55 : Nat → Int32 → Int32 → Int32 → Int32 → PH → Option Rs) (t : Nat) (x1 : Int32) (x2 : Int32) (x4 : Int32) (s0 : Int32) (h : PH) : Option Rs :=
  g55 t x1 x2 s0 (x4 + 1) h
set_option maxRecDepth 100000 in
theorem X12_takesKey_l99 (g55 : Nat → Int32 → Int32 → Int32 → Int32 → PH → Option Rs) (t : Nat) (x1 : Int32) (x2 : Int32) (x4 : Int32) (s0 : Int32) (h : PH) : X12_takesKey_b99 (X12_takesKey_u55 g55) [some (.inr (11, t + 1)), some (.inl x1), some (.inl x2), none, some (.inl x4)] [.inl s0] h = X12_takesKey_f99 g55 t x1 x2 x4 s0 h := rfl
theorem X12_takesKey_m99 {g55 G55 : Nat → Int32 → Int32 → Int32 → Int32 → PH → Option Rs} (hg55 : ∀ a0 a1 a2 a3 a4 a5, Mo (g55 a0 a1 a2 a3 a4 a5) (G55 a0 a1 a2 a3 a4 a5)) (t : Nat) (x1 : Int32) (x2 : Int32) (x4 : Int32) (s0 : Int32) (h : PH) : Mo (X12_takesKey_f99 g55 t x1 x2 x4 s0 h) (X12_takesKey_f99 G55 t x1 x2 x4 s0 h) := (hg55 t x1 x2 s0 (x4 + 1) h)
theorem X12_takesKey_w99 {z : CZ} {g55 : Nat → Int32 → Int32 → Int32 → Int32 → PH → Option Rs} (hk55 : SK (X12_takesKey_x z) 55 (X12_takesKey_u55 g55)) : SK (X12_takesKey_x z) 99 (X12_takesKey_u99 (X12_takesKey_f99 g55)) := by
  intro ls st h r e
  obtain ⟨hst, e⟩ := gL_of e
  obtain ⟨t, q0, e⟩ := gT_of e
  obtain ⟨x1, q1, e⟩ := gI_of e
  obtain ⟨x2, q2, e⟩ := gI_of e
  obtain ⟨x4, q3, e⟩ := gI_of e
  obtain ⟨s0, q4, e⟩ := gI_of e
  rw [st_1 hst q4]
  exact WK.sub (canon := [some (.inr (11, t + 1)), some (.inl x1), some (.inl x2), none, some (.inl x4)]) rfl ⟨q0, q1, q2, q3, trivial⟩ (X12_takesKey_s99 hk55 _ _ _ _ ((X12_takesKey_l99 g55 t x1 x2 x4 s0 h).trans e))
noncomputable def X12_takesKey_f106 (c_X12_go : Nat → PH → Option Rs) (g12 : Nat → Int32 → PH → Option Rs) (t : Nat) (x1 : Int32) (x3 : Int32) (h : PH) : Option Rs :=
  if x3 = 0 then
    g12 t (x1 + 1) h
  else
    wr (pI h 717 t 0 x1) fun h11 =>
    cV (c_X12_go t h11) fun h12 =>
    bz 1 <|
    some (some (.inl 1), h12)
set_option maxRecDepth 100000 in
theorem X12_takesKey_l106 (c_X12_go : Nat → PH → Option Rs) (g12 : Nat → Int32 → PH → Option Rs) (t : Nat) (x1 : Int32) (x3 : Int32) (h : PH) : X12_takesKey_b106 c_X12_go (X12_takesKey_u12 g12) [some (.inr (11, t + 1)), some (.inl x1), none, some (.inl x3), none] [] h = X12_takesKey_f106 c_X12_go g12 t x1 x3 h := rfl
theorem X12_takesKey_m106 {c_X12_go : Nat → PH → Option Rs} {g12 G12 : Nat → Int32 → PH → Option Rs} (hg12 : ∀ a0 a1 a2, Mo (g12 a0 a1 a2) (G12 a0 a1 a2)) (t : Nat) (x1 : Int32) (x3 : Int32) (h : PH) : Mo (X12_takesKey_f106 c_X12_go g12 t x1 x3 h) (X12_takesKey_f106 c_X12_go G12 t x1 x3 h) := (mo_if (hg12 t (x1 + 1) h) (mo_wr fun h11 => (mo_cV fun h12 => (mo_bz mo_rf))))
theorem X12_takesKey_w106 {z : CZ} {g12 : Nat → Int32 → PH → Option Rs} (hk12 : SK (X12_takesKey_x z) 12 (X12_takesKey_u12 g12)) : SK (X12_takesKey_x z) 106 (X12_takesKey_u106 (X12_takesKey_f106 X12_go g12)) := by
  intro ls st h r e
  obtain ⟨hst, e⟩ := gL_of e
  obtain ⟨t, q0, e⟩ := gT_of e
  obtain ⟨x1, q1, e⟩ := gI_of e
  obtain ⟨x3, q2, e⟩ := gI_of e
  rw [st_0 hst]
  exact WK.sub (canon := [some (.inr (11, t + 1)), some (.inl x1), none, some (.inl x3), none]) rfl ⟨q0, q1, q2, trivial⟩ (X12_takesKey_s106 hk12 _ _ _ _ ((X12_takesKey_l106 X12_go g12 t x1 x3 h).trans e))
noncomputable def X12_takesKey_g0 (G : (Nat → Int32 → PH → Option Rs) × (Nat → Int32 → Int32 → Int32 → Int32 → PH → Option Rs)) (t : Nat) (h : PH) : Option Rs := X12_takesKey_f0 (G).1 t h
noncomputable def X12_takesKey_g51 (G : (Nat → Int32 → PH → Option Rs) × (Nat → Int32 → Int32 → Int32 → Int32 → PH → Option Rs)) (t : Nat) (x1 : Int32) (x2 : Int32) (s0 : Int32) (h : PH) : Option Rs := X12_takesKey_f51 (G).2 t x1 x2 s0 h
noncomputable def X12_takesKey_g12 (G : (Nat → Int32 → PH → Option Rs) × (Nat → Int32 → Int32 → Int32 → Int32 → PH → Option Rs)) (t : Nat) (x1 : Int32) (h : PH) : Option Rs := X12_takesKey_f12 (X12_takesKey_g51 G) t x1 h
noncomputable def X12_takesKey_g99 (G : (Nat → Int32 → PH → Option Rs) × (Nat → Int32 → Int32 → Int32 → Int32 → PH → Option Rs)) (t : Nat) (x1 : Int32) (x2 : Int32) (x4 : Int32) (s0 : Int32) (h : PH) : Option Rs := X12_takesKey_f99 (G).2 t x1 x2 x4 s0 h
noncomputable def X12_takesKey_g106 (G : (Nat → Int32 → PH → Option Rs) × (Nat → Int32 → Int32 → Int32 → Int32 → PH → Option Rs)) (t : Nat) (x1 : Int32) (x3 : Int32) (h : PH) : Option Rs := X12_takesKey_f106 X12_go (G).1 t x1 x3 h
noncomputable def X12_takesKey_g55 (G : (Nat → Int32 → PH → Option Rs) × (Nat → Int32 → Int32 → Int32 → Int32 → PH → Option Rs)) (t : Nat) (x1 : Int32) (x2 : Int32) (x3 : Int32) (x4 : Int32) (h : PH) : Option Rs := X12_takesKey_f55 (X12_takesKey_g99 G) (X12_takesKey_g106 G) t x1 x2 x3 x4 h
theorem X12_takesKey_v51 {z : CZ} {G : (Nat → Int32 → PH → Option Rs) × (Nat → Int32 → Int32 → Int32 → Int32 → PH → Option Rs)} (hG12 : SK (X12_takesKey_x z) 12 (X12_takesKey_u12 (G).1)) (hG55 : SK (X12_takesKey_x z) 55 (X12_takesKey_u55 (G).2)) : SK (X12_takesKey_x z) 51 (X12_takesKey_u51 (X12_takesKey_g51 G)) := X12_takesKey_w51 hG55
theorem X12_takesKey_v12 {z : CZ} {G : (Nat → Int32 → PH → Option Rs) × (Nat → Int32 → Int32 → Int32 → Int32 → PH → Option Rs)} (hG12 : SK (X12_takesKey_x z) 12 (X12_takesKey_u12 (G).1)) (hG55 : SK (X12_takesKey_x z) 55 (X12_takesKey_u55 (G).2)) : SK (X12_takesKey_x z) 12 (X12_takesKey_u12 (X12_takesKey_g12 G)) := X12_takesKey_w12 (X12_takesKey_v51 hG12 hG55)
theorem X12_takesKey_v99 {z : CZ} {G : (Nat → Int32 → PH → Option Rs) × (Nat → Int32 → Int32 → Int32 → Int32 → PH → Option Rs)} (hG12 : SK (X12_takesKey_x z) 12 (X12_takesKey_u12 (G).1)) (hG55 : SK (X12_takesKey_x z) 55 (X12_takesKey_u55 (G).2)) : SK (X12_takesKey_x z) 99 (X12_takesKey_u99 (X12_takesKey_g99 G)) := X12_takesKey_w99 hG55
theorem X12_takesKey_v106 {z : CZ} {G : (Nat → Int32 → PH → Option Rs) × (Nat → Int32 → Int32 → Int32 → Int32 → PH → Option Rs)} (hG12 : SK (X12_takesKey_x z) 12 (X12_takesKey_u12 (G).1)) (hG55 : SK (X12_takesKey_x z) 55 (X12_takesKey_u55 (G).2)) : SK (X12_takesKey_x z) 106 (X12_takesKey_u106 (X12_takesKey_g106 G)) := X12_takesKey_w106 hG12
theorem X12_takesKey_v55 {z : CZ} {G : (Nat → Int32 → PH → Option Rs) × (Nat → Int32 → Int32 → Int32 → Int32 → PH → Option Rs)} (hG12 : SK (X12_takesKey_x z) 12 (X12_takesKey_u12 (G).1)) (hG55 : SK (X12_takesKey_x z) 55 (X12_takesKey_u55 (G).2)) : SK (X12_takesKey_x z) 55 (X12_takesKey_u55 (X12_takesKey_g55 G)) := X12_takesKey_w55 (X12_takesKey_v99 hG12 hG55) (X12_takesKey_v106 hG12 hG55)
noncomputable def X12_takesKey_fam : Nat → (Nat → Int32 → PH → Option Rs) × (Nat → Int32 → Int32 → Int32 → Int32 → PH → Option Rs)
  | 0 => (fun _ _ _ => none, fun _ _ _ _ _ _ => none)
  | n + 1 => (X12_takesKey_g12 (X12_takesKey_fam n), X12_takesKey_g55 (X12_takesKey_fam n))
theorem X12_takesKey_k {z : CZ} : ∀ n, SK (X12_takesKey_x z) 12 (X12_takesKey_u12 (X12_takesKey_fam n).1) ∧ SK (X12_takesKey_x z) 55 (X12_takesKey_u55 (X12_takesKey_fam n).2)
  | 0 => ⟨(fun ls st h r e => by
      obtain ⟨_, e⟩ := gL_of e
      obtain ⟨_, _, e⟩ := gT_of e
      obtain ⟨_, _, e⟩ := gI_of e
      cases e), (fun ls st h r e => by
      obtain ⟨_, e⟩ := gL_of e
      obtain ⟨_, _, e⟩ := gT_of e
      obtain ⟨_, _, e⟩ := gI_of e
      obtain ⟨_, _, e⟩ := gI_of e
      obtain ⟨_, _, e⟩ := gI_of e
      obtain ⟨_, _, e⟩ := gI_of e
      cases e)⟩
  | n + 1 => by
    obtain ⟨ih12, ih55⟩ := X12_takesKey_k n
    exact ⟨X12_takesKey_v12 ih12 ih55, X12_takesKey_v55 ih12 ih55⟩
theorem X12_takesKey_n0 {G G' : (Nat → Int32 → PH → Option Rs) × (Nat → Int32 → Int32 → Int32 → Int32 → PH → Option Rs)} (hg12 : ∀ a0 a1 a2, Mo ((G).1 a0 a1 a2) ((G').1 a0 a1 a2)) (hg55 : ∀ a0 a1 a2 a3 a4 a5, Mo ((G).2 a0 a1 a2 a3 a4 a5) ((G').2 a0 a1 a2 a3 a4 a5)) (t : Nat) (h : PH) : Mo (X12_takesKey_g0 G t h) (X12_takesKey_g0 G' t h) := X12_takesKey_m0 hg12 t h
theorem X12_takesKey_n51 {G G' : (Nat → Int32 → PH → Option Rs) × (Nat → Int32 → Int32 → Int32 → Int32 → PH → Option Rs)} (hg12 : ∀ a0 a1 a2, Mo ((G).1 a0 a1 a2) ((G').1 a0 a1 a2)) (hg55 : ∀ a0 a1 a2 a3 a4 a5, Mo ((G).2 a0 a1 a2 a3 a4 a5) ((G').2 a0 a1 a2 a3 a4 a5)) (t : Nat) (x1 : Int32) (x2 : Int32) (s0 : Int32) (h : PH) : Mo (X12_takesKey_g51 G t x1 x2 s0 h) (X12_takesKey_g51 G' t x1 x2 s0 h) := X12_takesKey_m51 hg55 t x1 x2 s0 h
theorem X12_takesKey_n12 {G G' : (Nat → Int32 → PH → Option Rs) × (Nat → Int32 → Int32 → Int32 → Int32 → PH → Option Rs)} (hg12 : ∀ a0 a1 a2, Mo ((G).1 a0 a1 a2) ((G').1 a0 a1 a2)) (hg55 : ∀ a0 a1 a2 a3 a4 a5, Mo ((G).2 a0 a1 a2 a3 a4 a5) ((G').2 a0 a1 a2 a3 a4 a5)) (t : Nat) (x1 : Int32) (h : PH) : Mo (X12_takesKey_g12 G t x1 h) (X12_takesKey_g12 G' t x1 h) := X12_takesKey_m12 (fun a0 a1 a2 a3 a4 => X12_takesKey_n51 hg12 hg55 a0 a1 a2 a3 a4) t x1 h
theorem X12_takesKey_n99 {G G' : (Nat → Int32 → PH → Option Rs) × (Nat → Int32 → Int32 → Int32 → Int32 → PH → Option Rs)} (hg12 : ∀ a0 a1 a2, Mo ((G).1 a0 a1 a2) ((G').1 a0 a1 a2)) (hg55 : ∀ a0 a1 a2 a3 a4 a5, Mo ((G).2 a0 a1 a2 a3 a4 a5) ((G').2 a0 a1 a2 a3 a4 a5)) (t : Nat) (x1 : Int32) (x2 : Int32) (x4 : Int32) (s0 : Int32) (h : PH) : Mo (X12_takesKey_g99 G t x1 x2 x4 s0 h) (X12_takesKey_g99 G' t x1 x2 x4 s0 h) := X12_takesKey_m99 hg55 t x1 x2 x4 s0 h
theorem X12_takesKey_n106 {G G' : (Nat → Int32 → PH → Option Rs) × (Nat → Int32 → Int32 → Int32 → Int32 → PH → Option Rs)} (hg12 : ∀ a0 a1 a2, Mo ((G).1 a0 a1 a2) ((G').1 a0 a1 a2)) (hg55 : ∀ a0 a1 a2 a3 a4 a5, Mo ((G).2 a0 a1 a2 a3 a4 a5) ((G').2 a0 a1 a2 a3 a4 a5)) (t : Nat) (x1 : Int32) (x3 : Int32) (h : PH) : Mo (X12_takesKey_g106 G t x1 x3 h) (X12_takesKey_g106 G' t x1 x3 h) := X12_takesKey_m106 hg12 t x1 x3 h
theorem X12_takesKey_n55 {G G' : (Nat → Int32 → PH → Option Rs) × (Nat → Int32 → Int32 → Int32 → Int32 → PH → Option Rs)} (hg12 : ∀ a0 a1 a2, Mo ((G).1 a0 a1 a2) ((G').1 a0 a1 a2)) (hg55 : ∀ a0 a1 a2 a3 a4 a5, Mo ((G).2 a0 a1 a2 a3 a4 a5) ((G').2 a0 a1 a2 a3 a4 a5)) (t : Nat) (x1 : Int32) (x2 : Int32) (x3 : Int32) (x4 : Int32) (h : PH) : Mo (X12_takesKey_g55 G t x1 x2 x3 x4 h) (X12_takesKey_g55 G' t x1 x2 x3 x4 h) := X12_takesKey_m55 (fun a0 a1 a2 a3 a4 a5 => X12_takesKey_n99 hg12 hg55 a0 a1 a2 a3 a4 a5) (fun a0 a1 a2 a3 => X12_takesKey_n106 hg12 hg55 a0 a1 a2 a3) t x1 x2 x3 x4 h
theorem X12_takesKey_fm : ∀ n, (∀ a0 a1 a2, Mo ((X12_takesKey_fam n).1 a0 a1 a2) ((X12_takesKey_fam (n + 1)).1 a0 a1 a2)) ∧ (∀ a0 a1 a2 a3 a4 a5, Mo ((X12_takesKey_fam n).2 a0 a1 a2 a3 a4 a5) ((X12_takesKey_fam (n + 1)).2 a0 a1 a2 a3 a4 a5))
  | 0 => ⟨fun _ _ _ => mo_no, fun _ _ _ _ _ _ => mo_no⟩
  | n + 1 => by
    obtain ⟨ih12, ih55⟩ := X12_takesKey_fm n
    exact ⟨fun a0 a1 a2 => X12_takesKey_n12 ih12 ih55 a0 a1 a2, fun a0 a1 a2 a3 a4 a5 => X12_takesKey_n55 ih12 ih55 a0 a1 a2 a3 a4 a5⟩
noncomputable def X12_takesKey (t : Nat) (h : PH) : Option Rs := lim (fun n => X12_takesKey_g0 (X12_takesKey_fam n) t h)
theorem X12_takesKey_iff {t : Nat} {h : PH} {r : Rs} : X12_takesKey t h = some r ↔ ∃ n, X12_takesKey_g0 (X12_takesKey_fam n) t h = some r := lim_iff (fun n => by
  obtain ⟨ih12, ih55⟩ := X12_takesKey_fm n
  exact X12_takesKey_n0 ih12 ih55 t h)
noncomputable abbrev X12_takesKey_F : List PV → PH → Option Rs := FW_T11 (X12_takesKey)
set_option maxRecDepth 100000 in
theorem X12_takesKey_gd (l : Launch) : Gd l 2 yX12_takesKey cX12_takesKey 5 (some .boolean) (X12_takesKey_F)   := Gd_of (by decide +kernel) (fun z hzl as h r e => by
  obtain ⟨hst, e⟩ := gL_of e
  obtain ⟨t, q0, e⟩ := gT_of e
  rw [st_1 hst q0]
  obtain ⟨n, e⟩ := lim_of e
  obtain ⟨hG12, hG55⟩ := X12_takesKey_k (z := z) n
  exact ⟨show 1 ≤ 5 by decide, X12_takesKey_s0 hG12 _ _ _ _ ((X12_takesKey_l0 (X12_takesKey_fam n).1 t h).trans e)⟩)
abbrev X12_nameOf_x (z : CZ) : CX := mx RX12 cX12_nameOf 2 0 (some .int) "nameOf" z
noncomputable def X12_nameOf_b0 : Kn := (a_al 0 (a_gI 11 717 (a_sw [(0, (a_il 1 (a_ic 104 (a_eq (a_ic 0 a_ir) (a_il 1 (a_ic 100 (a_eq (a_ic 1 a_ir) (a_il 1 (a_ic 114 (a_eq (a_ic 2 a_ir) (a_ic (-1) a_ir))))))))))), (1, (a_il 1 (a_ic 104 (a_eq (a_ic 0 a_ir) (a_il 1 (a_ic 100 (a_eq (a_ic 1 a_ir) (a_il 1 (a_ic 109 (a_eq (a_ic 2 a_ir) (a_ic (-1) a_ir)))))))))))] (a_il 1 (a_ic 107 (a_eq (a_ic 0 a_ir) (a_il 1 (a_ic 115 (a_eq (a_ic 1 a_ir) (a_il 1 (a_ic 119 (a_eq (a_ic 2 a_ir) (a_il 1 (a_ic 104 (a_eq (a_ic 3 a_ir) (a_ic (-1) a_ir))))))))))))))))
set_option maxRecDepth 100000 in
theorem X12_nameOf_s0 {z : CZ} : SK (X12_nameOf_x z) 0 (X12_nameOf_b0) := (s_aloadn (pc := 0) dX12_nameOf_0 rfl (s_gI (pc := 1) (f := 13) ko_11 (by decide) rfl rfl w_1308 dX12_nameOf_1 (s_lookup (pc := 4) dX12_nameOf_4 (by decide) (by decide) ⟨c_ti_0, ⟨_, by decide, (s_iloadn (pc := 32) dX12_nameOf_32 rfl (s_bipush (pc := 33) dX12_nameOf_33 c_bp_104 (s_cmpne (pc := 35) dX12_nameOf_35 (by decide) (s_iloadn (pc := 42) dX12_nameOf_42 rfl (s_bipush (pc := 43) dX12_nameOf_43 c_bp_100 (s_cmpne (pc := 45) dX12_nameOf_45 (by decide) (s_iloadn (pc := 52) dX12_nameOf_52 rfl (s_bipush (pc := 53) dX12_nameOf_53 c_bp_114 (s_cmpne (pc := 55) dX12_nameOf_55 (by decide) (s_iconst (pc := 62) dX12_nameOf_62 c_ic_m1 (s_ir (pc := 63) rfl dX12_nameOf_63)) (s_iconst (pc := 58) dX12_nameOf_58 c_ic_2 (s_goto (pc := 59) dX12_nameOf_59 (by decide) (s_ir (pc := 63) rfl dX12_nameOf_63)))))) (s_iconst (pc := 48) dX12_nameOf_48 c_ic_1 (s_goto (pc := 49) dX12_nameOf_49 (by decide) (s_ir (pc := 63) rfl dX12_nameOf_63)))))) (s_iconst (pc := 38) dX12_nameOf_38 c_ic_0 (s_goto (pc := 39) dX12_nameOf_39 (by decide) (s_ir (pc := 63) rfl dX12_nameOf_63))))))⟩, ⟨c_ti_1, ⟨_, by decide, (s_iloadn (pc := 64) dX12_nameOf_64 rfl (s_bipush (pc := 65) dX12_nameOf_65 c_bp_104 (s_cmpne (pc := 67) dX12_nameOf_67 (by decide) (s_iloadn (pc := 74) dX12_nameOf_74 rfl (s_bipush (pc := 75) dX12_nameOf_75 c_bp_100 (s_cmpne (pc := 77) dX12_nameOf_77 (by decide) (s_iloadn (pc := 84) dX12_nameOf_84 rfl (s_bipush (pc := 85) dX12_nameOf_85 c_bp_109 (s_cmpne (pc := 87) dX12_nameOf_87 (by decide) (s_iconst (pc := 94) dX12_nameOf_94 c_ic_m1 (s_ir (pc := 95) rfl dX12_nameOf_95)) (s_iconst (pc := 90) dX12_nameOf_90 c_ic_2 (s_goto (pc := 91) dX12_nameOf_91 (by decide) (s_ir (pc := 95) rfl dX12_nameOf_95)))))) (s_iconst (pc := 80) dX12_nameOf_80 c_ic_1 (s_goto (pc := 81) dX12_nameOf_81 (by decide) (s_ir (pc := 95) rfl dX12_nameOf_95)))))) (s_iconst (pc := 70) dX12_nameOf_70 c_ic_0 (s_goto (pc := 71) dX12_nameOf_71 (by decide) (s_ir (pc := 95) rfl dX12_nameOf_95))))))⟩, trivial⟩⟩ (s_iloadn (pc := 96) dX12_nameOf_96 rfl (s_bipush (pc := 97) dX12_nameOf_97 c_bp_107 (s_cmpne (pc := 99) dX12_nameOf_99 (by decide) (s_iloadn (pc := 106) dX12_nameOf_106 rfl (s_bipush (pc := 107) dX12_nameOf_107 c_bp_115 (s_cmpne (pc := 109) dX12_nameOf_109 (by decide) (s_iloadn (pc := 116) dX12_nameOf_116 rfl (s_bipush (pc := 117) dX12_nameOf_117 c_bp_119 (s_cmpne (pc := 119) dX12_nameOf_119 (by decide) (s_iloadn (pc := 126) dX12_nameOf_126 rfl (s_bipush (pc := 127) dX12_nameOf_127 c_bp_104 (s_cmpne (pc := 129) dX12_nameOf_129 (by decide) (s_iconst (pc := 136) dX12_nameOf_136 c_ic_m1 (s_ir (pc := 137) rfl dX12_nameOf_137)) (s_iconst (pc := 132) dX12_nameOf_132 c_ic_3 (s_goto (pc := 133) dX12_nameOf_133 (by decide) (s_ir (pc := 137) rfl dX12_nameOf_137)))))) (s_iconst (pc := 122) dX12_nameOf_122 c_ic_2 (s_goto (pc := 123) dX12_nameOf_123 (by decide) (s_ir (pc := 137) rfl dX12_nameOf_137)))))) (s_iconst (pc := 112) dX12_nameOf_112 c_ic_1 (s_goto (pc := 113) dX12_nameOf_113 (by decide) (s_ir (pc := 137) rfl dX12_nameOf_137)))))) (s_iconst (pc := 102) dX12_nameOf_102 c_ic_0 (s_goto (pc := 103) dX12_nameOf_103 (by decide) (s_ir (pc := 137) rfl dX12_nameOf_137)))))))))
noncomputable def X12_nameOf_f0 (t : Nat) (x1 : Int32) (h : PH) : Option Rs :=
  if (hI h 717 t 0) = 0 then
    if x1 = 104 then
      some (some (.inl 0), h)
    else
      if x1 = 100 then
        some (some (.inl 1), h)
      else
        if x1 = 114 then
          some (some (.inl 2), h)
        else
          some (some (.inl (-1)), h)
  else
  if (hI h 717 t 0) = 1 then
    if x1 = 104 then
      some (some (.inl 0), h)
    else
      if x1 = 100 then
        some (some (.inl 1), h)
      else
        if x1 = 109 then
          some (some (.inl 2), h)
        else
          some (some (.inl (-1)), h)
  else
    if x1 = 107 then
      some (some (.inl 0), h)
    else
      if x1 = 115 then
        some (some (.inl 1), h)
      else
        if x1 = 119 then
          some (some (.inl 2), h)
        else
          if x1 = 104 then
            some (some (.inl 3), h)
          else
            some (some (.inl (-1)), h)
set_option maxRecDepth 100000 in
theorem X12_nameOf_l0 (t : Nat) (x1 : Int32) (h : PH) : X12_nameOf_b0 [some (.inr (11, t + 1)), some (.inl x1)] [] h = X12_nameOf_f0 t x1 h := rfl
noncomputable def X12_nameOf_g0 (t : Nat) (x1 : Int32) (h : PH) : Option Rs := X12_nameOf_f0 t x1 h
noncomputable def X12_nameOf (t : Nat) (x1 : Int32) (h : PH) : Option Rs := X12_nameOf_g0 t x1 h
noncomputable abbrev X12_nameOf_F : List PV → PH → Option Rs := FW_T11I (X12_nameOf)
set_option maxRecDepth 100000 in
theorem X12_nameOf_gd (l : Launch) : Gd l 0 yX12_nameOf cX12_nameOf 2 (some .int) (X12_nameOf_F)   := Gd_of (by decide +kernel) (fun z hzl as h r e => by
  obtain ⟨hst, e⟩ := gL_of e
  obtain ⟨t, q0, e⟩ := gT_of e
  obtain ⟨x1, q1, e⟩ := gI_of e
  rw [st_2 hst q0 q1]
  exact ⟨show 2 ≤ 2 by decide, X12_nameOf_s0 _ _ _ _ ((X12_nameOf_l0 t x1 h).trans e)⟩)
abbrev X12_rank_x (z : CZ) : CX := mx RX12 cX12_rank 1 0 (some .int) "rank" z
noncomputable def X12_rank_b0 : Kn := (a_il 0 (a_ic (-1) (a_eq (a_ic 1 a_ir) (a_il 0 (a_ic (-2) (a_eq (a_ic 2 a_ir) (a_il 0 (a_ic (-5) (a_lt (a_il 0 (a_ic (-7) (a_lt (a_il 0 (a_ic (-9) (a_lt (a_ic 6 a_ir) (a_ic 5 a_ir)))) (a_ic 4 a_ir)))) (a_ic 3 a_ir))))))))))
set_option maxRecDepth 100000 in
theorem X12_rank_s0 {z : CZ} : SK (X12_rank_x z) 0 (X12_rank_b0) := (s_iloadn (pc := 0) dX12_rank_0 rfl (s_iconst (pc := 1) dX12_rank_1 c_ic_m1 (s_cmpne (pc := 2) dX12_rank_2 (by decide) (s_iloadn (pc := 9) dX12_rank_9 rfl (s_bipush (pc := 10) dX12_rank_10 c_bp_m2 (s_cmpne (pc := 12) dX12_rank_12 (by decide) (s_iloadn (pc := 19) dX12_rank_19 rfl (s_bipush (pc := 20) dX12_rank_20 c_bp_m5 (s_cmplt (pc := 22) dX12_rank_22 (by decide) (s_iloadn (pc := 29) dX12_rank_29 rfl (s_bipush (pc := 30) dX12_rank_30 c_bp_m7 (s_cmplt (pc := 32) dX12_rank_32 (by decide) (s_iloadn (pc := 39) dX12_rank_39 rfl (s_bipush (pc := 40) dX12_rank_40 c_bp_m9 (s_cmplt (pc := 42) dX12_rank_42 (by decide) (s_bipush (pc := 49) dX12_rank_49 c_bp_6 (s_ir (pc := 51) rfl dX12_rank_51)) (s_iconst (pc := 45) dX12_rank_45 c_ic_5 (s_goto (pc := 46) dX12_rank_46 (by decide) (s_ir (pc := 51) rfl dX12_rank_51)))))) (s_iconst (pc := 35) dX12_rank_35 c_ic_4 (s_goto (pc := 36) dX12_rank_36 (by decide) (s_ir (pc := 51) rfl dX12_rank_51)))))) (s_iconst (pc := 25) dX12_rank_25 c_ic_3 (s_goto (pc := 26) dX12_rank_26 (by decide) (s_ir (pc := 51) rfl dX12_rank_51)))))) (s_iconst (pc := 15) dX12_rank_15 c_ic_2 (s_goto (pc := 16) dX12_rank_16 (by decide) (s_ir (pc := 51) rfl dX12_rank_51)))))) (s_iconst (pc := 5) dX12_rank_5 c_ic_1 (s_goto (pc := 6) dX12_rank_6 (by decide) (s_ir (pc := 51) rfl dX12_rank_51))))))
noncomputable def X12_rank_f0 (x0 : Int32) (h : PH) : Option Rs :=
  if x0 = (-1) then
    some (some (.inl 1), h)
  else
    if x0 = (-2) then
      some (some (.inl 2), h)
    else
      if x0 < (-5) then
        if x0 < (-7) then
          if x0 < (-9) then
            some (some (.inl 6), h)
          else
            some (some (.inl 5), h)
        else
          some (some (.inl 4), h)
      else
        some (some (.inl 3), h)
set_option maxRecDepth 100000 in
theorem X12_rank_l0 (x0 : Int32) (h : PH) : X12_rank_b0 [some (.inl x0)] [] h = X12_rank_f0 x0 h := rfl
noncomputable def X12_rank_g0 (x0 : Int32) (h : PH) : Option Rs := X12_rank_f0 x0 h
noncomputable def X12_rank (x0 : Int32) (h : PH) : Option Rs := X12_rank_g0 x0 h
noncomputable abbrev X12_rank_F : List PV → PH → Option Rs := FW_I (X12_rank)
set_option maxRecDepth 100000 in
theorem X12_rank_gd (l : Launch) : Gd l 0 yX12_rank cX12_rank 1 (some .int) (X12_rank_F)   := Gd_of (by decide +kernel) (fun z hzl as h r e => by
  obtain ⟨hst, e⟩ := gL_of e
  obtain ⟨x0, q0, e⟩ := gI_of e
  rw [st_1 hst q0]
  exact ⟨show 1 ≤ 1 by decide, X12_rank_s0 _ _ _ _ ((X12_rank_l0 x0 h).trans e)⟩)
abbrev X12_settle_x (z : CZ) : CX := mx RX12 cX12_settle 2 1 none "settle" z
noncomputable def X12_settle_b0 (c_X12_rank : Int32 → PH → Option Rs) (k0 : Kn) : Kn := (a_al 0 (a_gI 11 724 (a_p (a_al 0 (a_gR 11 723 49 (a_al 0 (a_gI 11 724 (a_ic 1 (a_b (fun a b => a - b) (a_ald 49 3136 (a_ic (-11) (a_eq a_vr (a_al 0 (a_gR 11 723 49 (a_al 0 (a_gI 11 724 (a_ic 1 (a_b (fun a b => a - b) (a_ald 49 3136 (a_sI 1 (FW_I c_X12_rank) (a_il 1 (a_lt a_vr (a_al 0 (a_dup (a_gI 11 724 (a_ic 1 (a_b (fun a b => a - b) (a_pI 11 724 (a_al 0 (a_gR 11 720 48 (a_al 0 (a_gI 11 721 (a_al 0 (a_gR 11 723 49 (a_al 0 (a_gI 11 724 (a_ald 49 3136 (a_ast 48 3072 (fun a => a) (a_al 0 (a_dup (a_gI 11 721 (a_ic 1 (a_b (fun a b => a + b) (a_pI 11 721 k0))))))))))))))))))))))))))))))))))))))))) a_vr)))
set_option maxRecDepth 100000 in
theorem X12_settle_s0 {z : CZ} {k0 : Kn} (hk0 : SK (X12_settle_x z) 0 k0) : SK (X12_settle_x z) 0 (X12_settle_b0 X12_rank k0) := (s_aloadn (pc := 0) dX12_settle_0 rfl (s_gI (pc := 1) (f := 20) ko_11 (by decide) rfl rfl w_1315 dX12_settle_1 (s_ifle (pc := 4) dX12_settle_4 (by decide) (s_vr (pc := 82) rfl dX12_settle_82) (s_aloadn (pc := 7) dX12_settle_7 rfl (s_gR (pc := 8) (f := 19) ko_11 (by decide) rfl rfl w_1314 dX12_settle_8 (s_aloadn (pc := 11) dX12_settle_11 rfl (s_gI (pc := 12) (f := 20) ko_11 (by decide) rfl rfl w_1315 dX12_settle_12 (s_iconst (pc := 15) dX12_settle_15 c_ic_1 (s_isub (pc := 16) dX12_settle_16 (s_iald (pc := 17) (by decide) (by decide) rfl rfl rfl dX12_settle_17 (s_bipush (pc := 18) dX12_settle_18 c_bp_m11 (s_cmpeq (pc := 20) dX12_settle_20 (by decide) (s_vr (pc := 82) rfl dX12_settle_82) (s_aloadn (pc := 23) dX12_settle_23 rfl (s_gR (pc := 24) (f := 19) ko_11 (by decide) rfl rfl w_1314 dX12_settle_24 (s_aloadn (pc := 27) dX12_settle_27 rfl (s_gI (pc := 28) (f := 20) ko_11 (by decide) rfl rfl w_1315 dX12_settle_28 (s_iconst (pc := 31) dX12_settle_31 c_ic_1 (s_isub (pc := 32) dX12_settle_32 (s_iald (pc := 33) (by decide) (by decide) rfl rfl rfl dX12_settle_33 (s_sI (pc := 34) (run_static (X12_rank_gd _) (show 0 < 1 by decide) cy_X12_rank w_1650 w_1649 dX12_settle_34) (s_iloadn (pc := 37) dX12_settle_37 rfl (s_cmplt (pc := 38) dX12_settle_38 (by decide) (s_vr (pc := 82) rfl dX12_settle_82) (s_aloadn (pc := 41) dX12_settle_41 rfl (s_dup (pc := 42) dX12_settle_42 (s_gI (pc := 43) (f := 20) ko_11 (by decide) rfl rfl w_1315 dX12_settle_43 (s_iconst (pc := 46) dX12_settle_46 c_ic_1 (s_isub (pc := 47) dX12_settle_47 (s_pI (pc := 48) (f := 20) ko_11 (by decide) rfl rfl rfl (by decide +kernel) w_1315 dX12_settle_48 (s_aloadn (pc := 51) dX12_settle_51 rfl (s_gR (pc := 52) (f := 16) ko_11 (by decide) rfl rfl w_1311 dX12_settle_52 (s_aloadn (pc := 55) dX12_settle_55 rfl (s_gI (pc := 56) (f := 17) ko_11 (by decide) rfl rfl w_1312 dX12_settle_56 (s_aloadn (pc := 59) dX12_settle_59 rfl (s_gR (pc := 60) (f := 19) ko_11 (by decide) rfl rfl w_1314 dX12_settle_60 (s_aloadn (pc := 63) dX12_settle_63 rfl (s_gI (pc := 64) (f := 20) ko_11 (by decide) rfl rfl w_1315 dX12_settle_64 (s_iald (pc := 67) (by decide) (by decide) rfl rfl rfl dX12_settle_67 (s_iast (pc := 68) (by decide) (by decide) rfl rfl rfl dX12_settle_68 (s_aloadn (pc := 69) dX12_settle_69 rfl (s_dup (pc := 70) dX12_settle_70 (s_gI (pc := 71) (f := 17) ko_11 (by decide) rfl rfl w_1312 dX12_settle_71 (s_iconst (pc := 74) dX12_settle_74 c_ic_1 (s_iadd (pc := 75) dX12_settle_75 (s_pI (pc := 76) (f := 17) ko_11 (by decide) rfl rfl rfl (by decide +kernel) w_1312 dX12_settle_76 (s_goto (pc := 79) dX12_settle_79 (by decide) hk0)))))))))))))))))))))))))))))))))))))))))))))
noncomputable def X12_settle_u0 (g : Nat → Int32 → PH → Option Rs) : Kn := fun ls st h => gL 0 st (gT 11 ls 0 fun t => gI ls 1 fun x1 => g t x1 h)
noncomputable def X12_settle_f0 (c_X12_rank : Int32 → PH → Option Rs) (g0 : Nat → Int32 → PH → Option Rs) (t : Nat) (x1 : Int32) (h : PH) : Option Rs :=
  if 0 < (hI h 724 t 0) then
    nn (hR h 723 t 0) fun r1 =>
    ix ((hI h 724 t 0) - 1) (hL h 49 r1) fun j2 =>
    if (hI h 3136 r1 j2) = (-11) then
      some (none, h)
    else
      nn (hR h 723 t 0) fun r3 =>
      ix ((hI h 724 t 0) - 1) (hL h 49 r3) fun j4 =>
      cI (c_X12_rank (hI h 3136 r3 j4) h) fun v6 h5 =>
      if v6 < x1 then
        some (none, h5)
      else
        wr (pI h5 724 t 0 ((hI h5 724 t 0) - 1)) fun h7 =>
        nn (hR h7 723 t 0) fun r8 =>
        ix (hI h7 724 t 0) (hL h7 49 r8) fun j9 =>
        nn (hR h7 720 t 0) fun r10 =>
        ix (hI h7 721 t 0) (hL h7 48 r10) fun j11 =>
        wr (pI h7 3072 r10 j11 (hI h7 3136 r8 j9)) fun h12 =>
        wr (pI h12 721 t 0 ((hI h12 721 t 0) + 1)) fun h13 =>
        g0 t x1 h13
  else
    some (none, h)
set_option maxRecDepth 100000 in
theorem X12_settle_l0 (c_X12_rank : Int32 → PH → Option Rs) (g0 : Nat → Int32 → PH → Option Rs) (t : Nat) (x1 : Int32) (h : PH) : X12_settle_b0 c_X12_rank (X12_settle_u0 g0) [some (.inr (11, t + 1)), some (.inl x1)] [] h = X12_settle_f0 c_X12_rank g0 t x1 h := rfl
theorem X12_settle_m0 {c_X12_rank : Int32 → PH → Option Rs} {g0 G0 : Nat → Int32 → PH → Option Rs} (hg0 : ∀ a0 a1 a2, Mo (g0 a0 a1 a2) (G0 a0 a1 a2)) (t : Nat) (x1 : Int32) (h : PH) : Mo (X12_settle_f0 c_X12_rank g0 t x1 h) (X12_settle_f0 c_X12_rank G0 t x1 h) := (mo_if (mo_nn fun r1 => (mo_ix fun j2 => (mo_if mo_rf (mo_nn fun r3 => (mo_ix fun j4 => (mo_cI fun v6 h5 => (mo_if mo_rf (mo_wr fun h7 => (mo_nn fun r8 => (mo_ix fun j9 => (mo_nn fun r10 => (mo_ix fun j11 => (mo_wr fun h12 => (mo_wr fun h13 => (hg0 t x1 h13))))))))))))))) mo_rf)
theorem X12_settle_w0 {z : CZ} {g0 : Nat → Int32 → PH → Option Rs} (hk0 : SK (X12_settle_x z) 0 (X12_settle_u0 g0)) : SK (X12_settle_x z) 0 (X12_settle_u0 (X12_settle_f0 X12_rank g0)) := by
  intro ls st h r e
  obtain ⟨hst, e⟩ := gL_of e
  obtain ⟨t, q0, e⟩ := gT_of e
  obtain ⟨x1, q1, e⟩ := gI_of e
  rw [st_0 hst]
  exact WK.sub (canon := [some (.inr (11, t + 1)), some (.inl x1)]) rfl ⟨q0, q1, trivial⟩ (X12_settle_s0 hk0 _ _ _ _ ((X12_settle_l0 X12_rank g0 t x1 h).trans e))
noncomputable def X12_settle_g0 (G : (Nat → Int32 → PH → Option Rs)) (t : Nat) (x1 : Int32) (h : PH) : Option Rs := X12_settle_f0 X12_rank (G) t x1 h
theorem X12_settle_v0 {z : CZ} {G : (Nat → Int32 → PH → Option Rs)} (hG0 : SK (X12_settle_x z) 0 (X12_settle_u0 (G))) : SK (X12_settle_x z) 0 (X12_settle_u0 (X12_settle_g0 G)) := X12_settle_w0 hG0
noncomputable def X12_settle_fam : Nat → (Nat → Int32 → PH → Option Rs)
  | 0 => fun _ _ _ => none
  | n + 1 => X12_settle_g0 (X12_settle_fam n)
theorem X12_settle_k {z : CZ} : ∀ n, SK (X12_settle_x z) 0 (X12_settle_u0 (X12_settle_fam n))
  | 0 => (fun ls st h r e => by
      obtain ⟨_, e⟩ := gL_of e
      obtain ⟨_, _, e⟩ := gT_of e
      obtain ⟨_, _, e⟩ := gI_of e
      cases e)
  | n + 1 => by
    obtain ih0 := X12_settle_k n
    exact X12_settle_v0 ih0
theorem X12_settle_n0 {G G' : (Nat → Int32 → PH → Option Rs)} (hg0 : ∀ a0 a1 a2, Mo ((G) a0 a1 a2) ((G') a0 a1 a2)) (t : Nat) (x1 : Int32) (h : PH) : Mo (X12_settle_g0 G t x1 h) (X12_settle_g0 G' t x1 h) := X12_settle_m0 hg0 t x1 h
theorem X12_settle_fm : ∀ n, (∀ a0 a1 a2, Mo ((X12_settle_fam n) a0 a1 a2) ((X12_settle_fam (n + 1)) a0 a1 a2))
  | 0 => fun _ _ _ => mo_no
  | n + 1 => by
    obtain ih0 := X12_settle_fm n
    exact fun a0 a1 a2 => X12_settle_n0 ih0 a0 a1 a2
noncomputable def X12_settle (t : Nat) (x1 : Int32) (h : PH) : Option Rs := lim (fun n => X12_settle_fam n t x1 h)
theorem X12_settle_iff {t : Nat} {x1 : Int32} {h : PH} {r : Rs} : X12_settle t x1 h = some r ↔ ∃ n, X12_settle_fam n t x1 h = some r := lim_iff (fun n => by
  obtain ih0 := X12_settle_fm n
  exact ih0 t x1 h)
noncomputable abbrev X12_settle_F : List PV → PH → Option Rs := FW_T11I (X12_settle)
set_option maxRecDepth 100000 in
theorem X12_settle_gd (l : Launch) : Gd l 1 yX12_settle cX12_settle 2 none (X12_settle_F)   := Gd_of (by decide +kernel) (fun z hzl as h r e => by
  obtain ⟨hst, e⟩ := gL_of e
  obtain ⟨t, q0, e⟩ := gT_of e
  obtain ⟨x1, q1, e⟩ := gI_of e
  rw [st_2 hst q0 q1]
  obtain ⟨n, e⟩ := lim_of e
  obtain hG0 := X12_settle_k (z := z) n
  exact ⟨show 2 ≤ 2 by decide, hG0 _ _ _ _ e⟩)
abbrev X12_takesPart_x (z : CZ) : CX := mx RX12 cX12_takesPart 2 2 (some .boolean) "takesPart" z
noncomputable def X12_takesPart_b0 (c_X12_nameOf : Nat → Int32 → PH → Option Rs) (k37 : Kn) : Kn := (a_al 0 (a_gI 11 714 (a_ic 1 (a_eq (a_al 0 (a_gI 11 712 (a_al 0 (a_gI 11 713 (a_b (fun a b => a - b) (a_ic 1 (a_eq (a_al 0 (a_al 0 (a_gI 11 715 (a_vI 11 1 (FW_T11I c_X12_nameOf) (a_n (a_ic 0 k37) (a_ic 1 k37)))))) (a_ic 0 k37)))))))) (a_ic 0 k37)))))
set_option maxRecDepth 100000 in
theorem X12_takesPart_s0 {z : CZ} {k37 : Kn} (hk37 : SK (X12_takesPart_x z) 37 k37) : SK (X12_takesPart_x z) 0 (X12_takesPart_b0 X12_nameOf k37) := (s_aloadn (pc := 0) dX12_takesPart_0 rfl (s_gI (pc := 1) (f := 10) ko_11 (by decide) rfl rfl w_1305 dX12_takesPart_1 (s_iconst (pc := 4) dX12_takesPart_4 c_ic_1 (s_cmpne (pc := 5) dX12_takesPart_5 (by decide) (s_iconst (pc := 36) dX12_takesPart_36 c_ic_0 hk37) (s_aloadn (pc := 8) dX12_takesPart_8 rfl (s_gI (pc := 9) (f := 8) ko_11 (by decide) rfl rfl w_1303 dX12_takesPart_9 (s_aloadn (pc := 12) dX12_takesPart_12 rfl (s_gI (pc := 13) (f := 9) ko_11 (by decide) rfl rfl w_1304 dX12_takesPart_13 (s_isub (pc := 16) dX12_takesPart_16 (s_iconst (pc := 17) dX12_takesPart_17 c_ic_1 (s_cmpne (pc := 18) dX12_takesPart_18 (by decide) (s_iconst (pc := 36) dX12_takesPart_36 c_ic_0 hk37) (s_aloadn (pc := 21) dX12_takesPart_21 rfl (s_aloadn (pc := 22) dX12_takesPart_22 rfl (s_gI (pc := 23) (f := 11) ko_11 (by decide) rfl rfl w_1306 dX12_takesPart_23 (s_vI (pc := 26) (run_virtual (X12_nameOf_gd _) (show 0 < 2 by decide) cy_X12_nameOf (by decide) rfl w_1643 w_s52 w_1641 dX12_takesPart_26) (s_iflt (pc := 29) dX12_takesPart_29 (by decide) (s_iconst (pc := 36) dX12_takesPart_36 c_ic_0 hk37) (s_iconst (pc := 32) dX12_takesPart_32 c_ic_1 (s_goto (pc := 33) dX12_takesPart_33 (by decide) hk37))))))))))))))))))
noncomputable def X12_takesPart_b37 (k52 : Kn) : Kn := (a_is 1 (a_al 0 (a_gI 11 714 (a_ic 2 (a_eq k52 (a_il 1 (a_z (a_ic 0 a_zr) k52)))))))
set_option maxRecDepth 100000 in
theorem X12_takesPart_s37 {z : CZ} {k52 : Kn} (hk52 : SK (X12_takesPart_x z) 52 k52) : SK (X12_takesPart_x z) 37 (X12_takesPart_b37 k52) := (s_istoren (pc := 37) dX12_takesPart_37 rfl (show 1 < 2 by decide) (s_aloadn (pc := 38) dX12_takesPart_38 rfl (s_gI (pc := 39) (f := 10) ko_11 (by decide) rfl rfl w_1305 dX12_takesPart_39 (s_iconst (pc := 42) dX12_takesPart_42 c_ic_2 (s_cmpeq (pc := 43) dX12_takesPart_43 (by decide) hk52 (s_iloadn (pc := 46) dX12_takesPart_46 rfl (s_ifne (pc := 47) dX12_takesPart_47 (by decide) hk52 (s_iconst (pc := 50) dX12_takesPart_50 c_ic_0 (s_zr (pc := 51) rfl dX12_takesPart_51)))))))))
noncomputable def X12_takesPart_b52 (c_X12_nameOf : Nat → Int32 → PH → Option Rs) (k87 : Kn) : Kn := (a_al 0 (a_gR 11 720 48 (a_al 0 (a_gI 11 721 (a_al 0 (a_gI 11 714 (a_ic 2 (a_eq (a_al 0 (a_gI 11 715 k87)) (a_ic 10000 (a_al 0 (a_al 0 (a_gI 11 715 (a_vI 11 1 (FW_T11I c_X12_nameOf) (a_b (fun a b => a + b) k87))))))))))))))
set_option maxRecDepth 100000 in
theorem X12_takesPart_s52 {z : CZ} {k87 : Kn} (hk87 : SK (X12_takesPart_x z) 87 k87) : SK (X12_takesPart_x z) 52 (X12_takesPart_b52 X12_nameOf k87) := (s_aloadn (pc := 52) dX12_takesPart_52 rfl (s_gR (pc := 53) (f := 16) ko_11 (by decide) rfl rfl w_1311 dX12_takesPart_53 (s_aloadn (pc := 56) dX12_takesPart_56 rfl (s_gI (pc := 57) (f := 17) ko_11 (by decide) rfl rfl w_1312 dX12_takesPart_57 (s_aloadn (pc := 60) dX12_takesPart_60 rfl (s_gI (pc := 61) (f := 10) ko_11 (by decide) rfl rfl w_1305 dX12_takesPart_61 (s_iconst (pc := 64) dX12_takesPart_64 c_ic_2 (s_cmpne (pc := 65) dX12_takesPart_65 (by decide) (s_sipush (pc := 75) dX12_takesPart_75 c_sp_10000 (s_aloadn (pc := 78) dX12_takesPart_78 rfl (s_aloadn (pc := 79) dX12_takesPart_79 rfl (s_gI (pc := 80) (f := 11) ko_11 (by decide) rfl rfl w_1306 dX12_takesPart_80 (s_vI (pc := 83) (run_virtual (X12_nameOf_gd _) (show 0 < 2 by decide) cy_X12_nameOf (by decide) rfl w_1643 w_s52 w_1641 dX12_takesPart_83) (s_iadd (pc := 86) dX12_takesPart_86 hk87)))))) (s_aloadn (pc := 68) dX12_takesPart_68 rfl (s_gI (pc := 69) (f := 11) ko_11 (by decide) rfl rfl w_1306 dX12_takesPart_69 (s_goto (pc := 72) dX12_takesPart_72 (by decide) hk87)))))))))))
noncomputable def X12_takesPart_b87 (c_X12_settle : Nat → Int32 → PH → Option Rs) (c_X12_go : Nat → PH → Option Rs) : Kn := (a_ast 48 3072 (fun a => a) (a_al 0 (a_dup (a_gI 11 721 (a_ic 1 (a_b (fun a b => a + b) (a_pI 11 721 (a_al 0 (a_dup (a_gI 11 722 (a_ic 1 (a_b (fun a b => a + b) (a_pI 11 722 (a_al 0 (a_ic 6 (a_vV 11 1 (FW_T11I c_X12_settle) (a_al 0 (a_vV 11 0 (FW_T11 c_X12_go) (a_ic 1 a_zr)))))))))))))))))))
set_option maxRecDepth 100000 in
theorem X12_takesPart_s87 {z : CZ} : SK (X12_takesPart_x z) 87 (X12_takesPart_b87 X12_settle X12_go) := (s_iast (pc := 87) (by decide) (by decide) rfl rfl rfl dX12_takesPart_87 (s_aloadn (pc := 88) dX12_takesPart_88 rfl (s_dup (pc := 89) dX12_takesPart_89 (s_gI (pc := 90) (f := 17) ko_11 (by decide) rfl rfl w_1312 dX12_takesPart_90 (s_iconst (pc := 93) dX12_takesPart_93 c_ic_1 (s_iadd (pc := 94) dX12_takesPart_94 (s_pI (pc := 95) (f := 17) ko_11 (by decide) rfl rfl rfl (by decide +kernel) w_1312 dX12_takesPart_95 (s_aloadn (pc := 98) dX12_takesPart_98 rfl (s_dup (pc := 99) dX12_takesPart_99 (s_gI (pc := 100) (f := 18) ko_11 (by decide) rfl rfl w_1313 dX12_takesPart_100 (s_iconst (pc := 103) dX12_takesPart_103 c_ic_1 (s_iadd (pc := 104) dX12_takesPart_104 (s_pI (pc := 105) (f := 18) ko_11 (by decide) rfl rfl rfl (by decide +kernel) w_1313 dX12_takesPart_105 (s_aloadn (pc := 108) dX12_takesPart_108 rfl (s_bipush (pc := 109) dX12_takesPart_109 c_bp_6 (s_vV (pc := 111) (run_virtual (X12_settle_gd _) (show 1 < 2 by decide) cy_X12_settle (by decide) rfl w_1647 w_s53 w_1645 dX12_takesPart_111) (s_aloadn (pc := 114) dX12_takesPart_114 rfl (s_vV (pc := 115) (run_virtual (X12_go_gd _) (show 1 < 2 by decide) cy_X12_go (by decide) rfl w_1619 w_s46 w_1617 dX12_takesPart_115) (s_iconst (pc := 118) dX12_takesPart_118 c_ic_1 (s_zr (pc := 119) rfl dX12_takesPart_119))))))))))))))))))))
noncomputable def X12_takesPart_u37 (g : Nat → Int32 → PH → Option Rs) : Kn := fun ls st h => gL 1 st (gT 11 ls 0 fun t => gI (st.map some) 0 fun s0 => g t s0 h)
noncomputable def X12_takesPart_u52 (g : Nat → PH → Option Rs) : Kn := fun ls st h => gL 0 st (gT 11 ls 0 fun t => g t h)
noncomputable def X12_takesPart_u87 (g : Nat → Int32 → Int32 → Nat → PH → Option Rs) : Kn := fun ls st h => gL 3 st (gT 11 ls 0 fun t => gI (st.map some) 0 fun s0 => gI (st.map some) 1 fun s1 => gR 48 (st.map some) 2 fun s2 => g t s0 s1 s2 h)
noncomputable def X12_takesPart_f0 (c_X12_nameOf : Nat → Int32 → PH → Option Rs) (g37 : Nat → Int32 → PH → Option Rs) (t : Nat) (h : PH) : Option Rs :=
  if (hI h 714 t 0) = 1 then
    if ((hI h 712 t 0) - (hI h 713 t 0)) = 1 then
      cI (c_X12_nameOf t (hI h 715 t 0) h) fun v2 h1 =>
      if v2 < 0 then
        g37 t 0 h1
      else
        g37 t 1 h1
    else
      g37 t 0 h
  else
    g37 t 0 h
set_option maxRecDepth 100000 in
theorem X12_takesPart_l0 (c_X12_nameOf : Nat → Int32 → PH → Option Rs) (g37 : Nat → Int32 → PH → Option Rs) (t : Nat) (h : PH) : X12_takesPart_b0 c_X12_nameOf (X12_takesPart_u37 g37) [some (.inr (11, t + 1)), none] [] h = X12_takesPart_f0 c_X12_nameOf g37 t h := rfl
theorem X12_takesPart_m0 {c_X12_nameOf : Nat → Int32 → PH → Option Rs} {g37 G37 : Nat → Int32 → PH → Option Rs} (hg37 : ∀ a0 a1 a2, Mo (g37 a0 a1 a2) (G37 a0 a1 a2)) (t : Nat) (h : PH) : Mo (X12_takesPart_f0 c_X12_nameOf g37 t h) (X12_takesPart_f0 c_X12_nameOf G37 t h) := (mo_if (mo_if (mo_cI fun v2 h1 => (mo_if (hg37 t 0 h1) (hg37 t 1 h1))) (hg37 t 0 h)) (hg37 t 0 h))
noncomputable def X12_takesPart_f37 (g52 : Nat → PH → Option Rs) (t : Nat) (s0 : Int32) (h : PH) : Option Rs :=
  if (hI h 714 t 0) = 2 then
    g52 t h
  else
    if s0 = 0 then
      bz 0 <|
      some (some (.inl 0), h)
    else
      g52 t h
set_option maxRecDepth 100000 in
theorem X12_takesPart_l37 (g52 : Nat → PH → Option Rs) (t : Nat) (s0 : Int32) (h : PH) : X12_takesPart_b37 (X12_takesPart_u52 g52) [some (.inr (11, t + 1)), none] [.inl s0] h = X12_takesPart_f37 g52 t s0 h := rfl
theorem X12_takesPart_m37 {g52 G52 : Nat → PH → Option Rs} (hg52 : ∀ a0 a1, Mo (g52 a0 a1) (G52 a0 a1)) (t : Nat) (s0 : Int32) (h : PH) : Mo (X12_takesPart_f37 g52 t s0 h) (X12_takesPart_f37 G52 t s0 h) := (mo_if (hg52 t h) (mo_if (mo_bz mo_rf) (hg52 t h)))
theorem X12_takesPart_w37 {z : CZ} {g52 : Nat → PH → Option Rs} (hk52 : SK (X12_takesPart_x z) 52 (X12_takesPart_u52 g52)) : SK (X12_takesPart_x z) 37 (X12_takesPart_u37 (X12_takesPart_f37 g52)) := by
  intro ls st h r e
  obtain ⟨hst, e⟩ := gL_of e
  obtain ⟨t, q0, e⟩ := gT_of e
  obtain ⟨s0, q1, e⟩ := gI_of e
  rw [st_1 hst q1]
  exact WK.sub (canon := [some (.inr (11, t + 1)), none]) rfl ⟨q0, trivial⟩ (X12_takesPart_s37 hk52 _ _ _ _ ((X12_takesPart_l37 g52 t s0 h).trans e))
noncomputable def X12_takesPart_f52 (c_X12_nameOf : Nat → Int32 → PH → Option Rs) (g87 : Nat → Int32 → Int32 → Nat → PH → Option Rs) (t : Nat) (h : PH) : Option Rs :=
  if (hI h 714 t 0) = 2 then
    g87 t (hI h 715 t 0) (hI h 721 t 0) (hR h 720 t 0) h
  else
    cI (c_X12_nameOf t (hI h 715 t 0) h) fun v4 h3 =>
    g87 t (10000 + v4) (hI h 721 t 0) (hR h 720 t 0) h3
set_option maxRecDepth 100000 in
theorem X12_takesPart_l52 (c_X12_nameOf : Nat → Int32 → PH → Option Rs) (g87 : Nat → Int32 → Int32 → Nat → PH → Option Rs) (t : Nat) (h : PH) : X12_takesPart_b52 c_X12_nameOf (X12_takesPart_u87 g87) [some (.inr (11, t + 1)), none] [] h = X12_takesPart_f52 c_X12_nameOf g87 t h := rfl
theorem X12_takesPart_m52 {c_X12_nameOf : Nat → Int32 → PH → Option Rs} {g87 G87 : Nat → Int32 → Int32 → Nat → PH → Option Rs} (hg87 : ∀ a0 a1 a2 a3 a4, Mo (g87 a0 a1 a2 a3 a4) (G87 a0 a1 a2 a3 a4)) (t : Nat) (h : PH) : Mo (X12_takesPart_f52 c_X12_nameOf g87 t h) (X12_takesPart_f52 c_X12_nameOf G87 t h) := (mo_if (hg87 t (hI h 715 t 0) (hI h 721 t 0) (hR h 720 t 0) h) (mo_cI fun v4 h3 => (hg87 t (10000 + v4) (hI h 721 t 0) (hR h 720 t 0) h3)))
theorem X12_takesPart_w52 {z : CZ} {g87 : Nat → Int32 → Int32 → Nat → PH → Option Rs} (hk87 : SK (X12_takesPart_x z) 87 (X12_takesPart_u87 g87)) : SK (X12_takesPart_x z) 52 (X12_takesPart_u52 (X12_takesPart_f52 X12_nameOf g87)) := by
  intro ls st h r e
  obtain ⟨hst, e⟩ := gL_of e
  obtain ⟨t, q0, e⟩ := gT_of e
  rw [st_0 hst]
  exact WK.sub (canon := [some (.inr (11, t + 1)), none]) rfl ⟨q0, trivial⟩ (X12_takesPart_s52 hk87 _ _ _ _ ((X12_takesPart_l52 X12_nameOf g87 t h).trans e))
noncomputable def X12_takesPart_f87 (c_X12_settle : Nat → Int32 → PH → Option Rs) (c_X12_go : Nat → PH → Option Rs) (t : Nat) (s0 : Int32) (s1 : Int32) (s2 : Nat) (h : PH) : Option Rs :=
  nn s2 fun r5 =>
  ix s1 (hL h 48 r5) fun j6 =>
  wr (pI h 3072 r5 j6 s0) fun h7 =>
  wr (pI h7 721 t 0 ((hI h7 721 t 0) + 1)) fun h8 =>
  wr (pI h8 722 t 0 ((hI h8 722 t 0) + 1)) fun h9 =>
  cV (c_X12_settle t 6 h9) fun h10 =>
  cV (c_X12_go t h10) fun h11 =>
  bz 1 <|
  some (some (.inl 1), h11)
set_option maxRecDepth 100000 in
theorem X12_takesPart_l87 (c_X12_settle : Nat → Int32 → PH → Option Rs) (c_X12_go : Nat → PH → Option Rs) (t : Nat) (s0 : Int32) (s1 : Int32) (s2 : Nat) (h : PH) : X12_takesPart_b87 c_X12_settle c_X12_go [some (.inr (11, t + 1)), none] [.inl s0, .inl s1, .inr (48, s2)] h = X12_takesPart_f87 c_X12_settle c_X12_go t s0 s1 s2 h := rfl
theorem X12_takesPart_w87 {z : CZ} : SK (X12_takesPart_x z) 87 (X12_takesPart_u87 (X12_takesPart_f87 X12_settle X12_go)) := by
  intro ls st h r e
  obtain ⟨hst, e⟩ := gL_of e
  obtain ⟨t, q0, e⟩ := gT_of e
  obtain ⟨s0, q1, e⟩ := gI_of e
  obtain ⟨s1, q2, e⟩ := gI_of e
  obtain ⟨s2, q3, e⟩ := gR_of e
  rw [st_3 hst q1 q2 q3]
  exact WK.sub (canon := [some (.inr (11, t + 1)), none]) rfl ⟨q0, trivial⟩ (X12_takesPart_s87 _ _ _ _ ((X12_takesPart_l87 X12_settle X12_go t s0 s1 s2 h).trans e))
noncomputable def X12_takesPart_g87 (t : Nat) (s0 : Int32) (s1 : Int32) (s2 : Nat) (h : PH) : Option Rs := X12_takesPart_f87 X12_settle X12_go t s0 s1 s2 h
noncomputable def X12_takesPart_g52 (t : Nat) (h : PH) : Option Rs := X12_takesPart_f52 X12_nameOf (X12_takesPart_g87) t h
noncomputable def X12_takesPart_g37 (t : Nat) (s0 : Int32) (h : PH) : Option Rs := X12_takesPart_f37 (X12_takesPart_g52) t s0 h
noncomputable def X12_takesPart_g0 (t : Nat) (h : PH) : Option Rs := X12_takesPart_f0 X12_nameOf (X12_takesPart_g37) t h
theorem X12_takesPart_v87 {z : CZ} : SK (X12_takesPart_x z) 87 (X12_takesPart_u87 (X12_takesPart_g87)) := X12_takesPart_w87
theorem X12_takesPart_v52 {z : CZ} : SK (X12_takesPart_x z) 52 (X12_takesPart_u52 (X12_takesPart_g52)) := X12_takesPart_w52 (X12_takesPart_v87)
theorem X12_takesPart_v37 {z : CZ} : SK (X12_takesPart_x z) 37 (X12_takesPart_u37 (X12_takesPart_g37)) := X12_takesPart_w37 (X12_takesPart_v52)
noncomputable def X12_takesPart (t : Nat) (h : PH) : Option Rs := X12_takesPart_g0 t h
noncomputable abbrev X12_takesPart_F : List PV → PH → Option Rs := FW_T11 (X12_takesPart)
set_option maxRecDepth 100000 in
theorem X12_takesPart_gd (l : Launch) : Gd l 2 yX12_takesPart cX12_takesPart 2 (some .boolean) (X12_takesPart_F)   := Gd_of (by decide +kernel) (fun z hzl as h r e => by
  obtain ⟨hst, e⟩ := gL_of e
  obtain ⟨t, q0, e⟩ := gT_of e
  rw [st_1 hst q0]
  exact ⟨show 1 ≤ 2 by decide, X12_takesPart_s0 (X12_takesPart_v37) _ _ _ _ ((X12_takesPart_l0 X12_nameOf (X12_takesPart_g37) t h).trans e)⟩)
abbrev X12_notsOpen_x (z : CZ) : CX := mx RX12 cX12_notsOpen 3 0 (some .int) "notsOpen" z
noncomputable def X12_notsOpen_b0 (k4 : Kn) : Kn := (a_ic 0 (a_is 1 (a_ic 0 (a_is 2 k4))))
set_option maxRecDepth 100000 in
theorem X12_notsOpen_s0 {z : CZ} {k4 : Kn} (hk4 : SK (X12_notsOpen_x z) 4 k4) : SK (X12_notsOpen_x z) 0 (X12_notsOpen_b0 k4) := (s_iconst (pc := 0) dX12_notsOpen_0 c_ic_0 (s_istoren (pc := 1) dX12_notsOpen_1 rfl (show 1 < 3 by decide) (s_iconst (pc := 2) dX12_notsOpen_2 c_ic_0 (s_istoren (pc := 3) dX12_notsOpen_3 rfl (show 2 < 3 by decide) hk4))))
noncomputable def X12_notsOpen_b4 (k29 : Kn) : Kn := (a_il 2 (a_al 0 (a_gI 11 724 (a_lt (a_il 1 (a_al 0 (a_gR 11 723 49 (a_il 2 (a_ald 49 3136 (a_ic (-10) (a_eq (a_ic 1 k29) (a_ic 0 k29)))))))) (a_il 1 a_ir)))))
set_option maxRecDepth 100000 in
theorem X12_notsOpen_s4 {z : CZ} {k29 : Kn} (hk29 : SK (X12_notsOpen_x z) 29 k29) : SK (X12_notsOpen_x z) 4 (X12_notsOpen_b4 k29) := (s_iloadn (pc := 4) dX12_notsOpen_4 rfl (s_aloadn (pc := 5) dX12_notsOpen_5 rfl (s_gI (pc := 6) (f := 20) ko_11 (by decide) rfl rfl w_1315 dX12_notsOpen_6 (s_cmpge (pc := 9) dX12_notsOpen_9 (by decide) (s_iloadn (pc := 37) dX12_notsOpen_37 rfl (s_ir (pc := 38) rfl dX12_notsOpen_38)) (s_iloadn (pc := 12) dX12_notsOpen_12 rfl (s_aloadn (pc := 13) dX12_notsOpen_13 rfl (s_gR (pc := 14) (f := 19) ko_11 (by decide) rfl rfl w_1314 dX12_notsOpen_14 (s_iloadn (pc := 17) dX12_notsOpen_17 rfl (s_iald (pc := 18) (by decide) (by decide) rfl rfl rfl dX12_notsOpen_18 (s_bipush (pc := 19) dX12_notsOpen_19 c_bp_m10 (s_cmpne (pc := 21) dX12_notsOpen_21 (by decide) (s_iconst (pc := 28) dX12_notsOpen_28 c_ic_0 hk29) (s_iconst (pc := 24) dX12_notsOpen_24 c_ic_1 (s_goto (pc := 25) dX12_notsOpen_25 (by decide) hk29)))))))))))))
noncomputable def X12_notsOpen_b29 (k4 : Kn) : Kn := (a_b (fun a b => a + b) (a_is 1 (a_inc 2 1 k4)))
set_option maxRecDepth 100000 in
theorem X12_notsOpen_s29 {z : CZ} {k4 : Kn} (hk4 : SK (X12_notsOpen_x z) 4 k4) : SK (X12_notsOpen_x z) 29 (X12_notsOpen_b29 k4) := (s_iadd (pc := 29) dX12_notsOpen_29 (s_istoren (pc := 30) dX12_notsOpen_30 rfl (show 1 < 3 by decide) (s_iinc (pc := 31) dX12_notsOpen_31 c_ic_1 (show 2 < 3 by decide) (s_goto (pc := 34) dX12_notsOpen_34 (by decide) hk4))))
noncomputable def X12_notsOpen_u4 (g : Nat → Int32 → Int32 → PH → Option Rs) : Kn := fun ls st h => gL 0 st (gT 11 ls 0 fun t => gI ls 1 fun x1 => gI ls 2 fun x2 => g t x1 x2 h)
noncomputable def X12_notsOpen_u29 (g : Nat → Int32 → Int32 → Int32 → PH → Option Rs) : Kn := fun ls st h => gL 2 st (gT 11 ls 0 fun t => gI ls 2 fun x2 => gI (st.map some) 0 fun s0 => gI (st.map some) 1 fun s1 => g t x2 s0 s1 h)
noncomputable def X12_notsOpen_f0 (g4 : Nat → Int32 → Int32 → PH → Option Rs) (t : Nat) (h : PH) : Option Rs :=
  g4 t 0 0 h
set_option maxRecDepth 100000 in
theorem X12_notsOpen_l0 (g4 : Nat → Int32 → Int32 → PH → Option Rs) (t : Nat) (h : PH) : X12_notsOpen_b0 (X12_notsOpen_u4 g4) [some (.inr (11, t + 1)), none, none] [] h = X12_notsOpen_f0 g4 t h := rfl
theorem X12_notsOpen_m0 {g4 G4 : Nat → Int32 → Int32 → PH → Option Rs} (hg4 : ∀ a0 a1 a2 a3, Mo (g4 a0 a1 a2 a3) (G4 a0 a1 a2 a3)) (t : Nat) (h : PH) : Mo (X12_notsOpen_f0 g4 t h) (X12_notsOpen_f0 G4 t h) := (hg4 t 0 0 h)
noncomputable def X12_notsOpen_f4 (g29 : Nat → Int32 → Int32 → Int32 → PH → Option Rs) (t : Nat) (x1 : Int32) (x2 : Int32) (h : PH) : Option Rs :=
  if x2 < (hI h 724 t 0) then
    nn (hR h 723 t 0) fun r1 =>
    ix x2 (hL h 49 r1) fun j2 =>
    if (hI h 3136 r1 j2) = (-10) then
      g29 t x2 1 x1 h
    else
      g29 t x2 0 x1 h
  else
    some (some (.inl x1), h)
set_option maxRecDepth 100000 in
theorem X12_notsOpen_l4 (g29 : Nat → Int32 → Int32 → Int32 → PH → Option Rs) (t : Nat) (x1 : Int32) (x2 : Int32) (h : PH) : X12_notsOpen_b4 (X12_notsOpen_u29 g29) [some (.inr (11, t + 1)), some (.inl x1), some (.inl x2)] [] h = X12_notsOpen_f4 g29 t x1 x2 h := rfl
theorem X12_notsOpen_m4 {g29 G29 : Nat → Int32 → Int32 → Int32 → PH → Option Rs} (hg29 : ∀ a0 a1 a2 a3 a4, Mo (g29 a0 a1 a2 a3 a4) (G29 a0 a1 a2 a3 a4)) (t : Nat) (x1 : Int32) (x2 : Int32) (h : PH) : Mo (X12_notsOpen_f4 g29 t x1 x2 h) (X12_notsOpen_f4 G29 t x1 x2 h) := (mo_if (mo_nn fun r1 => (mo_ix fun j2 => (mo_if (hg29 t x2 1 x1 h) (hg29 t x2 0 x1 h)))) mo_rf)
theorem X12_notsOpen_w4 {z : CZ} {g29 : Nat → Int32 → Int32 → Int32 → PH → Option Rs} (hk29 : SK (X12_notsOpen_x z) 29 (X12_notsOpen_u29 g29)) : SK (X12_notsOpen_x z) 4 (X12_notsOpen_u4 (X12_notsOpen_f4 g29)) := by
  intro ls st h r e
  obtain ⟨hst, e⟩ := gL_of e
  obtain ⟨t, q0, e⟩ := gT_of e
  obtain ⟨x1, q1, e⟩ := gI_of e
  obtain ⟨x2, q2, e⟩ := gI_of e
  rw [st_0 hst]
  exact WK.sub (canon := [some (.inr (11, t + 1)), some (.inl x1), some (.inl x2)]) rfl ⟨q0, q1, q2, trivial⟩ (X12_notsOpen_s4 hk29 _ _ _ _ ((X12_notsOpen_l4 g29 t x1 x2 h).trans e))
noncomputable def X12_notsOpen_f29 (g4 : Nat → Int32 → Int32 → PH → Option Rs) (t : Nat) (x2 : Int32) (s0 : Int32) (s1 : Int32) (h : PH) : Option Rs :=
  g4 t (s1 + s0) (x2 + 1) h
set_option maxRecDepth 100000 in
theorem X12_notsOpen_l29 (g4 : Nat → Int32 → Int32 → PH → Option Rs) (t : Nat) (x2 : Int32) (s0 : Int32) (s1 : Int32) (h : PH) : X12_notsOpen_b29 (X12_notsOpen_u4 g4) [some (.inr (11, t + 1)), none, some (.inl x2)] [.inl s0, .inl s1] h = X12_notsOpen_f29 g4 t x2 s0 s1 h := rfl
theorem X12_notsOpen_m29 {g4 G4 : Nat → Int32 → Int32 → PH → Option Rs} (hg4 : ∀ a0 a1 a2 a3, Mo (g4 a0 a1 a2 a3) (G4 a0 a1 a2 a3)) (t : Nat) (x2 : Int32) (s0 : Int32) (s1 : Int32) (h : PH) : Mo (X12_notsOpen_f29 g4 t x2 s0 s1 h) (X12_notsOpen_f29 G4 t x2 s0 s1 h) := (hg4 t (s1 + s0) (x2 + 1) h)
theorem X12_notsOpen_w29 {z : CZ} {g4 : Nat → Int32 → Int32 → PH → Option Rs} (hk4 : SK (X12_notsOpen_x z) 4 (X12_notsOpen_u4 g4)) : SK (X12_notsOpen_x z) 29 (X12_notsOpen_u29 (X12_notsOpen_f29 g4)) := by
  intro ls st h r e
  obtain ⟨hst, e⟩ := gL_of e
  obtain ⟨t, q0, e⟩ := gT_of e
  obtain ⟨x2, q1, e⟩ := gI_of e
  obtain ⟨s0, q2, e⟩ := gI_of e
  obtain ⟨s1, q3, e⟩ := gI_of e
  rw [st_2 hst q2 q3]
  exact WK.sub (canon := [some (.inr (11, t + 1)), none, some (.inl x2)]) rfl ⟨q0, q1, trivial⟩ (X12_notsOpen_s29 hk4 _ _ _ _ ((X12_notsOpen_l29 g4 t x2 s0 s1 h).trans e))
noncomputable def X12_notsOpen_g0 (G : (Nat → Int32 → Int32 → PH → Option Rs)) (t : Nat) (h : PH) : Option Rs := X12_notsOpen_f0 (G) t h
noncomputable def X12_notsOpen_g29 (G : (Nat → Int32 → Int32 → PH → Option Rs)) (t : Nat) (x2 : Int32) (s0 : Int32) (s1 : Int32) (h : PH) : Option Rs := X12_notsOpen_f29 (G) t x2 s0 s1 h
noncomputable def X12_notsOpen_g4 (G : (Nat → Int32 → Int32 → PH → Option Rs)) (t : Nat) (x1 : Int32) (x2 : Int32) (h : PH) : Option Rs := X12_notsOpen_f4 (X12_notsOpen_g29 G) t x1 x2 h
theorem X12_notsOpen_v29 {z : CZ} {G : (Nat → Int32 → Int32 → PH → Option Rs)} (hG4 : SK (X12_notsOpen_x z) 4 (X12_notsOpen_u4 (G))) : SK (X12_notsOpen_x z) 29 (X12_notsOpen_u29 (X12_notsOpen_g29 G)) := X12_notsOpen_w29 hG4
theorem X12_notsOpen_v4 {z : CZ} {G : (Nat → Int32 → Int32 → PH → Option Rs)} (hG4 : SK (X12_notsOpen_x z) 4 (X12_notsOpen_u4 (G))) : SK (X12_notsOpen_x z) 4 (X12_notsOpen_u4 (X12_notsOpen_g4 G)) := X12_notsOpen_w4 (X12_notsOpen_v29 hG4)
noncomputable def X12_notsOpen_fam : Nat → (Nat → Int32 → Int32 → PH → Option Rs)
  | 0 => fun _ _ _ _ => none
  | n + 1 => X12_notsOpen_g4 (X12_notsOpen_fam n)
theorem X12_notsOpen_k {z : CZ} : ∀ n, SK (X12_notsOpen_x z) 4 (X12_notsOpen_u4 (X12_notsOpen_fam n))
  | 0 => (fun ls st h r e => by
      obtain ⟨_, e⟩ := gL_of e
      obtain ⟨_, _, e⟩ := gT_of e
      obtain ⟨_, _, e⟩ := gI_of e
      obtain ⟨_, _, e⟩ := gI_of e
      cases e)
  | n + 1 => by
    obtain ih4 := X12_notsOpen_k n
    exact X12_notsOpen_v4 ih4
theorem X12_notsOpen_n0 {G G' : (Nat → Int32 → Int32 → PH → Option Rs)} (hg4 : ∀ a0 a1 a2 a3, Mo ((G) a0 a1 a2 a3) ((G') a0 a1 a2 a3)) (t : Nat) (h : PH) : Mo (X12_notsOpen_g0 G t h) (X12_notsOpen_g0 G' t h) := X12_notsOpen_m0 hg4 t h
theorem X12_notsOpen_n29 {G G' : (Nat → Int32 → Int32 → PH → Option Rs)} (hg4 : ∀ a0 a1 a2 a3, Mo ((G) a0 a1 a2 a3) ((G') a0 a1 a2 a3)) (t : Nat) (x2 : Int32) (s0 : Int32) (s1 : Int32) (h : PH) : Mo (X12_notsOpen_g29 G t x2 s0 s1 h) (X12_notsOpen_g29 G' t x2 s0 s1 h) := X12_notsOpen_m29 hg4 t x2 s0 s1 h
theorem X12_notsOpen_n4 {G G' : (Nat → Int32 → Int32 → PH → Option Rs)} (hg4 : ∀ a0 a1 a2 a3, Mo ((G) a0 a1 a2 a3) ((G') a0 a1 a2 a3)) (t : Nat) (x1 : Int32) (x2 : Int32) (h : PH) : Mo (X12_notsOpen_g4 G t x1 x2 h) (X12_notsOpen_g4 G' t x1 x2 h) := X12_notsOpen_m4 (fun a0 a1 a2 a3 a4 => X12_notsOpen_n29 hg4 a0 a1 a2 a3 a4) t x1 x2 h
theorem X12_notsOpen_fm : ∀ n, (∀ a0 a1 a2 a3, Mo ((X12_notsOpen_fam n) a0 a1 a2 a3) ((X12_notsOpen_fam (n + 1)) a0 a1 a2 a3))
  | 0 => fun _ _ _ _ => mo_no
  | n + 1 => by
    obtain ih4 := X12_notsOpen_fm n
    exact fun a0 a1 a2 a3 => X12_notsOpen_n4 ih4 a0 a1 a2 a3
noncomputable def X12_notsOpen (t : Nat) (h : PH) : Option Rs := lim (fun n => X12_notsOpen_g0 (X12_notsOpen_fam n) t h)
theorem X12_notsOpen_iff {t : Nat} {h : PH} {r : Rs} : X12_notsOpen t h = some r ↔ ∃ n, X12_notsOpen_g0 (X12_notsOpen_fam n) t h = some r := lim_iff (fun n => by
  obtain ih4 := X12_notsOpen_fm n
  exact X12_notsOpen_n0 ih4 t h)
noncomputable abbrev X12_notsOpen_F : List PV → PH → Option Rs := FW_T11 (X12_notsOpen)
set_option maxRecDepth 100000 in
theorem X12_notsOpen_gd (l : Launch) : Gd l 0 yX12_notsOpen cX12_notsOpen 3 (some .int) (X12_notsOpen_F)   := Gd_of (by decide +kernel) (fun z hzl as h r e => by
  obtain ⟨hst, e⟩ := gL_of e
  obtain ⟨t, q0, e⟩ := gT_of e
  rw [st_1 hst q0]
  obtain ⟨n, e⟩ := lim_of e
  obtain hG4 := X12_notsOpen_k (z := z) n
  exact ⟨show 1 ≤ 3 by decide, X12_notsOpen_s0 hG4 _ _ _ _ ((X12_notsOpen_l0 (X12_notsOpen_fam n) t h).trans e)⟩)
abbrev X12_signHere_x (z : CZ) : CX := mx RX12 cX12_signHere 1 0 (some .int) "signHere" z
noncomputable def X12_signHere_b0 : Kn := (a_al 0 (a_gI 11 714 (a_ic 3 (a_eq (a_al 0 (a_gI 11 715 (a_sw [(38, (a_ic (-2) a_ir)), (42, (a_ic (-8) a_ir)), (43, (a_ic (-6) a_ir)), (45, (a_ic (-7) a_ir)), (47, (a_ic (-9) a_ir)), (60, (a_ic (-3) a_ir)), (61, (a_ic (-4) a_ir)), (62, (a_ic (-5) a_ir)), (124, (a_ic (-1) a_ir))] (a_ic 0 a_ir)))) (a_ic 0 a_ir)))))
set_option maxRecDepth 100000 in
theorem X12_signHere_s0 {z : CZ} : SK (X12_signHere_x z) 0 (X12_signHere_b0) := (s_aloadn (pc := 0) dX12_signHere_0 rfl (s_gI (pc := 1) (f := 10) ko_11 (by decide) rfl rfl w_1305 dX12_signHere_1 (s_iconst (pc := 4) dX12_signHere_4 c_ic_3 (s_cmpeq (pc := 5) dX12_signHere_5 (by decide) (s_aloadn (pc := 10) dX12_signHere_10 rfl (s_gI (pc := 11) (f := 11) ko_11 (by decide) rfl rfl w_1306 dX12_signHere_11 (s_lookup (pc := 14) dX12_signHere_14 (by decide) (by decide) ⟨c_ti_38, ⟨_, by decide, (s_bipush (pc := 98) dX12_signHere_98 c_bp_m2 (s_ir (pc := 100) rfl dX12_signHere_100))⟩, ⟨c_ti_42, ⟨_, by decide, (s_bipush (pc := 116) dX12_signHere_116 c_bp_m8 (s_ir (pc := 118) rfl dX12_signHere_118))⟩, ⟨c_ti_43, ⟨_, by decide, (s_bipush (pc := 110) dX12_signHere_110 c_bp_m6 (s_ir (pc := 112) rfl dX12_signHere_112))⟩, ⟨c_ti_45, ⟨_, by decide, (s_bipush (pc := 113) dX12_signHere_113 c_bp_m7 (s_ir (pc := 115) rfl dX12_signHere_115))⟩, ⟨c_ti_47, ⟨_, by decide, (s_bipush (pc := 119) dX12_signHere_119 c_bp_m9 (s_ir (pc := 121) rfl dX12_signHere_121))⟩, ⟨c_ti_60, ⟨_, by decide, (s_bipush (pc := 101) dX12_signHere_101 c_bp_m3 (s_ir (pc := 103) rfl dX12_signHere_103))⟩, ⟨c_ti_61, ⟨_, by decide, (s_bipush (pc := 104) dX12_signHere_104 c_bp_m4 (s_ir (pc := 106) rfl dX12_signHere_106))⟩, ⟨c_ti_62, ⟨_, by decide, (s_bipush (pc := 107) dX12_signHere_107 c_bp_m5 (s_ir (pc := 109) rfl dX12_signHere_109))⟩, ⟨c_ti_124, ⟨_, by decide, (s_iconst (pc := 96) dX12_signHere_96 c_ic_m1 (s_ir (pc := 97) rfl dX12_signHere_97))⟩, trivial⟩⟩⟩⟩⟩⟩⟩⟩⟩ (s_iconst (pc := 122) dX12_signHere_122 c_ic_0 (s_ir (pc := 123) rfl dX12_signHere_123))))) (s_iconst (pc := 8) dX12_signHere_8 c_ic_0 (s_ir (pc := 9) rfl dX12_signHere_9))))))
noncomputable def X12_signHere_f0 (t : Nat) (h : PH) : Option Rs :=
  if (hI h 714 t 0) = 3 then
    if (hI h 715 t 0) = 38 then
      some (some (.inl (-2)), h)
    else
    if (hI h 715 t 0) = 42 then
      some (some (.inl (-8)), h)
    else
    if (hI h 715 t 0) = 43 then
      some (some (.inl (-6)), h)
    else
    if (hI h 715 t 0) = 45 then
      some (some (.inl (-7)), h)
    else
    if (hI h 715 t 0) = 47 then
      some (some (.inl (-9)), h)
    else
    if (hI h 715 t 0) = 60 then
      some (some (.inl (-3)), h)
    else
    if (hI h 715 t 0) = 61 then
      some (some (.inl (-4)), h)
    else
    if (hI h 715 t 0) = 62 then
      some (some (.inl (-5)), h)
    else
    if (hI h 715 t 0) = 124 then
      some (some (.inl (-1)), h)
    else
      some (some (.inl 0), h)
  else
    some (some (.inl 0), h)
set_option maxRecDepth 100000 in
theorem X12_signHere_l0 (t : Nat) (h : PH) : X12_signHere_b0 [some (.inr (11, t + 1))] [] h = X12_signHere_f0 t h := rfl
noncomputable def X12_signHere_g0 (t : Nat) (h : PH) : Option Rs := X12_signHere_f0 t h
noncomputable def X12_signHere (t : Nat) (h : PH) : Option Rs := X12_signHere_g0 t h
noncomputable abbrev X12_signHere_F : List PV → PH → Option Rs := FW_T11 (X12_signHere)
set_option maxRecDepth 100000 in
theorem X12_signHere_gd (l : Launch) : Gd l 0 yX12_signHere cX12_signHere 1 (some .int) (X12_signHere_F)   := Gd_of (by decide +kernel) (fun z hzl as h r e => by
  obtain ⟨hst, e⟩ := gL_of e
  obtain ⟨t, q0, e⟩ := gT_of e
  rw [st_1 hst q0]
  exact ⟨show 1 ≤ 1 by decide, X12_signHere_s0 _ _ _ _ ((X12_signHere_l0 t h).trans e)⟩)
