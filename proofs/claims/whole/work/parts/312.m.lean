abbrev X12_place_x (z : CZ) : CX := mx RX12 cX12_place 1 0 (some .int) "place" z
noncomputable def X12_place_b0 : Kn := (a_al 0 (a_gR 11 704 41 (a_ic 3 (a_ald 41 2624 (a_ic 12 (a_eq (a_ic (-1000000003) a_ir) (a_al 0 (a_gR 11 704 41 (a_ic 3 (a_dup2 (a_ald 41 2624 (a_ic 1 (a_b (fun a b => a + b) (a_ast 41 2624 (fun a => a) (a_al 0 (a_gR 11 704 41 (a_ic 3 (a_ald 41 2624 (a_ic 1 (a_b (fun a b => a - b) a_ir))))))))))))))))))))
set_option maxRecDepth 100000 in
theorem X12_place_s0 {z : CZ} : SK (X12_place_x z) 0 (X12_place_b0) := (s_aloadn (pc := 0) dX12_place_0 rfl (s_gR (pc := 1) (f := 0) ko_11 (by decide) rfl rfl w_1295 dX12_place_1 (s_iconst (pc := 4) dX12_place_4 c_ic_3 (s_iald (pc := 5) (by decide) (by decide) rfl rfl rfl dX12_place_5 (s_bipush (pc := 6) dX12_place_6 c_bp_12 (s_cmpne (pc := 8) dX12_place_8 (by decide) (s_aloadn (pc := 14) dX12_place_14 rfl (s_gR (pc := 15) (f := 0) ko_11 (by decide) rfl rfl w_1295 dX12_place_15 (s_iconst (pc := 18) dX12_place_18 c_ic_3 (s_dup2 (pc := 19) dX12_place_19 (s_iald (pc := 20) (by decide) (by decide) rfl rfl rfl dX12_place_20 (s_iconst (pc := 21) dX12_place_21 c_ic_1 (s_iadd (pc := 22) dX12_place_22 (s_iast (pc := 23) (by decide) (by decide) rfl rfl rfl dX12_place_23 (s_aloadn (pc := 24) dX12_place_24 rfl (s_gR (pc := 25) (f := 0) ko_11 (by decide) rfl rfl w_1295 dX12_place_25 (s_iconst (pc := 28) dX12_place_28 c_ic_3 (s_iald (pc := 29) (by decide) (by decide) rfl rfl rfl dX12_place_29 (s_iconst (pc := 30) dX12_place_30 c_ic_1 (s_isub (pc := 31) dX12_place_31 (s_ir (pc := 32) rfl dX12_place_32))))))))))))))) (s_ldc (pc := 11) w_1454 dX12_place_11 (s_ir (pc := 13) rfl dX12_place_13))))))))
noncomputable def X12_place_f0 (t : Nat) (h : PH) : Option Rs :=
  nn (hR h 704 t 0) fun r1 =>
  ix 3 (hL h 41 r1) fun j2 =>
  if (hI h 2624 r1 j2) = 12 then
    some (some (.inl (-1000000003)), h)
  else
    nn (hR h 704 t 0) fun r3 =>
    ix 3 (hL h 41 r3) fun j4 =>
    nn (hR h 704 t 0) fun r5 =>
    ix 3 (hL h 41 r5) fun j6 =>
    wr (pI h 2624 r5 j6 ((hI h 2624 r3 j4) + 1)) fun h7 =>
    nn (hR h7 704 t 0) fun r8 =>
    ix 3 (hL h7 41 r8) fun j9 =>
    some (some (.inl ((hI h7 2624 r8 j9) - 1)), h7)
set_option maxRecDepth 100000 in
theorem X12_place_l0 (t : Nat) (h : PH) : X12_place_b0 [some (.inr (11, t + 1))] [] h = X12_place_f0 t h := rfl
noncomputable def X12_place_g0 (t : Nat) (h : PH) : Option Rs := X12_place_f0 t h
noncomputable def X12_place (t : Nat) (h : PH) : Option Rs := X12_place_g0 t h
noncomputable abbrev X12_place_F : List PV → PH → Option Rs := FW_T11 (X12_place)
set_option maxRecDepth 100000 in
theorem X12_place_gd (l : Launch) : Gd l 0 yX12_place cX12_place 1 (some .int) (X12_place_F)   := Gd_of (by decide +kernel) (fun z hzl as h r e => by
  obtain ⟨hst, e⟩ := gL_of e
  obtain ⟨t, q0, e⟩ := gT_of e
  rw [st_1 hst q0]
  exact ⟨show 1 ≤ 1 by decide, X12_place_s0 _ _ _ _ ((X12_place_l0 t h).trans e)⟩)
abbrev X12_in_x (z : CZ) : CX := mx RX12 cX12_in 3 0 (some .boolean) "in" z
noncomputable def X12_in_b0 : Kn := (a_il 0 (a_il 1 (a_lt (a_ic 0 a_zr) (a_il 0 (a_il 2 (a_gt (a_ic 0 a_zr) (a_ic 1 a_zr)))))))
set_option maxRecDepth 100000 in
theorem X12_in_s0 {z : CZ} : SK (X12_in_x z) 0 (X12_in_b0) := (s_iloadn (pc := 0) dX12_in_0 rfl (s_iloadn (pc := 1) dX12_in_1 rfl (s_cmplt (pc := 2) dX12_in_2 (by decide) (s_iconst (pc := 14) dX12_in_14 c_ic_0 (s_zr (pc := 15) rfl dX12_in_15)) (s_iloadn (pc := 5) dX12_in_5 rfl (s_iloadn (pc := 6) dX12_in_6 rfl (s_cmpgt (pc := 7) dX12_in_7 (by decide) (s_iconst (pc := 14) dX12_in_14 c_ic_0 (s_zr (pc := 15) rfl dX12_in_15)) (s_iconst (pc := 10) dX12_in_10 c_ic_1 (s_goto (pc := 11) dX12_in_11 (by decide) (s_zr (pc := 15) rfl dX12_in_15)))))))))
noncomputable def X12_in_f0 (x0 : Int32) (x1 : Int32) (x2 : Int32) (h : PH) : Option Rs :=
  if x0 < x1 then
    bz 0 <|
    some (some (.inl 0), h)
  else
    if x2 < x0 then
      bz 0 <|
      some (some (.inl 0), h)
    else
      bz 1 <|
      some (some (.inl 1), h)
set_option maxRecDepth 100000 in
theorem X12_in_l0 (x0 : Int32) (x1 : Int32) (x2 : Int32) (h : PH) : X12_in_b0 [some (.inl x0), some (.inl x1), some (.inl x2)] [] h = X12_in_f0 x0 x1 x2 h := rfl
noncomputable def X12_in_g0 (x0 : Int32) (x1 : Int32) (x2 : Int32) (h : PH) : Option Rs := X12_in_f0 x0 x1 x2 h
noncomputable def X12_in (x0 : Int32) (x1 : Int32) (x2 : Int32) (h : PH) : Option Rs := X12_in_g0 x0 x1 x2 h
noncomputable abbrev X12_in_F : List PV → PH → Option Rs := FW_III (X12_in)
set_option maxRecDepth 100000 in
theorem X12_in_gd (l : Launch) : Gd l 0 yX12_in cX12_in 3 (some .boolean) (X12_in_F)   := Gd_of (by decide +kernel) (fun z hzl as h r e => by
  obtain ⟨hst, e⟩ := gL_of e
  obtain ⟨x0, q0, e⟩ := gI_of e
  obtain ⟨x1, q1, e⟩ := gI_of e
  obtain ⟨x2, q2, e⟩ := gI_of e
  rw [st_3 hst q0 q1 q2]
  exact ⟨show 3 ≤ 3 by decide, X12_in_s0 _ _ _ _ ((X12_in_l0 x0 x1 x2 h).trans e)⟩)
abbrev X12_isPlace_x (z : CZ) : CX := mx RX12 cX12_isPlace 2 1 (some .boolean) "isPlace" z
noncomputable def X12_isPlace_b0 (c_X12_in : Int32 → Int32 → Int32 → PH → Option Rs) : Kn := (a_il 1 (a_ic 0 (a_al 0 (a_gR 11 704 41 (a_ic 3 (a_ald 41 2624 (a_ic 1 (a_b (fun a b => a - b) (a_sI 3 (FW_III c_X12_in) a_zr)))))))))
set_option maxRecDepth 100000 in
theorem X12_isPlace_s0 {z : CZ} : SK (X12_isPlace_x z) 0 (X12_isPlace_b0 X12_in) := (s_iloadn (pc := 0) dX12_isPlace_0 rfl (s_iconst (pc := 1) dX12_isPlace_1 c_ic_0 (s_aloadn (pc := 2) dX12_isPlace_2 rfl (s_gR (pc := 3) (f := 0) ko_11 (by decide) rfl rfl w_1295 dX12_isPlace_3 (s_iconst (pc := 6) dX12_isPlace_6 c_ic_3 (s_iald (pc := 7) (by decide) (by decide) rfl rfl rfl dX12_isPlace_7 (s_iconst (pc := 8) dX12_isPlace_8 c_ic_1 (s_isub (pc := 9) dX12_isPlace_9 (s_sI (pc := 10) (run_static (X12_in_gd _) (show 0 < 1 by decide) cy_X12_in w_1464 w_1463 dX12_isPlace_10) (s_zr (pc := 13) rfl dX12_isPlace_13))))))))))
noncomputable def X12_isPlace_f0 (c_X12_in : Int32 → Int32 → Int32 → PH → Option Rs) (t : Nat) (x1 : Int32) (h : PH) : Option Rs :=
  nn (hR h 704 t 0) fun r1 =>
  ix 3 (hL h 41 r1) fun j2 =>
  cI (c_X12_in x1 0 ((hI h 2624 r1 j2) - 1) h) fun v4 h3 =>
  bz v4 <|
  some (some (.inl v4), h3)
set_option maxRecDepth 100000 in
theorem X12_isPlace_l0 (c_X12_in : Int32 → Int32 → Int32 → PH → Option Rs) (t : Nat) (x1 : Int32) (h : PH) : X12_isPlace_b0 c_X12_in [some (.inr (11, t + 1)), some (.inl x1)] [] h = X12_isPlace_f0 c_X12_in t x1 h := rfl
noncomputable def X12_isPlace_g0 (t : Nat) (x1 : Int32) (h : PH) : Option Rs := X12_isPlace_f0 X12_in t x1 h
noncomputable def X12_isPlace (t : Nat) (x1 : Int32) (h : PH) : Option Rs := X12_isPlace_g0 t x1 h
noncomputable abbrev X12_isPlace_F : List PV → PH → Option Rs := FW_T11I (X12_isPlace)
set_option maxRecDepth 100000 in
theorem X12_isPlace_gd (l : Launch) : Gd l 1 yX12_isPlace cX12_isPlace 2 (some .boolean) (X12_isPlace_F)   := Gd_of (by decide +kernel) (fun z hzl as h r e => by
  obtain ⟨hst, e⟩ := gL_of e
  obtain ⟨t, q0, e⟩ := gT_of e
  obtain ⟨x1, q1, e⟩ := gI_of e
  rw [st_2 hst q0 q1]
  exact ⟨show 2 ≤ 2 by decide, X12_isPlace_s0 _ _ _ _ ((X12_isPlace_l0 X12_in t x1 h).trans e)⟩)
abbrev X12_wayFrom_x (z : CZ) : CX := mx RX12 cX12_wayFrom 7 0 (some .int) "wayFrom" z
noncomputable def X12_wayFrom_b0 (k2 : Kn) : Kn := (a_ic 0 (a_is 3 k2))
set_option maxRecDepth 100000 in
theorem X12_wayFrom_s0 {z : CZ} {k2 : Kn} (hk2 : SK (X12_wayFrom_x z) 2 k2) : SK (X12_wayFrom_x z) 0 (X12_wayFrom_b0 k2) := (s_iconst (pc := 0) dX12_wayFrom_0 c_ic_0 (s_istoren (pc := 1) dX12_wayFrom_1 rfl (show 3 < 7 by decide) hk2))
noncomputable def X12_wayFrom_b2 (k50 : Kn) : Kn := (a_il 3 (a_al 0 (a_gR 11 704 41 (a_ic 4 (a_ald 41 2624 (a_lt (a_ic 15 (a_ic 6 (a_il 3 (a_b (fun a b => a * b) (a_b (fun a b => a + b) (a_is 4 (a_al 0 (a_gR 11 704 41 (a_il 4 (a_ald 41 2624 (a_il 1 (a_eq (a_al 0 (a_gR 11 704 41 (a_il 4 (a_ic 2 (a_b (fun a b => a + b) (a_ald 41 2624 (a_il 2 (a_eq (a_ic 1 k50) (a_ic 0 k50))))))))) (a_ic 0 k50))))))))))))) (a_ic (-1) a_ir)))))))
set_option maxRecDepth 100000 in
theorem X12_wayFrom_s2 {z : CZ} {k50 : Kn} (hk50 : SK (X12_wayFrom_x z) 50 k50) : SK (X12_wayFrom_x z) 2 (X12_wayFrom_b2 k50) := (s_iloadn (pc := 2) dX12_wayFrom_2 rfl (s_aloadn (pc := 3) dX12_wayFrom_3 rfl (s_gR (pc := 4) (f := 0) ko_11 (by decide) rfl rfl w_1295 dX12_wayFrom_4 (s_iconst (pc := 7) dX12_wayFrom_7 c_ic_4 (s_iald (pc := 8) (by decide) (by decide) rfl rfl rfl dX12_wayFrom_8 (s_cmpge (pc := 9) dX12_wayFrom_9 (by decide) (s_iconst (pc := 108) dX12_wayFrom_108 c_ic_m1 (s_ir (pc := 109) rfl dX12_wayFrom_109)) (s_bipush (pc := 12) dX12_wayFrom_12 c_bp_15 (s_bipush (pc := 14) dX12_wayFrom_14 c_bp_6 (s_iloadn (pc := 16) dX12_wayFrom_16 rfl (s_imul (pc := 17) dX12_wayFrom_17 (s_iadd (pc := 18) dX12_wayFrom_18 (s_istore (pc := 19) dX12_wayFrom_19 (show 4 < 7 by decide) (s_aloadn (pc := 21) dX12_wayFrom_21 rfl (s_gR (pc := 22) (f := 0) ko_11 (by decide) rfl rfl w_1295 dX12_wayFrom_22 (s_iload (pc := 25) dX12_wayFrom_25 (s_iald (pc := 27) (by decide) (by decide) rfl rfl rfl dX12_wayFrom_27 (s_iloadn (pc := 28) dX12_wayFrom_28 rfl (s_cmpne (pc := 29) dX12_wayFrom_29 (by decide) (s_iconst (pc := 49) dX12_wayFrom_49 c_ic_0 hk50) (s_aloadn (pc := 32) dX12_wayFrom_32 rfl (s_gR (pc := 33) (f := 0) ko_11 (by decide) rfl rfl w_1295 dX12_wayFrom_33 (s_iload (pc := 36) dX12_wayFrom_36 (s_iconst (pc := 38) dX12_wayFrom_38 c_ic_2 (s_iadd (pc := 39) dX12_wayFrom_39 (s_iald (pc := 40) (by decide) (by decide) rfl rfl rfl dX12_wayFrom_40 (s_iloadn (pc := 41) dX12_wayFrom_41 rfl (s_cmpne (pc := 42) dX12_wayFrom_42 (by decide) (s_iconst (pc := 49) dX12_wayFrom_49 c_ic_0 hk50) (s_iconst (pc := 45) dX12_wayFrom_45 c_ic_1 (s_goto (pc := 46) dX12_wayFrom_46 (by decide) hk50))))))))))))))))))))))))))))
noncomputable def X12_wayFrom_b50 (k88 : Kn) : Kn := (a_is 5 (a_al 0 (a_gR 11 704 41 (a_il 4 (a_ic 1 (a_b (fun a b => a + b) (a_ald 41 2624 (a_il 1 (a_eq (a_al 0 (a_gR 11 704 41 (a_il 4 (a_ic 2 (a_b (fun a b => a + b) (a_ald 41 2624 (a_ic 4 (a_b (fun a b => a + b) (a_ic 8 (a_rem (a_il 2 (a_eq (a_ic 1 k88) (a_ic 0 k88))))))))))))) (a_ic 0 k88))))))))))
set_option maxRecDepth 100000 in
theorem X12_wayFrom_s50 {z : CZ} {k88 : Kn} (hk88 : SK (X12_wayFrom_x z) 88 k88) : SK (X12_wayFrom_x z) 50 (X12_wayFrom_b50 k88) := (s_istore (pc := 50) dX12_wayFrom_50 (show 5 < 7 by decide) (s_aloadn (pc := 52) dX12_wayFrom_52 rfl (s_gR (pc := 53) (f := 0) ko_11 (by decide) rfl rfl w_1295 dX12_wayFrom_53 (s_iload (pc := 56) dX12_wayFrom_56 (s_iconst (pc := 58) dX12_wayFrom_58 c_ic_1 (s_iadd (pc := 59) dX12_wayFrom_59 (s_iald (pc := 60) (by decide) (by decide) rfl rfl rfl dX12_wayFrom_60 (s_iloadn (pc := 61) dX12_wayFrom_61 rfl (s_cmpne (pc := 62) dX12_wayFrom_62 (by decide) (s_iconst (pc := 87) dX12_wayFrom_87 c_ic_0 hk88) (s_aloadn (pc := 65) dX12_wayFrom_65 rfl (s_gR (pc := 66) (f := 0) ko_11 (by decide) rfl rfl w_1295 dX12_wayFrom_66 (s_iload (pc := 69) dX12_wayFrom_69 (s_iconst (pc := 71) dX12_wayFrom_71 c_ic_2 (s_iadd (pc := 72) dX12_wayFrom_72 (s_iald (pc := 73) (by decide) (by decide) rfl rfl rfl dX12_wayFrom_73 (s_iconst (pc := 74) dX12_wayFrom_74 c_ic_4 (s_iadd (pc := 75) dX12_wayFrom_75 (s_bipush (pc := 76) dX12_wayFrom_76 c_bp_8 (s_irem (pc := 78) dX12_wayFrom_78 (s_iloadn (pc := 79) dX12_wayFrom_79 rfl (s_cmpne (pc := 80) dX12_wayFrom_80 (by decide) (s_iconst (pc := 87) dX12_wayFrom_87 c_ic_0 hk88) (s_iconst (pc := 83) dX12_wayFrom_83 c_ic_1 (s_goto (pc := 84) dX12_wayFrom_84 (by decide) hk88)))))))))))))))))))))))
noncomputable def X12_wayFrom_b88 (k2 : Kn) : Kn := (a_is 6 (a_il 5 (a_z (a_il 6 (a_z (a_inc 3 1 k2) (a_il 3 a_ir))) (a_il 3 a_ir))))
set_option maxRecDepth 100000 in
theorem X12_wayFrom_s88 {z : CZ} {k2 : Kn} (hk2 : SK (X12_wayFrom_x z) 2 k2) : SK (X12_wayFrom_x z) 88 (X12_wayFrom_b88 k2) := (s_istore (pc := 88) dX12_wayFrom_88 (show 6 < 7 by decide) (s_iload (pc := 90) dX12_wayFrom_90 (s_ifne (pc := 92) dX12_wayFrom_92 (by decide) (s_iloadn (pc := 100) dX12_wayFrom_100 rfl (s_ir (pc := 101) rfl dX12_wayFrom_101)) (s_iload (pc := 95) dX12_wayFrom_95 (s_ifeq (pc := 97) dX12_wayFrom_97 (by decide) (s_iinc (pc := 102) dX12_wayFrom_102 c_ic_1 (show 3 < 7 by decide) (s_goto (pc := 105) dX12_wayFrom_105 (by decide) hk2)) (s_iloadn (pc := 100) dX12_wayFrom_100 rfl (s_ir (pc := 101) rfl dX12_wayFrom_101)))))))
noncomputable def X12_wayFrom_u2 (g : Nat → Int32 → Int32 → Int32 → PH → Option Rs) : Kn := fun ls st h => gL 0 st (gT 11 ls 0 fun t => gI ls 1 fun x1 => gI ls 2 fun x2 => gI ls 3 fun x3 => g t x1 x2 x3 h)
noncomputable def X12_wayFrom_u50 (g : Nat → Int32 → Int32 → Int32 → Int32 → Int32 → PH → Option Rs) : Kn := fun ls st h => gL 1 st (gT 11 ls 0 fun t => gI ls 1 fun x1 => gI ls 2 fun x2 => gI ls 3 fun x3 => gI ls 4 fun x4 => gI (st.map some) 0 fun s0 => g t x1 x2 x3 x4 s0 h)
noncomputable def X12_wayFrom_u88 (g : Nat → Int32 → Int32 → Int32 → Int32 → Int32 → PH → Option Rs) : Kn := fun ls st h => gL 1 st (gT 11 ls 0 fun t => gI ls 1 fun x1 => gI ls 2 fun x2 => gI ls 3 fun x3 => gI ls 5 fun x5 => gI (st.map some) 0 fun s0 => g t x1 x2 x3 x5 s0 h)
noncomputable def X12_wayFrom_f0 (g2 : Nat → Int32 → Int32 → Int32 → PH → Option Rs) (t : Nat) (x1 : Int32) (x2 : Int32) (h : PH) : Option Rs :=
  g2 t x1 x2 0 h
set_option maxRecDepth 100000 in
theorem X12_wayFrom_l0 (g2 : Nat → Int32 → Int32 → Int32 → PH → Option Rs) (t : Nat) (x1 : Int32) (x2 : Int32) (h : PH) : X12_wayFrom_b0 (X12_wayFrom_u2 g2) [some (.inr (11, t + 1)), some (.inl x1), some (.inl x2), none, none, none, none] [] h = X12_wayFrom_f0 g2 t x1 x2 h := rfl
theorem X12_wayFrom_m0 {g2 G2 : Nat → Int32 → Int32 → Int32 → PH → Option Rs} (hg2 : ∀ a0 a1 a2 a3 a4, Mo (g2 a0 a1 a2 a3 a4) (G2 a0 a1 a2 a3 a4)) (t : Nat) (x1 : Int32) (x2 : Int32) (h : PH) : Mo (X12_wayFrom_f0 g2 t x1 x2 h) (X12_wayFrom_f0 G2 t x1 x2 h) := (hg2 t x1 x2 0 h)
noncomputable def X12_wayFrom_f2 (g50 : Nat → Int32 → Int32 → Int32 → Int32 → Int32 → PH → Option Rs) (t : Nat) (x1 : Int32) (x2 : Int32) (x3 : Int32) (h : PH) : Option Rs :=
  nn (hR h 704 t 0) fun r1 =>
  ix 4 (hL h 41 r1) fun j2 =>
  if x3 < (hI h 2624 r1 j2) then
    nn (hR h 704 t 0) fun r3 =>
    ix (15 + (6 * x3)) (hL h 41 r3) fun j4 =>
    if (hI h 2624 r3 j4) = x1 then
      nn (hR h 704 t 0) fun r5 =>
      ix ((15 + (6 * x3)) + 2) (hL h 41 r5) fun j6 =>
      if (hI h 2624 r5 j6) = x2 then
        g50 t x1 x2 x3 (15 + (6 * x3)) 1 h
      else
        g50 t x1 x2 x3 (15 + (6 * x3)) 0 h
    else
      g50 t x1 x2 x3 (15 + (6 * x3)) 0 h
  else
    some (some (.inl (-1)), h)
set_option maxRecDepth 100000 in
theorem X12_wayFrom_l2 (g50 : Nat → Int32 → Int32 → Int32 → Int32 → Int32 → PH → Option Rs) (t : Nat) (x1 : Int32) (x2 : Int32) (x3 : Int32) (h : PH) : X12_wayFrom_b2 (X12_wayFrom_u50 g50) [some (.inr (11, t + 1)), some (.inl x1), some (.inl x2), some (.inl x3), none, none, none] [] h = X12_wayFrom_f2 g50 t x1 x2 x3 h := rfl
theorem X12_wayFrom_m2 {g50 G50 : Nat → Int32 → Int32 → Int32 → Int32 → Int32 → PH → Option Rs} (hg50 : ∀ a0 a1 a2 a3 a4 a5 a6, Mo (g50 a0 a1 a2 a3 a4 a5 a6) (G50 a0 a1 a2 a3 a4 a5 a6)) (t : Nat) (x1 : Int32) (x2 : Int32) (x3 : Int32) (h : PH) : Mo (X12_wayFrom_f2 g50 t x1 x2 x3 h) (X12_wayFrom_f2 G50 t x1 x2 x3 h) := (mo_nn fun r1 => (mo_ix fun j2 => (mo_if (mo_nn fun r3 => (mo_ix fun j4 => (mo_if (mo_nn fun r5 => (mo_ix fun j6 => (mo_if (hg50 t x1 x2 x3 (15 + (6 * x3)) 1 h) (hg50 t x1 x2 x3 (15 + (6 * x3)) 0 h)))) (hg50 t x1 x2 x3 (15 + (6 * x3)) 0 h)))) mo_rf)))
theorem X12_wayFrom_w2 {z : CZ} {g50 : Nat → Int32 → Int32 → Int32 → Int32 → Int32 → PH → Option Rs} (hk50 : SK (X12_wayFrom_x z) 50 (X12_wayFrom_u50 g50)) : SK (X12_wayFrom_x z) 2 (X12_wayFrom_u2 (X12_wayFrom_f2 g50)) := by
  intro ls st h r e
  obtain ⟨hst, e⟩ := gL_of e
  obtain ⟨t, q0, e⟩ := gT_of e
  obtain ⟨x1, q1, e⟩ := gI_of e
  obtain ⟨x2, q2, e⟩ := gI_of e
  obtain ⟨x3, q3, e⟩ := gI_of e
  rw [st_0 hst]
  exact WK.sub (canon := [some (.inr (11, t + 1)), some (.inl x1), some (.inl x2), some (.inl x3), none, none, none]) rfl ⟨q0, q1, q2, q3, trivial⟩ (X12_wayFrom_s2 hk50 _ _ _ _ ((X12_wayFrom_l2 g50 t x1 x2 x3 h).trans e))
noncomputable def X12_wayFrom_f50 (g88 : Nat → Int32 → Int32 → Int32 → Int32 → Int32 → PH → Option Rs) (t : Nat) (x1 : Int32) (x2 : Int32) (x3 : Int32) (x4 : Int32) (s0 : Int32) (h : PH) : Option Rs :=
  nn (hR h 704 t 0) fun r7 =>
  ix (x4 + 1) (hL h 41 r7) fun j8 =>
  if (hI h 2624 r7 j8) = x1 then
    nn (hR h 704 t 0) fun r9 =>
    ix (x4 + 2) (hL h 41 r9) fun j10 =>
    dv 8 <|
    if (jrem ((hI h 2624 r9 j10) + 4) 8) = x2 then
      g88 t x1 x2 x3 s0 1 h
    else
      g88 t x1 x2 x3 s0 0 h
  else
    g88 t x1 x2 x3 s0 0 h
set_option maxRecDepth 100000 in
theorem X12_wayFrom_l50 (g88 : Nat → Int32 → Int32 → Int32 → Int32 → Int32 → PH → Option Rs) (t : Nat) (x1 : Int32) (x2 : Int32) (x3 : Int32) (x4 : Int32) (s0 : Int32) (h : PH) : X12_wayFrom_b50 (X12_wayFrom_u88 g88) [some (.inr (11, t + 1)), some (.inl x1), some (.inl x2), some (.inl x3), some (.inl x4), none, none] [.inl s0] h = X12_wayFrom_f50 g88 t x1 x2 x3 x4 s0 h := rfl
theorem X12_wayFrom_m50 {g88 G88 : Nat → Int32 → Int32 → Int32 → Int32 → Int32 → PH → Option Rs} (hg88 : ∀ a0 a1 a2 a3 a4 a5 a6, Mo (g88 a0 a1 a2 a3 a4 a5 a6) (G88 a0 a1 a2 a3 a4 a5 a6)) (t : Nat) (x1 : Int32) (x2 : Int32) (x3 : Int32) (x4 : Int32) (s0 : Int32) (h : PH) : Mo (X12_wayFrom_f50 g88 t x1 x2 x3 x4 s0 h) (X12_wayFrom_f50 G88 t x1 x2 x3 x4 s0 h) := (mo_nn fun r7 => (mo_ix fun j8 => (mo_if (mo_nn fun r9 => (mo_ix fun j10 => (mo_dv (mo_if (hg88 t x1 x2 x3 s0 1 h) (hg88 t x1 x2 x3 s0 0 h))))) (hg88 t x1 x2 x3 s0 0 h))))
theorem X12_wayFrom_w50 {z : CZ} {g88 : Nat → Int32 → Int32 → Int32 → Int32 → Int32 → PH → Option Rs} (hk88 : SK (X12_wayFrom_x z) 88 (X12_wayFrom_u88 g88)) : SK (X12_wayFrom_x z) 50 (X12_wayFrom_u50 (X12_wayFrom_f50 g88)) := by
  intro ls st h r e
  obtain ⟨hst, e⟩ := gL_of e
  obtain ⟨t, q0, e⟩ := gT_of e
  obtain ⟨x1, q1, e⟩ := gI_of e
  obtain ⟨x2, q2, e⟩ := gI_of e
  obtain ⟨x3, q3, e⟩ := gI_of e
  obtain ⟨x4, q4, e⟩ := gI_of e
  obtain ⟨s0, q5, e⟩ := gI_of e
  rw [st_1 hst q5]
  exact WK.sub (canon := [some (.inr (11, t + 1)), some (.inl x1), some (.inl x2), some (.inl x3), some (.inl x4), none, none]) rfl ⟨q0, q1, q2, q3, q4, trivial⟩ (X12_wayFrom_s50 hk88 _ _ _ _ ((X12_wayFrom_l50 g88 t x1 x2 x3 x4 s0 h).trans e))
noncomputable def X12_wayFrom_f88 (g2 : Nat → Int32 → Int32 → Int32 → PH → Option Rs) (t : Nat) (x1 : Int32) (x2 : Int32) (x3 : Int32) (x5 : Int32) (s0 : Int32) (h : PH) : Option Rs :=
  if x5 = 0 then
    if s0 = 0 then
      g2 t x1 x2 (x3 + 1) h
    else
      some (some (.inl x3), h)
  else
    some (some (.inl x3), h)
set_option maxRecDepth 100000 in
theorem X12_wayFrom_l88 (g2 : Nat → Int32 → Int32 → Int32 → PH → Option Rs) (t : Nat) (x1 : Int32) (x2 : Int32) (x3 : Int32) (x5 : Int32) (s0 : Int32) (h : PH) : X12_wayFrom_b88 (X12_wayFrom_u2 g2) [some (.inr (11, t + 1)), some (.inl x1), some (.inl x2), some (.inl x3), none, some (.inl x5), none] [.inl s0] h = X12_wayFrom_f88 g2 t x1 x2 x3 x5 s0 h := rfl
theorem X12_wayFrom_m88 {g2 G2 : Nat → Int32 → Int32 → Int32 → PH → Option Rs} (hg2 : ∀ a0 a1 a2 a3 a4, Mo (g2 a0 a1 a2 a3 a4) (G2 a0 a1 a2 a3 a4)) (t : Nat) (x1 : Int32) (x2 : Int32) (x3 : Int32) (x5 : Int32) (s0 : Int32) (h : PH) : Mo (X12_wayFrom_f88 g2 t x1 x2 x3 x5 s0 h) (X12_wayFrom_f88 G2 t x1 x2 x3 x5 s0 h) := (mo_if (mo_if (hg2 t x1 x2 (x3 + 1) h) mo_rf) mo_rf)
theorem X12_wayFrom_w88 {z : CZ} {g2 : Nat → Int32 → Int32 → Int32 → PH → Option Rs} (hk2 : SK (X12_wayFrom_x z) 2 (X12_wayFrom_u2 g2)) : SK (X12_wayFrom_x z) 88 (X12_wayFrom_u88 (X12_wayFrom_f88 g2)) := by
  intro ls st h r e
  obtain ⟨hst, e⟩ := gL_of e
  obtain ⟨t, q0, e⟩ := gT_of e
  obtain ⟨x1, q1, e⟩ := gI_of e
  obtain ⟨x2, q2, e⟩ := gI_of e
  obtain ⟨x3, q3, e⟩ := gI_of e
  obtain ⟨x5, q4, e⟩ := gI_of e
  obtain ⟨s0, q5, e⟩ := gI_of e
  rw [st_1 hst q5]
  exact WK.sub (canon := [some (.inr (11, t + 1)), some (.inl x1), some (.inl x2), some (.inl x3), none, some (.inl x5), none]) rfl ⟨q0, q1, q2, q3, q4, trivial⟩ (X12_wayFrom_s88 hk2 _ _ _ _ ((X12_wayFrom_l88 g2 t x1 x2 x3 x5 s0 h).trans e))
noncomputable def X12_wayFrom_g0 (G : (Nat → Int32 → Int32 → Int32 → PH → Option Rs)) (t : Nat) (x1 : Int32) (x2 : Int32) (h : PH) : Option Rs := X12_wayFrom_f0 (G) t x1 x2 h
noncomputable def X12_wayFrom_g88 (G : (Nat → Int32 → Int32 → Int32 → PH → Option Rs)) (t : Nat) (x1 : Int32) (x2 : Int32) (x3 : Int32) (x5 : Int32) (s0 : Int32) (h : PH) : Option Rs := X12_wayFrom_f88 (G) t x1 x2 x3 x5 s0 h
noncomputable def X12_wayFrom_g50 (G : (Nat → Int32 → Int32 → Int32 → PH → Option Rs)) (t : Nat) (x1 : Int32) (x2 : Int32) (x3 : Int32) (x4 : Int32) (s0 : Int32) (h : PH) : Option Rs := X12_wayFrom_f50 (X12_wayFrom_g88 G) t x1 x2 x3 x4 s0 h
noncomputable def X12_wayFrom_g2 (G : (Nat → Int32 → Int32 → Int32 → PH → Option Rs)) (t : Nat) (x1 : Int32) (x2 : Int32) (x3 : Int32) (h : PH) : Option Rs := X12_wayFrom_f2 (X12_wayFrom_g50 G) t x1 x2 x3 h
theorem X12_wayFrom_v88 {z : CZ} {G : (Nat → Int32 → Int32 → Int32 → PH → Option Rs)} (hG2 : SK (X12_wayFrom_x z) 2 (X12_wayFrom_u2 (G))) : SK (X12_wayFrom_x z) 88 (X12_wayFrom_u88 (X12_wayFrom_g88 G)) := X12_wayFrom_w88 hG2
theorem X12_wayFrom_v50 {z : CZ} {G : (Nat → Int32 → Int32 → Int32 → PH → Option Rs)} (hG2 : SK (X12_wayFrom_x z) 2 (X12_wayFrom_u2 (G))) : SK (X12_wayFrom_x z) 50 (X12_wayFrom_u50 (X12_wayFrom_g50 G)) := X12_wayFrom_w50 (X12_wayFrom_v88 hG2)
theorem X12_wayFrom_v2 {z : CZ} {G : (Nat → Int32 → Int32 → Int32 → PH → Option Rs)} (hG2 : SK (X12_wayFrom_x z) 2 (X12_wayFrom_u2 (G))) : SK (X12_wayFrom_x z) 2 (X12_wayFrom_u2 (X12_wayFrom_g2 G)) := X12_wayFrom_w2 (X12_wayFrom_v50 hG2)
noncomputable def X12_wayFrom_fam : Nat → (Nat → Int32 → Int32 → Int32 → PH → Option Rs)
  | 0 => fun _ _ _ _ _ => none
  | n + 1 => X12_wayFrom_g2 (X12_wayFrom_fam n)
theorem X12_wayFrom_k {z : CZ} : ∀ n, SK (X12_wayFrom_x z) 2 (X12_wayFrom_u2 (X12_wayFrom_fam n))
  | 0 => (fun ls st h r e => by
      obtain ⟨_, e⟩ := gL_of e
      obtain ⟨_, _, e⟩ := gT_of e
      obtain ⟨_, _, e⟩ := gI_of e
      obtain ⟨_, _, e⟩ := gI_of e
      obtain ⟨_, _, e⟩ := gI_of e
      cases e)
  | n + 1 => by
    obtain ih2 := X12_wayFrom_k n
    exact X12_wayFrom_v2 ih2
theorem X12_wayFrom_n0 {G G' : (Nat → Int32 → Int32 → Int32 → PH → Option Rs)} (hg2 : ∀ a0 a1 a2 a3 a4, Mo ((G) a0 a1 a2 a3 a4) ((G') a0 a1 a2 a3 a4)) (t : Nat) (x1 : Int32) (x2 : Int32) (h : PH) : Mo (X12_wayFrom_g0 G t x1 x2 h) (X12_wayFrom_g0 G' t x1 x2 h) := X12_wayFrom_m0 hg2 t x1 x2 h
theorem X12_wayFrom_n88 {G G' : (Nat → Int32 → Int32 → Int32 → PH → Option Rs)} (hg2 : ∀ a0 a1 a2 a3 a4, Mo ((G) a0 a1 a2 a3 a4) ((G') a0 a1 a2 a3 a4)) (t : Nat) (x1 : Int32) (x2 : Int32) (x3 : Int32) (x5 : Int32) (s0 : Int32) (h : PH) : Mo (X12_wayFrom_g88 G t x1 x2 x3 x5 s0 h) (X12_wayFrom_g88 G' t x1 x2 x3 x5 s0 h) := X12_wayFrom_m88 hg2 t x1 x2 x3 x5 s0 h
theorem X12_wayFrom_n50 {G G' : (Nat → Int32 → Int32 → Int32 → PH → Option Rs)} (hg2 : ∀ a0 a1 a2 a3 a4, Mo ((G) a0 a1 a2 a3 a4) ((G') a0 a1 a2 a3 a4)) (t : Nat) (x1 : Int32) (x2 : Int32) (x3 : Int32) (x4 : Int32) (s0 : Int32) (h : PH) : Mo (X12_wayFrom_g50 G t x1 x2 x3 x4 s0 h) (X12_wayFrom_g50 G' t x1 x2 x3 x4 s0 h) := X12_wayFrom_m50 (fun a0 a1 a2 a3 a4 a5 a6 => X12_wayFrom_n88 hg2 a0 a1 a2 a3 a4 a5 a6) t x1 x2 x3 x4 s0 h
theorem X12_wayFrom_n2 {G G' : (Nat → Int32 → Int32 → Int32 → PH → Option Rs)} (hg2 : ∀ a0 a1 a2 a3 a4, Mo ((G) a0 a1 a2 a3 a4) ((G') a0 a1 a2 a3 a4)) (t : Nat) (x1 : Int32) (x2 : Int32) (x3 : Int32) (h : PH) : Mo (X12_wayFrom_g2 G t x1 x2 x3 h) (X12_wayFrom_g2 G' t x1 x2 x3 h) := X12_wayFrom_m2 (fun a0 a1 a2 a3 a4 a5 a6 => X12_wayFrom_n50 hg2 a0 a1 a2 a3 a4 a5 a6) t x1 x2 x3 h
theorem X12_wayFrom_fm : ∀ n, (∀ a0 a1 a2 a3 a4, Mo ((X12_wayFrom_fam n) a0 a1 a2 a3 a4) ((X12_wayFrom_fam (n + 1)) a0 a1 a2 a3 a4))
  | 0 => fun _ _ _ _ _ => mo_no
  | n + 1 => by
    obtain ih2 := X12_wayFrom_fm n
    exact fun a0 a1 a2 a3 a4 => X12_wayFrom_n2 ih2 a0 a1 a2 a3 a4
noncomputable def X12_wayFrom (t : Nat) (x1 : Int32) (x2 : Int32) (h : PH) : Option Rs := lim (fun n => X12_wayFrom_g0 (X12_wayFrom_fam n) t x1 x2 h)
theorem X12_wayFrom_iff {t : Nat} {x1 : Int32} {x2 : Int32} {h : PH} {r : Rs} : X12_wayFrom t x1 x2 h = some r ↔ ∃ n, X12_wayFrom_g0 (X12_wayFrom_fam n) t x1 x2 h = some r := lim_iff (fun n => by
  obtain ih2 := X12_wayFrom_fm n
  exact X12_wayFrom_n0 ih2 t x1 x2 h)
noncomputable abbrev X12_wayFrom_F : List PV → PH → Option Rs := FW_T11II (X12_wayFrom)
set_option maxRecDepth 100000 in
theorem X12_wayFrom_gd (l : Launch) : Gd l 0 yX12_wayFrom cX12_wayFrom 7 (some .int) (X12_wayFrom_F)   := Gd_of (by decide +kernel) (fun z hzl as h r e => by
  obtain ⟨hst, e⟩ := gL_of e
  obtain ⟨t, q0, e⟩ := gT_of e
  obtain ⟨x1, q1, e⟩ := gI_of e
  obtain ⟨x2, q2, e⟩ := gI_of e
  rw [st_3 hst q0 q1 q2]
  obtain ⟨n, e⟩ := lim_of e
  obtain hG2 := X12_wayFrom_k (z := z) n
  exact ⟨show 3 ≤ 7 by decide, X12_wayFrom_s0 hG2 _ _ _ _ ((X12_wayFrom_l0 (X12_wayFrom_fam n) t x1 x2 h).trans e)⟩)
abbrev X12_way_x (z : CZ) : CX := mx RX12 cX12_way 6 2 (some .int) "way" z
noncomputable def X12_way_b0 (c_X12_isPlace : Nat → Int32 → PH → Option Rs) (c_X12_in : Int32 → Int32 → Int32 → PH → Option Rs) (c_X12_wayFrom : Nat → Int32 → Int32 → PH → Option Rs) : Kn := (a_al 0 (a_il 1 (a_vI 11 1 (FW_T11I c_X12_isPlace) (a_z (a_ic (-1000000001) a_ir) (a_al 0 (a_il 2 (a_vI 11 1 (FW_T11I c_X12_isPlace) (a_z (a_ic (-1000000001) a_ir) (a_il 1 (a_il 2 (a_eq (a_ic (-1000000001) a_ir) (a_il 3 (a_ic 0 (a_ic 7 (a_sI 3 (FW_III c_X12_in) (a_z (a_ic (-1000000001) a_ir) (a_il 4 (a_n (a_ic (-1000000001) a_ir) (a_il 4 (a_ic 100 (a_div (a_ic 3 (a_gt (a_ic (-1000000001) a_ir) (a_il 4 (a_ic 100 (a_rem (a_ic 1 (a_ic 30 (a_sI 3 (FW_III c_X12_in) (a_z (a_ic (-1000000001) a_ir) (a_al 0 (a_gR 11 704 41 (a_ic 4 (a_ald 41 2624 (a_ic 20 (a_eq (a_ic (-1000000003) a_ir) (a_al 0 (a_il 1 (a_il 3 (a_vI 11 2 (FW_T11II c_X12_wayFrom) (a_n (a_al 0 (a_il 2 (a_il 3 (a_ic 4 (a_b (fun a b => a + b) (a_ic 8 (a_rem (a_vI 11 2 (FW_T11II c_X12_wayFrom) (a_n (a_ic 15 (a_ic 6 (a_al 0 (a_gR 11 704 41 (a_ic 4 (a_ald 41 2624 (a_b (fun a b => a * b) (a_b (fun a b => a + b) (a_is 5 (a_al 0 (a_gR 11 704 41 (a_il 5 (a_il 1 (a_ast 41 2624 (fun a => a) (a_al 0 (a_gR 11 704 41 (a_il 5 (a_ic 1 (a_b (fun a b => a + b) (a_il 2 (a_ast 41 2624 (fun a => a) (a_al 0 (a_gR 11 704 41 (a_il 5 (a_ic 2 (a_b (fun a b => a + b) (a_il 3 (a_ast 41 2624 (fun a => a) (a_al 0 (a_gR 11 704 41 (a_il 5 (a_ic 3 (a_b (fun a b => a + b) (a_il 4 (a_ic 100 (a_div (a_ast 41 2624 (fun a => a) (a_al 0 (a_gR 11 704 41 (a_il 5 (a_ic 4 (a_b (fun a b => a + b) (a_il 4 (a_ic 100 (a_rem (a_ast 41 2624 (fun a => a) (a_al 0 (a_gR 11 704 41 (a_il 5 (a_ic 5 (a_b (fun a b => a + b) (a_ic 0 (a_ast 41 2624 (fun a => a) (a_al 0 (a_gR 11 704 41 (a_ic 4 (a_dup2 (a_ald 41 2624 (a_ic 1 (a_b (fun a b => a + b) (a_ast 41 2624 (fun a => a) (a_al 0 (a_gR 11 704 41 (a_ic 4 (a_ald 41 2624 (a_ic 1 (a_b (fun a b => a - b) a_ir))))))))))))))))))))))))))))))))))))))))))))))))))))))))))))))))))) (a_ic (-1000000002) a_ir)))))))))) (a_ic (-1000000002) a_ir))))))))))))))))))))))))))))))))))))))))))
set_option maxRecDepth 100000 in
theorem X12_way_s0 {z : CZ} : SK (X12_way_x z) 0 (X12_way_b0 X12_isPlace X12_in X12_wayFrom) := (s_aloadn (pc := 0) dX12_way_0 rfl (s_iloadn (pc := 1) dX12_way_1 rfl (s_vI (pc := 2) (run_virtual (X12_isPlace_gd _) (show 1 < 2 by decide) cy_X12_isPlace (by decide) rfl w_1461 w_s29 w_1459 dX12_way_2) (s_ifeq (pc := 5) dX12_way_5 (by decide) (s_ldc (pc := 59) w_1466 dX12_way_59 (s_ir (pc := 61) rfl dX12_way_61)) (s_aloadn (pc := 8) dX12_way_8 rfl (s_iloadn (pc := 9) dX12_way_9 rfl (s_vI (pc := 10) (run_virtual (X12_isPlace_gd _) (show 1 < 2 by decide) cy_X12_isPlace (by decide) rfl w_1461 w_s29 w_1459 dX12_way_10) (s_ifeq (pc := 13) dX12_way_13 (by decide) (s_ldc (pc := 59) w_1466 dX12_way_59 (s_ir (pc := 61) rfl dX12_way_61)) (s_iloadn (pc := 16) dX12_way_16 rfl (s_iloadn (pc := 17) dX12_way_17 rfl (s_cmpeq (pc := 18) dX12_way_18 (by decide) (s_ldc (pc := 59) w_1466 dX12_way_59 (s_ir (pc := 61) rfl dX12_way_61)) (s_iloadn (pc := 21) dX12_way_21 rfl (s_iconst (pc := 22) dX12_way_22 c_ic_0 (s_bipush (pc := 23) dX12_way_23 c_bp_7 (s_sI (pc := 25) (run_static (X12_in_gd _) (show 0 < 2 by decide) cy_X12_in w_1464 w_1463 dX12_way_25) (s_ifeq (pc := 28) dX12_way_28 (by decide) (s_ldc (pc := 59) w_1466 dX12_way_59 (s_ir (pc := 61) rfl dX12_way_61)) (s_iload (pc := 31) dX12_way_31 (s_iflt (pc := 33) dX12_way_33 (by decide) (s_ldc (pc := 59) w_1466 dX12_way_59 (s_ir (pc := 61) rfl dX12_way_61)) (s_iload (pc := 36) dX12_way_36 (s_bipush (pc := 38) dX12_way_38 c_bp_100 (s_idiv (pc := 40) dX12_way_40 (s_iconst (pc := 41) dX12_way_41 c_ic_3 (s_cmpgt (pc := 42) dX12_way_42 (by decide) (s_ldc (pc := 59) w_1466 dX12_way_59 (s_ir (pc := 61) rfl dX12_way_61)) (s_iload (pc := 45) dX12_way_45 (s_bipush (pc := 47) dX12_way_47 c_bp_100 (s_irem (pc := 49) dX12_way_49 (s_iconst (pc := 50) dX12_way_50 c_ic_1 (s_bipush (pc := 51) dX12_way_51 c_bp_30 (s_sI (pc := 53) (run_static (X12_in_gd _) (show 0 < 2 by decide) cy_X12_in w_1464 w_1463 dX12_way_53) (s_ifne (pc := 56) dX12_way_56 (by decide) (s_aloadn (pc := 62) dX12_way_62 rfl (s_gR (pc := 63) (f := 0) ko_11 (by decide) rfl rfl w_1295 dX12_way_63 (s_iconst (pc := 66) dX12_way_66 c_ic_4 (s_iald (pc := 67) (by decide) (by decide) rfl rfl rfl dX12_way_67 (s_bipush (pc := 68) dX12_way_68 c_bp_20 (s_cmpne (pc := 70) dX12_way_70 (by decide) (s_aloadn (pc := 76) dX12_way_76 rfl (s_iloadn (pc := 77) dX12_way_77 rfl (s_iloadn (pc := 78) dX12_way_78 rfl (s_vI (pc := 79) (run_virtual (X12_wayFrom_gd _) (show 0 < 2 by decide) cy_X12_wayFrom (by decide) rfl w_1469 w_s30 w_1467 dX12_way_79) (s_ifge (pc := 82) dX12_way_82 (by decide) (s_ldc (pc := 99) w_1471 dX12_way_99 (s_ir (pc := 101) rfl dX12_way_101)) (s_aloadn (pc := 85) dX12_way_85 rfl (s_iloadn (pc := 86) dX12_way_86 rfl (s_iloadn (pc := 87) dX12_way_87 rfl (s_iconst (pc := 88) dX12_way_88 c_ic_4 (s_iadd (pc := 89) dX12_way_89 (s_bipush (pc := 90) dX12_way_90 c_bp_8 (s_irem (pc := 92) dX12_way_92 (s_vI (pc := 93) (run_virtual (X12_wayFrom_gd _) (show 0 < 2 by decide) cy_X12_wayFrom (by decide) rfl w_1469 w_s30 w_1467 dX12_way_93) (s_iflt (pc := 96) dX12_way_96 (by decide) (s_bipush (pc := 102) dX12_way_102 c_bp_15 (s_bipush (pc := 104) dX12_way_104 c_bp_6 (s_aloadn (pc := 106) dX12_way_106 rfl (s_gR (pc := 107) (f := 0) ko_11 (by decide) rfl rfl w_1295 dX12_way_107 (s_iconst (pc := 110) dX12_way_110 c_ic_4 (s_iald (pc := 111) (by decide) (by decide) rfl rfl rfl dX12_way_111 (s_imul (pc := 112) dX12_way_112 (s_iadd (pc := 113) dX12_way_113 (s_istore (pc := 114) dX12_way_114 (show 5 < 6 by decide) (s_aloadn (pc := 116) dX12_way_116 rfl (s_gR (pc := 117) (f := 0) ko_11 (by decide) rfl rfl w_1295 dX12_way_117 (s_iload (pc := 120) dX12_way_120 (s_iloadn (pc := 122) dX12_way_122 rfl (s_iast (pc := 123) (by decide) (by decide) rfl rfl rfl dX12_way_123 (s_aloadn (pc := 124) dX12_way_124 rfl (s_gR (pc := 125) (f := 0) ko_11 (by decide) rfl rfl w_1295 dX12_way_125 (s_iload (pc := 128) dX12_way_128 (s_iconst (pc := 130) dX12_way_130 c_ic_1 (s_iadd (pc := 131) dX12_way_131 (s_iloadn (pc := 132) dX12_way_132 rfl (s_iast (pc := 133) (by decide) (by decide) rfl rfl rfl dX12_way_133 (s_aloadn (pc := 134) dX12_way_134 rfl (s_gR (pc := 135) (f := 0) ko_11 (by decide) rfl rfl w_1295 dX12_way_135 (s_iload (pc := 138) dX12_way_138 (s_iconst (pc := 140) dX12_way_140 c_ic_2 (s_iadd (pc := 141) dX12_way_141 (s_iloadn (pc := 142) dX12_way_142 rfl (s_iast (pc := 143) (by decide) (by decide) rfl rfl rfl dX12_way_143 (s_aloadn (pc := 144) dX12_way_144 rfl (s_gR (pc := 145) (f := 0) ko_11 (by decide) rfl rfl w_1295 dX12_way_145 (s_iload (pc := 148) dX12_way_148 (s_iconst (pc := 150) dX12_way_150 c_ic_3 (s_iadd (pc := 151) dX12_way_151 (s_iload (pc := 152) dX12_way_152 (s_bipush (pc := 154) dX12_way_154 c_bp_100 (s_idiv (pc := 156) dX12_way_156 (s_iast (pc := 157) (by decide) (by decide) rfl rfl rfl dX12_way_157 (s_aloadn (pc := 158) dX12_way_158 rfl (s_gR (pc := 159) (f := 0) ko_11 (by decide) rfl rfl w_1295 dX12_way_159 (s_iload (pc := 162) dX12_way_162 (s_iconst (pc := 164) dX12_way_164 c_ic_4 (s_iadd (pc := 165) dX12_way_165 (s_iload (pc := 166) dX12_way_166 (s_bipush (pc := 168) dX12_way_168 c_bp_100 (s_irem (pc := 170) dX12_way_170 (s_iast (pc := 171) (by decide) (by decide) rfl rfl rfl dX12_way_171 (s_aloadn (pc := 172) dX12_way_172 rfl (s_gR (pc := 173) (f := 0) ko_11 (by decide) rfl rfl w_1295 dX12_way_173 (s_iload (pc := 176) dX12_way_176 (s_iconst (pc := 178) dX12_way_178 c_ic_5 (s_iadd (pc := 179) dX12_way_179 (s_iconst (pc := 180) dX12_way_180 c_ic_0 (s_iast (pc := 181) (by decide) (by decide) rfl rfl rfl dX12_way_181 (s_aloadn (pc := 182) dX12_way_182 rfl (s_gR (pc := 183) (f := 0) ko_11 (by decide) rfl rfl w_1295 dX12_way_183 (s_iconst (pc := 186) dX12_way_186 c_ic_4 (s_dup2 (pc := 187) dX12_way_187 (s_iald (pc := 188) (by decide) (by decide) rfl rfl rfl dX12_way_188 (s_iconst (pc := 189) dX12_way_189 c_ic_1 (s_iadd (pc := 190) dX12_way_190 (s_iast (pc := 191) (by decide) (by decide) rfl rfl rfl dX12_way_191 (s_aloadn (pc := 192) dX12_way_192 rfl (s_gR (pc := 193) (f := 0) ko_11 (by decide) rfl rfl w_1295 dX12_way_193 (s_iconst (pc := 196) dX12_way_196 c_ic_4 (s_iald (pc := 197) (by decide) (by decide) rfl rfl rfl dX12_way_197 (s_iconst (pc := 198) dX12_way_198 c_ic_1 (s_isub (pc := 199) dX12_way_199 (s_ir (pc := 200) rfl dX12_way_200)))))))))))))))))))))))))))))))))))))))))))))))))))))))))))))))))))) (s_ldc (pc := 99) w_1471 dX12_way_99 (s_ir (pc := 101) rfl dX12_way_101)))))))))))))))) (s_ldc (pc := 73) w_1454 dX12_way_73 (s_ir (pc := 75) rfl dX12_way_75)))))))) (s_ldc (pc := 59) w_1466 dX12_way_59 (s_ir (pc := 61) rfl dX12_way_61))))))))))))))))))))))))))))))))
noncomputable def X12_way_f0 (c_X12_isPlace : Nat → Int32 → PH → Option Rs) (c_X12_in : Int32 → Int32 → Int32 → PH → Option Rs) (c_X12_wayFrom : Nat → Int32 → Int32 → PH → Option Rs) (t : Nat) (x1 : Int32) (x2 : Int32) (x3 : Int32) (x4 : Int32) (h : PH) : Option Rs :=
  cI (c_X12_isPlace t x1 h) fun v2 h1 =>
  if v2 = 0 then
    some (some (.inl (-1000000001)), h1)
  else
    cI (c_X12_isPlace t x2 h1) fun v4 h3 =>
    if v4 = 0 then
      some (some (.inl (-1000000001)), h3)
    else
      if x1 = x2 then
        some (some (.inl (-1000000001)), h3)
      else
        cI (c_X12_in x3 0 7 h3) fun v6 h5 =>
        if v6 = 0 then
          some (some (.inl (-1000000001)), h5)
        else
          if x4 < 0 then
            some (some (.inl (-1000000001)), h5)
          else
            dv 100 <|
            if 3 < (x4 / 100) then
              some (some (.inl (-1000000001)), h5)
            else
              dv 100 <|
              cI (c_X12_in (jrem x4 100) 1 30 h5) fun v8 h7 =>
              if v8 = 0 then
                some (some (.inl (-1000000001)), h7)
              else
                nn (hR h7 704 t 0) fun r9 =>
                ix 4 (hL h7 41 r9) fun j10 =>
                if (hI h7 2624 r9 j10) = 20 then
                  some (some (.inl (-1000000003)), h7)
                else
                  cI (c_X12_wayFrom t x1 x3 h7) fun v12 h11 =>
                  if v12 < 0 then
                    dv 8 <|
                    cI (c_X12_wayFrom t x2 (jrem (x3 + 4) 8) h11) fun v14 h13 =>
                    if v14 < 0 then
                      nn (hR h13 704 t 0) fun r15 =>
                      ix 4 (hL h13 41 r15) fun j16 =>
                      nn (hR h13 704 t 0) fun r17 =>
                      ix (15 + (6 * (hI h13 2624 r15 j16))) (hL h13 41 r17) fun j18 =>
                      wr (pI h13 2624 r17 j18 x1) fun h19 =>
                      nn (hR h19 704 t 0) fun r20 =>
                      ix ((15 + (6 * (hI h13 2624 r15 j16))) + 1) (hL h19 41 r20) fun j21 =>
                      wr (pI h19 2624 r20 j21 x2) fun h22 =>
                      nn (hR h22 704 t 0) fun r23 =>
                      ix ((15 + (6 * (hI h13 2624 r15 j16))) + 2) (hL h22 41 r23) fun j24 =>
                      wr (pI h22 2624 r23 j24 x3) fun h25 =>
                      dv 100 <|
                      nn (hR h25 704 t 0) fun r26 =>
                      ix ((15 + (6 * (hI h13 2624 r15 j16))) + 3) (hL h25 41 r26) fun j27 =>
                      wr (pI h25 2624 r26 j27 (x4 / 100)) fun h28 =>
                      dv 100 <|
                      nn (hR h28 704 t 0) fun r29 =>
                      ix ((15 + (6 * (hI h13 2624 r15 j16))) + 4) (hL h28 41 r29) fun j30 =>
                      wr (pI h28 2624 r29 j30 (jrem x4 100)) fun h31 =>
                      nn (hR h31 704 t 0) fun r32 =>
                      ix ((15 + (6 * (hI h13 2624 r15 j16))) + 5) (hL h31 41 r32) fun j33 =>
                      wr (pI h31 2624 r32 j33 0) fun h34 =>
                      nn (hR h34 704 t 0) fun r35 =>
                      ix 4 (hL h34 41 r35) fun j36 =>
                      nn (hR h34 704 t 0) fun r37 =>
                      ix 4 (hL h34 41 r37) fun j38 =>
                      wr (pI h34 2624 r37 j38 ((hI h34 2624 r35 j36) + 1)) fun h39 =>
                      nn (hR h39 704 t 0) fun r40 =>
                      ix 4 (hL h39 41 r40) fun j41 =>
                      some (some (.inl ((hI h39 2624 r40 j41) - 1)), h39)
                    else
                      some (some (.inl (-1000000002)), h13)
                  else
                    some (some (.inl (-1000000002)), h11)
set_option maxRecDepth 100000 in
theorem X12_way_l0 (c_X12_isPlace : Nat → Int32 → PH → Option Rs) (c_X12_in : Int32 → Int32 → Int32 → PH → Option Rs) (c_X12_wayFrom : Nat → Int32 → Int32 → PH → Option Rs) (t : Nat) (x1 : Int32) (x2 : Int32) (x3 : Int32) (x4 : Int32) (h : PH) : X12_way_b0 c_X12_isPlace c_X12_in c_X12_wayFrom [some (.inr (11, t + 1)), some (.inl x1), some (.inl x2), some (.inl x3), some (.inl x4), none] [] h = X12_way_f0 c_X12_isPlace c_X12_in c_X12_wayFrom t x1 x2 x3 x4 h := rfl
noncomputable def X12_way_g0 (t : Nat) (x1 : Int32) (x2 : Int32) (x3 : Int32) (x4 : Int32) (h : PH) : Option Rs := X12_way_f0 X12_isPlace X12_in X12_wayFrom t x1 x2 x3 x4 h
noncomputable def X12_way (t : Nat) (x1 : Int32) (x2 : Int32) (x3 : Int32) (x4 : Int32) (h : PH) : Option Rs := X12_way_g0 t x1 x2 x3 x4 h
noncomputable abbrev X12_way_F : List PV → PH → Option Rs := FW_T11IIII (X12_way)
set_option maxRecDepth 100000 in
theorem X12_way_gd (l : Launch) : Gd l 2 yX12_way cX12_way 6 (some .int) (X12_way_F)   := Gd_of (by decide +kernel) (fun z hzl as h r e => by
  obtain ⟨hst, e⟩ := gL_of e
  obtain ⟨t, q0, e⟩ := gT_of e
  obtain ⟨x1, q1, e⟩ := gI_of e
  obtain ⟨x2, q2, e⟩ := gI_of e
  obtain ⟨x3, q3, e⟩ := gI_of e
  obtain ⟨x4, q4, e⟩ := gI_of e
  rw [st_5 hst q0 q1 q2 q3 q4]
  exact ⟨show 5 ≤ 6 by decide, X12_way_s0 _ _ _ _ ((X12_way_l0 X12_isPlace X12_in X12_wayFrom t x1 x2 x3 x4 h).trans e)⟩)
abbrev X12_counts_x (z : CZ) : CX := mx RX12 cX12_counts 3 0 (some .int) "counts" z
noncomputable def X12_counts_b0 (k10 : Kn) : Kn := (a_al 0 (a_gR 11 704 41 (a_ic 8 (a_ald 41 2624 (a_ic 1 (a_b (fun a b => a - b) (a_is 2 k10)))))))
set_option maxRecDepth 100000 in
theorem X12_counts_s0 {z : CZ} {k10 : Kn} (hk10 : SK (X12_counts_x z) 10 k10) : SK (X12_counts_x z) 0 (X12_counts_b0 k10) := (s_aloadn (pc := 0) dX12_counts_0 rfl (s_gR (pc := 1) (f := 0) ko_11 (by decide) rfl rfl w_1295 dX12_counts_1 (s_bipush (pc := 4) dX12_counts_4 c_bp_8 (s_iald (pc := 6) (by decide) (by decide) rfl rfl rfl dX12_counts_6 (s_iconst (pc := 7) dX12_counts_7 c_ic_1 (s_isub (pc := 8) dX12_counts_8 (s_istoren (pc := 9) dX12_counts_9 rfl (show 2 < 3 by decide) hk10)))))))
noncomputable def X12_counts_b10 (k10 : Kn) : Kn := (a_il 2 (a_n (a_ic (-1) a_ir) (a_al 0 (a_gR 11 704 41 (a_ic 393 (a_ic 2 (a_il 2 (a_b (fun a b => a * b) (a_b (fun a b => a + b) (a_ald 41 2624 (a_ic 1000 (a_div (a_il 1 (a_eq (a_il 2 a_ir) (a_inc 2 (-1) k10)))))))))))))))
set_option maxRecDepth 100000 in
theorem X12_counts_s10 {z : CZ} {k10 : Kn} (hk10 : SK (X12_counts_x z) 10 k10) : SK (X12_counts_x z) 10 (X12_counts_b10 k10) := (s_iloadn (pc := 10) dX12_counts_10 rfl (s_iflt (pc := 11) dX12_counts_11 (by decide) (s_iconst (pc := 42) dX12_counts_42 c_ic_m1 (s_ir (pc := 43) rfl dX12_counts_43)) (s_aloadn (pc := 14) dX12_counts_14 rfl (s_gR (pc := 15) (f := 0) ko_11 (by decide) rfl rfl w_1295 dX12_counts_15 (s_sipush (pc := 18) dX12_counts_18 c_sp_393 (s_iconst (pc := 21) dX12_counts_21 c_ic_2 (s_iloadn (pc := 22) dX12_counts_22 rfl (s_imul (pc := 23) dX12_counts_23 (s_iadd (pc := 24) dX12_counts_24 (s_iald (pc := 25) (by decide) (by decide) rfl rfl rfl dX12_counts_25 (s_sipush (pc := 26) dX12_counts_26 c_sp_1000 (s_idiv (pc := 29) dX12_counts_29 (s_iloadn (pc := 30) dX12_counts_30 rfl (s_cmpne (pc := 31) dX12_counts_31 (by decide) (s_iinc (pc := 36) dX12_counts_36 c_ic_m1 (show 2 < 3 by decide) (s_goto (pc := 39) dX12_counts_39 (by decide) hk10)) (s_iloadn (pc := 34) dX12_counts_34 rfl (s_ir (pc := 35) rfl dX12_counts_35))))))))))))))))
noncomputable def X12_counts_u10 (g : Nat → Int32 → Int32 → PH → Option Rs) : Kn := fun ls st h => gL 0 st (gT 11 ls 0 fun t => gI ls 1 fun x1 => gI ls 2 fun x2 => g t x1 x2 h)
noncomputable def X12_counts_f0 (g10 : Nat → Int32 → Int32 → PH → Option Rs) (t : Nat) (x1 : Int32) (h : PH) : Option Rs :=
  nn (hR h 704 t 0) fun r1 =>
  ix 8 (hL h 41 r1) fun j2 =>
  g10 t x1 ((hI h 2624 r1 j2) - 1) h
set_option maxRecDepth 100000 in
theorem X12_counts_l0 (g10 : Nat → Int32 → Int32 → PH → Option Rs) (t : Nat) (x1 : Int32) (h : PH) : X12_counts_b0 (X12_counts_u10 g10) [some (.inr (11, t + 1)), some (.inl x1), none] [] h = X12_counts_f0 g10 t x1 h := rfl
theorem X12_counts_m0 {g10 G10 : Nat → Int32 → Int32 → PH → Option Rs} (hg10 : ∀ a0 a1 a2 a3, Mo (g10 a0 a1 a2 a3) (G10 a0 a1 a2 a3)) (t : Nat) (x1 : Int32) (h : PH) : Mo (X12_counts_f0 g10 t x1 h) (X12_counts_f0 G10 t x1 h) := (mo_nn fun r1 => (mo_ix fun j2 => (hg10 t x1 ((hI h 2624 r1 j2) - 1) h)))
noncomputable def X12_counts_f10 (g10 : Nat → Int32 → Int32 → PH → Option Rs) (t : Nat) (x1 : Int32) (x2 : Int32) (h : PH) : Option Rs :=
  if x2 < 0 then
    some (some (.inl (-1)), h)
  else
    nn (hR h 704 t 0) fun r3 =>
    ix (393 + (2 * x2)) (hL h 41 r3) fun j4 =>
    dv 1000 <|
    if ((hI h 2624 r3 j4) / 1000) = x1 then
      some (some (.inl x2), h)
    else
      g10 t x1 (x2 + (-1)) h
set_option maxRecDepth 100000 in
theorem X12_counts_l10 (g10 : Nat → Int32 → Int32 → PH → Option Rs) (t : Nat) (x1 : Int32) (x2 : Int32) (h : PH) : X12_counts_b10 (X12_counts_u10 g10) [some (.inr (11, t + 1)), some (.inl x1), some (.inl x2)] [] h = X12_counts_f10 g10 t x1 x2 h := rfl
theorem X12_counts_m10 {g10 G10 : Nat → Int32 → Int32 → PH → Option Rs} (hg10 : ∀ a0 a1 a2 a3, Mo (g10 a0 a1 a2 a3) (G10 a0 a1 a2 a3)) (t : Nat) (x1 : Int32) (x2 : Int32) (h : PH) : Mo (X12_counts_f10 g10 t x1 x2 h) (X12_counts_f10 G10 t x1 x2 h) := (mo_if mo_rf (mo_nn fun r3 => (mo_ix fun j4 => (mo_dv (mo_if mo_rf (hg10 t x1 (x2 + (-1)) h))))))
theorem X12_counts_w10 {z : CZ} {g10 : Nat → Int32 → Int32 → PH → Option Rs} (hk10 : SK (X12_counts_x z) 10 (X12_counts_u10 g10)) : SK (X12_counts_x z) 10 (X12_counts_u10 (X12_counts_f10 g10)) := by
  intro ls st h r e
  obtain ⟨hst, e⟩ := gL_of e
  obtain ⟨t, q0, e⟩ := gT_of e
  obtain ⟨x1, q1, e⟩ := gI_of e
  obtain ⟨x2, q2, e⟩ := gI_of e
  rw [st_0 hst]
  exact WK.sub (canon := [some (.inr (11, t + 1)), some (.inl x1), some (.inl x2)]) rfl ⟨q0, q1, q2, trivial⟩ (X12_counts_s10 hk10 _ _ _ _ ((X12_counts_l10 g10 t x1 x2 h).trans e))
noncomputable def X12_counts_g0 (G : (Nat → Int32 → Int32 → PH → Option Rs)) (t : Nat) (x1 : Int32) (h : PH) : Option Rs := X12_counts_f0 (G) t x1 h
noncomputable def X12_counts_g10 (G : (Nat → Int32 → Int32 → PH → Option Rs)) (t : Nat) (x1 : Int32) (x2 : Int32) (h : PH) : Option Rs := X12_counts_f10 (G) t x1 x2 h
theorem X12_counts_v10 {z : CZ} {G : (Nat → Int32 → Int32 → PH → Option Rs)} (hG10 : SK (X12_counts_x z) 10 (X12_counts_u10 (G))) : SK (X12_counts_x z) 10 (X12_counts_u10 (X12_counts_g10 G)) := X12_counts_w10 hG10
noncomputable def X12_counts_fam : Nat → (Nat → Int32 → Int32 → PH → Option Rs)
  | 0 => fun _ _ _ _ => none
  | n + 1 => X12_counts_g10 (X12_counts_fam n)
theorem X12_counts_k {z : CZ} : ∀ n, SK (X12_counts_x z) 10 (X12_counts_u10 (X12_counts_fam n))
  | 0 => (fun ls st h r e => by
      obtain ⟨_, e⟩ := gL_of e
      obtain ⟨_, _, e⟩ := gT_of e
      obtain ⟨_, _, e⟩ := gI_of e
      obtain ⟨_, _, e⟩ := gI_of e
      cases e)
  | n + 1 => by
    obtain ih10 := X12_counts_k n
    exact X12_counts_v10 ih10
theorem X12_counts_n0 {G G' : (Nat → Int32 → Int32 → PH → Option Rs)} (hg10 : ∀ a0 a1 a2 a3, Mo ((G) a0 a1 a2 a3) ((G') a0 a1 a2 a3)) (t : Nat) (x1 : Int32) (h : PH) : Mo (X12_counts_g0 G t x1 h) (X12_counts_g0 G' t x1 h) := X12_counts_m0 hg10 t x1 h
theorem X12_counts_n10 {G G' : (Nat → Int32 → Int32 → PH → Option Rs)} (hg10 : ∀ a0 a1 a2 a3, Mo ((G) a0 a1 a2 a3) ((G') a0 a1 a2 a3)) (t : Nat) (x1 : Int32) (x2 : Int32) (h : PH) : Mo (X12_counts_g10 G t x1 x2 h) (X12_counts_g10 G' t x1 x2 h) := X12_counts_m10 hg10 t x1 x2 h
theorem X12_counts_fm : ∀ n, (∀ a0 a1 a2 a3, Mo ((X12_counts_fam n) a0 a1 a2 a3) ((X12_counts_fam (n + 1)) a0 a1 a2 a3))
  | 0 => fun _ _ _ _ => mo_no
  | n + 1 => by
    obtain ih10 := X12_counts_fm n
    exact fun a0 a1 a2 a3 => X12_counts_n10 ih10 a0 a1 a2 a3
noncomputable def X12_counts (t : Nat) (x1 : Int32) (h : PH) : Option Rs := lim (fun n => X12_counts_g0 (X12_counts_fam n) t x1 h)
theorem X12_counts_iff {t : Nat} {x1 : Int32} {h : PH} {r : Rs} : X12_counts t x1 h = some r ↔ ∃ n, X12_counts_g0 (X12_counts_fam n) t x1 h = some r := lim_iff (fun n => by
  obtain ih10 := X12_counts_fm n
  exact X12_counts_n0 ih10 t x1 h)
noncomputable abbrev X12_counts_F : List PV → PH → Option Rs := FW_T11I (X12_counts)
set_option maxRecDepth 100000 in
theorem X12_counts_gd (l : Launch) : Gd l 0 yX12_counts cX12_counts 3 (some .int) (X12_counts_F)   := Gd_of (by decide +kernel) (fun z hzl as h r e => by
  obtain ⟨hst, e⟩ := gL_of e
  obtain ⟨t, q0, e⟩ := gT_of e
  obtain ⟨x1, q1, e⟩ := gI_of e
  rw [st_2 hst q0 q1]
  obtain ⟨n, e⟩ := lim_of e
  obtain hG10 := X12_counts_k (z := z) n
  exact ⟨show 2 ≤ 3 by decide, X12_counts_s0 hG10 _ _ _ _ ((X12_counts_l0 (X12_counts_fam n) t x1 h).trans e)⟩)
abbrev X12_two_x (z : CZ) : CX := mx RX12 cX12_two 3 0 (some .int) "two" z
noncomputable def X12_two_b0 : Kn := (a_il 0 (a_sw [((-8), (a_il 1 (a_il 2 (a_b (fun a b => a * b) a_ir)))), ((-7), (a_il 1 (a_il 2 (a_b (fun a b => a - b) a_ir)))), ((-6), (a_il 1 (a_il 2 (a_b (fun a b => a + b) a_ir)))), ((-5), (a_il 1 (a_il 2 (a_gt (a_ic 1 a_ir) (a_ic 0 a_ir))))), ((-4), (a_il 1 (a_il 2 (a_eq (a_ic 1 a_ir) (a_ic 0 a_ir))))), ((-3), (a_il 1 (a_il 2 (a_lt (a_ic 1 a_ir) (a_ic 0 a_ir))))), ((-2), (a_il 1 (a_z (a_ic 0 a_ir) (a_il 2 (a_z (a_ic 0 a_ir) (a_ic 1 a_ir)))))), ((-1), (a_il 1 (a_z (a_il 2 (a_z (a_ic 0 a_ir) (a_ic 1 a_ir))) (a_ic 1 a_ir))))] (a_il 2 (a_z (a_ic 0 a_ir) (a_il 1 (a_il 2 (a_div a_ir)))))))
set_option maxRecDepth 100000 in
theorem X12_two_s0 {z : CZ} : SK (X12_two_x z) 0 (X12_two_b0) := (s_iloadn (pc := 0) dX12_two_0 rfl (s_table (pc := 1) dX12_two_1 (by decide) (by decide) ⟨c_ti_m8, ⟨_, by decide, (s_iloadn (pc := 117) dX12_two_117 rfl (s_iloadn (pc := 118) dX12_two_118 rfl (s_imul (pc := 119) dX12_two_119 (s_ir (pc := 120) rfl dX12_two_120))))⟩, ⟨c_ti_m7, ⟨_, by decide, (s_iloadn (pc := 113) dX12_two_113 rfl (s_iloadn (pc := 114) dX12_two_114 rfl (s_isub (pc := 115) dX12_two_115 (s_ir (pc := 116) rfl dX12_two_116))))⟩, ⟨c_ti_m6, ⟨_, by decide, (s_iloadn (pc := 109) dX12_two_109 rfl (s_iloadn (pc := 110) dX12_two_110 rfl (s_iadd (pc := 111) dX12_two_111 (s_ir (pc := 112) rfl dX12_two_112))))⟩, ⟨c_ti_m5, ⟨_, by decide, (s_iloadn (pc := 98) dX12_two_98 rfl (s_iloadn (pc := 99) dX12_two_99 rfl (s_cmple (pc := 100) dX12_two_100 (by decide) (s_iconst (pc := 107) dX12_two_107 c_ic_0 (s_ir (pc := 108) rfl dX12_two_108)) (s_iconst (pc := 103) dX12_two_103 c_ic_1 (s_goto (pc := 104) dX12_two_104 (by decide) (s_ir (pc := 108) rfl dX12_two_108))))))⟩, ⟨c_ti_m4, ⟨_, by decide, (s_iloadn (pc := 87) dX12_two_87 rfl (s_iloadn (pc := 88) dX12_two_88 rfl (s_cmpne (pc := 89) dX12_two_89 (by decide) (s_iconst (pc := 96) dX12_two_96 c_ic_0 (s_ir (pc := 97) rfl dX12_two_97)) (s_iconst (pc := 92) dX12_two_92 c_ic_1 (s_goto (pc := 93) dX12_two_93 (by decide) (s_ir (pc := 97) rfl dX12_two_97))))))⟩, ⟨c_ti_m3, ⟨_, by decide, (s_iloadn (pc := 76) dX12_two_76 rfl (s_iloadn (pc := 77) dX12_two_77 rfl (s_cmpge (pc := 78) dX12_two_78 (by decide) (s_iconst (pc := 85) dX12_two_85 c_ic_0 (s_ir (pc := 86) rfl dX12_two_86)) (s_iconst (pc := 81) dX12_two_81 c_ic_1 (s_goto (pc := 82) dX12_two_82 (by decide) (s_ir (pc := 86) rfl dX12_two_86))))))⟩, ⟨c_ti_m2, ⟨_, by decide, (s_iloadn (pc := 62) dX12_two_62 rfl (s_ifeq (pc := 63) dX12_two_63 (by decide) (s_iconst (pc := 74) dX12_two_74 c_ic_0 (s_ir (pc := 75) rfl dX12_two_75)) (s_iloadn (pc := 66) dX12_two_66 rfl (s_ifeq (pc := 67) dX12_two_67 (by decide) (s_iconst (pc := 74) dX12_two_74 c_ic_0 (s_ir (pc := 75) rfl dX12_two_75)) (s_iconst (pc := 70) dX12_two_70 c_ic_1 (s_goto (pc := 71) dX12_two_71 (by decide) (s_ir (pc := 75) rfl dX12_two_75)))))))⟩, ⟨c_ti_m1, ⟨_, by decide, (s_iloadn (pc := 48) dX12_two_48 rfl (s_ifne (pc := 49) dX12_two_49 (by decide) (s_iconst (pc := 56) dX12_two_56 c_ic_1 (s_goto (pc := 57) dX12_two_57 (by decide) (s_ir (pc := 61) rfl dX12_two_61))) (s_iloadn (pc := 52) dX12_two_52 rfl (s_ifeq (pc := 53) dX12_two_53 (by decide) (s_iconst (pc := 60) dX12_two_60 c_ic_0 (s_ir (pc := 61) rfl dX12_two_61)) (s_iconst (pc := 56) dX12_two_56 c_ic_1 (s_goto (pc := 57) dX12_two_57 (by decide) (s_ir (pc := 61) rfl dX12_two_61)))))))⟩, trivial⟩⟩⟩⟩⟩⟩⟩⟩ (s_iloadn (pc := 121) dX12_two_121 rfl (s_ifne (pc := 122) dX12_two_122 (by decide) (s_iloadn (pc := 129) dX12_two_129 rfl (s_iloadn (pc := 130) dX12_two_130 rfl (s_idiv (pc := 131) dX12_two_131 (s_ir (pc := 132) rfl dX12_two_132)))) (s_iconst (pc := 125) dX12_two_125 c_ic_0 (s_goto (pc := 126) dX12_two_126 (by decide) (s_ir (pc := 132) rfl dX12_two_132)))))))
noncomputable def X12_two_f0 (x0 : Int32) (x1 : Int32) (x2 : Int32) (h : PH) : Option Rs :=
  if x0 = (-8) then
    some (some (.inl (x1 * x2)), h)
  else
  if x0 = (-7) then
    some (some (.inl (x1 - x2)), h)
  else
  if x0 = (-6) then
    some (some (.inl (x1 + x2)), h)
  else
  if x0 = (-5) then
    if x2 < x1 then
      some (some (.inl 1), h)
    else
      some (some (.inl 0), h)
  else
  if x0 = (-4) then
    if x1 = x2 then
      some (some (.inl 1), h)
    else
      some (some (.inl 0), h)
  else
  if x0 = (-3) then
    if x1 < x2 then
      some (some (.inl 1), h)
    else
      some (some (.inl 0), h)
  else
  if x0 = (-2) then
    if x1 = 0 then
      some (some (.inl 0), h)
    else
      if x2 = 0 then
        some (some (.inl 0), h)
      else
        some (some (.inl 1), h)
  else
  if x0 = (-1) then
    if x1 = 0 then
      if x2 = 0 then
        some (some (.inl 0), h)
      else
        some (some (.inl 1), h)
    else
      some (some (.inl 1), h)
  else
    if x2 = 0 then
      some (some (.inl 0), h)
    else
      dv x2 <|
      some (some (.inl (x1 / x2)), h)
set_option maxRecDepth 100000 in
theorem X12_two_l0 (x0 : Int32) (x1 : Int32) (x2 : Int32) (h : PH) : X12_two_b0 [some (.inl x0), some (.inl x1), some (.inl x2)] [] h = X12_two_f0 x0 x1 x2 h := rfl
noncomputable def X12_two_g0 (x0 : Int32) (x1 : Int32) (x2 : Int32) (h : PH) : Option Rs := X12_two_f0 x0 x1 x2 h
noncomputable def X12_two (x0 : Int32) (x1 : Int32) (x2 : Int32) (h : PH) : Option Rs := X12_two_g0 x0 x1 x2 h
noncomputable abbrev X12_two_F : List PV → PH → Option Rs := FW_III (X12_two)
set_option maxRecDepth 100000 in
theorem X12_two_gd (l : Launch) : Gd l 0 yX12_two cX12_two 3 (some .int) (X12_two_F)   := Gd_of (by decide +kernel) (fun z hzl as h r e => by
  obtain ⟨hst, e⟩ := gL_of e
  obtain ⟨x0, q0, e⟩ := gI_of e
  obtain ⟨x1, q1, e⟩ := gI_of e
  obtain ⟨x2, q2, e⟩ := gI_of e
  rw [st_3 hst q0 q1 q2]
  exact ⟨show 3 ≤ 3 by decide, X12_two_s0 _ _ _ _ ((X12_two_l0 x0 x1 x2 h).trans e)⟩)
abbrev X12_worksOut_x (z : CZ) : CX := mx RX12 cX12_worksOut 6 1 (some .int) "worksOut" z
noncomputable def X12_worksOut_b0 (k22 : Kn) : Kn := (a_ic 0 (a_is 2 (a_al 0 (a_gR 11 704 41 (a_ic 393 (a_ic 2 (a_il 1 (a_b (fun a b => a * b) (a_b (fun a b => a + b) (a_ald 41 2624 (a_ic 1000 (a_rem (a_is 3 (a_ic 0 (a_is 4 k22)))))))))))))))
set_option maxRecDepth 100000 in
theorem X12_worksOut_s0 {z : CZ} {k22 : Kn} (hk22 : SK (X12_worksOut_x z) 22 k22) : SK (X12_worksOut_x z) 0 (X12_worksOut_b0 k22) := (s_iconst (pc := 0) dX12_worksOut_0 c_ic_0 (s_istoren (pc := 1) dX12_worksOut_1 rfl (show 2 < 6 by decide) (s_aloadn (pc := 2) dX12_worksOut_2 rfl (s_gR (pc := 3) (f := 0) ko_11 (by decide) rfl rfl w_1295 dX12_worksOut_3 (s_sipush (pc := 6) dX12_worksOut_6 c_sp_393 (s_iconst (pc := 9) dX12_worksOut_9 c_ic_2 (s_iloadn (pc := 10) dX12_worksOut_10 rfl (s_imul (pc := 11) dX12_worksOut_11 (s_iadd (pc := 12) dX12_worksOut_12 (s_iald (pc := 13) (by decide) (by decide) rfl rfl rfl dX12_worksOut_13 (s_sipush (pc := 14) dX12_worksOut_14 c_sp_1000 (s_irem (pc := 17) dX12_worksOut_17 (s_istoren (pc := 18) dX12_worksOut_18 rfl (show 3 < 6 by decide) (s_iconst (pc := 19) dX12_worksOut_19 c_ic_0 (s_istore (pc := 20) dX12_worksOut_20 (show 4 < 6 by decide) hk22)))))))))))))))
noncomputable def X12_worksOut_b22 (c_X12_two : Int32 → Int32 → Int32 → PH → Option Rs) (k80 k117 k151 : Kn) : Kn := (a_il 4 (a_il 3 (a_lt (a_al 0 (a_gR 11 704 41 (a_ic 421 (a_ic 96 (a_il 1 (a_b (fun a b => a * b) (a_b (fun a b => a + b) (a_il 4 (a_b (fun a b => a + b) (a_ald 41 2624 (a_is 5 (a_il 5 (a_n (a_il 5 (a_ic (-10) (a_eq (a_al 0 (a_gR 11 726 51 (a_il 2 (a_ic 1 (a_b (fun a b => a - b) (a_al 0 (a_gR 11 726 51 (a_il 2 (a_ic 1 (a_b (fun a b => a - b) (a_ald 51 3264 (a_z (a_ic 1 k117) (a_ic 0 k117))))))))))))) (a_inc 2 (-1) (a_al 0 (a_gR 11 726 51 (a_il 2 (a_ic 1 (a_b (fun a b => a - b) (a_il 5 (a_al 0 (a_gR 11 726 51 (a_il 2 (a_ic 1 (a_b (fun a b => a - b) (a_ald 51 3264 (a_al 0 (a_gR 11 726 51 (a_il 2 (a_ald 51 3264 (a_sI 3 (FW_III c_X12_two) (a_ast 51 3264 (fun a => a) k151)))))))))))))))))))))) (a_al 0 (a_gR 11 726 51 (a_il 2 (a_il 5 (a_ic 10000 (a_lt (a_il 5 k80) (a_al 0 (a_gR 11 727 52 (a_il 5 (a_ic 10000 (a_b (fun a b => a - b) (a_ald 52 3328 k80))))))))))))))))))))))))) (a_al 0 (a_gR 11 726 51 (a_ic 0 (a_ald 51 3264 a_ir)))))))
set_option maxRecDepth 100000 in
theorem X12_worksOut_s22 {z : CZ} {k80 k117 k151 : Kn} (hk80 : SK (X12_worksOut_x z) 80 k80) (hk117 : SK (X12_worksOut_x z) 117 k117) (hk151 : SK (X12_worksOut_x z) 151 k151) : SK (X12_worksOut_x z) 22 (X12_worksOut_b22 X12_two k80 k117 k151) := (s_iload (pc := 22) dX12_worksOut_22 (s_iloadn (pc := 24) dX12_worksOut_24 rfl (s_cmpge (pc := 25) dX12_worksOut_25 (by decide) (s_aloadn (pc := 157) dX12_worksOut_157 rfl (s_gR (pc := 158) (f := 22) ko_11 (by decide) rfl rfl w_1317 dX12_worksOut_158 (s_iconst (pc := 161) dX12_worksOut_161 c_ic_0 (s_iald (pc := 162) (by decide) (by decide) rfl rfl rfl dX12_worksOut_162 (s_ir (pc := 163) rfl dX12_worksOut_163))))) (s_aloadn (pc := 28) dX12_worksOut_28 rfl (s_gR (pc := 29) (f := 0) ko_11 (by decide) rfl rfl w_1295 dX12_worksOut_29 (s_sipush (pc := 32) dX12_worksOut_32 c_sp_421 (s_bipush (pc := 35) dX12_worksOut_35 c_bp_96 (s_iloadn (pc := 37) dX12_worksOut_37 rfl (s_imul (pc := 38) dX12_worksOut_38 (s_iadd (pc := 39) dX12_worksOut_39 (s_iload (pc := 40) dX12_worksOut_40 (s_iadd (pc := 42) dX12_worksOut_42 (s_iald (pc := 43) (by decide) (by decide) rfl rfl rfl dX12_worksOut_43 (s_istore (pc := 44) dX12_worksOut_44 (show 5 < 6 by decide) (s_iload (pc := 46) dX12_worksOut_46 (s_iflt (pc := 48) dX12_worksOut_48 (by decide) (s_iload (pc := 87) dX12_worksOut_87 (s_bipush (pc := 89) dX12_worksOut_89 c_bp_m10 (s_cmpne (pc := 91) dX12_worksOut_91 (by decide) (s_iinc (pc := 121) dX12_worksOut_121 c_ic_m1 (show 2 < 6 by decide) (s_aloadn (pc := 124) dX12_worksOut_124 rfl (s_gR (pc := 125) (f := 22) ko_11 (by decide) rfl rfl w_1317 dX12_worksOut_125 (s_iloadn (pc := 128) dX12_worksOut_128 rfl (s_iconst (pc := 129) dX12_worksOut_129 c_ic_1 (s_isub (pc := 130) dX12_worksOut_130 (s_iload (pc := 131) dX12_worksOut_131 (s_aloadn (pc := 133) dX12_worksOut_133 rfl (s_gR (pc := 134) (f := 22) ko_11 (by decide) rfl rfl w_1317 dX12_worksOut_134 (s_iloadn (pc := 137) dX12_worksOut_137 rfl (s_iconst (pc := 138) dX12_worksOut_138 c_ic_1 (s_isub (pc := 139) dX12_worksOut_139 (s_iald (pc := 140) (by decide) (by decide) rfl rfl rfl dX12_worksOut_140 (s_aloadn (pc := 141) dX12_worksOut_141 rfl (s_gR (pc := 142) (f := 22) ko_11 (by decide) rfl rfl w_1317 dX12_worksOut_142 (s_iloadn (pc := 145) dX12_worksOut_145 rfl (s_iald (pc := 146) (by decide) (by decide) rfl rfl rfl dX12_worksOut_146 (s_sI (pc := 147) (run_static (X12_two_gd _) (show 0 < 1 by decide) cy_X12_two w_1489 w_1488 dX12_worksOut_147) (s_iast (pc := 150) (by decide) (by decide) rfl rfl rfl dX12_worksOut_150 hk151))))))))))))))))))) (s_aloadn (pc := 94) dX12_worksOut_94 rfl (s_gR (pc := 95) (f := 22) ko_11 (by decide) rfl rfl w_1317 dX12_worksOut_95 (s_iloadn (pc := 98) dX12_worksOut_98 rfl (s_iconst (pc := 99) dX12_worksOut_99 c_ic_1 (s_isub (pc := 100) dX12_worksOut_100 (s_aloadn (pc := 101) dX12_worksOut_101 rfl (s_gR (pc := 102) (f := 22) ko_11 (by decide) rfl rfl w_1317 dX12_worksOut_102 (s_iloadn (pc := 105) dX12_worksOut_105 rfl (s_iconst (pc := 106) dX12_worksOut_106 c_ic_1 (s_isub (pc := 107) dX12_worksOut_107 (s_iald (pc := 108) (by decide) (by decide) rfl rfl rfl dX12_worksOut_108 (s_ifne (pc := 109) dX12_worksOut_109 (by decide) (s_iconst (pc := 116) dX12_worksOut_116 c_ic_0 hk117) (s_iconst (pc := 112) dX12_worksOut_112 c_ic_1 (s_goto (pc := 113) dX12_worksOut_113 (by decide) hk117))))))))))))))))) (s_aloadn (pc := 51) dX12_worksOut_51 rfl (s_gR (pc := 52) (f := 22) ko_11 (by decide) rfl rfl w_1317 dX12_worksOut_52 (s_iloadn (pc := 55) dX12_worksOut_55 rfl (s_iload (pc := 56) dX12_worksOut_56 (s_sipush (pc := 58) dX12_worksOut_58 c_sp_10000 (s_cmpge (pc := 61) dX12_worksOut_61 (by decide) (s_aloadn (pc := 69) dX12_worksOut_69 rfl (s_gR (pc := 70) (f := 23) ko_11 (by decide) rfl rfl w_1318 dX12_worksOut_70 (s_iload (pc := 73) dX12_worksOut_73 (s_sipush (pc := 75) dX12_worksOut_75 c_sp_10000 (s_isub (pc := 78) dX12_worksOut_78 (s_iald (pc := 79) (by decide) (by decide) rfl rfl rfl dX12_worksOut_79 hk80)))))) (s_iload (pc := 64) dX12_worksOut_64 (s_goto (pc := 66) dX12_worksOut_66 (by decide) hk80))))))))))))))))))))))))
noncomputable def X12_worksOut_b80 (k151 : Kn) : Kn := (a_ast 51 3264 (fun a => a) (a_inc 2 1 k151))
set_option maxRecDepth 100000 in
theorem X12_worksOut_s80 {z : CZ} {k151 : Kn} (hk151 : SK (X12_worksOut_x z) 151 k151) : SK (X12_worksOut_x z) 80 (X12_worksOut_b80 k151) := (s_iast (pc := 80) (by decide) (by decide) rfl rfl rfl dX12_worksOut_80 (s_iinc (pc := 81) dX12_worksOut_81 c_ic_1 (show 2 < 6 by decide) (s_goto (pc := 84) dX12_worksOut_84 (by decide) hk151)))
noncomputable def X12_worksOut_b117 (k151 : Kn) : Kn := (a_ast 51 3264 (fun a => a) k151)
set_option maxRecDepth 100000 in
theorem X12_worksOut_s117 {z : CZ} {k151 : Kn} (hk151 : SK (X12_worksOut_x z) 151 k151) : SK (X12_worksOut_x z) 117 (X12_worksOut_b117 k151) := (s_iast (pc := 117) (by decide) (by decide) rfl rfl rfl dX12_worksOut_117 (s_goto (pc := 118) dX12_worksOut_118 (by decide) hk151))
noncomputable def X12_worksOut_b151 (k22 : Kn) : Kn := (a_inc 4 1 k22)
set_option maxRecDepth 100000 in
theorem X12_worksOut_s151 {z : CZ} {k22 : Kn} (hk22 : SK (X12_worksOut_x z) 22 k22) : SK (X12_worksOut_x z) 151 (X12_worksOut_b151 k22) := (s_iinc (pc := 151) dX12_worksOut_151 c_ic_1 (show 4 < 6 by decide) (s_goto (pc := 154) dX12_worksOut_154 (by decide) hk22))
noncomputable def X12_worksOut_u22 (g : Nat → Int32 → Int32 → Int32 → Int32 → PH → Option Rs) : Kn := fun ls st h => gL 0 st (gT 11 ls 0 fun t => gI ls 1 fun x1 => gI ls 2 fun x2 => gI ls 3 fun x3 => gI ls 4 fun x4 => g t x1 x2 x3 x4 h)
noncomputable def X12_worksOut_u80 (g : Nat → Int32 → Int32 → Int32 → Int32 → Int32 → Int32 → Nat → PH → Option Rs) : Kn := fun ls st h => gL 3 st (gT 11 ls 0 fun t => gI ls 1 fun x1 => gI ls 2 fun x2 => gI ls 3 fun x3 => gI ls 4 fun x4 => gI (st.map some) 0 fun s0 => gI (st.map some) 1 fun s1 => gR 51 (st.map some) 2 fun s2 => g t x1 x2 x3 x4 s0 s1 s2 h)
noncomputable def X12_worksOut_u117 (g : Nat → Int32 → Int32 → Int32 → Int32 → Int32 → Int32 → Nat → PH → Option Rs) : Kn := fun ls st h => gL 3 st (gT 11 ls 0 fun t => gI ls 1 fun x1 => gI ls 2 fun x2 => gI ls 3 fun x3 => gI ls 4 fun x4 => gI (st.map some) 0 fun s0 => gI (st.map some) 1 fun s1 => gR 51 (st.map some) 2 fun s2 => g t x1 x2 x3 x4 s0 s1 s2 h)
noncomputable def X12_worksOut_u151 (g : Nat → Int32 → Int32 → Int32 → Int32 → PH → Option Rs) : Kn := fun ls st h => gL 0 st (gT 11 ls 0 fun t => gI ls 1 fun x1 => gI ls 2 fun x2 => gI ls 3 fun x3 => gI ls 4 fun x4 => g t x1 x2 x3 x4 h)
noncomputable def X12_worksOut_f0 (g22 : Nat → Int32 → Int32 → Int32 → Int32 → PH → Option Rs) (t : Nat) (x1 : Int32) (h : PH) : Option Rs :=
  nn (hR h 704 t 0) fun r1 =>
  ix (393 + (2 * x1)) (hL h 41 r1) fun j2 =>
  dv 1000 <|
  g22 t x1 0 (jrem (hI h 2624 r1 j2) 1000) 0 h
set_option maxRecDepth 100000 in
theorem X12_worksOut_l0 (g22 : Nat → Int32 → Int32 → Int32 → Int32 → PH → Option Rs) (t : Nat) (x1 : Int32) (h : PH) : X12_worksOut_b0 (X12_worksOut_u22 g22) [some (.inr (11, t + 1)), some (.inl x1), none, none, none, none] [] h = X12_worksOut_f0 g22 t x1 h := rfl
theorem X12_worksOut_m0 {g22 G22 : Nat → Int32 → Int32 → Int32 → Int32 → PH → Option Rs} (hg22 : ∀ a0 a1 a2 a3 a4 a5, Mo (g22 a0 a1 a2 a3 a4 a5) (G22 a0 a1 a2 a3 a4 a5)) (t : Nat) (x1 : Int32) (h : PH) : Mo (X12_worksOut_f0 g22 t x1 h) (X12_worksOut_f0 G22 t x1 h) := (mo_nn fun r1 => (mo_ix fun j2 => (mo_dv (hg22 t x1 0 (jrem (hI h 2624 r1 j2) 1000) 0 h))))
noncomputable def X12_worksOut_f22 (c_X12_two : Int32 → Int32 → Int32 → PH → Option Rs) (g80 : Nat → Int32 → Int32 → Int32 → Int32 → Int32 → Int32 → Nat → PH → Option Rs) (g117 : Nat → Int32 → Int32 → Int32 → Int32 → Int32 → Int32 → Nat → PH → Option Rs) (g151 : Nat → Int32 → Int32 → Int32 → Int32 → PH → Option Rs) (t : Nat) (x1 : Int32) (x2 : Int32) (x3 : Int32) (x4 : Int32) (h : PH) : Option Rs :=
  if x4 < x3 then
    nn (hR h 704 t 0) fun r5 =>
    ix ((421 + (96 * x1)) + x4) (hL h 41 r5) fun j6 =>
    if (hI h 2624 r5 j6) < 0 then
      if (hI h 2624 r5 j6) = (-10) then
        nn (hR h 726 t 0) fun r16 =>
        ix (x2 - 1) (hL h 51 r16) fun j17 =>
        if (hI h 3264 r16 j17) = 0 then
          g117 t x1 x2 x3 x4 1 (x2 - 1) (hR h 726 t 0) h
        else
          g117 t x1 x2 x3 x4 0 (x2 - 1) (hR h 726 t 0) h
      else
        nn (hR h 726 t 0) fun r7 =>
        ix ((x2 + (-1)) - 1) (hL h 51 r7) fun j8 =>
        nn (hR h 726 t 0) fun r9 =>
        ix (x2 + (-1)) (hL h 51 r9) fun j10 =>
        cI (c_X12_two (hI h 2624 r5 j6) (hI h 3264 r7 j8) (hI h 3264 r9 j10) h) fun v12 h11 =>
        nn (hR h 726 t 0) fun r13 =>
        ix ((x2 + (-1)) - 1) (hL h11 51 r13) fun j14 =>
        wr (pI h11 3264 r13 j14 v12) fun h15 =>
        g151 t x1 (x2 + (-1)) x3 x4 h15
    else
      if (hI h 2624 r5 j6) < 10000 then
        g80 t x1 x2 x3 x4 (hI h 2624 r5 j6) x2 (hR h 726 t 0) h
      else
        nn (hR h 727 t 0) fun r18 =>
        ix ((hI h 2624 r5 j6) - 10000) (hL h 52 r18) fun j19 =>
        g80 t x1 x2 x3 x4 (hI h 3328 r18 j19) x2 (hR h 726 t 0) h
  else
    nn (hR h 726 t 0) fun r3 =>
    ix 0 (hL h 51 r3) fun j4 =>
    some (some (.inl (hI h 3264 r3 j4)), h)
set_option maxRecDepth 100000 in
theorem X12_worksOut_l22 (c_X12_two : Int32 → Int32 → Int32 → PH → Option Rs) (g80 : Nat → Int32 → Int32 → Int32 → Int32 → Int32 → Int32 → Nat → PH → Option Rs) (g117 : Nat → Int32 → Int32 → Int32 → Int32 → Int32 → Int32 → Nat → PH → Option Rs) (g151 : Nat → Int32 → Int32 → Int32 → Int32 → PH → Option Rs) (t : Nat) (x1 : Int32) (x2 : Int32) (x3 : Int32) (x4 : Int32) (h : PH) : X12_worksOut_b22 c_X12_two (X12_worksOut_u80 g80) (X12_worksOut_u117 g117) (X12_worksOut_u151 g151) [some (.inr (11, t + 1)), some (.inl x1), some (.inl x2), some (.inl x3), some (.inl x4), none] [] h = X12_worksOut_f22 c_X12_two g80 g117 g151 t x1 x2 x3 x4 h := rfl
theorem X12_worksOut_m22 {c_X12_two : Int32 → Int32 → Int32 → PH → Option Rs} {g80 G80 : Nat → Int32 → Int32 → Int32 → Int32 → Int32 → Int32 → Nat → PH → Option Rs} {g117 G117 : Nat → Int32 → Int32 → Int32 → Int32 → Int32 → Int32 → Nat → PH → Option Rs} {g151 G151 : Nat → Int32 → Int32 → Int32 → Int32 → PH → Option Rs} (hg80 : ∀ a0 a1 a2 a3 a4 a5 a6 a7 a8, Mo (g80 a0 a1 a2 a3 a4 a5 a6 a7 a8) (G80 a0 a1 a2 a3 a4 a5 a6 a7 a8)) (hg117 : ∀ a0 a1 a2 a3 a4 a5 a6 a7 a8, Mo (g117 a0 a1 a2 a3 a4 a5 a6 a7 a8) (G117 a0 a1 a2 a3 a4 a5 a6 a7 a8)) (hg151 : ∀ a0 a1 a2 a3 a4 a5, Mo (g151 a0 a1 a2 a3 a4 a5) (G151 a0 a1 a2 a3 a4 a5)) (t : Nat) (x1 : Int32) (x2 : Int32) (x3 : Int32) (x4 : Int32) (h : PH) : Mo (X12_worksOut_f22 c_X12_two g80 g117 g151 t x1 x2 x3 x4 h) (X12_worksOut_f22 c_X12_two G80 G117 G151 t x1 x2 x3 x4 h) := (mo_if (mo_nn fun r5 => (mo_ix fun j6 => (mo_if (mo_if (mo_nn fun r16 => (mo_ix fun j17 => (mo_if (hg117 t x1 x2 x3 x4 1 (x2 - 1) (hR h 726 t 0) h) (hg117 t x1 x2 x3 x4 0 (x2 - 1) (hR h 726 t 0) h)))) (mo_nn fun r7 => (mo_ix fun j8 => (mo_nn fun r9 => (mo_ix fun j10 => (mo_cI fun v12 h11 => (mo_nn fun r13 => (mo_ix fun j14 => (mo_wr fun h15 => (hg151 t x1 (x2 + (-1)) x3 x4 h15)))))))))) (mo_if (hg80 t x1 x2 x3 x4 (hI h 2624 r5 j6) x2 (hR h 726 t 0) h) (mo_nn fun r18 => (mo_ix fun j19 => (hg80 t x1 x2 x3 x4 (hI h 3328 r18 j19) x2 (hR h 726 t 0) h))))))) (mo_nn fun r3 => (mo_ix fun j4 => mo_rf)))
theorem X12_worksOut_w22 {z : CZ} {g80 : Nat → Int32 → Int32 → Int32 → Int32 → Int32 → Int32 → Nat → PH → Option Rs} {g117 : Nat → Int32 → Int32 → Int32 → Int32 → Int32 → Int32 → Nat → PH → Option Rs} {g151 : Nat → Int32 → Int32 → Int32 → Int32 → PH → Option Rs} (hk80 : SK (X12_worksOut_x z) 80 (X12_worksOut_u80 g80)) (hk117 : SK (X12_worksOut_x z) 117 (X12_worksOut_u117 g117)) (hk151 : SK (X12_worksOut_x z) 151 (X12_worksOut_u151 g151)) : SK (X12_worksOut_x z) 22 (X12_worksOut_u22 (X12_worksOut_f22 X12_two g80 g117 g151)) := by
  intro ls st h r e
  obtain ⟨hst, e⟩ := gL_of e
  obtain ⟨t, q0, e⟩ := gT_of e
  obtain ⟨x1, q1, e⟩ := gI_of e
  obtain ⟨x2, q2, e⟩ := gI_of e
  obtain ⟨x3, q3, e⟩ := gI_of e
  obtain ⟨x4, q4, e⟩ := gI_of e
  rw [st_0 hst]
  exact WK.sub (canon := [some (.inr (11, t + 1)), some (.inl x1), some (.inl x2), some (.inl x3), some (.inl x4), none]) rfl ⟨q0, q1, q2, q3, q4, trivial⟩ (X12_worksOut_s22 hk80 hk117 hk151 _ _ _ _ ((X12_worksOut_l22 X12_two g80 g117 g151 t x1 x2 x3 x4 h).trans e))
noncomputable def X12_worksOut_f80 (g151 : Nat → Int32 → Int32 → Int32 → Int32 → PH → Option Rs) (t : Nat) (x1 : Int32) (x2 : Int32) (x3 : Int32) (x4 : Int32) (s0 : Int32) (s1 : Int32) (s2 : Nat) (h : PH) : Option Rs :=
  nn s2 fun r20 =>
  ix s1 (hL h 51 r20) fun j21 =>
  wr (pI h 3264 r20 j21 s0) fun h22 =>
  g151 t x1 (x2 + 1) x3 x4 h22
set_option maxRecDepth 100000 in
theorem X12_worksOut_l80 (g151 : Nat → Int32 → Int32 → Int32 → Int32 → PH → Option Rs) (t : Nat) (x1 : Int32) (x2 : Int32) (x3 : Int32) (x4 : Int32) (s0 : Int32) (s1 : Int32) (s2 : Nat) (h : PH) : X12_worksOut_b80 (X12_worksOut_u151 g151) [some (.inr (11, t + 1)), some (.inl x1), some (.inl x2), some (.inl x3), some (.inl x4), none] [.inl s0, .inl s1, .inr (51, s2)] h = X12_worksOut_f80 g151 t x1 x2 x3 x4 s0 s1 s2 h := rfl
theorem X12_worksOut_m80 {g151 G151 : Nat → Int32 → Int32 → Int32 → Int32 → PH → Option Rs} (hg151 : ∀ a0 a1 a2 a3 a4 a5, Mo (g151 a0 a1 a2 a3 a4 a5) (G151 a0 a1 a2 a3 a4 a5)) (t : Nat) (x1 : Int32) (x2 : Int32) (x3 : Int32) (x4 : Int32) (s0 : Int32) (s1 : Int32) (s2 : Nat) (h : PH) : Mo (X12_worksOut_f80 g151 t x1 x2 x3 x4 s0 s1 s2 h) (X12_worksOut_f80 G151 t x1 x2 x3 x4 s0 s1 s2 h) := (mo_nn fun r20 => (mo_ix fun j21 => (mo_wr fun h22 => (hg151 t x1 (x2 + 1) x3 x4 h22))))
theorem X12_worksOut_w80 {z : CZ} {g151 : Nat → Int32 → Int32 → Int32 → Int32 → PH → Option Rs} (hk151 : SK (X12_worksOut_x z) 151 (X12_worksOut_u151 g151)) : SK (X12_worksOut_x z) 80 (X12_worksOut_u80 (X12_worksOut_f80 g151)) := by
  intro ls st h r e
  obtain ⟨hst, e⟩ := gL_of e
  obtain ⟨t, q0, e⟩ := gT_of e
  obtain ⟨x1, q1, e⟩ := gI_of e
  obtain ⟨x2, q2, e⟩ := gI_of e
  obtain ⟨x3, q3, e⟩ := gI_of e
  obtain ⟨x4, q4, e⟩ := gI_of e
  obtain ⟨s0, q5, e⟩ := gI_of e
  obtain ⟨s1, q6, e⟩ := gI_of e
  obtain ⟨s2, q7, e⟩ := gR_of e
  rw [st_3 hst q5 q6 q7]
  exact WK.sub (canon := [some (.inr (11, t + 1)), some (.inl x1), some (.inl x2), some (.inl x3), some (.inl x4), none]) rfl ⟨q0, q1, q2, q3, q4, trivial⟩ (X12_worksOut_s80 hk151 _ _ _ _ ((X12_worksOut_l80 g151 t x1 x2 x3 x4 s0 s1 s2 h).trans e))
noncomputable def X12_worksOut_f117 (g151 : Nat → Int32 → Int32 → Int32 → Int32 → PH → Option Rs) (t : Nat) (x1 : Int32) (x2 : Int32) (x3 : Int32) (x4 : Int32) (s0 : Int32) (s1 : Int32) (s2 : Nat) (h : PH) : Option Rs :=
  nn s2 fun r23 =>
  ix s1 (hL h 51 r23) fun j24 =>
  wr (pI h 3264 r23 j24 s0) fun h25 =>
  g151 t x1 x2 x3 x4 h25
set_option maxRecDepth 100000 in
theorem X12_worksOut_l117 (g151 : Nat → Int32 → Int32 → Int32 → Int32 → PH → Option Rs) (t : Nat) (x1 : Int32) (x2 : Int32) (x3 : Int32) (x4 : Int32) (s0 : Int32) (s1 : Int32) (s2 : Nat) (h : PH) : X12_worksOut_b117 (X12_worksOut_u151 g151) [some (.inr (11, t + 1)), some (.inl x1), some (.inl x2), some (.inl x3), some (.inl x4), none] [.inl s0, .inl s1, .inr (51, s2)] h = X12_worksOut_f117 g151 t x1 x2 x3 x4 s0 s1 s2 h := rfl
theorem X12_worksOut_m117 {g151 G151 : Nat → Int32 → Int32 → Int32 → Int32 → PH → Option Rs} (hg151 : ∀ a0 a1 a2 a3 a4 a5, Mo (g151 a0 a1 a2 a3 a4 a5) (G151 a0 a1 a2 a3 a4 a5)) (t : Nat) (x1 : Int32) (x2 : Int32) (x3 : Int32) (x4 : Int32) (s0 : Int32) (s1 : Int32) (s2 : Nat) (h : PH) : Mo (X12_worksOut_f117 g151 t x1 x2 x3 x4 s0 s1 s2 h) (X12_worksOut_f117 G151 t x1 x2 x3 x4 s0 s1 s2 h) := (mo_nn fun r23 => (mo_ix fun j24 => (mo_wr fun h25 => (hg151 t x1 x2 x3 x4 h25))))
theorem X12_worksOut_w117 {z : CZ} {g151 : Nat → Int32 → Int32 → Int32 → Int32 → PH → Option Rs} (hk151 : SK (X12_worksOut_x z) 151 (X12_worksOut_u151 g151)) : SK (X12_worksOut_x z) 117 (X12_worksOut_u117 (X12_worksOut_f117 g151)) := by
  intro ls st h r e
  obtain ⟨hst, e⟩ := gL_of e
  obtain ⟨t, q0, e⟩ := gT_of e
  obtain ⟨x1, q1, e⟩ := gI_of e
  obtain ⟨x2, q2, e⟩ := gI_of e
  obtain ⟨x3, q3, e⟩ := gI_of e
  obtain ⟨x4, q4, e⟩ := gI_of e
  obtain ⟨s0, q5, e⟩ := gI_of e
  obtain ⟨s1, q6, e⟩ := gI_of e
  obtain ⟨s2, q7, e⟩ := gR_of e
  rw [st_3 hst q5 q6 q7]
  exact WK.sub (canon := [some (.inr (11, t + 1)), some (.inl x1), some (.inl x2), some (.inl x3), some (.inl x4), none]) rfl ⟨q0, q1, q2, q3, q4, trivial⟩ (X12_worksOut_s117 hk151 _ _ _ _ ((X12_worksOut_l117 g151 t x1 x2 x3 x4 s0 s1 s2 h).trans e))
noncomputable def X12_worksOut_f151 (g22 : Nat → Int32 → Int32 → Int32 → Int32 → PH → Option Rs) (t : Nat) (x1 : Int32) (x2 : Int32) (x3 : Int32) (x4 : Int32) (h : PH) : Option Rs :=
  g22 t x1 x2 x3 (x4 + 1) h
set_option maxRecDepth 100000 in
theorem X12_worksOut_l151 (g22 : Nat → Int32 → Int32 → Int32 → Int32 → PH → Option Rs) (t : Nat) (x1 : Int32) (x2 : Int32) (x3 : Int32) (x4 : Int32) (h : PH) : X12_worksOut_b151 (X12_worksOut_u22 g22) [some (.inr (11, t + 1)), some (.inl x1), some (.inl x2), some (.inl x3), some (.inl x4), none] [] h = X12_worksOut_f151 g22 t x1 x2 x3 x4 h := rfl
theorem X12_worksOut_m151 {g22 G22 : Nat → Int32 → Int32 → Int32 → Int32 → PH → Option Rs} (hg22 : ∀ a0 a1 a2 a3 a4 a5, Mo (g22 a0 a1 a2 a3 a4 a5) (G22 a0 a1 a2 a3 a4 a5)) (t : Nat) (x1 : Int32) (x2 : Int32) (x3 : Int32) (x4 : Int32) (h : PH) : Mo (X12_worksOut_f151 g22 t x1 x2 x3 x4 h) (X12_worksOut_f151 G22 t x1 x2 x3 x4 h) := (hg22 t x1 x2 x3 (x4 + 1) h)
theorem X12_worksOut_w151 {z : CZ} {g22 : Nat → Int32 → Int32 → Int32 → Int32 → PH → Option Rs} (hk22 : SK (X12_worksOut_x z) 22 (X12_worksOut_u22 g22)) : SK (X12_worksOut_x z) 151 (X12_worksOut_u151 (X12_worksOut_f151 g22)) := by
  intro ls st h r e
  obtain ⟨hst, e⟩ := gL_of e
  obtain ⟨t, q0, e⟩ := gT_of e
  obtain ⟨x1, q1, e⟩ := gI_of e
  obtain ⟨x2, q2, e⟩ := gI_of e
  obtain ⟨x3, q3, e⟩ := gI_of e
  obtain ⟨x4, q4, e⟩ := gI_of e
  rw [st_0 hst]
  exact WK.sub (canon := [some (.inr (11, t + 1)), some (.inl x1), some (.inl x2), some (.inl x3), some (.inl x4), none]) rfl ⟨q0, q1, q2, q3, q4, trivial⟩ (X12_worksOut_s151 hk22 _ _ _ _ ((X12_worksOut_l151 g22 t x1 x2 x3 x4 h).trans e))
noncomputable def X12_worksOut_g0 (G : (Nat → Int32 → Int32 → Int32 → Int32 → PH → Option Rs)) (t : Nat) (x1 : Int32) (h : PH) : Option Rs := X12_worksOut_f0 (G) t x1 h
noncomputable def X12_worksOut_g151 (G : (Nat → Int32 → Int32 → Int32 → Int32 → PH → Option Rs)) (t : Nat) (x1 : Int32) (x2 : Int32) (x3 : Int32) (x4 : Int32) (h : PH) : Option Rs := X12_worksOut_f151 (G) t x1 x2 x3 x4 h
noncomputable def X12_worksOut_g80 (G : (Nat → Int32 → Int32 → Int32 → Int32 → PH → Option Rs)) (t : Nat) (x1 : Int32) (x2 : Int32) (x3 : Int32) (x4 : Int32) (s0 : Int32) (s1 : Int32) (s2 : Nat) (h : PH) : Option Rs := X12_worksOut_f80 (X12_worksOut_g151 G) t x1 x2 x3 x4 s0 s1 s2 h
noncomputable def X12_worksOut_g117 (G : (Nat → Int32 → Int32 → Int32 → Int32 → PH → Option Rs)) (t : Nat) (x1 : Int32) (x2 : Int32) (x3 : Int32) (x4 : Int32) (s0 : Int32) (s1 : Int32) (s2 : Nat) (h : PH) : Option Rs := X12_worksOut_f117 (X12_worksOut_g151 G) t x1 x2 x3 x4 s0 s1 s2 h
noncomputable def X12_worksOut_g22 (G : (Nat → Int32 → Int32 → Int32 → Int32 → PH → Option Rs)) (t : Nat) (x1 : Int32) (x2 : Int32) (x3 : Int32) (x4 : Int32) (h : PH) : Option Rs := X12_worksOut_f22 X12_two (X12_worksOut_g80 G) (X12_worksOut_g117 G) (X12_worksOut_g151 G) t x1 x2 x3 x4 h
theorem X12_worksOut_v151 {z : CZ} {G : (Nat → Int32 → Int32 → Int32 → Int32 → PH → Option Rs)} (hG22 : SK (X12_worksOut_x z) 22 (X12_worksOut_u22 (G))) : SK (X12_worksOut_x z) 151 (X12_worksOut_u151 (X12_worksOut_g151 G)) := X12_worksOut_w151 hG22
theorem X12_worksOut_v80 {z : CZ} {G : (Nat → Int32 → Int32 → Int32 → Int32 → PH → Option Rs)} (hG22 : SK (X12_worksOut_x z) 22 (X12_worksOut_u22 (G))) : SK (X12_worksOut_x z) 80 (X12_worksOut_u80 (X12_worksOut_g80 G)) := X12_worksOut_w80 (X12_worksOut_v151 hG22)
theorem X12_worksOut_v117 {z : CZ} {G : (Nat → Int32 → Int32 → Int32 → Int32 → PH → Option Rs)} (hG22 : SK (X12_worksOut_x z) 22 (X12_worksOut_u22 (G))) : SK (X12_worksOut_x z) 117 (X12_worksOut_u117 (X12_worksOut_g117 G)) := X12_worksOut_w117 (X12_worksOut_v151 hG22)
theorem X12_worksOut_v22 {z : CZ} {G : (Nat → Int32 → Int32 → Int32 → Int32 → PH → Option Rs)} (hG22 : SK (X12_worksOut_x z) 22 (X12_worksOut_u22 (G))) : SK (X12_worksOut_x z) 22 (X12_worksOut_u22 (X12_worksOut_g22 G)) := X12_worksOut_w22 (X12_worksOut_v80 hG22) (X12_worksOut_v117 hG22) (X12_worksOut_v151 hG22)
noncomputable def X12_worksOut_fam : Nat → (Nat → Int32 → Int32 → Int32 → Int32 → PH → Option Rs)
  | 0 => fun _ _ _ _ _ _ => none
  | n + 1 => X12_worksOut_g22 (X12_worksOut_fam n)
theorem X12_worksOut_k {z : CZ} : ∀ n, SK (X12_worksOut_x z) 22 (X12_worksOut_u22 (X12_worksOut_fam n))
  | 0 => (fun ls st h r e => by
      obtain ⟨_, e⟩ := gL_of e
      obtain ⟨_, _, e⟩ := gT_of e
      obtain ⟨_, _, e⟩ := gI_of e
      obtain ⟨_, _, e⟩ := gI_of e
      obtain ⟨_, _, e⟩ := gI_of e
      obtain ⟨_, _, e⟩ := gI_of e
      cases e)
  | n + 1 => by
    obtain ih22 := X12_worksOut_k n
    exact X12_worksOut_v22 ih22
theorem X12_worksOut_n0 {G G' : (Nat → Int32 → Int32 → Int32 → Int32 → PH → Option Rs)} (hg22 : ∀ a0 a1 a2 a3 a4 a5, Mo ((G) a0 a1 a2 a3 a4 a5) ((G') a0 a1 a2 a3 a4 a5)) (t : Nat) (x1 : Int32) (h : PH) : Mo (X12_worksOut_g0 G t x1 h) (X12_worksOut_g0 G' t x1 h) := X12_worksOut_m0 hg22 t x1 h
theorem X12_worksOut_n151 {G G' : (Nat → Int32 → Int32 → Int32 → Int32 → PH → Option Rs)} (hg22 : ∀ a0 a1 a2 a3 a4 a5, Mo ((G) a0 a1 a2 a3 a4 a5) ((G') a0 a1 a2 a3 a4 a5)) (t : Nat) (x1 : Int32) (x2 : Int32) (x3 : Int32) (x4 : Int32) (h : PH) : Mo (X12_worksOut_g151 G t x1 x2 x3 x4 h) (X12_worksOut_g151 G' t x1 x2 x3 x4 h) := X12_worksOut_m151 hg22 t x1 x2 x3 x4 h
theorem X12_worksOut_n80 {G G' : (Nat → Int32 → Int32 → Int32 → Int32 → PH → Option Rs)} (hg22 : ∀ a0 a1 a2 a3 a4 a5, Mo ((G) a0 a1 a2 a3 a4 a5) ((G') a0 a1 a2 a3 a4 a5)) (t : Nat) (x1 : Int32) (x2 : Int32) (x3 : Int32) (x4 : Int32) (s0 : Int32) (s1 : Int32) (s2 : Nat) (h : PH) : Mo (X12_worksOut_g80 G t x1 x2 x3 x4 s0 s1 s2 h) (X12_worksOut_g80 G' t x1 x2 x3 x4 s0 s1 s2 h) := X12_worksOut_m80 (fun a0 a1 a2 a3 a4 a5 => X12_worksOut_n151 hg22 a0 a1 a2 a3 a4 a5) t x1 x2 x3 x4 s0 s1 s2 h
theorem X12_worksOut_n117 {G G' : (Nat → Int32 → Int32 → Int32 → Int32 → PH → Option Rs)} (hg22 : ∀ a0 a1 a2 a3 a4 a5, Mo ((G) a0 a1 a2 a3 a4 a5) ((G') a0 a1 a2 a3 a4 a5)) (t : Nat) (x1 : Int32) (x2 : Int32) (x3 : Int32) (x4 : Int32) (s0 : Int32) (s1 : Int32) (s2 : Nat) (h : PH) : Mo (X12_worksOut_g117 G t x1 x2 x3 x4 s0 s1 s2 h) (X12_worksOut_g117 G' t x1 x2 x3 x4 s0 s1 s2 h) := X12_worksOut_m117 (fun a0 a1 a2 a3 a4 a5 => X12_worksOut_n151 hg22 a0 a1 a2 a3 a4 a5) t x1 x2 x3 x4 s0 s1 s2 h
theorem X12_worksOut_n22 {G G' : (Nat → Int32 → Int32 → Int32 → Int32 → PH → Option Rs)} (hg22 : ∀ a0 a1 a2 a3 a4 a5, Mo ((G) a0 a1 a2 a3 a4 a5) ((G') a0 a1 a2 a3 a4 a5)) (t : Nat) (x1 : Int32) (x2 : Int32) (x3 : Int32) (x4 : Int32) (h : PH) : Mo (X12_worksOut_g22 G t x1 x2 x3 x4 h) (X12_worksOut_g22 G' t x1 x2 x3 x4 h) := X12_worksOut_m22 (fun a0 a1 a2 a3 a4 a5 a6 a7 a8 => X12_worksOut_n80 hg22 a0 a1 a2 a3 a4 a5 a6 a7 a8) (fun a0 a1 a2 a3 a4 a5 a6 a7 a8 => X12_worksOut_n117 hg22 a0 a1 a2 a3 a4 a5 a6 a7 a8) (fun a0 a1 a2 a3 a4 a5 => X12_worksOut_n151 hg22 a0 a1 a2 a3 a4 a5) t x1 x2 x3 x4 h
theorem X12_worksOut_fm : ∀ n, (∀ a0 a1 a2 a3 a4 a5, Mo ((X12_worksOut_fam n) a0 a1 a2 a3 a4 a5) ((X12_worksOut_fam (n + 1)) a0 a1 a2 a3 a4 a5))
  | 0 => fun _ _ _ _ _ _ => mo_no
  | n + 1 => by
    obtain ih22 := X12_worksOut_fm n
    exact fun a0 a1 a2 a3 a4 a5 => X12_worksOut_n22 ih22 a0 a1 a2 a3 a4 a5
noncomputable def X12_worksOut (t : Nat) (x1 : Int32) (h : PH) : Option Rs := lim (fun n => X12_worksOut_g0 (X12_worksOut_fam n) t x1 h)
theorem X12_worksOut_iff {t : Nat} {x1 : Int32} {h : PH} {r : Rs} : X12_worksOut t x1 h = some r ↔ ∃ n, X12_worksOut_g0 (X12_worksOut_fam n) t x1 h = some r := lim_iff (fun n => by
  obtain ih22 := X12_worksOut_fm n
  exact X12_worksOut_n0 ih22 t x1 h)
noncomputable abbrev X12_worksOut_F : List PV → PH → Option Rs := FW_T11I (X12_worksOut)
set_option maxRecDepth 100000 in
theorem X12_worksOut_gd (l : Launch) : Gd l 1 yX12_worksOut cX12_worksOut 6 (some .int) (X12_worksOut_F)   := Gd_of (by decide +kernel) (fun z hzl as h r e => by
  obtain ⟨hst, e⟩ := gL_of e
  obtain ⟨t, q0, e⟩ := gT_of e
  obtain ⟨x1, q1, e⟩ := gI_of e
  rw [st_2 hst q0 q1]
  obtain ⟨n, e⟩ := lim_of e
  obtain hG22 := X12_worksOut_k (z := z) n
  exact ⟨show 2 ≤ 6 by decide, X12_worksOut_s0 hG22 _ _ _ _ ((X12_worksOut_l0 (X12_worksOut_fam n) t x1 h).trans e)⟩)
abbrev X12_passes_x (z : CZ) : CX := mx RX12 cX12_passes 5 2 (some .boolean) "passes" z
noncomputable def X12_passes_b0 (k39 : Kn) : Kn := (a_ic 15 (a_ic 6 (a_il 1 (a_b (fun a b => a * b) (a_b (fun a b => a + b) (a_is 3 (a_al 0 (a_gR 11 704 41 (a_il 3 (a_ic 5 (a_b (fun a b => a + b) (a_ald 41 2624 (a_ic 1 (a_eq (a_ic 0 a_zr) (a_al 0 (a_gR 11 704 41 (a_il 3 (a_ic 3 (a_b (fun a b => a + b) (a_ald 41 2624 (a_ic 1 (a_eq (a_il 2 (a_ic 1 (a_eq (a_ic 0 a_zr) k39))) k39))))))))))))))))))))))
set_option maxRecDepth 100000 in
theorem X12_passes_s0 {z : CZ} {k39 : Kn} (hk39 : SK (X12_passes_x z) 39 k39) : SK (X12_passes_x z) 0 (X12_passes_b0 k39) := (s_bipush (pc := 0) dX12_passes_0 c_bp_15 (s_bipush (pc := 2) dX12_passes_2 c_bp_6 (s_iloadn (pc := 4) dX12_passes_4 rfl (s_imul (pc := 5) dX12_passes_5 (s_iadd (pc := 6) dX12_passes_6 (s_istoren (pc := 7) dX12_passes_7 rfl (show 3 < 5 by decide) (s_aloadn (pc := 8) dX12_passes_8 rfl (s_gR (pc := 9) (f := 0) ko_11 (by decide) rfl rfl w_1295 dX12_passes_9 (s_iloadn (pc := 12) dX12_passes_12 rfl (s_iconst (pc := 13) dX12_passes_13 c_ic_5 (s_iadd (pc := 14) dX12_passes_14 (s_iald (pc := 15) (by decide) (by decide) rfl rfl rfl dX12_passes_15 (s_iconst (pc := 16) dX12_passes_16 c_ic_1 (s_cmpeq (pc := 17) dX12_passes_17 (by decide) (s_iconst (pc := 37) dX12_passes_37 c_ic_0 (s_zr (pc := 38) rfl dX12_passes_38)) (s_aloadn (pc := 20) dX12_passes_20 rfl (s_gR (pc := 21) (f := 0) ko_11 (by decide) rfl rfl w_1295 dX12_passes_21 (s_iloadn (pc := 24) dX12_passes_24 rfl (s_iconst (pc := 25) dX12_passes_25 c_ic_3 (s_iadd (pc := 26) dX12_passes_26 (s_iald (pc := 27) (by decide) (by decide) rfl rfl rfl dX12_passes_27 (s_iconst (pc := 28) dX12_passes_28 c_ic_1 (s_cmpne (pc := 29) dX12_passes_29 (by decide) hk39 (s_iloadn (pc := 32) dX12_passes_32 rfl (s_iconst (pc := 33) dX12_passes_33 c_ic_1 (s_cmpne (pc := 34) dX12_passes_34 (by decide) hk39 (s_iconst (pc := 37) dX12_passes_37 c_ic_0 (s_zr (pc := 38) rfl dX12_passes_38)))))))))))))))))))))))))))
noncomputable def X12_passes_b39 (c_X12_counts : Nat → Int32 → PH → Option Rs) (c_X12_worksOut : Nat → Int32 → PH → Option Rs) (c_X12_in : Int32 → Int32 → Int32 → PH → Option Rs) : Kn := (a_al 0 (a_gR 11 704 41 (a_il 3 (a_ic 3 (a_b (fun a b => a + b) (a_ald 41 2624 (a_ic 3 (a_eq (a_al 0 (a_ic 1 (a_vI 11 1 (FW_T11I c_X12_counts) (a_is 4 (a_al 0 (a_gR 11 727 52 (a_ic 0 (a_al 0 (a_gR 11 704 41 (a_ic 1 (a_ald 41 2624 (a_ast 52 3328 (fun a => a) (a_al 0 (a_gR 11 727 52 (a_ic 1 (a_al 0 (a_gR 11 704 41 (a_ic 2 (a_ald 41 2624 (a_ast 52 3328 (fun a => a) (a_al 0 (a_gR 11 727 52 (a_ic 2 (a_al 0 (a_gR 11 704 41 (a_il 3 (a_ic 4 (a_b (fun a b => a + b) (a_ald 41 2624 (a_ast 52 3328 (fun a => a) (a_il 4 (a_n (a_al 0 (a_gR 11 704 41 (a_ic 1 (a_ald 41 2624 (a_ic 6 (a_ic 21 (a_sI 3 (FW_III c_X12_in) a_zr))))))) (a_al 0 (a_il 4 (a_vI 11 1 (FW_T11I c_X12_worksOut) (a_z (a_ic 0 a_zr) (a_ic 1 a_zr))))))))))))))))))))))))))))))))))))) (a_ic 1 a_zr)))))))))
set_option maxRecDepth 100000 in
theorem X12_passes_s39 {z : CZ} : SK (X12_passes_x z) 39 (X12_passes_b39 X12_counts X12_worksOut X12_in) := (s_aloadn (pc := 39) dX12_passes_39 rfl (s_gR (pc := 40) (f := 0) ko_11 (by decide) rfl rfl w_1295 dX12_passes_40 (s_iloadn (pc := 43) dX12_passes_43 rfl (s_iconst (pc := 44) dX12_passes_44 c_ic_3 (s_iadd (pc := 45) dX12_passes_45 (s_iald (pc := 46) (by decide) (by decide) rfl rfl rfl dX12_passes_46 (s_iconst (pc := 47) dX12_passes_47 c_ic_3 (s_cmpeq (pc := 48) dX12_passes_48 (by decide) (s_aloadn (pc := 53) dX12_passes_53 rfl (s_iconst (pc := 54) dX12_passes_54 c_ic_1 (s_vI (pc := 55) (run_virtual (X12_counts_gd _) (show 0 < 2 by decide) cy_X12_counts (by decide) rfl w_1482 w_s32 w_1480 dX12_passes_55) (s_istore (pc := 58) dX12_passes_58 (show 4 < 5 by decide) (s_aloadn (pc := 60) dX12_passes_60 rfl (s_gR (pc := 61) (f := 23) ko_11 (by decide) rfl rfl w_1318 dX12_passes_61 (s_iconst (pc := 64) dX12_passes_64 c_ic_0 (s_aloadn (pc := 65) dX12_passes_65 rfl (s_gR (pc := 66) (f := 0) ko_11 (by decide) rfl rfl w_1295 dX12_passes_66 (s_iconst (pc := 69) dX12_passes_69 c_ic_1 (s_iald (pc := 70) (by decide) (by decide) rfl rfl rfl dX12_passes_70 (s_iast (pc := 71) (by decide) (by decide) rfl rfl rfl dX12_passes_71 (s_aloadn (pc := 72) dX12_passes_72 rfl (s_gR (pc := 73) (f := 23) ko_11 (by decide) rfl rfl w_1318 dX12_passes_73 (s_iconst (pc := 76) dX12_passes_76 c_ic_1 (s_aloadn (pc := 77) dX12_passes_77 rfl (s_gR (pc := 78) (f := 0) ko_11 (by decide) rfl rfl w_1295 dX12_passes_78 (s_iconst (pc := 81) dX12_passes_81 c_ic_2 (s_iald (pc := 82) (by decide) (by decide) rfl rfl rfl dX12_passes_82 (s_iast (pc := 83) (by decide) (by decide) rfl rfl rfl dX12_passes_83 (s_aloadn (pc := 84) dX12_passes_84 rfl (s_gR (pc := 85) (f := 23) ko_11 (by decide) rfl rfl w_1318 dX12_passes_85 (s_iconst (pc := 88) dX12_passes_88 c_ic_2 (s_aloadn (pc := 89) dX12_passes_89 rfl (s_gR (pc := 90) (f := 0) ko_11 (by decide) rfl rfl w_1295 dX12_passes_90 (s_iloadn (pc := 93) dX12_passes_93 rfl (s_iconst (pc := 94) dX12_passes_94 c_ic_4 (s_iadd (pc := 95) dX12_passes_95 (s_iald (pc := 96) (by decide) (by decide) rfl rfl rfl dX12_passes_96 (s_iast (pc := 97) (by decide) (by decide) rfl rfl rfl dX12_passes_97 (s_iload (pc := 98) dX12_passes_98 (s_ifge (pc := 100) dX12_passes_100 (by decide) (s_aloadn (pc := 119) dX12_passes_119 rfl (s_iload (pc := 120) dX12_passes_120 (s_vI (pc := 122) (run_virtual (X12_worksOut_gd _) (show 1 < 2 by decide) cy_X12_worksOut (by decide) rfl w_1486 w_s33 w_1484 dX12_passes_122) (s_ifeq (pc := 125) dX12_passes_125 (by decide) (s_iconst (pc := 132) dX12_passes_132 c_ic_0 (s_zr (pc := 133) rfl dX12_passes_133)) (s_iconst (pc := 128) dX12_passes_128 c_ic_1 (s_goto (pc := 129) dX12_passes_129 (by decide) (s_zr (pc := 133) rfl dX12_passes_133))))))) (s_aloadn (pc := 103) dX12_passes_103 rfl (s_gR (pc := 104) (f := 0) ko_11 (by decide) rfl rfl w_1295 dX12_passes_104 (s_iconst (pc := 107) dX12_passes_107 c_ic_1 (s_iald (pc := 108) (by decide) (by decide) rfl rfl rfl dX12_passes_108 (s_bipush (pc := 109) dX12_passes_109 c_bp_6 (s_bipush (pc := 111) dX12_passes_111 c_bp_21 (s_sI (pc := 113) (run_static (X12_in_gd _) (show 0 < 2 by decide) cy_X12_in w_1464 w_1463 dX12_passes_113) (s_goto (pc := 116) dX12_passes_116 (by decide) (s_zr (pc := 133) rfl dX12_passes_133))))))))))))))))))))))))))))))))))))))))) (s_iconst (pc := 51) dX12_passes_51 c_ic_1 (s_zr (pc := 52) rfl dX12_passes_52))))))))))
noncomputable def X12_passes_u39 (g : Nat → Int32 → PH → Option Rs) : Kn := fun ls st h => gL 0 st (gT 11 ls 0 fun t => gI ls 3 fun x3 => g t x3 h)
noncomputable def X12_passes_f0 (g39 : Nat → Int32 → PH → Option Rs) (t : Nat) (x1 : Int32) (x2 : Int32) (h : PH) : Option Rs :=
  nn (hR h 704 t 0) fun r1 =>
  ix ((15 + (6 * x1)) + 5) (hL h 41 r1) fun j2 =>
  if (hI h 2624 r1 j2) = 1 then
    bz 0 <|
    some (some (.inl 0), h)
  else
    nn (hR h 704 t 0) fun r3 =>
    ix ((15 + (6 * x1)) + 3) (hL h 41 r3) fun j4 =>
    if (hI h 2624 r3 j4) = 1 then
      if x2 = 1 then
        bz 0 <|
        some (some (.inl 0), h)
      else
        g39 t (15 + (6 * x1)) h
    else
      g39 t (15 + (6 * x1)) h
set_option maxRecDepth 100000 in
theorem X12_passes_l0 (g39 : Nat → Int32 → PH → Option Rs) (t : Nat) (x1 : Int32) (x2 : Int32) (h : PH) : X12_passes_b0 (X12_passes_u39 g39) [some (.inr (11, t + 1)), some (.inl x1), some (.inl x2), none, none] [] h = X12_passes_f0 g39 t x1 x2 h := rfl
theorem X12_passes_m0 {g39 G39 : Nat → Int32 → PH → Option Rs} (hg39 : ∀ a0 a1 a2, Mo (g39 a0 a1 a2) (G39 a0 a1 a2)) (t : Nat) (x1 : Int32) (x2 : Int32) (h : PH) : Mo (X12_passes_f0 g39 t x1 x2 h) (X12_passes_f0 G39 t x1 x2 h) := (mo_nn fun r1 => (mo_ix fun j2 => (mo_if (mo_bz mo_rf) (mo_nn fun r3 => (mo_ix fun j4 => (mo_if (mo_if (mo_bz mo_rf) (hg39 t (15 + (6 * x1)) h)) (hg39 t (15 + (6 * x1)) h)))))))
noncomputable def X12_passes_f39 (c_X12_counts : Nat → Int32 → PH → Option Rs) (c_X12_worksOut : Nat → Int32 → PH → Option Rs) (c_X12_in : Int32 → Int32 → Int32 → PH → Option Rs) (t : Nat) (x3 : Int32) (h : PH) : Option Rs :=
  nn (hR h 704 t 0) fun r5 =>
  ix (x3 + 3) (hL h 41 r5) fun j6 =>
  if (hI h 2624 r5 j6) = 3 then
    cI (c_X12_counts t 1 h) fun v8 h7 =>
    nn (hR h7 704 t 0) fun r9 =>
    ix 1 (hL h7 41 r9) fun j10 =>
    nn (hR h7 727 t 0) fun r11 =>
    ix 0 (hL h7 52 r11) fun j12 =>
    wr (pI h7 3328 r11 j12 (hI h7 2624 r9 j10)) fun h13 =>
    nn (hR h13 704 t 0) fun r14 =>
    ix 2 (hL h13 41 r14) fun j15 =>
    nn (hR h13 727 t 0) fun r16 =>
    ix 1 (hL h13 52 r16) fun j17 =>
    wr (pI h13 3328 r16 j17 (hI h13 2624 r14 j15)) fun h18 =>
    nn (hR h18 704 t 0) fun r19 =>
    ix (x3 + 4) (hL h18 41 r19) fun j20 =>
    nn (hR h18 727 t 0) fun r21 =>
    ix 2 (hL h18 52 r21) fun j22 =>
    wr (pI h18 3328 r21 j22 (hI h18 2624 r19 j20)) fun h23 =>
    if v8 < 0 then
      nn (hR h23 704 t 0) fun r26 =>
      ix 1 (hL h23 41 r26) fun j27 =>
      cI (c_X12_in (hI h23 2624 r26 j27) 6 21 h23) fun v29 h28 =>
      bz v29 <|
      some (some (.inl v29), h28)
    else
      cI (c_X12_worksOut t v8 h23) fun v25 h24 =>
      if v25 = 0 then
        bz 0 <|
        some (some (.inl 0), h24)
      else
        bz 1 <|
        some (some (.inl 1), h24)
  else
    bz 1 <|
    some (some (.inl 1), h)
set_option maxRecDepth 100000 in
theorem X12_passes_l39 (c_X12_counts : Nat → Int32 → PH → Option Rs) (c_X12_worksOut : Nat → Int32 → PH → Option Rs) (c_X12_in : Int32 → Int32 → Int32 → PH → Option Rs) (t : Nat) (x3 : Int32) (h : PH) : X12_passes_b39 c_X12_counts c_X12_worksOut c_X12_in [some (.inr (11, t + 1)), none, none, some (.inl x3), none] [] h = X12_passes_f39 c_X12_counts c_X12_worksOut c_X12_in t x3 h := rfl
theorem X12_passes_w39 {z : CZ} : SK (X12_passes_x z) 39 (X12_passes_u39 (X12_passes_f39 X12_counts X12_worksOut X12_in)) := by
  intro ls st h r e
  obtain ⟨hst, e⟩ := gL_of e
  obtain ⟨t, q0, e⟩ := gT_of e
  obtain ⟨x3, q1, e⟩ := gI_of e
  rw [st_0 hst]
  exact WK.sub (canon := [some (.inr (11, t + 1)), none, none, some (.inl x3), none]) rfl ⟨q0, q1, trivial⟩ (X12_passes_s39 _ _ _ _ ((X12_passes_l39 X12_counts X12_worksOut X12_in t x3 h).trans e))
noncomputable def X12_passes_g39 (t : Nat) (x3 : Int32) (h : PH) : Option Rs := X12_passes_f39 X12_counts X12_worksOut X12_in t x3 h
noncomputable def X12_passes_g0 (t : Nat) (x1 : Int32) (x2 : Int32) (h : PH) : Option Rs := X12_passes_f0 (X12_passes_g39) t x1 x2 h
theorem X12_passes_v39 {z : CZ} : SK (X12_passes_x z) 39 (X12_passes_u39 (X12_passes_g39)) := X12_passes_w39
noncomputable def X12_passes (t : Nat) (x1 : Int32) (x2 : Int32) (h : PH) : Option Rs := X12_passes_g0 t x1 x2 h
noncomputable abbrev X12_passes_F : List PV → PH → Option Rs := FW_T11II (X12_passes)
set_option maxRecDepth 100000 in
theorem X12_passes_gd (l : Launch) : Gd l 2 yX12_passes cX12_passes 5 (some .boolean) (X12_passes_F)   := Gd_of (by decide +kernel) (fun z hzl as h r e => by
  obtain ⟨hst, e⟩ := gL_of e
  obtain ⟨t, q0, e⟩ := gT_of e
  obtain ⟨x1, q1, e⟩ := gI_of e
  obtain ⟨x2, q2, e⟩ := gI_of e
  rw [st_3 hst q0 q1 q2]
  exact ⟨show 3 ≤ 5 by decide, X12_passes_s0 (X12_passes_v39) _ _ _ _ ((X12_passes_l0 (X12_passes_g39) t x1 x2 h).trans e)⟩)
