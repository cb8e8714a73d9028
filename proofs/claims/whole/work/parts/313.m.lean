abbrev X12_wayTold_x (z : CZ) : CX := mx RX12 cX12_wayTold 3 3 (some .int) "wayTold" z
noncomputable def X12_wayTold_b0 (c_X12_in : Int32 → Int32 → Int32 → PH → Option Rs) (c_X12_passes : Nat → Int32 → Int32 → PH → Option Rs) : Kn := (a_il 1 (a_ic 0 (a_al 0 (a_gR 11 704 41 (a_ic 4 (a_ald 41 2624 (a_ic 1 (a_b (fun a b => a - b) (a_sI 3 (FW_III c_X12_in) (a_z (a_ic (-1000000001) a_ir) (a_il 2 (a_ic 0 (a_ic 7 (a_sI 3 (FW_III c_X12_in) (a_z (a_ic (-1000000001) a_ir) (a_il 2 (a_ic 6 (a_lt (a_al 0 (a_gR 11 704 41 (a_ic 15 (a_ic 6 (a_il 1 (a_b (fun a b => a * b) (a_b (fun a b => a + b) (a_il 2 (a_b (fun a b => a + b) (a_ald 41 2624 a_ir)))))))))) (a_al 0 (a_il 1 (a_il 2 (a_ic 6 (a_b (fun a b => a - b) (a_vI 11 2 (FW_T11II c_X12_passes) (a_z (a_ic 0 a_ir) (a_ic 1 a_ir))))))))))))))))))))))))))
set_option maxRecDepth 100000 in
theorem X12_wayTold_s0 {z : CZ} : SK (X12_wayTold_x z) 0 (X12_wayTold_b0 X12_in X12_passes) := (s_iloadn (pc := 0) dX12_wayTold_0 rfl (s_iconst (pc := 1) dX12_wayTold_1 c_ic_0 (s_aloadn (pc := 2) dX12_wayTold_2 rfl (s_gR (pc := 3) (f := 0) ko_11 (by decide) rfl rfl w_1295 dX12_wayTold_3 (s_iconst (pc := 6) dX12_wayTold_6 c_ic_4 (s_iald (pc := 7) (by decide) (by decide) rfl rfl rfl dX12_wayTold_7 (s_iconst (pc := 8) dX12_wayTold_8 c_ic_1 (s_isub (pc := 9) dX12_wayTold_9 (s_sI (pc := 10) (run_static (X12_in_gd _) (show 0 < 3 by decide) cy_X12_in w_1464 w_1463 dX12_wayTold_10) (s_ifeq (pc := 13) dX12_wayTold_13 (by decide) (s_ldc (pc := 26) w_1466 dX12_wayTold_26 (s_ir (pc := 28) rfl dX12_wayTold_28)) (s_iloadn (pc := 16) dX12_wayTold_16 rfl (s_iconst (pc := 17) dX12_wayTold_17 c_ic_0 (s_bipush (pc := 18) dX12_wayTold_18 c_bp_7 (s_sI (pc := 20) (run_static (X12_in_gd _) (show 0 < 3 by decide) cy_X12_in w_1464 w_1463 dX12_wayTold_20) (s_ifne (pc := 23) dX12_wayTold_23 (by decide) (s_iloadn (pc := 29) dX12_wayTold_29 rfl (s_bipush (pc := 30) dX12_wayTold_30 c_bp_6 (s_cmpge (pc := 32) dX12_wayTold_32 (by decide) (s_aloadn (pc := 52) dX12_wayTold_52 rfl (s_iloadn (pc := 53) dX12_wayTold_53 rfl (s_iloadn (pc := 54) dX12_wayTold_54 rfl (s_bipush (pc := 55) dX12_wayTold_55 c_bp_6 (s_isub (pc := 57) dX12_wayTold_57 (s_vI (pc := 58) (run_virtual (X12_passes_gd _) (show 2 < 3 by decide) cy_X12_passes (by decide) rfl w_1478 w_s31 w_1476 dX12_wayTold_58) (s_ifeq (pc := 61) dX12_wayTold_61 (by decide) (s_iconst (pc := 68) dX12_wayTold_68 c_ic_0 (s_ir (pc := 69) rfl dX12_wayTold_69)) (s_iconst (pc := 64) dX12_wayTold_64 c_ic_1 (s_goto (pc := 65) dX12_wayTold_65 (by decide) (s_ir (pc := 69) rfl dX12_wayTold_69)))))))))) (s_aloadn (pc := 35) dX12_wayTold_35 rfl (s_gR (pc := 36) (f := 0) ko_11 (by decide) rfl rfl w_1295 dX12_wayTold_36 (s_bipush (pc := 39) dX12_wayTold_39 c_bp_15 (s_bipush (pc := 41) dX12_wayTold_41 c_bp_6 (s_iloadn (pc := 43) dX12_wayTold_43 rfl (s_imul (pc := 44) dX12_wayTold_44 (s_iadd (pc := 45) dX12_wayTold_45 (s_iloadn (pc := 46) dX12_wayTold_46 rfl (s_iadd (pc := 47) dX12_wayTold_47 (s_iald (pc := 48) (by decide) (by decide) rfl rfl rfl dX12_wayTold_48 (s_goto (pc := 49) dX12_wayTold_49 (by decide) (s_ir (pc := 69) rfl dX12_wayTold_69))))))))))))))) (s_ldc (pc := 26) w_1466 dX12_wayTold_26 (s_ir (pc := 28) rfl dX12_wayTold_28)))))))))))))))))
noncomputable def X12_wayTold_f0 (c_X12_in : Int32 → Int32 → Int32 → PH → Option Rs) (c_X12_passes : Nat → Int32 → Int32 → PH → Option Rs) (t : Nat) (x1 : Int32) (x2 : Int32) (h : PH) : Option Rs :=
  nn (hR h 704 t 0) fun r1 =>
  ix 4 (hL h 41 r1) fun j2 =>
  cI (c_X12_in x1 0 ((hI h 2624 r1 j2) - 1) h) fun v4 h3 =>
  if v4 = 0 then
    some (some (.inl (-1000000001)), h3)
  else
    cI (c_X12_in x2 0 7 h3) fun v6 h5 =>
    if v6 = 0 then
      some (some (.inl (-1000000001)), h5)
    else
      if x2 < 6 then
        nn (hR h5 704 t 0) fun r9 =>
        ix ((15 + (6 * x1)) + x2) (hL h5 41 r9) fun j10 =>
        some (some (.inl (hI h5 2624 r9 j10)), h5)
      else
        cI (c_X12_passes t x1 (x2 - 6) h5) fun v8 h7 =>
        if v8 = 0 then
          some (some (.inl 0), h7)
        else
          some (some (.inl 1), h7)
set_option maxRecDepth 100000 in
theorem X12_wayTold_l0 (c_X12_in : Int32 → Int32 → Int32 → PH → Option Rs) (c_X12_passes : Nat → Int32 → Int32 → PH → Option Rs) (t : Nat) (x1 : Int32) (x2 : Int32) (h : PH) : X12_wayTold_b0 c_X12_in c_X12_passes [some (.inr (11, t + 1)), some (.inl x1), some (.inl x2)] [] h = X12_wayTold_f0 c_X12_in c_X12_passes t x1 x2 h := rfl
noncomputable def X12_wayTold_g0 (t : Nat) (x1 : Int32) (x2 : Int32) (h : PH) : Option Rs := X12_wayTold_f0 X12_in X12_passes t x1 x2 h
noncomputable def X12_wayTold (t : Nat) (x1 : Int32) (x2 : Int32) (h : PH) : Option Rs := X12_wayTold_g0 t x1 x2 h
noncomputable abbrev X12_wayTold_F : List PV → PH → Option Rs := FW_T11II (X12_wayTold)
set_option maxRecDepth 100000 in
theorem X12_wayTold_gd (l : Launch) : Gd l 3 yX12_wayTold cX12_wayTold 3 (some .int) (X12_wayTold_F)   := Gd_of (by decide +kernel) (fun z hzl as h r e => by
  obtain ⟨hst, e⟩ := gL_of e
  obtain ⟨t, q0, e⟩ := gT_of e
  obtain ⟨x1, q1, e⟩ := gI_of e
  obtain ⟨x2, q2, e⟩ := gI_of e
  rw [st_3 hst q0 q1 q2]
  exact ⟨show 3 ≤ 3 by decide, X12_wayTold_s0 _ _ _ _ ((X12_wayTold_l0 X12_in X12_passes t x1 x2 h).trans e)⟩)
abbrev X12_shut_x (z : CZ) : CX := mx RX12 cX12_shut 5 1 (some .int) "shut" z
noncomputable def X12_shut_b0 (c_X12_in : Int32 → Int32 → Int32 → PH → Option Rs) (k51 : Kn) : Kn := (a_il 1 (a_ic 0 (a_al 0 (a_gR 11 704 41 (a_ic 4 (a_ald 41 2624 (a_ic 1 (a_b (fun a b => a - b) (a_sI 3 (FW_III c_X12_in) (a_z (a_ic (-1000000001) a_ir) (a_ic 15 (a_ic 6 (a_il 1 (a_b (fun a b => a * b) (a_b (fun a b => a + b) (a_ic 5 (a_b (fun a b => a + b) (a_is 3 (a_al 0 (a_gR 11 704 41 (a_il 3 (a_ald 41 2624 (a_is 4 (a_al 0 (a_gR 11 704 41 (a_il 3 (a_il 2 (a_z (a_ic 0 k51) (a_ic 1 k51)))))))))))))))))))))))))))))
set_option maxRecDepth 100000 in
theorem X12_shut_s0 {z : CZ} {k51 : Kn} (hk51 : SK (X12_shut_x z) 51 k51) : SK (X12_shut_x z) 0 (X12_shut_b0 X12_in k51) := (s_iloadn (pc := 0) dX12_shut_0 rfl (s_iconst (pc := 1) dX12_shut_1 c_ic_0 (s_aloadn (pc := 2) dX12_shut_2 rfl (s_gR (pc := 3) (f := 0) ko_11 (by decide) rfl rfl w_1295 dX12_shut_3 (s_iconst (pc := 6) dX12_shut_6 c_ic_4 (s_iald (pc := 7) (by decide) (by decide) rfl rfl rfl dX12_shut_7 (s_iconst (pc := 8) dX12_shut_8 c_ic_1 (s_isub (pc := 9) dX12_shut_9 (s_sI (pc := 10) (run_static (X12_in_gd _) (show 0 < 1 by decide) cy_X12_in w_1464 w_1463 dX12_shut_10) (s_ifne (pc := 13) dX12_shut_13 (by decide) (s_bipush (pc := 19) dX12_shut_19 c_bp_15 (s_bipush (pc := 21) dX12_shut_21 c_bp_6 (s_iloadn (pc := 23) dX12_shut_23 rfl (s_imul (pc := 24) dX12_shut_24 (s_iadd (pc := 25) dX12_shut_25 (s_iconst (pc := 26) dX12_shut_26 c_ic_5 (s_iadd (pc := 27) dX12_shut_27 (s_istoren (pc := 28) dX12_shut_28 rfl (show 3 < 5 by decide) (s_aloadn (pc := 29) dX12_shut_29 rfl (s_gR (pc := 30) (f := 0) ko_11 (by decide) rfl rfl w_1295 dX12_shut_30 (s_iloadn (pc := 33) dX12_shut_33 rfl (s_iald (pc := 34) (by decide) (by decide) rfl rfl rfl dX12_shut_34 (s_istore (pc := 35) dX12_shut_35 (show 4 < 5 by decide) (s_aloadn (pc := 37) dX12_shut_37 rfl (s_gR (pc := 38) (f := 0) ko_11 (by decide) rfl rfl w_1295 dX12_shut_38 (s_iloadn (pc := 41) dX12_shut_41 rfl (s_iloadn (pc := 42) dX12_shut_42 rfl (s_ifeq (pc := 43) dX12_shut_43 (by decide) (s_iconst (pc := 50) dX12_shut_50 c_ic_0 hk51) (s_iconst (pc := 46) dX12_shut_46 c_ic_1 (s_goto (pc := 47) dX12_shut_47 (by decide) hk51)))))))))))))))))))) (s_ldc (pc := 16) w_1466 dX12_shut_16 (s_ir (pc := 18) rfl dX12_shut_18))))))))))))
noncomputable def X12_shut_b51 : Kn := (a_ast 41 2624 (fun a => a) (a_il 4 (a_al 0 (a_gR 11 704 41 (a_il 3 (a_ald 41 2624 (a_eq (a_ic 0 a_ir) (a_ic 1 a_ir))))))))
set_option maxRecDepth 100000 in
theorem X12_shut_s51 {z : CZ} : SK (X12_shut_x z) 51 (X12_shut_b51) := (s_iast (pc := 51) (by decide) (by decide) rfl rfl rfl dX12_shut_51 (s_iload (pc := 52) dX12_shut_52 (s_aloadn (pc := 54) dX12_shut_54 rfl (s_gR (pc := 55) (f := 0) ko_11 (by decide) rfl rfl w_1295 dX12_shut_55 (s_iloadn (pc := 58) dX12_shut_58 rfl (s_iald (pc := 59) (by decide) (by decide) rfl rfl rfl dX12_shut_59 (s_cmpne (pc := 60) dX12_shut_60 (by decide) (s_iconst (pc := 67) dX12_shut_67 c_ic_1 (s_ir (pc := 68) rfl dX12_shut_68)) (s_iconst (pc := 63) dX12_shut_63 c_ic_0 (s_goto (pc := 64) dX12_shut_64 (by decide) (s_ir (pc := 68) rfl dX12_shut_68))))))))))
noncomputable def X12_shut_u51 (g : Nat → Int32 → Int32 → Int32 → Int32 → Nat → PH → Option Rs) : Kn := fun ls st h => gL 3 st (gT 11 ls 0 fun t => gI ls 3 fun x3 => gI ls 4 fun x4 => gI (st.map some) 0 fun s0 => gI (st.map some) 1 fun s1 => gR 41 (st.map some) 2 fun s2 => g t x3 x4 s0 s1 s2 h)
noncomputable def X12_shut_f0 (c_X12_in : Int32 → Int32 → Int32 → PH → Option Rs) (g51 : Nat → Int32 → Int32 → Int32 → Int32 → Nat → PH → Option Rs) (t : Nat) (x1 : Int32) (x2 : Int32) (h : PH) : Option Rs :=
  nn (hR h 704 t 0) fun r1 =>
  ix 4 (hL h 41 r1) fun j2 =>
  cI (c_X12_in x1 0 ((hI h 2624 r1 j2) - 1) h) fun v4 h3 =>
  if v4 = 0 then
    some (some (.inl (-1000000001)), h3)
  else
    nn (hR h3 704 t 0) fun r5 =>
    ix ((15 + (6 * x1)) + 5) (hL h3 41 r5) fun j6 =>
    if x2 = 0 then
      g51 t ((15 + (6 * x1)) + 5) (hI h3 2624 r5 j6) 0 ((15 + (6 * x1)) + 5) (hR h3 704 t 0) h3
    else
      g51 t ((15 + (6 * x1)) + 5) (hI h3 2624 r5 j6) 1 ((15 + (6 * x1)) + 5) (hR h3 704 t 0) h3
set_option maxRecDepth 100000 in
theorem X12_shut_l0 (c_X12_in : Int32 → Int32 → Int32 → PH → Option Rs) (g51 : Nat → Int32 → Int32 → Int32 → Int32 → Nat → PH → Option Rs) (t : Nat) (x1 : Int32) (x2 : Int32) (h : PH) : X12_shut_b0 c_X12_in (X12_shut_u51 g51) [some (.inr (11, t + 1)), some (.inl x1), some (.inl x2), none, none] [] h = X12_shut_f0 c_X12_in g51 t x1 x2 h := rfl
theorem X12_shut_m0 {c_X12_in : Int32 → Int32 → Int32 → PH → Option Rs} {g51 G51 : Nat → Int32 → Int32 → Int32 → Int32 → Nat → PH → Option Rs} (hg51 : ∀ a0 a1 a2 a3 a4 a5 a6, Mo (g51 a0 a1 a2 a3 a4 a5 a6) (G51 a0 a1 a2 a3 a4 a5 a6)) (t : Nat) (x1 : Int32) (x2 : Int32) (h : PH) : Mo (X12_shut_f0 c_X12_in g51 t x1 x2 h) (X12_shut_f0 c_X12_in G51 t x1 x2 h) := (mo_nn fun r1 => (mo_ix fun j2 => (mo_cI fun v4 h3 => (mo_if mo_rf (mo_nn fun r5 => (mo_ix fun j6 => (mo_if (hg51 t ((15 + (6 * x1)) + 5) (hI h3 2624 r5 j6) 0 ((15 + (6 * x1)) + 5) (hR h3 704 t 0) h3) (hg51 t ((15 + (6 * x1)) + 5) (hI h3 2624 r5 j6) 1 ((15 + (6 * x1)) + 5) (hR h3 704 t 0) h3))))))))
noncomputable def X12_shut_f51 (t : Nat) (x3 : Int32) (x4 : Int32) (s0 : Int32) (s1 : Int32) (s2 : Nat) (h : PH) : Option Rs :=
  nn s2 fun r7 =>
  ix s1 (hL h 41 r7) fun j8 =>
  wr (pI h 2624 r7 j8 s0) fun h9 =>
  nn (hR h9 704 t 0) fun r10 =>
  ix x3 (hL h9 41 r10) fun j11 =>
  if x4 = (hI h9 2624 r10 j11) then
    some (some (.inl 0), h9)
  else
    some (some (.inl 1), h9)
set_option maxRecDepth 100000 in
theorem X12_shut_l51 (t : Nat) (x3 : Int32) (x4 : Int32) (s0 : Int32) (s1 : Int32) (s2 : Nat) (h : PH) : X12_shut_b51 [some (.inr (11, t + 1)), none, none, some (.inl x3), some (.inl x4)] [.inl s0, .inl s1, .inr (41, s2)] h = X12_shut_f51 t x3 x4 s0 s1 s2 h := rfl
theorem X12_shut_w51 {z : CZ} : SK (X12_shut_x z) 51 (X12_shut_u51 (X12_shut_f51)) := by
  intro ls st h r e
  obtain ⟨hst, e⟩ := gL_of e
  obtain ⟨t, q0, e⟩ := gT_of e
  obtain ⟨x3, q1, e⟩ := gI_of e
  obtain ⟨x4, q2, e⟩ := gI_of e
  obtain ⟨s0, q3, e⟩ := gI_of e
  obtain ⟨s1, q4, e⟩ := gI_of e
  obtain ⟨s2, q5, e⟩ := gR_of e
  rw [st_3 hst q3 q4 q5]
  exact WK.sub (canon := [some (.inr (11, t + 1)), none, none, some (.inl x3), some (.inl x4)]) rfl ⟨q0, q1, q2, trivial⟩ (X12_shut_s51 _ _ _ _ ((X12_shut_l51 t x3 x4 s0 s1 s2 h).trans e))
noncomputable def X12_shut_g51 (t : Nat) (x3 : Int32) (x4 : Int32) (s0 : Int32) (s1 : Int32) (s2 : Nat) (h : PH) : Option Rs := X12_shut_f51 t x3 x4 s0 s1 s2 h
noncomputable def X12_shut_g0 (t : Nat) (x1 : Int32) (x2 : Int32) (h : PH) : Option Rs := X12_shut_f0 X12_in (X12_shut_g51) t x1 x2 h
theorem X12_shut_v51 {z : CZ} : SK (X12_shut_x z) 51 (X12_shut_u51 (X12_shut_g51)) := X12_shut_w51
noncomputable def X12_shut (t : Nat) (x1 : Int32) (x2 : Int32) (h : PH) : Option Rs := X12_shut_g0 t x1 x2 h
noncomputable abbrev X12_shut_F : List PV → PH → Option Rs := FW_T11II (X12_shut)
set_option maxRecDepth 100000 in
theorem X12_shut_gd (l : Launch) : Gd l 1 yX12_shut cX12_shut 5 (some .int) (X12_shut_F)   := Gd_of (by decide +kernel) (fun z hzl as h r e => by
  obtain ⟨hst, e⟩ := gL_of e
  obtain ⟨t, q0, e⟩ := gT_of e
  obtain ⟨x1, q1, e⟩ := gI_of e
  obtain ⟨x2, q2, e⟩ := gI_of e
  rw [st_3 hst q0 q1 q2]
  exact ⟨show 3 ≤ 5 by decide, X12_shut_s0 (X12_shut_v51) _ _ _ _ ((X12_shut_l0 X12_in (X12_shut_g51) t x1 x2 h).trans e)⟩)
abbrev X12_goal_x (z : CZ) : CX := mx RX12 cX12_goal 3 2 (some .int) "goal" z
noncomputable def X12_goal_b0 (c_X12_isPlace : Nat → Int32 → PH → Option Rs) (c_X12_in : Int32 → Int32 → Int32 → PH → Option Rs) : Kn := (a_al 0 (a_il 1 (a_vI 11 1 (FW_T11I c_X12_isPlace) (a_z (a_ic (-1000000001) a_ir) (a_il 2 (a_ic (-1) (a_ic 3 (a_sI 3 (FW_III c_X12_in) (a_z (a_ic (-1000000001) a_ir) (a_al 0 (a_gR 11 704 41 (a_ic 5 (a_ald 41 2624 (a_ic 10 (a_eq (a_ic (-1000000003) a_ir) (a_al 0 (a_gR 11 704 41 (a_ic 135 (a_ic 2 (a_al 0 (a_gR 11 704 41 (a_ic 5 (a_ald 41 2624 (a_b (fun a b => a * b) (a_b (fun a b => a + b) (a_il 1 (a_ast 41 2624 (fun a => a) (a_al 0 (a_gR 11 704 41 (a_ic 135 (a_ic 2 (a_al 0 (a_gR 11 704 41 (a_ic 5 (a_ald 41 2624 (a_b (fun a b => a * b) (a_b (fun a b => a + b) (a_ic 1 (a_b (fun a b => a + b) (a_il 2 (a_ast 41 2624 (fun a => a) (a_al 0 (a_gR 11 704 41 (a_ic 5 (a_dup2 (a_ald 41 2624 (a_ic 1 (a_b (fun a b => a + b) (a_ast 41 2624 (fun a => a) (a_al 0 (a_gR 11 704 41 (a_ic 5 (a_ald 41 2624 (a_ic 1 (a_b (fun a b => a - b) a_ir)))))))))))))))))))))))))))))))))))))))))))))))))))))))
set_option maxRecDepth 100000 in
theorem X12_goal_s0 {z : CZ} : SK (X12_goal_x z) 0 (X12_goal_b0 X12_isPlace X12_in) := (s_aloadn (pc := 0) dX12_goal_0 rfl (s_iloadn (pc := 1) dX12_goal_1 rfl (s_vI (pc := 2) (run_virtual (X12_isPlace_gd _) (show 1 < 2 by decide) cy_X12_isPlace (by decide) rfl w_1461 w_s29 w_1459 dX12_goal_2) (s_ifeq (pc := 5) dX12_goal_5 (by decide) (s_ldc (pc := 17) w_1466 dX12_goal_17 (s_ir (pc := 19) rfl dX12_goal_19)) (s_iloadn (pc := 8) dX12_goal_8 rfl (s_iconst (pc := 9) dX12_goal_9 c_ic_m1 (s_iconst (pc := 10) dX12_goal_10 c_ic_3 (s_sI (pc := 11) (run_static (X12_in_gd _) (show 0 < 2 by decide) cy_X12_in w_1464 w_1463 dX12_goal_11) (s_ifne (pc := 14) dX12_goal_14 (by decide) (s_aloadn (pc := 20) dX12_goal_20 rfl (s_gR (pc := 21) (f := 0) ko_11 (by decide) rfl rfl w_1295 dX12_goal_21 (s_iconst (pc := 24) dX12_goal_24 c_ic_5 (s_iald (pc := 25) (by decide) (by decide) rfl rfl rfl dX12_goal_25 (s_bipush (pc := 26) dX12_goal_26 c_bp_10 (s_cmpne (pc := 28) dX12_goal_28 (by decide) (s_aloadn (pc := 34) dX12_goal_34 rfl (s_gR (pc := 35) (f := 0) ko_11 (by decide) rfl rfl w_1295 dX12_goal_35 (s_sipush (pc := 38) dX12_goal_38 c_sp_135 (s_iconst (pc := 41) dX12_goal_41 c_ic_2 (s_aloadn (pc := 42) dX12_goal_42 rfl (s_gR (pc := 43) (f := 0) ko_11 (by decide) rfl rfl w_1295 dX12_goal_43 (s_iconst (pc := 46) dX12_goal_46 c_ic_5 (s_iald (pc := 47) (by decide) (by decide) rfl rfl rfl dX12_goal_47 (s_imul (pc := 48) dX12_goal_48 (s_iadd (pc := 49) dX12_goal_49 (s_iloadn (pc := 50) dX12_goal_50 rfl (s_iast (pc := 51) (by decide) (by decide) rfl rfl rfl dX12_goal_51 (s_aloadn (pc := 52) dX12_goal_52 rfl (s_gR (pc := 53) (f := 0) ko_11 (by decide) rfl rfl w_1295 dX12_goal_53 (s_sipush (pc := 56) dX12_goal_56 c_sp_135 (s_iconst (pc := 59) dX12_goal_59 c_ic_2 (s_aloadn (pc := 60) dX12_goal_60 rfl (s_gR (pc := 61) (f := 0) ko_11 (by decide) rfl rfl w_1295 dX12_goal_61 (s_iconst (pc := 64) dX12_goal_64 c_ic_5 (s_iald (pc := 65) (by decide) (by decide) rfl rfl rfl dX12_goal_65 (s_imul (pc := 66) dX12_goal_66 (s_iadd (pc := 67) dX12_goal_67 (s_iconst (pc := 68) dX12_goal_68 c_ic_1 (s_iadd (pc := 69) dX12_goal_69 (s_iloadn (pc := 70) dX12_goal_70 rfl (s_iast (pc := 71) (by decide) (by decide) rfl rfl rfl dX12_goal_71 (s_aloadn (pc := 72) dX12_goal_72 rfl (s_gR (pc := 73) (f := 0) ko_11 (by decide) rfl rfl w_1295 dX12_goal_73 (s_iconst (pc := 76) dX12_goal_76 c_ic_5 (s_dup2 (pc := 77) dX12_goal_77 (s_iald (pc := 78) (by decide) (by decide) rfl rfl rfl dX12_goal_78 (s_iconst (pc := 79) dX12_goal_79 c_ic_1 (s_iadd (pc := 80) dX12_goal_80 (s_iast (pc := 81) (by decide) (by decide) rfl rfl rfl dX12_goal_81 (s_aloadn (pc := 82) dX12_goal_82 rfl (s_gR (pc := 83) (f := 0) ko_11 (by decide) rfl rfl w_1295 dX12_goal_83 (s_iconst (pc := 86) dX12_goal_86 c_ic_5 (s_iald (pc := 87) (by decide) (by decide) rfl rfl rfl dX12_goal_87 (s_iconst (pc := 88) dX12_goal_88 c_ic_1 (s_isub (pc := 89) dX12_goal_89 (s_ir (pc := 90) rfl dX12_goal_90))))))))))))))))))))))))))))))))))))))))) (s_ldc (pc := 31) w_1454 dX12_goal_31 (s_ir (pc := 33) rfl dX12_goal_33)))))))) (s_ldc (pc := 17) w_1466 dX12_goal_17 (s_ir (pc := 19) rfl dX12_goal_19)))))))))))
noncomputable def X12_goal_f0 (c_X12_isPlace : Nat → Int32 → PH → Option Rs) (c_X12_in : Int32 → Int32 → Int32 → PH → Option Rs) (t : Nat) (x1 : Int32) (x2 : Int32) (h : PH) : Option Rs :=
  cI (c_X12_isPlace t x1 h) fun v2 h1 =>
  if v2 = 0 then
    some (some (.inl (-1000000001)), h1)
  else
    cI (c_X12_in x2 (-1) 3 h1) fun v4 h3 =>
    if v4 = 0 then
      some (some (.inl (-1000000001)), h3)
    else
      nn (hR h3 704 t 0) fun r5 =>
      ix 5 (hL h3 41 r5) fun j6 =>
      if (hI h3 2624 r5 j6) = 10 then
        some (some (.inl (-1000000003)), h3)
      else
        nn (hR h3 704 t 0) fun r7 =>
        ix 5 (hL h3 41 r7) fun j8 =>
        nn (hR h3 704 t 0) fun r9 =>
        ix (135 + (2 * (hI h3 2624 r7 j8))) (hL h3 41 r9) fun j10 =>
        wr (pI h3 2624 r9 j10 x1) fun h11 =>
        nn (hR h11 704 t 0) fun r12 =>
        ix 5 (hL h11 41 r12) fun j13 =>
        nn (hR h11 704 t 0) fun r14 =>
        ix ((135 + (2 * (hI h11 2624 r12 j13))) + 1) (hL h11 41 r14) fun j15 =>
        wr (pI h11 2624 r14 j15 x2) fun h16 =>
        nn (hR h16 704 t 0) fun r17 =>
        ix 5 (hL h16 41 r17) fun j18 =>
        nn (hR h16 704 t 0) fun r19 =>
        ix 5 (hL h16 41 r19) fun j20 =>
        wr (pI h16 2624 r19 j20 ((hI h16 2624 r17 j18) + 1)) fun h21 =>
        nn (hR h21 704 t 0) fun r22 =>
        ix 5 (hL h21 41 r22) fun j23 =>
        some (some (.inl ((hI h21 2624 r22 j23) - 1)), h21)
set_option maxRecDepth 100000 in
theorem X12_goal_l0 (c_X12_isPlace : Nat → Int32 → PH → Option Rs) (c_X12_in : Int32 → Int32 → Int32 → PH → Option Rs) (t : Nat) (x1 : Int32) (x2 : Int32) (h : PH) : X12_goal_b0 c_X12_isPlace c_X12_in [some (.inr (11, t + 1)), some (.inl x1), some (.inl x2)] [] h = X12_goal_f0 c_X12_isPlace c_X12_in t x1 x2 h := rfl
noncomputable def X12_goal_g0 (t : Nat) (x1 : Int32) (x2 : Int32) (h : PH) : Option Rs := X12_goal_f0 X12_isPlace X12_in t x1 x2 h
noncomputable def X12_goal (t : Nat) (x1 : Int32) (x2 : Int32) (h : PH) : Option Rs := X12_goal_g0 t x1 x2 h
noncomputable abbrev X12_goal_F : List PV → PH → Option Rs := FW_T11II (X12_goal)
set_option maxRecDepth 100000 in
theorem X12_goal_gd (l : Launch) : Gd l 2 yX12_goal cX12_goal 3 (some .int) (X12_goal_F)   := Gd_of (by decide +kernel) (fun z hzl as h r e => by
  obtain ⟨hst, e⟩ := gL_of e
  obtain ⟨t, q0, e⟩ := gT_of e
  obtain ⟨x1, q1, e⟩ := gI_of e
  obtain ⟨x2, q2, e⟩ := gI_of e
  rw [st_3 hst q0 q1 q2]
  exact ⟨show 3 ≤ 3 by decide, X12_goal_s0 _ _ _ _ ((X12_goal_l0 X12_isPlace X12_in t x1 x2 h).trans e)⟩)
abbrev X12_isGoal_x (z : CZ) : CX := mx RX12 cX12_isGoal 2 1 (some .boolean) "isGoal" z
noncomputable def X12_isGoal_b0 (c_X12_in : Int32 → Int32 → Int32 → PH → Option Rs) : Kn := (a_il 1 (a_ic 0 (a_al 0 (a_gR 11 704 41 (a_ic 5 (a_ald 41 2624 (a_ic 1 (a_b (fun a b => a - b) (a_sI 3 (FW_III c_X12_in) a_zr)))))))))
set_option maxRecDepth 100000 in
theorem X12_isGoal_s0 {z : CZ} : SK (X12_isGoal_x z) 0 (X12_isGoal_b0 X12_in) := (s_iloadn (pc := 0) dX12_isGoal_0 rfl (s_iconst (pc := 1) dX12_isGoal_1 c_ic_0 (s_aloadn (pc := 2) dX12_isGoal_2 rfl (s_gR (pc := 3) (f := 0) ko_11 (by decide) rfl rfl w_1295 dX12_isGoal_3 (s_iconst (pc := 6) dX12_isGoal_6 c_ic_5 (s_iald (pc := 7) (by decide) (by decide) rfl rfl rfl dX12_isGoal_7 (s_iconst (pc := 8) dX12_isGoal_8 c_ic_1 (s_isub (pc := 9) dX12_isGoal_9 (s_sI (pc := 10) (run_static (X12_in_gd _) (show 0 < 1 by decide) cy_X12_in w_1464 w_1463 dX12_isGoal_10) (s_zr (pc := 13) rfl dX12_isGoal_13))))))))))
noncomputable def X12_isGoal_f0 (c_X12_in : Int32 → Int32 → Int32 → PH → Option Rs) (t : Nat) (x1 : Int32) (h : PH) : Option Rs :=
  nn (hR h 704 t 0) fun r1 =>
  ix 5 (hL h 41 r1) fun j2 =>
  cI (c_X12_in x1 0 ((hI h 2624 r1 j2) - 1) h) fun v4 h3 =>
  bz v4 <|
  some (some (.inl v4), h3)
set_option maxRecDepth 100000 in
theorem X12_isGoal_l0 (c_X12_in : Int32 → Int32 → Int32 → PH → Option Rs) (t : Nat) (x1 : Int32) (h : PH) : X12_isGoal_b0 c_X12_in [some (.inr (11, t + 1)), some (.inl x1)] [] h = X12_isGoal_f0 c_X12_in t x1 h := rfl
noncomputable def X12_isGoal_g0 (t : Nat) (x1 : Int32) (h : PH) : Option Rs := X12_isGoal_f0 X12_in t x1 h
noncomputable def X12_isGoal (t : Nat) (x1 : Int32) (h : PH) : Option Rs := X12_isGoal_g0 t x1 h
noncomputable abbrev X12_isGoal_F : List PV → PH → Option Rs := FW_T11I (X12_isGoal)
set_option maxRecDepth 100000 in
theorem X12_isGoal_gd (l : Launch) : Gd l 1 yX12_isGoal cX12_isGoal 2 (some .boolean) (X12_isGoal_F)   := Gd_of (by decide +kernel) (fun z hzl as h r e => by
  obtain ⟨hst, e⟩ := gL_of e
  obtain ⟨t, q0, e⟩ := gT_of e
  obtain ⟨x1, q1, e⟩ := gI_of e
  rw [st_2 hst q0 q1]
  exact ⟨show 2 ≤ 2 by decide, X12_isGoal_s0 _ _ _ _ ((X12_isGoal_l0 X12_in t x1 h).trans e)⟩)
abbrev X12_placeOf_x (z : CZ) : CX := mx RX12 cX12_placeOf 2 0 (some .int) "placeOf" z
noncomputable def X12_placeOf_b0 : Kn := (a_al 0 (a_gR 11 704 41 (a_ic 135 (a_ic 2 (a_il 1 (a_b (fun a b => a * b) (a_b (fun a b => a + b) (a_ald 41 2624 a_ir))))))))
set_option maxRecDepth 100000 in
theorem X12_placeOf_s0 {z : CZ} : SK (X12_placeOf_x z) 0 (X12_placeOf_b0) := (s_aloadn (pc := 0) dX12_placeOf_0 rfl (s_gR (pc := 1) (f := 0) ko_11 (by decide) rfl rfl w_1295 dX12_placeOf_1 (s_sipush (pc := 4) dX12_placeOf_4 c_sp_135 (s_iconst (pc := 7) dX12_placeOf_7 c_ic_2 (s_iloadn (pc := 8) dX12_placeOf_8 rfl (s_imul (pc := 9) dX12_placeOf_9 (s_iadd (pc := 10) dX12_placeOf_10 (s_iald (pc := 11) (by decide) (by decide) rfl rfl rfl dX12_placeOf_11 (s_ir (pc := 12) rfl dX12_placeOf_12)))))))))
noncomputable def X12_placeOf_f0 (t : Nat) (x1 : Int32) (h : PH) : Option Rs :=
  nn (hR h 704 t 0) fun r1 =>
  ix (135 + (2 * x1)) (hL h 41 r1) fun j2 =>
  some (some (.inl (hI h 2624 r1 j2)), h)
set_option maxRecDepth 100000 in
theorem X12_placeOf_l0 (t : Nat) (x1 : Int32) (h : PH) : X12_placeOf_b0 [some (.inr (11, t + 1)), some (.inl x1)] [] h = X12_placeOf_f0 t x1 h := rfl
noncomputable def X12_placeOf_g0 (t : Nat) (x1 : Int32) (h : PH) : Option Rs := X12_placeOf_f0 t x1 h
noncomputable def X12_placeOf (t : Nat) (x1 : Int32) (h : PH) : Option Rs := X12_placeOf_g0 t x1 h
noncomputable abbrev X12_placeOf_F : List PV → PH → Option Rs := FW_T11I (X12_placeOf)
set_option maxRecDepth 100000 in
theorem X12_placeOf_gd (l : Launch) : Gd l 0 yX12_placeOf cX12_placeOf 2 (some .int) (X12_placeOf_F)   := Gd_of (by decide +kernel) (fun z hzl as h r e => by
  obtain ⟨hst, e⟩ := gL_of e
  obtain ⟨t, q0, e⟩ := gT_of e
  obtain ⟨x1, q1, e⟩ := gI_of e
  rw [st_2 hst q0 q1]
  exact ⟨show 2 ≤ 2 by decide, X12_placeOf_s0 _ _ _ _ ((X12_placeOf_l0 t x1 h).trans e)⟩)
abbrev X12_groupOf_x (z : CZ) : CX := mx RX12 cX12_groupOf 2 0 (some .int) "groupOf" z
noncomputable def X12_groupOf_b0 : Kn := (a_al 0 (a_gR 11 704 41 (a_ic 135 (a_ic 2 (a_il 1 (a_b (fun a b => a * b) (a_b (fun a b => a + b) (a_ic 1 (a_b (fun a b => a + b) (a_ald 41 2624 a_ir))))))))))
set_option maxRecDepth 100000 in
theorem X12_groupOf_s0 {z : CZ} : SK (X12_groupOf_x z) 0 (X12_groupOf_b0) := (s_aloadn (pc := 0) dX12_groupOf_0 rfl (s_gR (pc := 1) (f := 0) ko_11 (by decide) rfl rfl w_1295 dX12_groupOf_1 (s_sipush (pc := 4) dX12_groupOf_4 c_sp_135 (s_iconst (pc := 7) dX12_groupOf_7 c_ic_2 (s_iloadn (pc := 8) dX12_groupOf_8 rfl (s_imul (pc := 9) dX12_groupOf_9 (s_iadd (pc := 10) dX12_groupOf_10 (s_iconst (pc := 11) dX12_groupOf_11 c_ic_1 (s_iadd (pc := 12) dX12_groupOf_12 (s_iald (pc := 13) (by decide) (by decide) rfl rfl rfl dX12_groupOf_13 (s_ir (pc := 14) rfl dX12_groupOf_14)))))))))))
noncomputable def X12_groupOf_f0 (t : Nat) (x1 : Int32) (h : PH) : Option Rs :=
  nn (hR h 704 t 0) fun r1 =>
  ix ((135 + (2 * x1)) + 1) (hL h 41 r1) fun j2 =>
  some (some (.inl (hI h 2624 r1 j2)), h)
set_option maxRecDepth 100000 in
theorem X12_groupOf_l0 (t : Nat) (x1 : Int32) (h : PH) : X12_groupOf_b0 [some (.inr (11, t + 1)), some (.inl x1)] [] h = X12_groupOf_f0 t x1 h := rfl
noncomputable def X12_groupOf_g0 (t : Nat) (x1 : Int32) (h : PH) : Option Rs := X12_groupOf_f0 t x1 h
noncomputable def X12_groupOf (t : Nat) (x1 : Int32) (h : PH) : Option Rs := X12_groupOf_g0 t x1 h
noncomputable abbrev X12_groupOf_F : List PV → PH → Option Rs := FW_T11I (X12_groupOf)
set_option maxRecDepth 100000 in
theorem X12_groupOf_gd (l : Launch) : Gd l 0 yX12_groupOf cX12_groupOf 2 (some .int) (X12_groupOf_F)   := Gd_of (by decide +kernel) (fun z hzl as h r e => by
  obtain ⟨hst, e⟩ := gL_of e
  obtain ⟨t, q0, e⟩ := gT_of e
  obtain ⟨x1, q1, e⟩ := gI_of e
  rw [st_2 hst q0 q1]
  exact ⟨show 2 ≤ 2 by decide, X12_groupOf_s0 _ _ _ _ ((X12_groupOf_l0 t x1 h).trans e)⟩)
abbrev X12_goalTold_x (z : CZ) : CX := mx RX12 cX12_goalTold 3 2 (some .int) "goalTold" z
noncomputable def X12_goalTold_b0 (c_X12_isGoal : Nat → Int32 → PH → Option Rs) (c_X12_in : Int32 → Int32 → Int32 → PH → Option Rs) (c_X12_groupOf : Nat → Int32 → PH → Option Rs) (c_X12_placeOf : Nat → Int32 → PH → Option Rs) : Kn := (a_al 0 (a_il 1 (a_vI 11 1 (FW_T11I c_X12_isGoal) (a_z (a_ic (-1000000001) a_ir) (a_il 2 (a_ic 0 (a_ic 1 (a_sI 3 (FW_III c_X12_in) (a_z (a_ic (-1000000001) a_ir) (a_il 2 (a_z (a_al 0 (a_il 1 (a_vI 11 1 (FW_T11I c_X12_placeOf) a_ir))) (a_al 0 (a_il 1 (a_vI 11 1 (FW_T11I c_X12_groupOf) (a_n (a_ic (-1000000005) a_ir) (a_al 0 (a_il 1 (a_vI 11 1 (FW_T11I c_X12_groupOf) a_ir))))))))))))))))))
set_option maxRecDepth 100000 in
theorem X12_goalTold_s0 {z : CZ} : SK (X12_goalTold_x z) 0 (X12_goalTold_b0 X12_isGoal X12_in X12_groupOf X12_placeOf) := (s_aloadn (pc := 0) dX12_goalTold_0 rfl (s_iloadn (pc := 1) dX12_goalTold_1 rfl (s_vI (pc := 2) (run_virtual (X12_isGoal_gd _) (show 1 < 2 by decide) cy_X12_isGoal (by decide) rfl w_1505 w_s34 w_1503 dX12_goalTold_2) (s_ifeq (pc := 5) dX12_goalTold_5 (by decide) (s_ldc (pc := 17) w_1466 dX12_goalTold_17 (s_ir (pc := 19) rfl dX12_goalTold_19)) (s_iloadn (pc := 8) dX12_goalTold_8 rfl (s_iconst (pc := 9) dX12_goalTold_9 c_ic_0 (s_iconst (pc := 10) dX12_goalTold_10 c_ic_1 (s_sI (pc := 11) (run_static (X12_in_gd _) (show 0 < 2 by decide) cy_X12_in w_1464 w_1463 dX12_goalTold_11) (s_ifne (pc := 14) dX12_goalTold_14 (by decide) (s_iloadn (pc := 20) dX12_goalTold_20 rfl (s_ifne (pc := 21) dX12_goalTold_21 (by decide) (s_aloadn (pc := 32) dX12_goalTold_32 rfl (s_iloadn (pc := 33) dX12_goalTold_33 rfl (s_vI (pc := 34) (run_virtual (X12_groupOf_gd _) (show 0 < 2 by decide) cy_X12_groupOf (by decide) rfl w_1513 w_s36 w_1511 dX12_goalTold_34) (s_ifge (pc := 37) dX12_goalTold_37 (by decide) (s_aloadn (pc := 45) dX12_goalTold_45 rfl (s_iloadn (pc := 46) dX12_goalTold_46 rfl (s_vI (pc := 47) (run_virtual (X12_groupOf_gd _) (show 0 < 2 by decide) cy_X12_groupOf (by decide) rfl w_1513 w_s36 w_1511 dX12_goalTold_47) (s_ir (pc := 50) rfl dX12_goalTold_50)))) (s_ldc (pc := 40) w_1515 dX12_goalTold_40 (s_goto (pc := 42) dX12_goalTold_42 (by decide) (s_ir (pc := 50) rfl dX12_goalTold_50))))))) (s_aloadn (pc := 24) dX12_goalTold_24 rfl (s_iloadn (pc := 25) dX12_goalTold_25 rfl (s_vI (pc := 26) (run_virtual (X12_placeOf_gd _) (show 0 < 2 by decide) cy_X12_placeOf (by decide) rfl w_1509 w_s35 w_1507 dX12_goalTold_26) (s_goto (pc := 29) dX12_goalTold_29 (by decide) (s_ir (pc := 50) rfl dX12_goalTold_50))))))) (s_ldc (pc := 17) w_1466 dX12_goalTold_17 (s_ir (pc := 19) rfl dX12_goalTold_19)))))))))))
noncomputable def X12_goalTold_f0 (c_X12_isGoal : Nat → Int32 → PH → Option Rs) (c_X12_in : Int32 → Int32 → Int32 → PH → Option Rs) (c_X12_groupOf : Nat → Int32 → PH → Option Rs) (c_X12_placeOf : Nat → Int32 → PH → Option Rs) (t : Nat) (x1 : Int32) (x2 : Int32) (h : PH) : Option Rs :=
  cI (c_X12_isGoal t x1 h) fun v2 h1 =>
  if v2 = 0 then
    some (some (.inl (-1000000001)), h1)
  else
    cI (c_X12_in x2 0 1 h1) fun v4 h3 =>
    if v4 = 0 then
      some (some (.inl (-1000000001)), h3)
    else
      if x2 = 0 then
        cI (c_X12_placeOf t x1 h3) fun v10 h9 =>
        some (some (.inl v10), h9)
      else
        cI (c_X12_groupOf t x1 h3) fun v6 h5 =>
        if v6 < 0 then
          some (some (.inl (-1000000005)), h5)
        else
          cI (c_X12_groupOf t x1 h5) fun v8 h7 =>
          some (some (.inl v8), h7)
set_option maxRecDepth 100000 in
theorem X12_goalTold_l0 (c_X12_isGoal : Nat → Int32 → PH → Option Rs) (c_X12_in : Int32 → Int32 → Int32 → PH → Option Rs) (c_X12_groupOf : Nat → Int32 → PH → Option Rs) (c_X12_placeOf : Nat → Int32 → PH → Option Rs) (t : Nat) (x1 : Int32) (x2 : Int32) (h : PH) : X12_goalTold_b0 c_X12_isGoal c_X12_in c_X12_groupOf c_X12_placeOf [some (.inr (11, t + 1)), some (.inl x1), some (.inl x2)] [] h = X12_goalTold_f0 c_X12_isGoal c_X12_in c_X12_groupOf c_X12_placeOf t x1 x2 h := rfl
noncomputable def X12_goalTold_g0 (t : Nat) (x1 : Int32) (x2 : Int32) (h : PH) : Option Rs := X12_goalTold_f0 X12_isGoal X12_in X12_groupOf X12_placeOf t x1 x2 h
noncomputable def X12_goalTold (t : Nat) (x1 : Int32) (x2 : Int32) (h : PH) : Option Rs := X12_goalTold_g0 t x1 x2 h
noncomputable abbrev X12_goalTold_F : List PV → PH → Option Rs := FW_T11II (X12_goalTold)
set_option maxRecDepth 100000 in
theorem X12_goalTold_gd (l : Launch) : Gd l 2 yX12_goalTold cX12_goalTold 3 (some .int) (X12_goalTold_F)   := Gd_of (by decide +kernel) (fun z hzl as h r e => by
  obtain ⟨hst, e⟩ := gL_of e
  obtain ⟨t, q0, e⟩ := gT_of e
  obtain ⟨x1, q1, e⟩ := gI_of e
  obtain ⟨x2, q2, e⟩ := gI_of e
  rw [st_3 hst q0 q1 q2]
  exact ⟨show 3 ≤ 3 by decide, X12_goalTold_s0 _ _ _ _ ((X12_goalTold_l0 X12_isGoal X12_in X12_groupOf X12_placeOf t x1 x2 h).trans e)⟩)
abbrev X12_hours_x (z : CZ) : CX := mx RX12 cX12_hours 3 1 (some .int) "hours" z
noncomputable def X12_hours_b0 (c_X12_in : Int32 → Int32 → Int32 → PH → Option Rs) : Kn := (a_il 1 (a_ic 1 (a_ic 48 (a_sI 3 (FW_III c_X12_in) (a_z (a_ic (-1000000001) a_ir) (a_al 0 (a_gR 11 704 41 (a_ic 1 (a_ald 41 2624 (a_il 1 (a_b (fun a b => a + b) (a_is 2 (a_al 0 (a_gR 11 704 41 (a_ic 2 (a_ald 41 2624 (a_il 2 (a_ic 24 (a_div (a_b (fun a b => a + b) (a_ic 999 (a_gt (a_ic (-1000000003) a_ir) (a_al 0 (a_gR 11 704 41 (a_ic 2 (a_dup2 (a_ald 41 2624 (a_il 2 (a_ic 24 (a_div (a_b (fun a b => a + b) (a_ast 41 2624 (fun a => a) (a_al 0 (a_gR 11 704 41 (a_ic 1 (a_il 2 (a_ic 24 (a_rem (a_ast 41 2624 (fun a => a) (a_al 0 (a_gR 11 704 41 (a_ic 1 (a_ald 41 2624 a_ir)))))))))))))))))))))))))))))))))))))))))))
set_option maxRecDepth 100000 in
theorem X12_hours_s0 {z : CZ} : SK (X12_hours_x z) 0 (X12_hours_b0 X12_in) := (s_iloadn (pc := 0) dX12_hours_0 rfl (s_iconst (pc := 1) dX12_hours_1 c_ic_1 (s_bipush (pc := 2) dX12_hours_2 c_bp_48 (s_sI (pc := 4) (run_static (X12_in_gd _) (show 0 < 1 by decide) cy_X12_in w_1464 w_1463 dX12_hours_4) (s_ifne (pc := 7) dX12_hours_7 (by decide) (s_aloadn (pc := 13) dX12_hours_13 rfl (s_gR (pc := 14) (f := 0) ko_11 (by decide) rfl rfl w_1295 dX12_hours_14 (s_iconst (pc := 17) dX12_hours_17 c_ic_1 (s_iald (pc := 18) (by decide) (by decide) rfl rfl rfl dX12_hours_18 (s_iloadn (pc := 19) dX12_hours_19 rfl (s_iadd (pc := 20) dX12_hours_20 (s_istoren (pc := 21) dX12_hours_21 rfl (show 2 < 3 by decide) (s_aloadn (pc := 22) dX12_hours_22 rfl (s_gR (pc := 23) (f := 0) ko_11 (by decide) rfl rfl w_1295 dX12_hours_23 (s_iconst (pc := 26) dX12_hours_26 c_ic_2 (s_iald (pc := 27) (by decide) (by decide) rfl rfl rfl dX12_hours_27 (s_iloadn (pc := 28) dX12_hours_28 rfl (s_bipush (pc := 29) dX12_hours_29 c_bp_24 (s_idiv (pc := 31) dX12_hours_31 (s_iadd (pc := 32) dX12_hours_32 (s_sipush (pc := 33) dX12_hours_33 c_sp_999 (s_cmple (pc := 36) dX12_hours_36 (by decide) (s_aloadn (pc := 42) dX12_hours_42 rfl (s_gR (pc := 43) (f := 0) ko_11 (by decide) rfl rfl w_1295 dX12_hours_43 (s_iconst (pc := 46) dX12_hours_46 c_ic_2 (s_dup2 (pc := 47) dX12_hours_47 (s_iald (pc := 48) (by decide) (by decide) rfl rfl rfl dX12_hours_48 (s_iloadn (pc := 49) dX12_hours_49 rfl (s_bipush (pc := 50) dX12_hours_50 c_bp_24 (s_idiv (pc := 52) dX12_hours_52 (s_iadd (pc := 53) dX12_hours_53 (s_iast (pc := 54) (by decide) (by decide) rfl rfl rfl dX12_hours_54 (s_aloadn (pc := 55) dX12_hours_55 rfl (s_gR (pc := 56) (f := 0) ko_11 (by decide) rfl rfl w_1295 dX12_hours_56 (s_iconst (pc := 59) dX12_hours_59 c_ic_1 (s_iloadn (pc := 60) dX12_hours_60 rfl (s_bipush (pc := 61) dX12_hours_61 c_bp_24 (s_irem (pc := 63) dX12_hours_63 (s_iast (pc := 64) (by decide) (by decide) rfl rfl rfl dX12_hours_64 (s_aloadn (pc := 65) dX12_hours_65 rfl (s_gR (pc := 66) (f := 0) ko_11 (by decide) rfl rfl w_1295 dX12_hours_66 (s_iconst (pc := 69) dX12_hours_69 c_ic_1 (s_iald (pc := 70) (by decide) (by decide) rfl rfl rfl dX12_hours_70 (s_ir (pc := 71) rfl dX12_hours_71)))))))))))))))))))))) (s_ldc (pc := 39) w_1454 dX12_hours_39 (s_ir (pc := 41) rfl dX12_hours_41))))))))))))))))))) (s_ldc (pc := 10) w_1466 dX12_hours_10 (s_ir (pc := 12) rfl dX12_hours_12)))))))
noncomputable def X12_hours_f0 (c_X12_in : Int32 → Int32 → Int32 → PH → Option Rs) (t : Nat) (x1 : Int32) (h : PH) : Option Rs :=
  cI (c_X12_in x1 1 48 h) fun v2 h1 =>
  if v2 = 0 then
    some (some (.inl (-1000000001)), h1)
  else
    nn (hR h1 704 t 0) fun r3 =>
    ix 1 (hL h1 41 r3) fun j4 =>
    nn (hR h1 704 t 0) fun r5 =>
    ix 2 (hL h1 41 r5) fun j6 =>
    dv 24 <|
    if 999 < ((hI h1 2624 r5 j6) + (((hI h1 2624 r3 j4) + x1) / 24)) then
      some (some (.inl (-1000000003)), h1)
    else
      nn (hR h1 704 t 0) fun r7 =>
      ix 2 (hL h1 41 r7) fun j8 =>
      dv 24 <|
      nn (hR h1 704 t 0) fun r9 =>
      ix 2 (hL h1 41 r9) fun j10 =>
      wr (pI h1 2624 r9 j10 ((hI h1 2624 r7 j8) + (((hI h1 2624 r3 j4) + x1) / 24))) fun h11 =>
      dv 24 <|
      nn (hR h11 704 t 0) fun r12 =>
      ix 1 (hL h11 41 r12) fun j13 =>
      wr (pI h11 2624 r12 j13 (jrem ((hI h1 2624 r3 j4) + x1) 24)) fun h14 =>
      nn (hR h14 704 t 0) fun r15 =>
      ix 1 (hL h14 41 r15) fun j16 =>
      some (some (.inl (hI h14 2624 r15 j16)), h14)
set_option maxRecDepth 100000 in
theorem X12_hours_l0 (c_X12_in : Int32 → Int32 → Int32 → PH → Option Rs) (t : Nat) (x1 : Int32) (h : PH) : X12_hours_b0 c_X12_in [some (.inr (11, t + 1)), some (.inl x1), none] [] h = X12_hours_f0 c_X12_in t x1 h := rfl
noncomputable def X12_hours_g0 (t : Nat) (x1 : Int32) (h : PH) : Option Rs := X12_hours_f0 X12_in t x1 h
noncomputable def X12_hours (t : Nat) (x1 : Int32) (h : PH) : Option Rs := X12_hours_g0 t x1 h
noncomputable abbrev X12_hours_F : List PV → PH → Option Rs := FW_T11I (X12_hours)
set_option maxRecDepth 100000 in
theorem X12_hours_gd (l : Launch) : Gd l 1 yX12_hours cX12_hours 3 (some .int) (X12_hours_F)   := Gd_of (by decide +kernel) (fun z hzl as h r e => by
  obtain ⟨hst, e⟩ := gL_of e
  obtain ⟨t, q0, e⟩ := gT_of e
  obtain ⟨x1, q1, e⟩ := gI_of e
  rw [st_2 hst q0 q1]
  exact ⟨show 2 ≤ 3 by decide, X12_hours_s0 _ _ _ _ ((X12_hours_l0 X12_in t x1 h).trans e)⟩)
abbrev X12_sign_x (z : CZ) : CX := mx RX12 cX12_sign 5 2 (some .int) "sign" z
noncomputable def X12_sign_b0 (c_X12_isPlace : Nat → Int32 → PH → Option Rs) (c_X12_in : Int32 → Int32 → Int32 → PH → Option Rs) (k35 : Kn) : Kn := (a_al 0 (a_il 1 (a_vI 11 1 (FW_T11I c_X12_isPlace) (a_z (a_ic (-1000000001) a_ir) (a_il 2 (a_ic 0 (a_ic 5 (a_sI 3 (FW_III c_X12_in) (a_z (a_ic (-1000000001) a_ir) (a_il 2 (a_ic 5 (a_eq (a_il 3 (a_ic 1 (a_ic 99 (a_sI 3 (FW_III c_X12_in) (a_z (a_ic (-1000000001) a_ir) k35))))) k35))))))))))))
set_option maxRecDepth 100000 in
theorem X12_sign_s0 {z : CZ} {k35 : Kn} (hk35 : SK (X12_sign_x z) 35 k35) : SK (X12_sign_x z) 0 (X12_sign_b0 X12_isPlace X12_in k35) := (s_aloadn (pc := 0) dX12_sign_0 rfl (s_iloadn (pc := 1) dX12_sign_1 rfl (s_vI (pc := 2) (run_virtual (X12_isPlace_gd _) (show 1 < 2 by decide) cy_X12_isPlace (by decide) rfl w_1461 w_s29 w_1459 dX12_sign_2) (s_ifeq (pc := 5) dX12_sign_5 (by decide) (s_ldc (pc := 32) w_1466 dX12_sign_32 (s_ir (pc := 34) rfl dX12_sign_34)) (s_iloadn (pc := 8) dX12_sign_8 rfl (s_iconst (pc := 9) dX12_sign_9 c_ic_0 (s_iconst (pc := 10) dX12_sign_10 c_ic_5 (s_sI (pc := 11) (run_static (X12_in_gd _) (show 0 < 2 by decide) cy_X12_in w_1464 w_1463 dX12_sign_11) (s_ifeq (pc := 14) dX12_sign_14 (by decide) (s_ldc (pc := 32) w_1466 dX12_sign_32 (s_ir (pc := 34) rfl dX12_sign_34)) (s_iloadn (pc := 17) dX12_sign_17 rfl (s_iconst (pc := 18) dX12_sign_18 c_ic_5 (s_cmpne (pc := 19) dX12_sign_19 (by decide) hk35 (s_iloadn (pc := 22) dX12_sign_22 rfl (s_iconst (pc := 23) dX12_sign_23 c_ic_1 (s_bipush (pc := 24) dX12_sign_24 c_bp_99 (s_sI (pc := 26) (run_static (X12_in_gd _) (show 0 < 2 by decide) cy_X12_in w_1464 w_1463 dX12_sign_26) (s_ifne (pc := 29) dX12_sign_29 (by decide) hk35 (s_ldc (pc := 32) w_1466 dX12_sign_32 (s_ir (pc := 34) rfl dX12_sign_34)))))))))))))))))))
noncomputable def X12_sign_b35 (k128 : Kn) : Kn := (a_al 0 (a_gR 11 704 41 (a_ic 6 (a_ald 41 2624 (a_ic 14 (a_eq (a_ic (-1000000003) a_ir) (a_ic 155 (a_ic 5 (a_al 0 (a_gR 11 704 41 (a_ic 6 (a_ald 41 2624 (a_b (fun a b => a * b) (a_b (fun a b => a + b) (a_is 4 (a_al 0 (a_gR 11 704 41 (a_il 4 (a_il 1 (a_ast 41 2624 (fun a => a) (a_al 0 (a_gR 11 704 41 (a_il 4 (a_ic 1 (a_b (fun a b => a + b) (a_il 2 (a_ast 41 2624 (fun a => a) (a_al 0 (a_gR 11 704 41 (a_il 4 (a_ic 2 (a_b (fun a b => a + b) (a_ic 0 (a_ast 41 2624 (fun a => a) (a_al 0 (a_gR 11 704 41 (a_il 4 (a_ic 3 (a_b (fun a b => a + b) (a_ic 0 (a_ast 41 2624 (fun a => a) (a_al 0 (a_gR 11 704 41 (a_il 4 (a_ic 4 (a_b (fun a b => a + b) (a_il 2 (a_ic 5 (a_eq (a_al 0 (a_gR 11 704 41 (a_ic 2 (a_ald 41 2624 (a_il 3 (a_b (fun a b => a + b) k128)))))) (a_ic 0 k128))))))))))))))))))))))))))))))))))))))))))))))))))
set_option maxRecDepth 100000 in
theorem X12_sign_s35 {z : CZ} {k128 : Kn} (hk128 : SK (X12_sign_x z) 128 k128) : SK (X12_sign_x z) 35 (X12_sign_b35 k128) := (s_aloadn (pc := 35) dX12_sign_35 rfl (s_gR (pc := 36) (f := 0) ko_11 (by decide) rfl rfl w_1295 dX12_sign_36 (s_bipush (pc := 39) dX12_sign_39 c_bp_6 (s_iald (pc := 41) (by decide) (by decide) rfl rfl rfl dX12_sign_41 (s_bipush (pc := 42) dX12_sign_42 c_bp_14 (s_cmpne (pc := 44) dX12_sign_44 (by decide) (s_sipush (pc := 50) dX12_sign_50 c_sp_155 (s_iconst (pc := 53) dX12_sign_53 c_ic_5 (s_aloadn (pc := 54) dX12_sign_54 rfl (s_gR (pc := 55) (f := 0) ko_11 (by decide) rfl rfl w_1295 dX12_sign_55 (s_bipush (pc := 58) dX12_sign_58 c_bp_6 (s_iald (pc := 60) (by decide) (by decide) rfl rfl rfl dX12_sign_60 (s_imul (pc := 61) dX12_sign_61 (s_iadd (pc := 62) dX12_sign_62 (s_istore (pc := 63) dX12_sign_63 (show 4 < 5 by decide) (s_aloadn (pc := 65) dX12_sign_65 rfl (s_gR (pc := 66) (f := 0) ko_11 (by decide) rfl rfl w_1295 dX12_sign_66 (s_iload (pc := 69) dX12_sign_69 (s_iloadn (pc := 71) dX12_sign_71 rfl (s_iast (pc := 72) (by decide) (by decide) rfl rfl rfl dX12_sign_72 (s_aloadn (pc := 73) dX12_sign_73 rfl (s_gR (pc := 74) (f := 0) ko_11 (by decide) rfl rfl w_1295 dX12_sign_74 (s_iload (pc := 77) dX12_sign_77 (s_iconst (pc := 79) dX12_sign_79 c_ic_1 (s_iadd (pc := 80) dX12_sign_80 (s_iloadn (pc := 81) dX12_sign_81 rfl (s_iast (pc := 82) (by decide) (by decide) rfl rfl rfl dX12_sign_82 (s_aloadn (pc := 83) dX12_sign_83 rfl (s_gR (pc := 84) (f := 0) ko_11 (by decide) rfl rfl w_1295 dX12_sign_84 (s_iload (pc := 87) dX12_sign_87 (s_iconst (pc := 89) dX12_sign_89 c_ic_2 (s_iadd (pc := 90) dX12_sign_90 (s_iconst (pc := 91) dX12_sign_91 c_ic_0 (s_iast (pc := 92) (by decide) (by decide) rfl rfl rfl dX12_sign_92 (s_aloadn (pc := 93) dX12_sign_93 rfl (s_gR (pc := 94) (f := 0) ko_11 (by decide) rfl rfl w_1295 dX12_sign_94 (s_iload (pc := 97) dX12_sign_97 (s_iconst (pc := 99) dX12_sign_99 c_ic_3 (s_iadd (pc := 100) dX12_sign_100 (s_iconst (pc := 101) dX12_sign_101 c_ic_0 (s_iast (pc := 102) (by decide) (by decide) rfl rfl rfl dX12_sign_102 (s_aloadn (pc := 103) dX12_sign_103 rfl (s_gR (pc := 104) (f := 0) ko_11 (by decide) rfl rfl w_1295 dX12_sign_104 (s_iload (pc := 107) dX12_sign_107 (s_iconst (pc := 109) dX12_sign_109 c_ic_4 (s_iadd (pc := 110) dX12_sign_110 (s_iloadn (pc := 111) dX12_sign_111 rfl (s_iconst (pc := 112) dX12_sign_112 c_ic_5 (s_cmpne (pc := 113) dX12_sign_113 (by decide) (s_iconst (pc := 127) dX12_sign_127 c_ic_0 hk128) (s_aloadn (pc := 116) dX12_sign_116 rfl (s_gR (pc := 117) (f := 0) ko_11 (by decide) rfl rfl w_1295 dX12_sign_117 (s_iconst (pc := 120) dX12_sign_120 c_ic_2 (s_iald (pc := 121) (by decide) (by decide) rfl rfl rfl dX12_sign_121 (s_iloadn (pc := 122) dX12_sign_122 rfl (s_iadd (pc := 123) dX12_sign_123 (s_goto (pc := 124) dX12_sign_124 (by decide) hk128)))))))))))))))))))))))))))))))))))))))))))))))))) (s_ldc (pc := 47) w_1454 dX12_sign_47 (s_ir (pc := 49) rfl dX12_sign_49))))))))
noncomputable def X12_sign_b128 : Kn := (a_ast 41 2624 (fun a => a) (a_al 0 (a_gR 11 704 41 (a_ic 6 (a_dup2 (a_ald 41 2624 (a_ic 1 (a_b (fun a b => a + b) (a_ast 41 2624 (fun a => a) (a_al 0 (a_ic 0 (a_pI 11 709 (a_al 0 (a_gR 11 704 41 (a_ic 6 (a_ald 41 2624 (a_ic 1 (a_b (fun a b => a - b) a_ir))))))))))))))))))
set_option maxRecDepth 100000 in
theorem X12_sign_s128 {z : CZ} : SK (X12_sign_x z) 128 (X12_sign_b128) := (s_iast (pc := 128) (by decide) (by decide) rfl rfl rfl dX12_sign_128 (s_aloadn (pc := 129) dX12_sign_129 rfl (s_gR (pc := 130) (f := 0) ko_11 (by decide) rfl rfl w_1295 dX12_sign_130 (s_bipush (pc := 133) dX12_sign_133 c_bp_6 (s_dup2 (pc := 135) dX12_sign_135 (s_iald (pc := 136) (by decide) (by decide) rfl rfl rfl dX12_sign_136 (s_iconst (pc := 137) dX12_sign_137 c_ic_1 (s_iadd (pc := 138) dX12_sign_138 (s_iast (pc := 139) (by decide) (by decide) rfl rfl rfl dX12_sign_139 (s_aloadn (pc := 140) dX12_sign_140 rfl (s_iconst (pc := 141) dX12_sign_141 c_ic_0 (s_pI (pc := 142) (f := 5) ko_11 (by decide) rfl rfl rfl (by decide +kernel) w_1300 dX12_sign_142 (s_aloadn (pc := 145) dX12_sign_145 rfl (s_gR (pc := 146) (f := 0) ko_11 (by decide) rfl rfl w_1295 dX12_sign_146 (s_bipush (pc := 149) dX12_sign_149 c_bp_6 (s_iald (pc := 151) (by decide) (by decide) rfl rfl rfl dX12_sign_151 (s_iconst (pc := 152) dX12_sign_152 c_ic_1 (s_isub (pc := 153) dX12_sign_153 (s_ir (pc := 154) rfl dX12_sign_154)))))))))))))))))))
noncomputable def X12_sign_u35 (g : Nat → Int32 → Int32 → Int32 → PH → Option Rs) : Kn := fun ls st h => gL 0 st (gT 11 ls 0 fun t => gI ls 1 fun x1 => gI ls 2 fun x2 => gI ls 3 fun x3 => g t x1 x2 x3 h)
noncomputable def X12_sign_u128 (g : Nat → Int32 → Int32 → Nat → PH → Option Rs) : Kn := fun ls st h => gL 3 st (gT 11 ls 0 fun t => gI (st.map some) 0 fun s0 => gI (st.map some) 1 fun s1 => gR 41 (st.map some) 2 fun s2 => g t s0 s1 s2 h)
noncomputable def X12_sign_f0 (c_X12_isPlace : Nat → Int32 → PH → Option Rs) (c_X12_in : Int32 → Int32 → Int32 → PH → Option Rs) (g35 : Nat → Int32 → Int32 → Int32 → PH → Option Rs) (t : Nat) (x1 : Int32) (x2 : Int32) (x3 : Int32) (h : PH) : Option Rs :=
  cI (c_X12_isPlace t x1 h) fun v2 h1 =>
  if v2 = 0 then
    some (some (.inl (-1000000001)), h1)
  else
    cI (c_X12_in x2 0 5 h1) fun v4 h3 =>
    if v4 = 0 then
      some (some (.inl (-1000000001)), h3)
    else
      if x2 = 5 then
        cI (c_X12_in x3 1 99 h3) fun v6 h5 =>
        if v6 = 0 then
          some (some (.inl (-1000000001)), h5)
        else
          g35 t x1 x2 x3 h5
      else
        g35 t x1 x2 x3 h3
set_option maxRecDepth 100000 in
theorem X12_sign_l0 (c_X12_isPlace : Nat → Int32 → PH → Option Rs) (c_X12_in : Int32 → Int32 → Int32 → PH → Option Rs) (g35 : Nat → Int32 → Int32 → Int32 → PH → Option Rs) (t : Nat) (x1 : Int32) (x2 : Int32) (x3 : Int32) (h : PH) : X12_sign_b0 c_X12_isPlace c_X12_in (X12_sign_u35 g35) [some (.inr (11, t + 1)), some (.inl x1), some (.inl x2), some (.inl x3), none] [] h = X12_sign_f0 c_X12_isPlace c_X12_in g35 t x1 x2 x3 h := rfl
theorem X12_sign_m0 {c_X12_isPlace : Nat → Int32 → PH → Option Rs} {c_X12_in : Int32 → Int32 → Int32 → PH → Option Rs} {g35 G35 : Nat → Int32 → Int32 → Int32 → PH → Option Rs} (hg35 : ∀ a0 a1 a2 a3 a4, Mo (g35 a0 a1 a2 a3 a4) (G35 a0 a1 a2 a3 a4)) (t : Nat) (x1 : Int32) (x2 : Int32) (x3 : Int32) (h : PH) : Mo (X12_sign_f0 c_X12_isPlace c_X12_in g35 t x1 x2 x3 h) (X12_sign_f0 c_X12_isPlace c_X12_in G35 t x1 x2 x3 h) := (mo_cI fun v2 h1 => (mo_if mo_rf (mo_cI fun v4 h3 => (mo_if mo_rf (mo_if (mo_cI fun v6 h5 => (mo_if mo_rf (hg35 t x1 x2 x3 h5))) (hg35 t x1 x2 x3 h3))))))
noncomputable def X12_sign_f35 (g128 : Nat → Int32 → Int32 → Nat → PH → Option Rs) (t : Nat) (x1 : Int32) (x2 : Int32) (x3 : Int32) (h : PH) : Option Rs :=
  nn (hR h 704 t 0) fun r7 =>
  ix 6 (hL h 41 r7) fun j8 =>
  if (hI h 2624 r7 j8) = 14 then
    some (some (.inl (-1000000003)), h)
  else
    nn (hR h 704 t 0) fun r9 =>
    ix 6 (hL h 41 r9) fun j10 =>
    nn (hR h 704 t 0) fun r11 =>
    ix (155 + (5 * (hI h 2624 r9 j10))) (hL h 41 r11) fun j12 =>
    wr (pI h 2624 r11 j12 x1) fun h13 =>
    nn (hR h13 704 t 0) fun r14 =>
    ix ((155 + (5 * (hI h 2624 r9 j10))) + 1) (hL h13 41 r14) fun j15 =>
    wr (pI h13 2624 r14 j15 x2) fun h16 =>
    nn (hR h16 704 t 0) fun r17 =>
    ix ((155 + (5 * (hI h 2624 r9 j10))) + 2) (hL h16 41 r17) fun j18 =>
    wr (pI h16 2624 r17 j18 0) fun h19 =>
    nn (hR h19 704 t 0) fun r20 =>
    ix ((155 + (5 * (hI h 2624 r9 j10))) + 3) (hL h19 41 r20) fun j21 =>
    wr (pI h19 2624 r20 j21 0) fun h22 =>
    if x2 = 5 then
      nn (hR h22 704 t 0) fun r23 =>
      ix 2 (hL h22 41 r23) fun j24 =>
      g128 t ((hI h22 2624 r23 j24) + x3) ((155 + (5 * (hI h 2624 r9 j10))) + 4) (hR h22 704 t 0) h22
    else
      g128 t 0 ((155 + (5 * (hI h 2624 r9 j10))) + 4) (hR h22 704 t 0) h22
set_option maxRecDepth 100000 in
theorem X12_sign_l35 (g128 : Nat → Int32 → Int32 → Nat → PH → Option Rs) (t : Nat) (x1 : Int32) (x2 : Int32) (x3 : Int32) (h : PH) : X12_sign_b35 (X12_sign_u128 g128) [some (.inr (11, t + 1)), some (.inl x1), some (.inl x2), some (.inl x3), none] [] h = X12_sign_f35 g128 t x1 x2 x3 h := rfl
theorem X12_sign_m35 {g128 G128 : Nat → Int32 → Int32 → Nat → PH → Option Rs} (hg128 : ∀ a0 a1 a2 a3 a4, Mo (g128 a0 a1 a2 a3 a4) (G128 a0 a1 a2 a3 a4)) (t : Nat) (x1 : Int32) (x2 : Int32) (x3 : Int32) (h : PH) : Mo (X12_sign_f35 g128 t x1 x2 x3 h) (X12_sign_f35 G128 t x1 x2 x3 h) := (mo_nn fun r7 => (mo_ix fun j8 => (mo_if mo_rf (mo_nn fun r9 => (mo_ix fun j10 => (mo_nn fun r11 => (mo_ix fun j12 => (mo_wr fun h13 => (mo_nn fun r14 => (mo_ix fun j15 => (mo_wr fun h16 => (mo_nn fun r17 => (mo_ix fun j18 => (mo_wr fun h19 => (mo_nn fun r20 => (mo_ix fun j21 => (mo_wr fun h22 => (mo_if (mo_nn fun r23 => (mo_ix fun j24 => (hg128 t ((hI h22 2624 r23 j24) + x3) ((155 + (5 * (hI h 2624 r9 j10))) + 4) (hR h22 704 t 0) h22))) (hg128 t 0 ((155 + (5 * (hI h 2624 r9 j10))) + 4) (hR h22 704 t 0) h22)))))))))))))))))))
theorem X12_sign_w35 {z : CZ} {g128 : Nat → Int32 → Int32 → Nat → PH → Option Rs} (hk128 : SK (X12_sign_x z) 128 (X12_sign_u128 g128)) : SK (X12_sign_x z) 35 (X12_sign_u35 (X12_sign_f35 g128)) := by
  intro ls st h r e
  obtain ⟨hst, e⟩ := gL_of e
  obtain ⟨t, q0, e⟩ := gT_of e
  obtain ⟨x1, q1, e⟩ := gI_of e
  obtain ⟨x2, q2, e⟩ := gI_of e
  obtain ⟨x3, q3, e⟩ := gI_of e
  rw [st_0 hst]
  exact WK.sub (canon := [some (.inr (11, t + 1)), some (.inl x1), some (.inl x2), some (.inl x3), none]) rfl ⟨q0, q1, q2, q3, trivial⟩ (X12_sign_s35 hk128 _ _ _ _ ((X12_sign_l35 g128 t x1 x2 x3 h).trans e))
noncomputable def X12_sign_f128 (t : Nat) (s0 : Int32) (s1 : Int32) (s2 : Nat) (h : PH) : Option Rs :=
  nn s2 fun r25 =>
  ix s1 (hL h 41 r25) fun j26 =>
  wr (pI h 2624 r25 j26 s0) fun h27 =>
  nn (hR h27 704 t 0) fun r28 =>
  ix 6 (hL h27 41 r28) fun j29 =>
  nn (hR h27 704 t 0) fun r30 =>
  ix 6 (hL h27 41 r30) fun j31 =>
  wr (pI h27 2624 r30 j31 ((hI h27 2624 r28 j29) + 1)) fun h32 =>
  wr (pI h32 709 t 0 0) fun h33 =>
  nn (hR h33 704 t 0) fun r34 =>
  ix 6 (hL h33 41 r34) fun j35 =>
  some (some (.inl ((hI h33 2624 r34 j35) - 1)), h33)
set_option maxRecDepth 100000 in
theorem X12_sign_l128 (t : Nat) (s0 : Int32) (s1 : Int32) (s2 : Nat) (h : PH) : X12_sign_b128 [some (.inr (11, t + 1)), none, none, none, none] [.inl s0, .inl s1, .inr (41, s2)] h = X12_sign_f128 t s0 s1 s2 h := rfl
theorem X12_sign_w128 {z : CZ} : SK (X12_sign_x z) 128 (X12_sign_u128 (X12_sign_f128)) := by
  intro ls st h r e
  obtain ⟨hst, e⟩ := gL_of e
  obtain ⟨t, q0, e⟩ := gT_of e
  obtain ⟨s0, q1, e⟩ := gI_of e
  obtain ⟨s1, q2, e⟩ := gI_of e
  obtain ⟨s2, q3, e⟩ := gR_of e
  rw [st_3 hst q1 q2 q3]
  exact WK.sub (canon := [some (.inr (11, t + 1)), none, none, none, none]) rfl ⟨q0, trivial⟩ (X12_sign_s128 _ _ _ _ ((X12_sign_l128 t s0 s1 s2 h).trans e))
noncomputable def X12_sign_g128 (t : Nat) (s0 : Int32) (s1 : Int32) (s2 : Nat) (h : PH) : Option Rs := X12_sign_f128 t s0 s1 s2 h
noncomputable def X12_sign_g35 (t : Nat) (x1 : Int32) (x2 : Int32) (x3 : Int32) (h : PH) : Option Rs := X12_sign_f35 (X12_sign_g128) t x1 x2 x3 h
noncomputable def X12_sign_g0 (t : Nat) (x1 : Int32) (x2 : Int32) (x3 : Int32) (h : PH) : Option Rs := X12_sign_f0 X12_isPlace X12_in (X12_sign_g35) t x1 x2 x3 h
theorem X12_sign_v128 {z : CZ} : SK (X12_sign_x z) 128 (X12_sign_u128 (X12_sign_g128)) := X12_sign_w128
theorem X12_sign_v35 {z : CZ} : SK (X12_sign_x z) 35 (X12_sign_u35 (X12_sign_g35)) := X12_sign_w35 (X12_sign_v128)
noncomputable def X12_sign (t : Nat) (x1 : Int32) (x2 : Int32) (x3 : Int32) (h : PH) : Option Rs := X12_sign_g0 t x1 x2 x3 h
noncomputable abbrev X12_sign_F : List PV → PH → Option Rs := FW_T11III (X12_sign)
set_option maxRecDepth 100000 in
theorem X12_sign_gd (l : Launch) : Gd l 2 yX12_sign cX12_sign 5 (some .int) (X12_sign_F)   := Gd_of (by decide +kernel) (fun z hzl as h r e => by
  obtain ⟨hst, e⟩ := gL_of e
  obtain ⟨t, q0, e⟩ := gT_of e
  obtain ⟨x1, q1, e⟩ := gI_of e
  obtain ⟨x2, q2, e⟩ := gI_of e
  obtain ⟨x3, q3, e⟩ := gI_of e
  rw [st_4 hst q0 q1 q2 q3]
  exact ⟨show 4 ≤ 5 by decide, X12_sign_s0 (X12_sign_v35) _ _ _ _ ((X12_sign_l0 X12_isPlace X12_in (X12_sign_g35) t x1 x2 x3 h).trans e)⟩)
abbrev X12_isSign_x (z : CZ) : CX := mx RX12 cX12_isSign 2 1 (some .boolean) "isSign" z
noncomputable def X12_isSign_b0 (c_X12_in : Int32 → Int32 → Int32 → PH → Option Rs) : Kn := (a_il 1 (a_ic 0 (a_al 0 (a_gR 11 704 41 (a_ic 6 (a_ald 41 2624 (a_ic 1 (a_b (fun a b => a - b) (a_sI 3 (FW_III c_X12_in) a_zr)))))))))
set_option maxRecDepth 100000 in
theorem X12_isSign_s0 {z : CZ} : SK (X12_isSign_x z) 0 (X12_isSign_b0 X12_in) := (s_iloadn (pc := 0) dX12_isSign_0 rfl (s_iconst (pc := 1) dX12_isSign_1 c_ic_0 (s_aloadn (pc := 2) dX12_isSign_2 rfl (s_gR (pc := 3) (f := 0) ko_11 (by decide) rfl rfl w_1295 dX12_isSign_3 (s_bipush (pc := 6) dX12_isSign_6 c_bp_6 (s_iald (pc := 8) (by decide) (by decide) rfl rfl rfl dX12_isSign_8 (s_iconst (pc := 9) dX12_isSign_9 c_ic_1 (s_isub (pc := 10) dX12_isSign_10 (s_sI (pc := 11) (run_static (X12_in_gd _) (show 0 < 1 by decide) cy_X12_in w_1464 w_1463 dX12_isSign_11) (s_zr (pc := 14) rfl dX12_isSign_14))))))))))
noncomputable def X12_isSign_f0 (c_X12_in : Int32 → Int32 → Int32 → PH → Option Rs) (t : Nat) (x1 : Int32) (h : PH) : Option Rs :=
  nn (hR h 704 t 0) fun r1 =>
  ix 6 (hL h 41 r1) fun j2 =>
  cI (c_X12_in x1 0 ((hI h 2624 r1 j2) - 1) h) fun v4 h3 =>
  bz v4 <|
  some (some (.inl v4), h3)
set_option maxRecDepth 100000 in
theorem X12_isSign_l0 (c_X12_in : Int32 → Int32 → Int32 → PH → Option Rs) (t : Nat) (x1 : Int32) (h : PH) : X12_isSign_b0 c_X12_in [some (.inr (11, t + 1)), some (.inl x1)] [] h = X12_isSign_f0 c_X12_in t x1 h := rfl
noncomputable def X12_isSign_g0 (t : Nat) (x1 : Int32) (h : PH) : Option Rs := X12_isSign_f0 X12_in t x1 h
noncomputable def X12_isSign (t : Nat) (x1 : Int32) (h : PH) : Option Rs := X12_isSign_g0 t x1 h
noncomputable abbrev X12_isSign_F : List PV → PH → Option Rs := FW_T11I (X12_isSign)
set_option maxRecDepth 100000 in
theorem X12_isSign_gd (l : Launch) : Gd l 1 yX12_isSign cX12_isSign 2 (some .boolean) (X12_isSign_F)   := Gd_of (by decide +kernel) (fun z hzl as h r e => by
  obtain ⟨hst, e⟩ := gL_of e
  obtain ⟨t, q0, e⟩ := gT_of e
  obtain ⟨x1, q1, e⟩ := gI_of e
  rw [st_2 hst q0 q1]
  exact ⟨show 2 ≤ 2 by decide, X12_isSign_s0 _ _ _ _ ((X12_isSign_l0 X12_in t x1 h).trans e)⟩)
abbrev X12_of5_x (z : CZ) : CX := mx RX12 cX12_of5 3 0 (some .int) "of5" z
noncomputable def X12_of5_b0 : Kn := (a_al 0 (a_gR 11 704 41 (a_ic 155 (a_ic 5 (a_il 1 (a_b (fun a b => a * b) (a_b (fun a b => a + b) (a_il 2 (a_b (fun a b => a + b) (a_ald 41 2624 a_ir))))))))))
set_option maxRecDepth 100000 in
theorem X12_of5_s0 {z : CZ} : SK (X12_of5_x z) 0 (X12_of5_b0) := (s_aloadn (pc := 0) dX12_of5_0 rfl (s_gR (pc := 1) (f := 0) ko_11 (by decide) rfl rfl w_1295 dX12_of5_1 (s_sipush (pc := 4) dX12_of5_4 c_sp_155 (s_iconst (pc := 7) dX12_of5_7 c_ic_5 (s_iloadn (pc := 8) dX12_of5_8 rfl (s_imul (pc := 9) dX12_of5_9 (s_iadd (pc := 10) dX12_of5_10 (s_iloadn (pc := 11) dX12_of5_11 rfl (s_iadd (pc := 12) dX12_of5_12 (s_iald (pc := 13) (by decide) (by decide) rfl rfl rfl dX12_of5_13 (s_ir (pc := 14) rfl dX12_of5_14)))))))))))
noncomputable def X12_of5_f0 (t : Nat) (x1 : Int32) (x2 : Int32) (h : PH) : Option Rs :=
  nn (hR h 704 t 0) fun r1 =>
  ix ((155 + (5 * x1)) + x2) (hL h 41 r1) fun j2 =>
  some (some (.inl (hI h 2624 r1 j2)), h)
set_option maxRecDepth 100000 in
theorem X12_of5_l0 (t : Nat) (x1 : Int32) (x2 : Int32) (h : PH) : X12_of5_b0 [some (.inr (11, t + 1)), some (.inl x1), some (.inl x2)] [] h = X12_of5_f0 t x1 x2 h := rfl
noncomputable def X12_of5_g0 (t : Nat) (x1 : Int32) (x2 : Int32) (h : PH) : Option Rs := X12_of5_f0 t x1 x2 h
noncomputable def X12_of5 (t : Nat) (x1 : Int32) (x2 : Int32) (h : PH) : Option Rs := X12_of5_g0 t x1 x2 h
noncomputable abbrev X12_of5_F : List PV → PH → Option Rs := FW_T11II (X12_of5)
set_option maxRecDepth 100000 in
theorem X12_of5_gd (l : Launch) : Gd l 0 yX12_of5 cX12_of5 3 (some .int) (X12_of5_F)   := Gd_of (by decide +kernel) (fun z hzl as h r e => by
  obtain ⟨hst, e⟩ := gL_of e
  obtain ⟨t, q0, e⟩ := gT_of e
  obtain ⟨x1, q1, e⟩ := gI_of e
  obtain ⟨x2, q2, e⟩ := gI_of e
  rw [st_3 hst q0 q1 q2]
  exact ⟨show 3 ≤ 3 by decide, X12_of5_s0 _ _ _ _ ((X12_of5_l0 t x1 x2 h).trans e)⟩)
abbrev X12_rowsOf_x (z : CZ) : CX := mx RX12 cX12_rowsOf 2 1 (some .int) "rowsOf" z
noncomputable def X12_rowsOf_b0 (c_X12_of5 : Nat → Int32 → Int32 → PH → Option Rs) : Kn := (a_al 0 (a_il 1 (a_ic 2 (a_vI 11 2 (FW_T11II c_X12_of5) a_ir))))
set_option maxRecDepth 100000 in
theorem X12_rowsOf_s0 {z : CZ} : SK (X12_rowsOf_x z) 0 (X12_rowsOf_b0 X12_of5) := (s_aloadn (pc := 0) dX12_rowsOf_0 rfl (s_iloadn (pc := 1) dX12_rowsOf_1 rfl (s_iconst (pc := 2) dX12_rowsOf_2 c_ic_2 (s_vI (pc := 3) (run_virtual (X12_of5_gd _) (show 0 < 1 by decide) cy_X12_of5 (by decide) rfl w_1534 w_s38 w_1532 dX12_rowsOf_3) (s_ir (pc := 6) rfl dX12_rowsOf_6)))))
noncomputable def X12_rowsOf_f0 (c_X12_of5 : Nat → Int32 → Int32 → PH → Option Rs) (t : Nat) (x1 : Int32) (h : PH) : Option Rs :=
  cI (c_X12_of5 t x1 2 h) fun v2 h1 =>
  some (some (.inl v2), h1)
set_option maxRecDepth 100000 in
theorem X12_rowsOf_l0 (c_X12_of5 : Nat → Int32 → Int32 → PH → Option Rs) (t : Nat) (x1 : Int32) (h : PH) : X12_rowsOf_b0 c_X12_of5 [some (.inr (11, t + 1)), some (.inl x1)] [] h = X12_rowsOf_f0 c_X12_of5 t x1 h := rfl
noncomputable def X12_rowsOf_g0 (t : Nat) (x1 : Int32) (h : PH) : Option Rs := X12_rowsOf_f0 X12_of5 t x1 h
noncomputable def X12_rowsOf (t : Nat) (x1 : Int32) (h : PH) : Option Rs := X12_rowsOf_g0 t x1 h
noncomputable abbrev X12_rowsOf_F : List PV → PH → Option Rs := FW_T11I (X12_rowsOf)
set_option maxRecDepth 100000 in
theorem X12_rowsOf_gd (l : Launch) : Gd l 1 yX12_rowsOf cX12_rowsOf 2 (some .int) (X12_rowsOf_F)   := Gd_of (by decide +kernel) (fun z hzl as h r e => by
  obtain ⟨hst, e⟩ := gL_of e
  obtain ⟨t, q0, e⟩ := gT_of e
  obtain ⟨x1, q1, e⟩ := gI_of e
  rw [st_2 hst q0 q1]
  exact ⟨show 2 ≤ 2 by decide, X12_rowsOf_s0 _ _ _ _ ((X12_rowsOf_l0 X12_of5 t x1 h).trans e)⟩)
abbrev X12_mostBy_x (z : CZ) : CX := mx RX12 cX12_mostBy 1 0 (some .int) "mostBy" z
noncomputable def X12_mostBy_b0 : Kn := (a_il 0 (a_sw [(1, (a_ic 5 a_ir)), (2, (a_ic 2 a_ir)), (3, (a_ic 3 a_ir)), (4, (a_ic 6 a_ir)), (5, (a_ic 1 a_ir))] (a_ic 4 a_ir)))
set_option maxRecDepth 100000 in
theorem X12_mostBy_s0 {z : CZ} : SK (X12_mostBy_x z) 0 (X12_mostBy_b0) := (s_iloadn (pc := 0) dX12_mostBy_0 rfl (s_table (pc := 1) dX12_mostBy_1 (by decide) (by decide) ⟨c_ti_1, ⟨_, by decide, (s_iconst (pc := 36) dX12_mostBy_36 c_ic_5 (s_ir (pc := 37) rfl dX12_mostBy_37))⟩, ⟨c_ti_2, ⟨_, by decide, (s_iconst (pc := 38) dX12_mostBy_38 c_ic_2 (s_ir (pc := 39) rfl dX12_mostBy_39))⟩, ⟨c_ti_3, ⟨_, by decide, (s_iconst (pc := 40) dX12_mostBy_40 c_ic_3 (s_ir (pc := 41) rfl dX12_mostBy_41))⟩, ⟨c_ti_4, ⟨_, by decide, (s_bipush (pc := 42) dX12_mostBy_42 c_bp_6 (s_ir (pc := 44) rfl dX12_mostBy_44))⟩, ⟨c_ti_5, ⟨_, by decide, (s_iconst (pc := 45) dX12_mostBy_45 c_ic_1 (s_ir (pc := 46) rfl dX12_mostBy_46))⟩, trivial⟩⟩⟩⟩⟩ (s_iconst (pc := 47) dX12_mostBy_47 c_ic_4 (s_ir (pc := 48) rfl dX12_mostBy_48))))
noncomputable def X12_mostBy_f0 (x0 : Int32) (h : PH) : Option Rs :=
  if x0 = 1 then
    some (some (.inl 5), h)
  else
  if x0 = 2 then
    some (some (.inl 2), h)
  else
  if x0 = 3 then
    some (some (.inl 3), h)
  else
  if x0 = 4 then
    some (some (.inl 6), h)
  else
  if x0 = 5 then
    some (some (.inl 1), h)
  else
    some (some (.inl 4), h)
set_option maxRecDepth 100000 in
theorem X12_mostBy_l0 (x0 : Int32) (h : PH) : X12_mostBy_b0 [some (.inl x0)] [] h = X12_mostBy_f0 x0 h := rfl
noncomputable def X12_mostBy_g0 (x0 : Int32) (h : PH) : Option Rs := X12_mostBy_f0 x0 h
noncomputable def X12_mostBy (x0 : Int32) (h : PH) : Option Rs := X12_mostBy_g0 x0 h
noncomputable abbrev X12_mostBy_F : List PV → PH → Option Rs := FW_I (X12_mostBy)
set_option maxRecDepth 100000 in
theorem X12_mostBy_gd (l : Launch) : Gd l 0 yX12_mostBy cX12_mostBy 1 (some .int) (X12_mostBy_F)   := Gd_of (by decide +kernel) (fun z hzl as h r e => by
  obtain ⟨hst, e⟩ := gL_of e
  obtain ⟨x0, q0, e⟩ := gI_of e
  rw [st_1 hst q0]
  exact ⟨show 1 ≤ 1 by decide, X12_mostBy_s0 _ _ _ _ ((X12_mostBy_l0 x0 h).trans e)⟩)
abbrev X12_seenBy_x (z : CZ) : CX := mx RX12 cX12_seenBy 1 0 (some .int) "seenBy" z
noncomputable def X12_seenBy_b0 : Kn := (a_il 0 (a_z (a_ic 3 a_ir) (a_il 0 (a_ic 1 (a_eq (a_ic 5 a_ir) (a_il 0 (a_ic 3 (a_eq (a_ic 5 a_ir) (a_il 0 (a_ic 5 (a_eq (a_ic 6 a_ir) (a_ic 1 a_ir))))))))))))
set_option maxRecDepth 100000 in
theorem X12_seenBy_s0 {z : CZ} : SK (X12_seenBy_x z) 0 (X12_seenBy_b0) := (s_iloadn (pc := 0) dX12_seenBy_0 rfl (s_ifne (pc := 1) dX12_seenBy_1 (by decide) (s_iloadn (pc := 8) dX12_seenBy_8 rfl (s_iconst (pc := 9) dX12_seenBy_9 c_ic_1 (s_cmpeq (pc := 10) dX12_seenBy_10 (by decide) (s_iconst (pc := 18) dX12_seenBy_18 c_ic_5 (s_goto (pc := 19) dX12_seenBy_19 (by decide) (s_ir (pc := 33) rfl dX12_seenBy_33))) (s_iloadn (pc := 13) dX12_seenBy_13 rfl (s_iconst (pc := 14) dX12_seenBy_14 c_ic_3 (s_cmpne (pc := 15) dX12_seenBy_15 (by decide) (s_iloadn (pc := 22) dX12_seenBy_22 rfl (s_iconst (pc := 23) dX12_seenBy_23 c_ic_5 (s_cmpne (pc := 24) dX12_seenBy_24 (by decide) (s_iconst (pc := 32) dX12_seenBy_32 c_ic_1 (s_ir (pc := 33) rfl dX12_seenBy_33)) (s_bipush (pc := 27) dX12_seenBy_27 c_bp_6 (s_goto (pc := 29) dX12_seenBy_29 (by decide) (s_ir (pc := 33) rfl dX12_seenBy_33)))))) (s_iconst (pc := 18) dX12_seenBy_18 c_ic_5 (s_goto (pc := 19) dX12_seenBy_19 (by decide) (s_ir (pc := 33) rfl dX12_seenBy_33))))))))) (s_iconst (pc := 4) dX12_seenBy_4 c_ic_3 (s_goto (pc := 5) dX12_seenBy_5 (by decide) (s_ir (pc := 33) rfl dX12_seenBy_33)))))
noncomputable def X12_seenBy_f0 (x0 : Int32) (h : PH) : Option Rs :=
  if x0 = 0 then
    some (some (.inl 3), h)
  else
    if x0 = 1 then
      some (some (.inl 5), h)
    else
      if x0 = 3 then
        some (some (.inl 5), h)
      else
        if x0 = 5 then
          some (some (.inl 6), h)
        else
          some (some (.inl 1), h)
set_option maxRecDepth 100000 in
theorem X12_seenBy_l0 (x0 : Int32) (h : PH) : X12_seenBy_b0 [some (.inl x0)] [] h = X12_seenBy_f0 x0 h := rfl
noncomputable def X12_seenBy_g0 (x0 : Int32) (h : PH) : Option Rs := X12_seenBy_f0 x0 h
noncomputable def X12_seenBy (x0 : Int32) (h : PH) : Option Rs := X12_seenBy_g0 x0 h
noncomputable abbrev X12_seenBy_F : List PV → PH → Option Rs := FW_I (X12_seenBy)
set_option maxRecDepth 100000 in
theorem X12_seenBy_gd (l : Launch) : Gd l 0 yX12_seenBy cX12_seenBy 1 (some .int) (X12_seenBy_F)   := Gd_of (by decide +kernel) (fun z hzl as h r e => by
  obtain ⟨hst, e⟩ := gL_of e
  obtain ⟨x0, q0, e⟩ := gI_of e
  rw [st_1 hst q0]
  exact ⟨show 1 ≤ 1 by decide, X12_seenBy_s0 _ _ _ _ ((X12_seenBy_l0 x0 h).trans e)⟩)
abbrev X12_priceBy_x (z : CZ) : CX := mx RX12 cX12_priceBy 3 0 (some .int) "priceBy" z
noncomputable def X12_priceBy_b0 : Kn := (a_ic 10 (a_ic 2 (a_il 1 (a_b (fun a b => a * b) (a_b (fun a b => a + b) (a_is 2 (a_il 0 (a_sw [(1, (a_il 2 (a_ic 5 (a_b (fun a b => a + b) a_ir)))), (2, (a_il 2 (a_ic 2 (a_div a_ir)))), (3, (a_ic 2 (a_il 2 (a_ic 5 (a_b (fun a b => a + b) (a_b (fun a b => a * b) a_ir)))))), (4, (a_il 2 (a_ic 2 (a_div (a_ic 8 (a_b (fun a b => a + b) a_ir)))))), (5, (a_ic 1 a_ir))] (a_il 2 a_ir)))))))))
set_option maxRecDepth 100000 in
theorem X12_priceBy_s0 {z : CZ} : SK (X12_priceBy_x z) 0 (X12_priceBy_b0) := (s_bipush (pc := 0) dX12_priceBy_0 c_bp_10 (s_iconst (pc := 2) dX12_priceBy_2 c_ic_2 (s_iloadn (pc := 3) dX12_priceBy_3 rfl (s_imul (pc := 4) dX12_priceBy_4 (s_iadd (pc := 5) dX12_priceBy_5 (s_istoren (pc := 6) dX12_priceBy_6 rfl (show 2 < 3 by decide) (s_iloadn (pc := 7) dX12_priceBy_7 rfl (s_table (pc := 8) dX12_priceBy_8 (by decide) (by decide) ⟨c_ti_1, ⟨_, by decide, (s_iloadn (pc := 44) dX12_priceBy_44 rfl (s_iconst (pc := 45) dX12_priceBy_45 c_ic_5 (s_iadd (pc := 46) dX12_priceBy_46 (s_ir (pc := 47) rfl dX12_priceBy_47))))⟩, ⟨c_ti_2, ⟨_, by decide, (s_iloadn (pc := 48) dX12_priceBy_48 rfl (s_iconst (pc := 49) dX12_priceBy_49 c_ic_2 (s_idiv (pc := 50) dX12_priceBy_50 (s_ir (pc := 51) rfl dX12_priceBy_51))))⟩, ⟨c_ti_3, ⟨_, by decide, (s_iconst (pc := 52) dX12_priceBy_52 c_ic_2 (s_iloadn (pc := 53) dX12_priceBy_53 rfl (s_iconst (pc := 54) dX12_priceBy_54 c_ic_5 (s_iadd (pc := 55) dX12_priceBy_55 (s_imul (pc := 56) dX12_priceBy_56 (s_ir (pc := 57) rfl dX12_priceBy_57))))))⟩, ⟨c_ti_4, ⟨_, by decide, (s_iloadn (pc := 58) dX12_priceBy_58 rfl (s_iconst (pc := 59) dX12_priceBy_59 c_ic_2 (s_idiv (pc := 60) dX12_priceBy_60 (s_bipush (pc := 61) dX12_priceBy_61 c_bp_8 (s_iadd (pc := 63) dX12_priceBy_63 (s_ir (pc := 64) rfl dX12_priceBy_64))))))⟩, ⟨c_ti_5, ⟨_, by decide, (s_iconst (pc := 65) dX12_priceBy_65 c_ic_1 (s_ir (pc := 66) rfl dX12_priceBy_66))⟩, trivial⟩⟩⟩⟩⟩ (s_iloadn (pc := 67) dX12_priceBy_67 rfl (s_ir (pc := 68) rfl dX12_priceBy_68))))))))))
noncomputable def X12_priceBy_f0 (x0 : Int32) (x1 : Int32) (h : PH) : Option Rs :=
  if x0 = 1 then
    some (some (.inl ((10 + (2 * x1)) + 5)), h)
  else
  if x0 = 2 then
    dv 2 <|
    some (some (.inl ((10 + (2 * x1)) / 2)), h)
  else
  if x0 = 3 then
    some (some (.inl (2 * ((10 + (2 * x1)) + 5))), h)
  else
  if x0 = 4 then
    dv 2 <|
    some (some (.inl (((10 + (2 * x1)) / 2) + 8)), h)
  else
  if x0 = 5 then
    some (some (.inl 1), h)
  else
    some (some (.inl (10 + (2 * x1))), h)
set_option maxRecDepth 100000 in
theorem X12_priceBy_l0 (x0 : Int32) (x1 : Int32) (h : PH) : X12_priceBy_b0 [some (.inl x0), some (.inl x1), none] [] h = X12_priceBy_f0 x0 x1 h := rfl
noncomputable def X12_priceBy_g0 (x0 : Int32) (x1 : Int32) (h : PH) : Option Rs := X12_priceBy_f0 x0 x1 h
noncomputable def X12_priceBy (x0 : Int32) (x1 : Int32) (h : PH) : Option Rs := X12_priceBy_g0 x0 x1 h
noncomputable abbrev X12_priceBy_F : List PV → PH → Option Rs := FW_II (X12_priceBy)
set_option maxRecDepth 100000 in
theorem X12_priceBy_gd (l : Launch) : Gd l 0 yX12_priceBy cX12_priceBy 3 (some .int) (X12_priceBy_F)   := Gd_of (by decide +kernel) (fun z hzl as h r e => by
  obtain ⟨hst, e⟩ := gL_of e
  obtain ⟨x0, q0, e⟩ := gI_of e
  obtain ⟨x1, q1, e⟩ := gI_of e
  rw [st_2 hst q0 q1]
  exact ⟨show 2 ≤ 3 by decide, X12_priceBy_s0 _ _ _ _ ((X12_priceBy_l0 x0 x1 h).trans e)⟩)
