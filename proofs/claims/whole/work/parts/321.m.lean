abbrev X12_choose_x (z : CZ) : CX := mx RX12 cX12_choose 3 2 (some .int) "choose" z
noncomputable def X12_choose_b0 (c_X12_isPlace : Nat → Int32 → PH → Option Rs) (k13 : Kn) : Kn := (a_al 0 (a_il 1 (a_vI 11 1 (FW_T11I c_X12_isPlace) (a_z (a_ic (-1000000001) a_ir) (a_ic 0 (a_is 2 k13))))))
set_option maxRecDepth 100000 in
theorem X12_choose_s0 {z : CZ} {k13 : Kn} (hk13 : SK (X12_choose_x z) 13 k13) : SK (X12_choose_x z) 0 (X12_choose_b0 X12_isPlace k13) := (s_aloadn (pc := 0) dX12_choose_0 rfl (s_iloadn (pc := 1) dX12_choose_1 rfl (s_vI (pc := 2) (run_virtual (X12_isPlace_gd _) (show 1 < 2 by decide) cy_X12_isPlace (by decide) rfl w_1461 w_s29 w_1459 dX12_choose_2) (s_ifne (pc := 5) dX12_choose_5 (by decide) (s_iconst (pc := 11) dX12_choose_11 c_ic_0 (s_istoren (pc := 12) dX12_choose_12 rfl (show 2 < 3 by decide) hk13)) (s_ldc (pc := 8) w_1466 dX12_choose_8 (s_ir (pc := 10) rfl dX12_choose_10))))))
noncomputable def X12_choose_b13 (k13 : Kn) : Kn := (a_il 2 (a_al 0 (a_gR 11 704 41 (a_ic 7 (a_ald 41 2624 (a_lt (a_al 0 (a_gR 11 704 41 (a_ic 9 (a_il 2 (a_b (fun a b => a + b) (a_ald 41 2624 (a_il 1 (a_eq (a_ic (-1000000002) a_ir) (a_inc 2 1 k13))))))))) (a_al 0 (a_gR 11 704 41 (a_ic 7 (a_ald 41 2624 (a_ic 6 (a_eq (a_ic (-1000000003) a_ir) (a_al 0 (a_gR 11 704 41 (a_ic 9 (a_al 0 (a_gR 11 704 41 (a_ic 7 (a_ald 41 2624 (a_b (fun a b => a + b) (a_il 1 (a_ast 41 2624 (fun a => a) (a_al 0 (a_gR 11 704 41 (a_ic 7 (a_dup2 (a_ald 41 2624 (a_ic 1 (a_b (fun a b => a + b) (a_ast 41 2624 (fun a => a) (a_al 0 (a_gR 11 704 41 (a_ic 7 (a_ald 41 2624 a_ir))))))))))))))))))))))))))))))))))
set_option maxRecDepth 100000 in
theorem X12_choose_s13 {z : CZ} {k13 : Kn} (hk13 : SK (X12_choose_x z) 13 k13) : SK (X12_choose_x z) 13 (X12_choose_b13 k13) := (s_iloadn (pc := 13) dX12_choose_13 rfl (s_aloadn (pc := 14) dX12_choose_14 rfl (s_gR (pc := 15) (f := 0) ko_11 (by decide) rfl rfl w_1295 dX12_choose_15 (s_bipush (pc := 18) dX12_choose_18 c_bp_7 (s_iald (pc := 20) (by decide) (by decide) rfl rfl rfl dX12_choose_20 (s_cmpge (pc := 21) dX12_choose_21 (by decide) (s_aloadn (pc := 46) dX12_choose_46 rfl (s_gR (pc := 47) (f := 0) ko_11 (by decide) rfl rfl w_1295 dX12_choose_47 (s_bipush (pc := 50) dX12_choose_50 c_bp_7 (s_iald (pc := 52) (by decide) (by decide) rfl rfl rfl dX12_choose_52 (s_bipush (pc := 53) dX12_choose_53 c_bp_6 (s_cmpne (pc := 55) dX12_choose_55 (by decide) (s_aloadn (pc := 61) dX12_choose_61 rfl (s_gR (pc := 62) (f := 0) ko_11 (by decide) rfl rfl w_1295 dX12_choose_62 (s_bipush (pc := 65) dX12_choose_65 c_bp_9 (s_aloadn (pc := 67) dX12_choose_67 rfl (s_gR (pc := 68) (f := 0) ko_11 (by decide) rfl rfl w_1295 dX12_choose_68 (s_bipush (pc := 71) dX12_choose_71 c_bp_7 (s_iald (pc := 73) (by decide) (by decide) rfl rfl rfl dX12_choose_73 (s_iadd (pc := 74) dX12_choose_74 (s_iloadn (pc := 75) dX12_choose_75 rfl (s_iast (pc := 76) (by decide) (by decide) rfl rfl rfl dX12_choose_76 (s_aloadn (pc := 77) dX12_choose_77 rfl (s_gR (pc := 78) (f := 0) ko_11 (by decide) rfl rfl w_1295 dX12_choose_78 (s_bipush (pc := 81) dX12_choose_81 c_bp_7 (s_dup2 (pc := 83) dX12_choose_83 (s_iald (pc := 84) (by decide) (by decide) rfl rfl rfl dX12_choose_84 (s_iconst (pc := 85) dX12_choose_85 c_ic_1 (s_iadd (pc := 86) dX12_choose_86 (s_iast (pc := 87) (by decide) (by decide) rfl rfl rfl dX12_choose_87 (s_aloadn (pc := 88) dX12_choose_88 rfl (s_gR (pc := 89) (f := 0) ko_11 (by decide) rfl rfl w_1295 dX12_choose_89 (s_bipush (pc := 92) dX12_choose_92 c_bp_7 (s_iald (pc := 94) (by decide) (by decide) rfl rfl rfl dX12_choose_94 (s_ir (pc := 95) rfl dX12_choose_95))))))))))))))))))))))) (s_ldc (pc := 58) w_1454 dX12_choose_58 (s_ir (pc := 60) rfl dX12_choose_60)))))))) (s_aloadn (pc := 24) dX12_choose_24 rfl (s_gR (pc := 25) (f := 0) ko_11 (by decide) rfl rfl w_1295 dX12_choose_25 (s_bipush (pc := 28) dX12_choose_28 c_bp_9 (s_iloadn (pc := 30) dX12_choose_30 rfl (s_iadd (pc := 31) dX12_choose_31 (s_iald (pc := 32) (by decide) (by decide) rfl rfl rfl dX12_choose_32 (s_iloadn (pc := 33) dX12_choose_33 rfl (s_cmpne (pc := 34) dX12_choose_34 (by decide) (s_iinc (pc := 40) dX12_choose_40 c_ic_1 (show 2 < 3 by decide) (s_goto (pc := 43) dX12_choose_43 (by decide) hk13)) (s_ldc (pc := 37) w_1471 dX12_choose_37 (s_ir (pc := 39) rfl dX12_choose_39))))))))))))))))
noncomputable def X12_choose_u13 (g : Nat → Int32 → Int32 → PH → Option Rs) : Kn := fun ls st h => gL 0 st (gT 11 ls 0 fun t => gI ls 1 fun x1 => gI ls 2 fun x2 => g t x1 x2 h)
noncomputable def X12_choose_f0 (c_X12_isPlace : Nat → Int32 → PH → Option Rs) (g13 : Nat → Int32 → Int32 → PH → Option Rs) (t : Nat) (x1 : Int32) (h : PH) : Option Rs :=
  cI (c_X12_isPlace t x1 h) fun v2 h1 =>
  if v2 = 0 then
    some (some (.inl (-1000000001)), h1)
  else
    g13 t x1 0 h1
set_option maxRecDepth 100000 in
theorem X12_choose_l0 (c_X12_isPlace : Nat → Int32 → PH → Option Rs) (g13 : Nat → Int32 → Int32 → PH → Option Rs) (t : Nat) (x1 : Int32) (h : PH) : X12_choose_b0 c_X12_isPlace (X12_choose_u13 g13) [some (.inr (11, t + 1)), some (.inl x1), none] [] h = X12_choose_f0 c_X12_isPlace g13 t x1 h := rfl
theorem X12_choose_m0 {c_X12_isPlace : Nat → Int32 → PH → Option Rs} {g13 G13 : Nat → Int32 → Int32 → PH → Option Rs} (hg13 : ∀ a0 a1 a2 a3, Mo (g13 a0 a1 a2 a3) (G13 a0 a1 a2 a3)) (t : Nat) (x1 : Int32) (h : PH) : Mo (X12_choose_f0 c_X12_isPlace g13 t x1 h) (X12_choose_f0 c_X12_isPlace G13 t x1 h) := (mo_cI fun v2 h1 => (mo_if mo_rf (hg13 t x1 0 h1)))
noncomputable def X12_choose_f13 (g13 : Nat → Int32 → Int32 → PH → Option Rs) (t : Nat) (x1 : Int32) (x2 : Int32) (h : PH) : Option Rs :=
  nn (hR h 704 t 0) fun r3 =>
  ix 7 (hL h 41 r3) fun j4 =>
  if x2 < (hI h 2624 r3 j4) then
    nn (hR h 704 t 0) fun r19 =>
    ix (9 + x2) (hL h 41 r19) fun j20 =>
    if (hI h 2624 r19 j20) = x1 then
      some (some (.inl (-1000000002)), h)
    else
      g13 t x1 (x2 + 1) h
  else
    nn (hR h 704 t 0) fun r5 =>
    ix 7 (hL h 41 r5) fun j6 =>
    if (hI h 2624 r5 j6) = 6 then
      some (some (.inl (-1000000003)), h)
    else
      nn (hR h 704 t 0) fun r7 =>
      ix 7 (hL h 41 r7) fun j8 =>
      nn (hR h 704 t 0) fun r9 =>
      ix (9 + (hI h 2624 r7 j8)) (hL h 41 r9) fun j10 =>
      wr (pI h 2624 r9 j10 x1) fun h11 =>
      nn (hR h11 704 t 0) fun r12 =>
      ix 7 (hL h11 41 r12) fun j13 =>
      nn (hR h11 704 t 0) fun r14 =>
      ix 7 (hL h11 41 r14) fun j15 =>
      wr (pI h11 2624 r14 j15 ((hI h11 2624 r12 j13) + 1)) fun h16 =>
      nn (hR h16 704 t 0) fun r17 =>
      ix 7 (hL h16 41 r17) fun j18 =>
      some (some (.inl (hI h16 2624 r17 j18)), h16)
set_option maxRecDepth 100000 in
theorem X12_choose_l13 (g13 : Nat → Int32 → Int32 → PH → Option Rs) (t : Nat) (x1 : Int32) (x2 : Int32) (h : PH) : X12_choose_b13 (X12_choose_u13 g13) [some (.inr (11, t + 1)), some (.inl x1), some (.inl x2)] [] h = X12_choose_f13 g13 t x1 x2 h := rfl
theorem X12_choose_m13 {g13 G13 : Nat → Int32 → Int32 → PH → Option Rs} (hg13 : ∀ a0 a1 a2 a3, Mo (g13 a0 a1 a2 a3) (G13 a0 a1 a2 a3)) (t : Nat) (x1 : Int32) (x2 : Int32) (h : PH) : Mo (X12_choose_f13 g13 t x1 x2 h) (X12_choose_f13 G13 t x1 x2 h) := (mo_nn fun r3 => (mo_ix fun j4 => (mo_if (mo_nn fun r19 => (mo_ix fun j20 => (mo_if mo_rf (hg13 t x1 (x2 + 1) h)))) (mo_nn fun r5 => (mo_ix fun j6 => (mo_if mo_rf (mo_nn fun r7 => (mo_ix fun j8 => (mo_nn fun r9 => (mo_ix fun j10 => (mo_wr fun h11 => (mo_nn fun r12 => (mo_ix fun j13 => (mo_nn fun r14 => (mo_ix fun j15 => (mo_wr fun h16 => (mo_nn fun r17 => (mo_ix fun j18 => mo_rf))))))))))))))))))
theorem X12_choose_w13 {z : CZ} {g13 : Nat → Int32 → Int32 → PH → Option Rs} (hk13 : SK (X12_choose_x z) 13 (X12_choose_u13 g13)) : SK (X12_choose_x z) 13 (X12_choose_u13 (X12_choose_f13 g13)) := by
  intro ls st h r e
  obtain ⟨hst, e⟩ := gL_of e
  obtain ⟨t, q0, e⟩ := gT_of e
  obtain ⟨x1, q1, e⟩ := gI_of e
  obtain ⟨x2, q2, e⟩ := gI_of e
  rw [st_0 hst]
  exact WK.sub (canon := [some (.inr (11, t + 1)), some (.inl x1), some (.inl x2)]) rfl ⟨q0, q1, q2, trivial⟩ (X12_choose_s13 hk13 _ _ _ _ ((X12_choose_l13 g13 t x1 x2 h).trans e))
noncomputable def X12_choose_g0 (G : (Nat → Int32 → Int32 → PH → Option Rs)) (t : Nat) (x1 : Int32) (h : PH) : Option Rs := X12_choose_f0 X12_isPlace (G) t x1 h
noncomputable def X12_choose_g13 (G : (Nat → Int32 → Int32 → PH → Option Rs)) (t : Nat) (x1 : Int32) (x2 : Int32) (h : PH) : Option Rs := X12_choose_f13 (G) t x1 x2 h
theorem X12_choose_v13 {z : CZ} {G : (Nat → Int32 → Int32 → PH → Option Rs)} (hG13 : SK (X12_choose_x z) 13 (X12_choose_u13 (G))) : SK (X12_choose_x z) 13 (X12_choose_u13 (X12_choose_g13 G)) := X12_choose_w13 hG13
noncomputable def X12_choose_fam : Nat → (Nat → Int32 → Int32 → PH → Option Rs)
  | 0 => fun _ _ _ _ => none
  | n + 1 => X12_choose_g13 (X12_choose_fam n)
theorem X12_choose_k {z : CZ} : ∀ n, SK (X12_choose_x z) 13 (X12_choose_u13 (X12_choose_fam n))
  | 0 => (fun ls st h r e => by
      obtain ⟨_, e⟩ := gL_of e
      obtain ⟨_, _, e⟩ := gT_of e
      obtain ⟨_, _, e⟩ := gI_of e
      obtain ⟨_, _, e⟩ := gI_of e
      cases e)
  | n + 1 => by
    obtain ih13 := X12_choose_k n
    exact X12_choose_v13 ih13
theorem X12_choose_n0 {G G' : (Nat → Int32 → Int32 → PH → Option Rs)} (hg13 : ∀ a0 a1 a2 a3, Mo ((G) a0 a1 a2 a3) ((G') a0 a1 a2 a3)) (t : Nat) (x1 : Int32) (h : PH) : Mo (X12_choose_g0 G t x1 h) (X12_choose_g0 G' t x1 h) := X12_choose_m0 hg13 t x1 h
theorem X12_choose_n13 {G G' : (Nat → Int32 → Int32 → PH → Option Rs)} (hg13 : ∀ a0 a1 a2 a3, Mo ((G) a0 a1 a2 a3) ((G') a0 a1 a2 a3)) (t : Nat) (x1 : Int32) (x2 : Int32) (h : PH) : Mo (X12_choose_g13 G t x1 x2 h) (X12_choose_g13 G' t x1 x2 h) := X12_choose_m13 hg13 t x1 x2 h
theorem X12_choose_fm : ∀ n, (∀ a0 a1 a2 a3, Mo ((X12_choose_fam n) a0 a1 a2 a3) ((X12_choose_fam (n + 1)) a0 a1 a2 a3))
  | 0 => fun _ _ _ _ => mo_no
  | n + 1 => by
    obtain ih13 := X12_choose_fm n
    exact fun a0 a1 a2 a3 => X12_choose_n13 ih13 a0 a1 a2 a3
noncomputable def X12_choose (t : Nat) (x1 : Int32) (h : PH) : Option Rs := lim (fun n => X12_choose_g0 (X12_choose_fam n) t x1 h)
theorem X12_choose_iff {t : Nat} {x1 : Int32} {h : PH} {r : Rs} : X12_choose t x1 h = some r ↔ ∃ n, X12_choose_g0 (X12_choose_fam n) t x1 h = some r := lim_iff (fun n => by
  obtain ih13 := X12_choose_fm n
  exact X12_choose_n0 ih13 t x1 h)
noncomputable abbrev X12_choose_F : List PV → PH → Option Rs := FW_T11I (X12_choose)
set_option maxRecDepth 100000 in
theorem X12_choose_gd (l : Launch) : Gd l 2 yX12_choose cX12_choose 3 (some .int) (X12_choose_F)   := Gd_of (by decide +kernel) (fun z hzl as h r e => by
  obtain ⟨hst, e⟩ := gL_of e
  obtain ⟨t, q0, e⟩ := gT_of e
  obtain ⟨x1, q1, e⟩ := gI_of e
  rw [st_2 hst q0 q1]
  obtain ⟨n, e⟩ := lim_of e
  obtain hG13 := X12_choose_k (z := z) n
  exact ⟨show 2 ≤ 3 by decide, X12_choose_s0 hG13 _ _ _ _ ((X12_choose_l0 X12_isPlace (X12_choose_fam n) t x1 h).trans e)⟩)
abbrev X12_clear_x (z : CZ) : CX := mx RX12 cX12_clear 2 0 (some .int) "clear" z
noncomputable def X12_clear_b0 : Kn := (a_al 0 (a_gR 11 704 41 (a_ic 7 (a_ald 41 2624 (a_is 1 (a_al 0 (a_gR 11 704 41 (a_ic 7 (a_ic 0 (a_ast 41 2624 (fun a => a) (a_il 1 a_ir)))))))))))
set_option maxRecDepth 100000 in
theorem X12_clear_s0 {z : CZ} : SK (X12_clear_x z) 0 (X12_clear_b0) := (s_aloadn (pc := 0) dX12_clear_0 rfl (s_gR (pc := 1) (f := 0) ko_11 (by decide) rfl rfl w_1295 dX12_clear_1 (s_bipush (pc := 4) dX12_clear_4 c_bp_7 (s_iald (pc := 6) (by decide) (by decide) rfl rfl rfl dX12_clear_6 (s_istoren (pc := 7) dX12_clear_7 rfl (show 1 < 2 by decide) (s_aloadn (pc := 8) dX12_clear_8 rfl (s_gR (pc := 9) (f := 0) ko_11 (by decide) rfl rfl w_1295 dX12_clear_9 (s_bipush (pc := 12) dX12_clear_12 c_bp_7 (s_iconst (pc := 14) dX12_clear_14 c_ic_0 (s_iast (pc := 15) (by decide) (by decide) rfl rfl rfl dX12_clear_15 (s_iloadn (pc := 16) dX12_clear_16 rfl (s_ir (pc := 17) rfl dX12_clear_17))))))))))))
noncomputable def X12_clear_f0 (t : Nat) (h : PH) : Option Rs :=
  nn (hR h 704 t 0) fun r1 =>
  ix 7 (hL h 41 r1) fun j2 =>
  nn (hR h 704 t 0) fun r3 =>
  ix 7 (hL h 41 r3) fun j4 =>
  wr (pI h 2624 r3 j4 0) fun h5 =>
  some (some (.inl (hI h 2624 r1 j2)), h5)
set_option maxRecDepth 100000 in
theorem X12_clear_l0 (t : Nat) (h : PH) : X12_clear_b0 [some (.inr (11, t + 1)), none] [] h = X12_clear_f0 t h := rfl
noncomputable def X12_clear_g0 (t : Nat) (h : PH) : Option Rs := X12_clear_f0 t h
noncomputable def X12_clear (t : Nat) (h : PH) : Option Rs := X12_clear_g0 t h
noncomputable abbrev X12_clear_F : List PV → PH → Option Rs := FW_T11 (X12_clear)
set_option maxRecDepth 100000 in
theorem X12_clear_gd (l : Launch) : Gd l 0 yX12_clear cX12_clear 2 (some .int) (X12_clear_F)   := Gd_of (by decide +kernel) (fun z hzl as h r e => by
  obtain ⟨hst, e⟩ := gL_of e
  obtain ⟨t, q0, e⟩ := gT_of e
  rw [st_1 hst q0]
  exact ⟨show 1 ≤ 2 by decide, X12_clear_s0 _ _ _ _ ((X12_clear_l0 t h).trans e)⟩)
abbrev X12_ones_x (z : CZ) : CX := mx RX12 cX12_ones 3 0 (some .int) "ones" z
noncomputable def X12_ones_b0 (k4 : Kn) : Kn := (a_ic 0 (a_is 1 (a_ic 0 (a_is 2 k4))))
set_option maxRecDepth 100000 in
theorem X12_ones_s0 {z : CZ} {k4 : Kn} (hk4 : SK (X12_ones_x z) 4 k4) : SK (X12_ones_x z) 0 (X12_ones_b0 k4) := (s_iconst (pc := 0) dX12_ones_0 c_ic_0 (s_istoren (pc := 1) dX12_ones_1 rfl (show 1 < 3 by decide) (s_iconst (pc := 2) dX12_ones_2 c_ic_0 (s_istoren (pc := 3) dX12_ones_3 rfl (show 2 < 3 by decide) hk4))))
noncomputable def X12_ones_b4 (k4 : Kn) : Kn := (a_il 2 (a_ic 6 (a_lt (a_il 1 (a_il 0 (a_il 2 (a_b jshr (a_ic 1 (a_b (fun a b => a &&& b) (a_b (fun a b => a + b) (a_is 1 (a_inc 2 1 k4))))))))) (a_il 1 a_ir))))
set_option maxRecDepth 100000 in
theorem X12_ones_s4 {z : CZ} {k4 : Kn} (hk4 : SK (X12_ones_x z) 4 k4) : SK (X12_ones_x z) 4 (X12_ones_b4 k4) := (s_iloadn (pc := 4) dX12_ones_4 rfl (s_bipush (pc := 5) dX12_ones_5 c_bp_6 (s_cmpge (pc := 7) dX12_ones_7 (by decide) (s_iloadn (pc := 24) dX12_ones_24 rfl (s_ir (pc := 25) rfl dX12_ones_25)) (s_iloadn (pc := 10) dX12_ones_10 rfl (s_iloadn (pc := 11) dX12_ones_11 rfl (s_iloadn (pc := 12) dX12_ones_12 rfl (s_ishr (pc := 13) dX12_ones_13 (s_iconst (pc := 14) dX12_ones_14 c_ic_1 (s_iand (pc := 15) dX12_ones_15 (s_iadd (pc := 16) dX12_ones_16 (s_istoren (pc := 17) dX12_ones_17 rfl (show 1 < 3 by decide) (s_iinc (pc := 18) dX12_ones_18 c_ic_1 (show 2 < 3 by decide) (s_goto (pc := 21) dX12_ones_21 (by decide) hk4)))))))))))))
noncomputable def X12_ones_u4 (g : Int32 → Int32 → Int32 → PH → Option Rs) : Kn := fun ls st h => gL 0 st (gI ls 0 fun x0 => gI ls 1 fun x1 => gI ls 2 fun x2 => g x0 x1 x2 h)
noncomputable def X12_ones_f0 (g4 : Int32 → Int32 → Int32 → PH → Option Rs) (x0 : Int32) (h : PH) : Option Rs :=
  g4 x0 0 0 h
set_option maxRecDepth 100000 in
theorem X12_ones_l0 (g4 : Int32 → Int32 → Int32 → PH → Option Rs) (x0 : Int32) (h : PH) : X12_ones_b0 (X12_ones_u4 g4) [some (.inl x0), none, none] [] h = X12_ones_f0 g4 x0 h := rfl
theorem X12_ones_m0 {g4 G4 : Int32 → Int32 → Int32 → PH → Option Rs} (hg4 : ∀ a0 a1 a2 a3, Mo (g4 a0 a1 a2 a3) (G4 a0 a1 a2 a3)) (x0 : Int32) (h : PH) : Mo (X12_ones_f0 g4 x0 h) (X12_ones_f0 G4 x0 h) := (hg4 x0 0 0 h)
noncomputable def X12_ones_f4 (g4 : Int32 → Int32 → Int32 → PH → Option Rs) (x0 : Int32) (x1 : Int32) (x2 : Int32) (h : PH) : Option Rs :=
  if x2 < 6 then
    g4 x0 (x1 + ((jshr x0 x2) &&& 1)) (x2 + 1) h
  else
    some (some (.inl x1), h)
set_option maxRecDepth 100000 in
theorem X12_ones_l4 (g4 : Int32 → Int32 → Int32 → PH → Option Rs) (x0 : Int32) (x1 : Int32) (x2 : Int32) (h : PH) : X12_ones_b4 (X12_ones_u4 g4) [some (.inl x0), some (.inl x1), some (.inl x2)] [] h = X12_ones_f4 g4 x0 x1 x2 h := rfl
theorem X12_ones_m4 {g4 G4 : Int32 → Int32 → Int32 → PH → Option Rs} (hg4 : ∀ a0 a1 a2 a3, Mo (g4 a0 a1 a2 a3) (G4 a0 a1 a2 a3)) (x0 : Int32) (x1 : Int32) (x2 : Int32) (h : PH) : Mo (X12_ones_f4 g4 x0 x1 x2 h) (X12_ones_f4 G4 x0 x1 x2 h) := (mo_if (hg4 x0 (x1 + ((jshr x0 x2) &&& 1)) (x2 + 1) h) mo_rf)
theorem X12_ones_w4 {z : CZ} {g4 : Int32 → Int32 → Int32 → PH → Option Rs} (hk4 : SK (X12_ones_x z) 4 (X12_ones_u4 g4)) : SK (X12_ones_x z) 4 (X12_ones_u4 (X12_ones_f4 g4)) := by
  intro ls st h r e
  obtain ⟨hst, e⟩ := gL_of e
  obtain ⟨x0, q0, e⟩ := gI_of e
  obtain ⟨x1, q1, e⟩ := gI_of e
  obtain ⟨x2, q2, e⟩ := gI_of e
  rw [st_0 hst]
  exact WK.sub (canon := [some (.inl x0), some (.inl x1), some (.inl x2)]) rfl ⟨q0, q1, q2, trivial⟩ (X12_ones_s4 hk4 _ _ _ _ ((X12_ones_l4 g4 x0 x1 x2 h).trans e))
noncomputable def X12_ones_g0 (G : (Int32 → Int32 → Int32 → PH → Option Rs)) (x0 : Int32) (h : PH) : Option Rs := X12_ones_f0 (G) x0 h
noncomputable def X12_ones_g4 (G : (Int32 → Int32 → Int32 → PH → Option Rs)) (x0 : Int32) (x1 : Int32) (x2 : Int32) (h : PH) : Option Rs := X12_ones_f4 (G) x0 x1 x2 h
theorem X12_ones_v4 {z : CZ} {G : (Int32 → Int32 → Int32 → PH → Option Rs)} (hG4 : SK (X12_ones_x z) 4 (X12_ones_u4 (G))) : SK (X12_ones_x z) 4 (X12_ones_u4 (X12_ones_g4 G)) := X12_ones_w4 hG4
noncomputable def X12_ones_fam : Nat → (Int32 → Int32 → Int32 → PH → Option Rs)
  | 0 => fun _ _ _ _ => none
  | n + 1 => X12_ones_g4 (X12_ones_fam n)
theorem X12_ones_k {z : CZ} : ∀ n, SK (X12_ones_x z) 4 (X12_ones_u4 (X12_ones_fam n))
  | 0 => (fun ls st h r e => by
      obtain ⟨_, e⟩ := gL_of e
      obtain ⟨_, _, e⟩ := gI_of e
      obtain ⟨_, _, e⟩ := gI_of e
      obtain ⟨_, _, e⟩ := gI_of e
      cases e)
  | n + 1 => by
    obtain ih4 := X12_ones_k n
    exact X12_ones_v4 ih4
theorem X12_ones_n0 {G G' : (Int32 → Int32 → Int32 → PH → Option Rs)} (hg4 : ∀ a0 a1 a2 a3, Mo ((G) a0 a1 a2 a3) ((G') a0 a1 a2 a3)) (x0 : Int32) (h : PH) : Mo (X12_ones_g0 G x0 h) (X12_ones_g0 G' x0 h) := X12_ones_m0 hg4 x0 h
theorem X12_ones_n4 {G G' : (Int32 → Int32 → Int32 → PH → Option Rs)} (hg4 : ∀ a0 a1 a2 a3, Mo ((G) a0 a1 a2 a3) ((G') a0 a1 a2 a3)) (x0 : Int32) (x1 : Int32) (x2 : Int32) (h : PH) : Mo (X12_ones_g4 G x0 x1 x2 h) (X12_ones_g4 G' x0 x1 x2 h) := X12_ones_m4 hg4 x0 x1 x2 h
theorem X12_ones_fm : ∀ n, (∀ a0 a1 a2 a3, Mo ((X12_ones_fam n) a0 a1 a2 a3) ((X12_ones_fam (n + 1)) a0 a1 a2 a3))
  | 0 => fun _ _ _ _ => mo_no
  | n + 1 => by
    obtain ih4 := X12_ones_fm n
    exact fun a0 a1 a2 a3 => X12_ones_n4 ih4 a0 a1 a2 a3
noncomputable def X12_ones (x0 : Int32) (h : PH) : Option Rs := lim (fun n => X12_ones_g0 (X12_ones_fam n) x0 h)
theorem X12_ones_iff {x0 : Int32} {h : PH} {r : Rs} : X12_ones x0 h = some r ↔ ∃ n, X12_ones_g0 (X12_ones_fam n) x0 h = some r := lim_iff (fun n => by
  obtain ih4 := X12_ones_fm n
  exact X12_ones_n0 ih4 x0 h)
noncomputable abbrev X12_ones_F : List PV → PH → Option Rs := FW_I (X12_ones)
set_option maxRecDepth 100000 in
theorem X12_ones_gd (l : Launch) : Gd l 0 yX12_ones cX12_ones 3 (some .int) (X12_ones_F)   := Gd_of (by decide +kernel) (fun z hzl as h r e => by
  obtain ⟨hst, e⟩ := gL_of e
  obtain ⟨x0, q0, e⟩ := gI_of e
  rw [st_1 hst q0]
  obtain ⟨n, e⟩ := lim_of e
  obtain hG4 := X12_ones_k (z := z) n
  exact ⟨show 1 ≤ 3 by decide, X12_ones_s0 hG4 _ _ _ _ ((X12_ones_l0 (X12_ones_fam n) x0 h).trans e)⟩)
abbrev X12_allArrive_x (z : CZ) : CX := mx RX12 cX12_allArrive 4 6 (some .boolean) "allArrive" z
noncomputable def X12_allArrive_b0 (k7 : Kn) : Kn := (a_al 0 (a_ic 0 (a_pI 11 737 (a_ic 0 (a_is 3 k7)))))
set_option maxRecDepth 100000 in
theorem X12_allArrive_s0 {z : CZ} {k7 : Kn} (hk7 : SK (X12_allArrive_x z) 7 k7) : SK (X12_allArrive_x z) 0 (X12_allArrive_b0 k7) := (s_aloadn (pc := 0) dX12_allArrive_0 rfl (s_iconst (pc := 1) dX12_allArrive_1 c_ic_0 (s_pI (pc := 2) (f := 33) ko_11 (by decide) rfl rfl rfl (by decide +kernel) w_1328 dX12_allArrive_2 (s_iconst (pc := 5) dX12_allArrive_5 c_ic_0 (s_istoren (pc := 6) dX12_allArrive_6 rfl (show 3 < 4 by decide) hk7)))))
noncomputable def X12_allArrive_b7 (k47 k59 : Kn) : Kn := (a_il 3 (a_al 0 (a_gR 11 704 41 (a_ic 7 (a_ald 41 2624 (a_lt (a_al 0 (a_dup (a_gI 11 737 (a_il 2 (a_il 3 (a_b jshr (a_ic 1 (a_b (fun a b => a &&& b) (a_ic 1 (a_eq (a_ic 1 (a_al 0 (a_gR 11 704 41 (a_ic 9 (a_il 3 (a_b (fun a b => a + b) (a_ald 41 2624 (a_b jshl k47)))))))) (a_ic 0 k47))))))))))) (a_ic 0 (a_is 3 k59))))))))
set_option maxRecDepth 100000 in
theorem X12_allArrive_s7 {z : CZ} {k47 k59 : Kn} (hk47 : SK (X12_allArrive_x z) 47 k47) (hk59 : SK (X12_allArrive_x z) 59 k59) : SK (X12_allArrive_x z) 7 (X12_allArrive_b7 k47 k59) := (s_iloadn (pc := 7) dX12_allArrive_7 rfl (s_aloadn (pc := 8) dX12_allArrive_8 rfl (s_gR (pc := 9) (f := 0) ko_11 (by decide) rfl rfl w_1295 dX12_allArrive_9 (s_bipush (pc := 12) dX12_allArrive_12 c_bp_7 (s_iald (pc := 14) (by decide) (by decide) rfl rfl rfl dX12_allArrive_14 (s_cmpge (pc := 15) dX12_allArrive_15 (by decide) (s_iconst (pc := 57) dX12_allArrive_57 c_ic_0 (s_istoren (pc := 58) dX12_allArrive_58 rfl (show 3 < 4 by decide) hk59)) (s_aloadn (pc := 18) dX12_allArrive_18 rfl (s_dup (pc := 19) dX12_allArrive_19 (s_gI (pc := 20) (f := 33) ko_11 (by decide) rfl rfl w_1328 dX12_allArrive_20 (s_iloadn (pc := 23) dX12_allArrive_23 rfl (s_iloadn (pc := 24) dX12_allArrive_24 rfl (s_ishr (pc := 25) dX12_allArrive_25 (s_iconst (pc := 26) dX12_allArrive_26 c_ic_1 (s_iand (pc := 27) dX12_allArrive_27 (s_iconst (pc := 28) dX12_allArrive_28 c_ic_1 (s_cmpne (pc := 29) dX12_allArrive_29 (by decide) (s_iconst (pc := 46) dX12_allArrive_46 c_ic_0 hk47) (s_iconst (pc := 32) dX12_allArrive_32 c_ic_1 (s_aloadn (pc := 33) dX12_allArrive_33 rfl (s_gR (pc := 34) (f := 0) ko_11 (by decide) rfl rfl w_1295 dX12_allArrive_34 (s_bipush (pc := 37) dX12_allArrive_37 c_bp_9 (s_iloadn (pc := 39) dX12_allArrive_39 rfl (s_iadd (pc := 40) dX12_allArrive_40 (s_iald (pc := 41) (by decide) (by decide) rfl rfl rfl dX12_allArrive_41 (s_ishl (pc := 42) dX12_allArrive_42 (s_goto (pc := 43) dX12_allArrive_43 (by decide) hk47)))))))))))))))))))))))))
noncomputable def X12_allArrive_b47 (k7 : Kn) : Kn := (a_b (fun a b => a ||| b) (a_pI 11 737 (a_inc 3 1 k7)))
set_option maxRecDepth 100000 in
theorem X12_allArrive_s47 {z : CZ} {k7 : Kn} (hk7 : SK (X12_allArrive_x z) 7 k7) : SK (X12_allArrive_x z) 47 (X12_allArrive_b47 k7) := (s_ior (pc := 47) dX12_allArrive_47 (s_pI (pc := 48) (f := 33) ko_11 (by decide) rfl rfl rfl (by decide +kernel) w_1328 dX12_allArrive_48 (s_iinc (pc := 51) dX12_allArrive_51 c_ic_1 (show 3 < 4 by decide) (s_goto (pc := 54) dX12_allArrive_54 (by decide) hk7))))
noncomputable def X12_allArrive_b59 (c_X12_walks : Nat → Int32 → Int32 → PH → Option Rs) (k94 : Kn) : Kn := (a_il 3 (a_al 0 (a_gR 11 704 41 (a_ic 3 (a_ald 41 2624 (a_lt (a_al 0 (a_gR 11 738 58 (a_il 3 (a_ald 58 3712 (a_n k94 (a_al 0 (a_il 3 (a_il 1 (a_vV 11 2 (FW_T11II c_X12_walks) (a_al 0 (a_gI 11 731 (a_ic 1 (a_eq k94 (a_ic 0 a_zr)))))))))))))) (a_ic 1 a_zr)))))))
set_option maxRecDepth 100000 in
theorem X12_allArrive_s59 {z : CZ} {k94 : Kn} (hk94 : SK (X12_allArrive_x z) 94 k94) : SK (X12_allArrive_x z) 59 (X12_allArrive_b59 X12_walks k94) := (s_iloadn (pc := 59) dX12_allArrive_59 rfl (s_aloadn (pc := 60) dX12_allArrive_60 rfl (s_gR (pc := 61) (f := 0) ko_11 (by decide) rfl rfl w_1295 dX12_allArrive_61 (s_iconst (pc := 64) dX12_allArrive_64 c_ic_3 (s_iald (pc := 65) (by decide) (by decide) rfl rfl rfl dX12_allArrive_65 (s_cmpge (pc := 66) dX12_allArrive_66 (by decide) (s_iconst (pc := 100) dX12_allArrive_100 c_ic_1 (s_zr (pc := 101) rfl dX12_allArrive_101)) (s_aloadn (pc := 69) dX12_allArrive_69 rfl (s_gR (pc := 70) (f := 34) ko_11 (by decide) rfl rfl w_1329 dX12_allArrive_70 (s_iloadn (pc := 73) dX12_allArrive_73 rfl (s_iald (pc := 74) (by decide) (by decide) rfl rfl rfl dX12_allArrive_74 (s_iflt (pc := 75) dX12_allArrive_75 (by decide) hk94 (s_aloadn (pc := 78) dX12_allArrive_78 rfl (s_iloadn (pc := 79) dX12_allArrive_79 rfl (s_iloadn (pc := 80) dX12_allArrive_80 rfl (s_vV (pc := 81) (run_virtual (X12_walks_gd _) (show 5 < 6 by decide) cy_X12_walks (by decide) rfl w_1706 w_s61 w_1704 dX12_allArrive_81) (s_aloadn (pc := 84) dX12_allArrive_84 rfl (s_gI (pc := 85) (f := 27) ko_11 (by decide) rfl rfl w_1322 dX12_allArrive_85 (s_iconst (pc := 88) dX12_allArrive_88 c_ic_1 (s_cmpeq (pc := 89) dX12_allArrive_89 (by decide) hk94 (s_iconst (pc := 92) dX12_allArrive_92 c_ic_0 (s_zr (pc := 93) rfl dX12_allArrive_93)))))))))))))))))))))
noncomputable def X12_allArrive_b94 (k59 : Kn) : Kn := (a_inc 3 1 k59)
set_option maxRecDepth 100000 in
theorem X12_allArrive_s94 {z : CZ} {k59 : Kn} (hk59 : SK (X12_allArrive_x z) 59 k59) : SK (X12_allArrive_x z) 94 (X12_allArrive_b94 k59) := (s_iinc (pc := 94) dX12_allArrive_94 c_ic_1 (show 3 < 4 by decide) (s_goto (pc := 97) dX12_allArrive_97 (by decide) hk59))
noncomputable def X12_allArrive_u7 (g : Nat → Int32 → Int32 → Int32 → PH → Option Rs) : Kn := fun ls st h => gL 0 st (gT 11 ls 0 fun t => gI ls 1 fun x1 => gI ls 2 fun x2 => gI ls 3 fun x3 => g t x1 x2 x3 h)
noncomputable def X12_allArrive_u47 (g : Nat → Int32 → Int32 → Int32 → Int32 → Int32 → Nat → PH → Option Rs) : Kn := fun ls st h => gL 3 st (gT 11 ls 0 fun t => gI ls 1 fun x1 => gI ls 2 fun x2 => gI ls 3 fun x3 => gI (st.map some) 0 fun s0 => gI (st.map some) 1 fun s1 => gT 11 (st.map some) 2 fun s2 => g t x1 x2 x3 s0 s1 s2 h)
noncomputable def X12_allArrive_u59 (g : Nat → Int32 → Int32 → PH → Option Rs) : Kn := fun ls st h => gL 0 st (gT 11 ls 0 fun t => gI ls 1 fun x1 => gI ls 3 fun x3 => g t x1 x3 h)
noncomputable def X12_allArrive_u94 (g : Nat → Int32 → Int32 → PH → Option Rs) : Kn := fun ls st h => gL 0 st (gT 11 ls 0 fun t => gI ls 1 fun x1 => gI ls 3 fun x3 => g t x1 x3 h)
noncomputable def X12_allArrive_f0 (g7 : Nat → Int32 → Int32 → Int32 → PH → Option Rs) (t : Nat) (x1 : Int32) (x2 : Int32) (h : PH) : Option Rs :=
  wr (pI h 737 t 0 0) fun h1 =>
  g7 t x1 x2 0 h1
set_option maxRecDepth 100000 in
theorem X12_allArrive_l0 (g7 : Nat → Int32 → Int32 → Int32 → PH → Option Rs) (t : Nat) (x1 : Int32) (x2 : Int32) (h : PH) : X12_allArrive_b0 (X12_allArrive_u7 g7) [some (.inr (11, t + 1)), some (.inl x1), some (.inl x2), none] [] h = X12_allArrive_f0 g7 t x1 x2 h := rfl
theorem X12_allArrive_m0 {g7 G7 : Nat → Int32 → Int32 → Int32 → PH → Option Rs} (hg7 : ∀ a0 a1 a2 a3 a4, Mo (g7 a0 a1 a2 a3 a4) (G7 a0 a1 a2 a3 a4)) (t : Nat) (x1 : Int32) (x2 : Int32) (h : PH) : Mo (X12_allArrive_f0 g7 t x1 x2 h) (X12_allArrive_f0 G7 t x1 x2 h) := (mo_wr fun h1 => (hg7 t x1 x2 0 h1))
noncomputable def X12_allArrive_f7 (g47 : Nat → Int32 → Int32 → Int32 → Int32 → Int32 → Nat → PH → Option Rs) (g59 : Nat → Int32 → Int32 → PH → Option Rs) (t : Nat) (x1 : Int32) (x2 : Int32) (x3 : Int32) (h : PH) : Option Rs :=
  nn (hR h 704 t 0) fun r2 =>
  ix 7 (hL h 41 r2) fun j3 =>
  if x3 < (hI h 2624 r2 j3) then
    if ((jshr x2 x3) &&& 1) = 1 then
      nn (hR h 704 t 0) fun r4 =>
      ix (9 + x3) (hL h 41 r4) fun j5 =>
      g47 t x1 x2 x3 (jshl 1 (hI h 2624 r4 j5)) (hI h 737 t 0) t h
    else
      g47 t x1 x2 x3 0 (hI h 737 t 0) t h
  else
    g59 t x1 0 h
set_option maxRecDepth 100000 in
theorem X12_allArrive_l7 (g47 : Nat → Int32 → Int32 → Int32 → Int32 → Int32 → Nat → PH → Option Rs) (g59 : Nat → Int32 → Int32 → PH → Option Rs) (t : Nat) (x1 : Int32) (x2 : Int32) (x3 : Int32) (h : PH) : X12_allArrive_b7 (X12_allArrive_u47 g47) (X12_allArrive_u59 g59) [some (.inr (11, t + 1)), some (.inl x1), some (.inl x2), some (.inl x3)] [] h = X12_allArrive_f7 g47 g59 t x1 x2 x3 h := rfl
theorem X12_allArrive_m7 {g47 G47 : Nat → Int32 → Int32 → Int32 → Int32 → Int32 → Nat → PH → Option Rs} {g59 G59 : Nat → Int32 → Int32 → PH → Option Rs} (hg47 : ∀ a0 a1 a2 a3 a4 a5 a6 a7, Mo (g47 a0 a1 a2 a3 a4 a5 a6 a7) (G47 a0 a1 a2 a3 a4 a5 a6 a7)) (hg59 : ∀ a0 a1 a2 a3, Mo (g59 a0 a1 a2 a3) (G59 a0 a1 a2 a3)) (t : Nat) (x1 : Int32) (x2 : Int32) (x3 : Int32) (h : PH) : Mo (X12_allArrive_f7 g47 g59 t x1 x2 x3 h) (X12_allArrive_f7 G47 G59 t x1 x2 x3 h) := (mo_nn fun r2 => (mo_ix fun j3 => (mo_if (mo_if (mo_nn fun r4 => (mo_ix fun j5 => (hg47 t x1 x2 x3 (jshl 1 (hI h 2624 r4 j5)) (hI h 737 t 0) t h))) (hg47 t x1 x2 x3 0 (hI h 737 t 0) t h)) (hg59 t x1 0 h))))
theorem X12_allArrive_w7 {z : CZ} {g47 : Nat → Int32 → Int32 → Int32 → Int32 → Int32 → Nat → PH → Option Rs} {g59 : Nat → Int32 → Int32 → PH → Option Rs} (hk47 : SK (X12_allArrive_x z) 47 (X12_allArrive_u47 g47)) (hk59 : SK (X12_allArrive_x z) 59 (X12_allArrive_u59 g59)) : SK (X12_allArrive_x z) 7 (X12_allArrive_u7 (X12_allArrive_f7 g47 g59)) := by
  intro ls st h r e
  obtain ⟨hst, e⟩ := gL_of e
  obtain ⟨t, q0, e⟩ := gT_of e
  obtain ⟨x1, q1, e⟩ := gI_of e
  obtain ⟨x2, q2, e⟩ := gI_of e
  obtain ⟨x3, q3, e⟩ := gI_of e
  rw [st_0 hst]
  exact WK.sub (canon := [some (.inr (11, t + 1)), some (.inl x1), some (.inl x2), some (.inl x3)]) rfl ⟨q0, q1, q2, q3, trivial⟩ (X12_allArrive_s7 hk47 hk59 _ _ _ _ ((X12_allArrive_l7 g47 g59 t x1 x2 x3 h).trans e))
noncomputable def X12_allArrive_f47 (g7 : Nat → Int32 → Int32 → Int32 → PH → Option Rs) (t : Nat) (x1 : Int32) (x2 : Int32) (x3 : Int32) (s0 : Int32) (s1 : Int32) (s2 : Nat) (h : PH) : Option Rs :=
  wr (pI h 737 s2 0 (s1 ||| s0)) fun h6 =>
  g7 t x1 x2 (x3 + 1) h6
set_option maxRecDepth 100000 in
theorem X12_allArrive_l47 (g7 : Nat → Int32 → Int32 → Int32 → PH → Option Rs) (t : Nat) (x1 : Int32) (x2 : Int32) (x3 : Int32) (s0 : Int32) (s1 : Int32) (s2 : Nat) (h : PH) : X12_allArrive_b47 (X12_allArrive_u7 g7) [some (.inr (11, t + 1)), some (.inl x1), some (.inl x2), some (.inl x3)] [.inl s0, .inl s1, .inr (11, s2 + 1)] h = X12_allArrive_f47 g7 t x1 x2 x3 s0 s1 s2 h := rfl
theorem X12_allArrive_m47 {g7 G7 : Nat → Int32 → Int32 → Int32 → PH → Option Rs} (hg7 : ∀ a0 a1 a2 a3 a4, Mo (g7 a0 a1 a2 a3 a4) (G7 a0 a1 a2 a3 a4)) (t : Nat) (x1 : Int32) (x2 : Int32) (x3 : Int32) (s0 : Int32) (s1 : Int32) (s2 : Nat) (h : PH) : Mo (X12_allArrive_f47 g7 t x1 x2 x3 s0 s1 s2 h) (X12_allArrive_f47 G7 t x1 x2 x3 s0 s1 s2 h) := (mo_wr fun h6 => (hg7 t x1 x2 (x3 + 1) h6))
theorem X12_allArrive_w47 {z : CZ} {g7 : Nat → Int32 → Int32 → Int32 → PH → Option Rs} (hk7 : SK (X12_allArrive_x z) 7 (X12_allArrive_u7 g7)) : SK (X12_allArrive_x z) 47 (X12_allArrive_u47 (X12_allArrive_f47 g7)) := by
  intro ls st h r e
  obtain ⟨hst, e⟩ := gL_of e
  obtain ⟨t, q0, e⟩ := gT_of e
  obtain ⟨x1, q1, e⟩ := gI_of e
  obtain ⟨x2, q2, e⟩ := gI_of e
  obtain ⟨x3, q3, e⟩ := gI_of e
  obtain ⟨s0, q4, e⟩ := gI_of e
  obtain ⟨s1, q5, e⟩ := gI_of e
  obtain ⟨s2, q6, e⟩ := gT_of e
  rw [st_3 hst q4 q5 q6]
  exact WK.sub (canon := [some (.inr (11, t + 1)), some (.inl x1), some (.inl x2), some (.inl x3)]) rfl ⟨q0, q1, q2, q3, trivial⟩ (X12_allArrive_s47 hk7 _ _ _ _ ((X12_allArrive_l47 g7 t x1 x2 x3 s0 s1 s2 h).trans e))
noncomputable def X12_allArrive_f59 (c_X12_walks : Nat → Int32 → Int32 → PH → Option Rs) (g94 : Nat → Int32 → Int32 → PH → Option Rs) (t : Nat) (x1 : Int32) (x3 : Int32) (h : PH) : Option Rs :=
  nn (hR h 704 t 0) fun r7 =>
  ix 3 (hL h 41 r7) fun j8 =>
  if x3 < (hI h 2624 r7 j8) then
    nn (hR h 738 t 0) fun r9 =>
    ix x3 (hL h 58 r9) fun j10 =>
    if (hI h 3712 r9 j10) < 0 then
      g94 t x1 x3 h
    else
      cV (c_X12_walks t x3 x1 h) fun h11 =>
      if (hI h11 731 t 0) = 1 then
        g94 t x1 x3 h11
      else
        bz 0 <|
        some (some (.inl 0), h11)
  else
    bz 1 <|
    some (some (.inl 1), h)
set_option maxRecDepth 100000 in
theorem X12_allArrive_l59 (c_X12_walks : Nat → Int32 → Int32 → PH → Option Rs) (g94 : Nat → Int32 → Int32 → PH → Option Rs) (t : Nat) (x1 : Int32) (x3 : Int32) (h : PH) : X12_allArrive_b59 c_X12_walks (X12_allArrive_u94 g94) [some (.inr (11, t + 1)), some (.inl x1), none, some (.inl x3)] [] h = X12_allArrive_f59 c_X12_walks g94 t x1 x3 h := rfl
theorem X12_allArrive_m59 {c_X12_walks : Nat → Int32 → Int32 → PH → Option Rs} {g94 G94 : Nat → Int32 → Int32 → PH → Option Rs} (hg94 : ∀ a0 a1 a2 a3, Mo (g94 a0 a1 a2 a3) (G94 a0 a1 a2 a3)) (t : Nat) (x1 : Int32) (x3 : Int32) (h : PH) : Mo (X12_allArrive_f59 c_X12_walks g94 t x1 x3 h) (X12_allArrive_f59 c_X12_walks G94 t x1 x3 h) := (mo_nn fun r7 => (mo_ix fun j8 => (mo_if (mo_nn fun r9 => (mo_ix fun j10 => (mo_if (hg94 t x1 x3 h) (mo_cV fun h11 => (mo_if (hg94 t x1 x3 h11) (mo_bz mo_rf)))))) (mo_bz mo_rf))))
theorem X12_allArrive_w59 {z : CZ} {g94 : Nat → Int32 → Int32 → PH → Option Rs} (hk94 : SK (X12_allArrive_x z) 94 (X12_allArrive_u94 g94)) : SK (X12_allArrive_x z) 59 (X12_allArrive_u59 (X12_allArrive_f59 X12_walks g94)) := by
  intro ls st h r e
  obtain ⟨hst, e⟩ := gL_of e
  obtain ⟨t, q0, e⟩ := gT_of e
  obtain ⟨x1, q1, e⟩ := gI_of e
  obtain ⟨x3, q2, e⟩ := gI_of e
  rw [st_0 hst]
  exact WK.sub (canon := [some (.inr (11, t + 1)), some (.inl x1), none, some (.inl x3)]) rfl ⟨q0, q1, q2, trivial⟩ (X12_allArrive_s59 hk94 _ _ _ _ ((X12_allArrive_l59 X12_walks g94 t x1 x3 h).trans e))
noncomputable def X12_allArrive_f94 (g59 : Nat → Int32 → Int32 → PH → Option Rs) (t : Nat) (x1 : Int32) (x3 : Int32) (h : PH) : Option Rs :=
  g59 t x1 (x3 + 1) h
set_option maxRecDepth 100000 in
theorem X12_allArrive_l94 (g59 : Nat → Int32 → Int32 → PH → Option Rs) (t : Nat) (x1 : Int32) (x3 : Int32) (h : PH) : X12_allArrive_b94 (X12_allArrive_u59 g59) [some (.inr (11, t + 1)), some (.inl x1), none, some (.inl x3)] [] h = X12_allArrive_f94 g59 t x1 x3 h := rfl
theorem X12_allArrive_m94 {g59 G59 : Nat → Int32 → Int32 → PH → Option Rs} (hg59 : ∀ a0 a1 a2 a3, Mo (g59 a0 a1 a2 a3) (G59 a0 a1 a2 a3)) (t : Nat) (x1 : Int32) (x3 : Int32) (h : PH) : Mo (X12_allArrive_f94 g59 t x1 x3 h) (X12_allArrive_f94 G59 t x1 x3 h) := (hg59 t x1 (x3 + 1) h)
theorem X12_allArrive_w94 {z : CZ} {g59 : Nat → Int32 → Int32 → PH → Option Rs} (hk59 : SK (X12_allArrive_x z) 59 (X12_allArrive_u59 g59)) : SK (X12_allArrive_x z) 94 (X12_allArrive_u94 (X12_allArrive_f94 g59)) := by
  intro ls st h r e
  obtain ⟨hst, e⟩ := gL_of e
  obtain ⟨t, q0, e⟩ := gT_of e
  obtain ⟨x1, q1, e⟩ := gI_of e
  obtain ⟨x3, q2, e⟩ := gI_of e
  rw [st_0 hst]
  exact WK.sub (canon := [some (.inr (11, t + 1)), some (.inl x1), none, some (.inl x3)]) rfl ⟨q0, q1, q2, trivial⟩ (X12_allArrive_s94 hk59 _ _ _ _ ((X12_allArrive_l94 g59 t x1 x3 h).trans e))
noncomputable def X12_allArrive_g0 (G : (Nat → Int32 → Int32 → Int32 → PH → Option Rs) × (Nat → Int32 → Int32 → PH → Option Rs)) (t : Nat) (x1 : Int32) (x2 : Int32) (h : PH) : Option Rs := X12_allArrive_f0 (G).1 t x1 x2 h
noncomputable def X12_allArrive_g47 (G : (Nat → Int32 → Int32 → Int32 → PH → Option Rs) × (Nat → Int32 → Int32 → PH → Option Rs)) (t : Nat) (x1 : Int32) (x2 : Int32) (x3 : Int32) (s0 : Int32) (s1 : Int32) (s2 : Nat) (h : PH) : Option Rs := X12_allArrive_f47 (G).1 t x1 x2 x3 s0 s1 s2 h
noncomputable def X12_allArrive_g7 (G : (Nat → Int32 → Int32 → Int32 → PH → Option Rs) × (Nat → Int32 → Int32 → PH → Option Rs)) (t : Nat) (x1 : Int32) (x2 : Int32) (x3 : Int32) (h : PH) : Option Rs := X12_allArrive_f7 (X12_allArrive_g47 G) (G).2 t x1 x2 x3 h
noncomputable def X12_allArrive_g94 (G : (Nat → Int32 → Int32 → Int32 → PH → Option Rs) × (Nat → Int32 → Int32 → PH → Option Rs)) (t : Nat) (x1 : Int32) (x3 : Int32) (h : PH) : Option Rs := X12_allArrive_f94 (G).2 t x1 x3 h
noncomputable def X12_allArrive_g59 (G : (Nat → Int32 → Int32 → Int32 → PH → Option Rs) × (Nat → Int32 → Int32 → PH → Option Rs)) (t : Nat) (x1 : Int32) (x3 : Int32) (h : PH) : Option Rs := X12_allArrive_f59 X12_walks (X12_allArrive_g94 G) t x1 x3 h
theorem X12_allArrive_v47 {z : CZ} {G : (Nat → Int32 → Int32 → Int32 → PH → Option Rs) × (Nat → Int32 → Int32 → PH → Option Rs)} (hG7 : SK (X12_allArrive_x z) 7 (X12_allArrive_u7 (G).1)) (hG59 : SK (X12_allArrive_x z) 59 (X12_allArrive_u59 (G).2)) : SK (X12_allArrive_x z) 47 (X12_allArrive_u47 (X12_allArrive_g47 G)) := X12_allArrive_w47 hG7
theorem X12_allArrive_v7 {z : CZ} {G : (Nat → Int32 → Int32 → Int32 → PH → Option Rs) × (Nat → Int32 → Int32 → PH → Option Rs)} (hG7 : SK (X12_allArrive_x z) 7 (X12_allArrive_u7 (G).1)) (hG59 : SK (X12_allArrive_x z) 59 (X12_allArrive_u59 (G).2)) : SK (X12_allArrive_x z) 7 (X12_allArrive_u7 (X12_allArrive_g7 G)) := X12_allArrive_w7 (X12_allArrive_v47 hG7 hG59) hG59
theorem X12_allArrive_v94 {z : CZ} {G : (Nat → Int32 → Int32 → Int32 → PH → Option Rs) × (Nat → Int32 → Int32 → PH → Option Rs)} (hG7 : SK (X12_allArrive_x z) 7 (X12_allArrive_u7 (G).1)) (hG59 : SK (X12_allArrive_x z) 59 (X12_allArrive_u59 (G).2)) : SK (X12_allArrive_x z) 94 (X12_allArrive_u94 (X12_allArrive_g94 G)) := X12_allArrive_w94 hG59
theorem X12_allArrive_v59 {z : CZ} {G : (Nat → Int32 → Int32 → Int32 → PH → Option Rs) × (Nat → Int32 → Int32 → PH → Option Rs)} (hG7 : SK (X12_allArrive_x z) 7 (X12_allArrive_u7 (G).1)) (hG59 : SK (X12_allArrive_x z) 59 (X12_allArrive_u59 (G).2)) : SK (X12_allArrive_x z) 59 (X12_allArrive_u59 (X12_allArrive_g59 G)) := X12_allArrive_w59 (X12_allArrive_v94 hG7 hG59)
noncomputable def X12_allArrive_fam : Nat → (Nat → Int32 → Int32 → Int32 → PH → Option Rs) × (Nat → Int32 → Int32 → PH → Option Rs)
  | 0 => (fun _ _ _ _ _ => none, fun _ _ _ _ => none)
  | n + 1 => (X12_allArrive_g7 (X12_allArrive_fam n), X12_allArrive_g59 (X12_allArrive_fam n))
theorem X12_allArrive_k {z : CZ} : ∀ n, SK (X12_allArrive_x z) 7 (X12_allArrive_u7 (X12_allArrive_fam n).1) ∧ SK (X12_allArrive_x z) 59 (X12_allArrive_u59 (X12_allArrive_fam n).2)
  | 0 => ⟨(fun ls st h r e => by
      obtain ⟨_, e⟩ := gL_of e
      obtain ⟨_, _, e⟩ := gT_of e
      obtain ⟨_, _, e⟩ := gI_of e
      obtain ⟨_, _, e⟩ := gI_of e
      obtain ⟨_, _, e⟩ := gI_of e
      cases e), (fun ls st h r e => by
      obtain ⟨_, e⟩ := gL_of e
      obtain ⟨_, _, e⟩ := gT_of e
      obtain ⟨_, _, e⟩ := gI_of e
      obtain ⟨_, _, e⟩ := gI_of e
      cases e)⟩
  | n + 1 => by
    obtain ⟨ih7, ih59⟩ := X12_allArrive_k n
    exact ⟨X12_allArrive_v7 ih7 ih59, X12_allArrive_v59 ih7 ih59⟩
theorem X12_allArrive_n0 {G G' : (Nat → Int32 → Int32 → Int32 → PH → Option Rs) × (Nat → Int32 → Int32 → PH → Option Rs)} (hg7 : ∀ a0 a1 a2 a3 a4, Mo ((G).1 a0 a1 a2 a3 a4) ((G').1 a0 a1 a2 a3 a4)) (hg59 : ∀ a0 a1 a2 a3, Mo ((G).2 a0 a1 a2 a3) ((G').2 a0 a1 a2 a3)) (t : Nat) (x1 : Int32) (x2 : Int32) (h : PH) : Mo (X12_allArrive_g0 G t x1 x2 h) (X12_allArrive_g0 G' t x1 x2 h) := X12_allArrive_m0 hg7 t x1 x2 h
theorem X12_allArrive_n47 {G G' : (Nat → Int32 → Int32 → Int32 → PH → Option Rs) × (Nat → Int32 → Int32 → PH → Option Rs)} (hg7 : ∀ a0 a1 a2 a3 a4, Mo ((G).1 a0 a1 a2 a3 a4) ((G').1 a0 a1 a2 a3 a4)) (hg59 : ∀ a0 a1 a2 a3, Mo ((G).2 a0 a1 a2 a3) ((G').2 a0 a1 a2 a3)) (t : Nat) (x1 : Int32) (x2 : Int32) (x3 : Int32) (s0 : Int32) (s1 : Int32) (s2 : Nat) (h : PH) : Mo (X12_allArrive_g47 G t x1 x2 x3 s0 s1 s2 h) (X12_allArrive_g47 G' t x1 x2 x3 s0 s1 s2 h) := X12_allArrive_m47 hg7 t x1 x2 x3 s0 s1 s2 h
theorem X12_allArrive_n7 {G G' : (Nat → Int32 → Int32 → Int32 → PH → Option Rs) × (Nat → Int32 → Int32 → PH → Option Rs)} (hg7 : ∀ a0 a1 a2 a3 a4, Mo ((G).1 a0 a1 a2 a3 a4) ((G').1 a0 a1 a2 a3 a4)) (hg59 : ∀ a0 a1 a2 a3, Mo ((G).2 a0 a1 a2 a3) ((G').2 a0 a1 a2 a3)) (t : Nat) (x1 : Int32) (x2 : Int32) (x3 : Int32) (h : PH) : Mo (X12_allArrive_g7 G t x1 x2 x3 h) (X12_allArrive_g7 G' t x1 x2 x3 h) := X12_allArrive_m7 (fun a0 a1 a2 a3 a4 a5 a6 a7 => X12_allArrive_n47 hg7 hg59 a0 a1 a2 a3 a4 a5 a6 a7) hg59 t x1 x2 x3 h
theorem X12_allArrive_n94 {G G' : (Nat → Int32 → Int32 → Int32 → PH → Option Rs) × (Nat → Int32 → Int32 → PH → Option Rs)} (hg7 : ∀ a0 a1 a2 a3 a4, Mo ((G).1 a0 a1 a2 a3 a4) ((G').1 a0 a1 a2 a3 a4)) (hg59 : ∀ a0 a1 a2 a3, Mo ((G).2 a0 a1 a2 a3) ((G').2 a0 a1 a2 a3)) (t : Nat) (x1 : Int32) (x3 : Int32) (h : PH) : Mo (X12_allArrive_g94 G t x1 x3 h) (X12_allArrive_g94 G' t x1 x3 h) := X12_allArrive_m94 hg59 t x1 x3 h
theorem X12_allArrive_n59 {G G' : (Nat → Int32 → Int32 → Int32 → PH → Option Rs) × (Nat → Int32 → Int32 → PH → Option Rs)} (hg7 : ∀ a0 a1 a2 a3 a4, Mo ((G).1 a0 a1 a2 a3 a4) ((G').1 a0 a1 a2 a3 a4)) (hg59 : ∀ a0 a1 a2 a3, Mo ((G).2 a0 a1 a2 a3) ((G').2 a0 a1 a2 a3)) (t : Nat) (x1 : Int32) (x3 : Int32) (h : PH) : Mo (X12_allArrive_g59 G t x1 x3 h) (X12_allArrive_g59 G' t x1 x3 h) := X12_allArrive_m59 (fun a0 a1 a2 a3 => X12_allArrive_n94 hg7 hg59 a0 a1 a2 a3) t x1 x3 h
theorem X12_allArrive_fm : ∀ n, (∀ a0 a1 a2 a3 a4, Mo ((X12_allArrive_fam n).1 a0 a1 a2 a3 a4) ((X12_allArrive_fam (n + 1)).1 a0 a1 a2 a3 a4)) ∧ (∀ a0 a1 a2 a3, Mo ((X12_allArrive_fam n).2 a0 a1 a2 a3) ((X12_allArrive_fam (n + 1)).2 a0 a1 a2 a3))
  | 0 => ⟨fun _ _ _ _ _ => mo_no, fun _ _ _ _ => mo_no⟩
  | n + 1 => by
    obtain ⟨ih7, ih59⟩ := X12_allArrive_fm n
    exact ⟨fun a0 a1 a2 a3 a4 => X12_allArrive_n7 ih7 ih59 a0 a1 a2 a3 a4, fun a0 a1 a2 a3 => X12_allArrive_n59 ih7 ih59 a0 a1 a2 a3⟩
noncomputable def X12_allArrive (t : Nat) (x1 : Int32) (x2 : Int32) (h : PH) : Option Rs := lim (fun n => X12_allArrive_g0 (X12_allArrive_fam n) t x1 x2 h)
theorem X12_allArrive_iff {t : Nat} {x1 : Int32} {x2 : Int32} {h : PH} {r : Rs} : X12_allArrive t x1 x2 h = some r ↔ ∃ n, X12_allArrive_g0 (X12_allArrive_fam n) t x1 x2 h = some r := lim_iff (fun n => by
  obtain ⟨ih7, ih59⟩ := X12_allArrive_fm n
  exact X12_allArrive_n0 ih7 ih59 t x1 x2 h)
noncomputable abbrev X12_allArrive_F : List PV → PH → Option Rs := FW_T11II (X12_allArrive)
set_option maxRecDepth 100000 in
theorem X12_allArrive_gd (l : Launch) : Gd l 6 yX12_allArrive cX12_allArrive 4 (some .boolean) (X12_allArrive_F)   := Gd_of (by decide +kernel) (fun z hzl as h r e => by
  obtain ⟨hst, e⟩ := gL_of e
  obtain ⟨t, q0, e⟩ := gT_of e
  obtain ⟨x1, q1, e⟩ := gI_of e
  obtain ⟨x2, q2, e⟩ := gI_of e
  rw [st_3 hst q0 q1 q2]
  obtain ⟨n, e⟩ := lim_of e
  obtain ⟨hG7, hG59⟩ := X12_allArrive_k (z := z) n
  exact ⟨show 3 ≤ 4 by decide, X12_allArrive_s0 hG7 _ _ _ _ ((X12_allArrive_l0 (X12_allArrive_fam n).1 t x1 x2 h).trans e)⟩)
abbrev X12_fewest_x (z : CZ) : CX := mx RX12 cX12_fewest 5 7 (some .int) "fewest" z
noncomputable def X12_fewest_b0 (c_X12_isGoal : Nat → Int32 → PH → Option Rs) (c_X12_areWheels : Int32 → PH → Option Rs) (c_X12_looks : Nat → Int32 → PH → Option Rs) (c_X12_findAway : Nat → Int32 → PH → Option Rs) (k30 : Kn) : Kn := (a_al 0 (a_il 1 (a_vI 11 1 (FW_T11I c_X12_isGoal) (a_z (a_ic (-1000000001) a_ir) (a_il 2 (a_sI 1 (FW_I c_X12_areWheels) (a_z (a_ic (-1000000001) a_ir) (a_al 0 (a_il 2 (a_vV 11 1 (FW_T11I c_X12_looks) (a_al 0 (a_il 1 (a_vV 11 1 (FW_T11I c_X12_findAway) (a_ic 0 (a_is 3 k30)))))))))))))))
set_option maxRecDepth 100000 in
theorem X12_fewest_s0 {z : CZ} {k30 : Kn} (hk30 : SK (X12_fewest_x z) 30 k30) : SK (X12_fewest_x z) 0 (X12_fewest_b0 X12_isGoal X12_areWheels X12_looks X12_findAway k30) := (s_aloadn (pc := 0) dX12_fewest_0 rfl (s_iloadn (pc := 1) dX12_fewest_1 rfl (s_vI (pc := 2) (run_virtual (X12_isGoal_gd _) (show 1 < 7 by decide) cy_X12_isGoal (by decide) rfl w_1505 w_s34 w_1503 dX12_fewest_2) (s_ifeq (pc := 5) dX12_fewest_5 (by decide) (s_ldc (pc := 15) w_1466 dX12_fewest_15 (s_ir (pc := 17) rfl dX12_fewest_17)) (s_iloadn (pc := 8) dX12_fewest_8 rfl (s_sI (pc := 9) (run_static (X12_areWheels_gd _) (show 1 < 7 by decide) cy_X12_areWheels w_1673 w_1672 dX12_fewest_9) (s_ifne (pc := 12) dX12_fewest_12 (by decide) (s_aloadn (pc := 18) dX12_fewest_18 rfl (s_iloadn (pc := 19) dX12_fewest_19 rfl (s_vV (pc := 20) (run_virtual (X12_looks_gd _) (show 3 < 7 by decide) cy_X12_looks (by decide) rfl w_1677 w_s56 w_1675 dX12_fewest_20) (s_aloadn (pc := 23) dX12_fewest_23 rfl (s_iloadn (pc := 24) dX12_fewest_24 rfl (s_vV (pc := 25) (run_virtual (X12_findAway_gd _) (show 1 < 7 by decide) cy_X12_findAway (by decide) rfl w_1681 w_s57 w_1679 dX12_fewest_25) (s_iconst (pc := 28) dX12_fewest_28 c_ic_0 (s_istoren (pc := 29) dX12_fewest_29 rfl (show 3 < 5 by decide) hk30)))))))) (s_ldc (pc := 15) w_1466 dX12_fewest_15 (s_ir (pc := 17) rfl dX12_fewest_17)))))))))
noncomputable def X12_fewest_b30 (c_X12_nextFrom : Nat → Int32 → PH → Option Rs) (k60 k72 : Kn) : Kn := (a_il 3 (a_ic 12 (a_lt (a_al 0 (a_gR 11 738 58 (a_il 3 (a_il 3 (a_al 0 (a_gR 11 704 41 (a_ic 3 (a_ald 41 2624 (a_lt (a_al 0 (a_il 3 (a_vI 11 1 (FW_T11I c_X12_nextFrom) k60))) (a_ic (-1) k60)))))))))) (a_ic (-1) (a_is 3 (a_ic 0 (a_is 4 k72)))))))
set_option maxRecDepth 100000 in
theorem X12_fewest_s30 {z : CZ} {k60 k72 : Kn} (hk60 : SK (X12_fewest_x z) 60 k60) (hk72 : SK (X12_fewest_x z) 72 k72) : SK (X12_fewest_x z) 30 (X12_fewest_b30 X12_nextFrom k60 k72) := (s_iloadn (pc := 30) dX12_fewest_30 rfl (s_bipush (pc := 31) dX12_fewest_31 c_bp_12 (s_cmpge (pc := 33) dX12_fewest_33 (by decide) (s_iconst (pc := 67) dX12_fewest_67 c_ic_m1 (s_istoren (pc := 68) dX12_fewest_68 rfl (show 3 < 5 by decide) (s_iconst (pc := 69) dX12_fewest_69 c_ic_0 (s_istore (pc := 70) dX12_fewest_70 (show 4 < 5 by decide) hk72)))) (s_aloadn (pc := 36) dX12_fewest_36 rfl (s_gR (pc := 37) (f := 34) ko_11 (by decide) rfl rfl w_1329 dX12_fewest_37 (s_iloadn (pc := 40) dX12_fewest_40 rfl (s_iloadn (pc := 41) dX12_fewest_41 rfl (s_aloadn (pc := 42) dX12_fewest_42 rfl (s_gR (pc := 43) (f := 0) ko_11 (by decide) rfl rfl w_1295 dX12_fewest_43 (s_iconst (pc := 46) dX12_fewest_46 c_ic_3 (s_iald (pc := 47) (by decide) (by decide) rfl rfl rfl dX12_fewest_47 (s_cmpge (pc := 48) dX12_fewest_48 (by decide) (s_iconst (pc := 59) dX12_fewest_59 c_ic_m1 hk60) (s_aloadn (pc := 51) dX12_fewest_51 rfl (s_iloadn (pc := 52) dX12_fewest_52 rfl (s_vI (pc := 53) (run_virtual (X12_nextFrom_gd _) (show 2 < 7 by decide) cy_X12_nextFrom (by decide) rfl w_1690 w_s58 w_1688 dX12_fewest_53) (s_goto (pc := 56) dX12_fewest_56 (by decide) hk60))))))))))))))))
noncomputable def X12_fewest_b60 (k30 : Kn) : Kn := (a_ast 58 3712 (fun a => a) (a_inc 3 1 k30))
set_option maxRecDepth 100000 in
theorem X12_fewest_s60 {z : CZ} {k30 : Kn} (hk30 : SK (X12_fewest_x z) 30 k30) : SK (X12_fewest_x z) 60 (X12_fewest_b60 k30) := (s_iast (pc := 60) (by decide) (by decide) rfl rfl rfl dX12_fewest_60 (s_iinc (pc := 61) dX12_fewest_61 c_ic_1 (show 3 < 5 by decide) (s_goto (pc := 64) dX12_fewest_64 (by decide) hk30)))
noncomputable def X12_fewest_b72 (c_X12_ones : Int32 → PH → Option Rs) (k102 k115 : Kn) : Kn := (a_il 4 (a_ic 1 (a_al 0 (a_gR 11 704 41 (a_ic 7 (a_ald 41 2624 (a_b jshl (a_lt (a_il 3 (a_n k102 (a_il 4 (a_sI 1 (FW_I c_X12_ones) (a_il 3 (a_sI 1 (FW_I c_X12_ones) (a_lt k102 k115))))))) (a_il 3 (a_n (a_ic (-1000000005) a_ir) (a_il 3 a_ir)))))))))))
set_option maxRecDepth 100000 in
theorem X12_fewest_s72 {z : CZ} {k102 k115 : Kn} (hk102 : SK (X12_fewest_x z) 102 k102) (hk115 : SK (X12_fewest_x z) 115 k115) : SK (X12_fewest_x z) 72 (X12_fewest_b72 X12_ones k102 k115) := (s_iload (pc := 72) dX12_fewest_72 (s_iconst (pc := 74) dX12_fewest_74 c_ic_1 (s_aloadn (pc := 75) dX12_fewest_75 rfl (s_gR (pc := 76) (f := 0) ko_11 (by decide) rfl rfl w_1295 dX12_fewest_76 (s_bipush (pc := 79) dX12_fewest_79 c_bp_7 (s_iald (pc := 81) (by decide) (by decide) rfl rfl rfl dX12_fewest_81 (s_ishl (pc := 82) dX12_fewest_82 (s_cmpge (pc := 83) dX12_fewest_83 (by decide) (s_iloadn (pc := 121) dX12_fewest_121 rfl (s_ifge (pc := 122) dX12_fewest_122 (by decide) (s_iloadn (pc := 130) dX12_fewest_130 rfl (s_ir (pc := 131) rfl dX12_fewest_131)) (s_ldc (pc := 125) w_1515 dX12_fewest_125 (s_goto (pc := 127) dX12_fewest_127 (by decide) (s_ir (pc := 131) rfl dX12_fewest_131))))) (s_iloadn (pc := 86) dX12_fewest_86 rfl (s_iflt (pc := 87) dX12_fewest_87 (by decide) hk102 (s_iload (pc := 90) dX12_fewest_90 (s_sI (pc := 92) (run_static (X12_ones_gd _) (show 0 < 7 by decide) cy_X12_ones w_1793 w_1792 dX12_fewest_92) (s_iloadn (pc := 95) dX12_fewest_95 rfl (s_sI (pc := 96) (run_static (X12_ones_gd _) (show 0 < 7 by decide) cy_X12_ones w_1793 w_1792 dX12_fewest_96) (s_cmpge (pc := 99) dX12_fewest_99 (by decide) hk115 hk102)))))))))))))))
noncomputable def X12_fewest_b102 (c_X12_allArrive : Nat → Int32 → Int32 → PH → Option Rs) (k115 : Kn) : Kn := (a_al 0 (a_il 1 (a_il 4 (a_vI 11 2 (FW_T11II c_X12_allArrive) (a_z k115 (a_il 4 (a_is 3 k115)))))))
set_option maxRecDepth 100000 in
theorem X12_fewest_s102 {z : CZ} {k115 : Kn} (hk115 : SK (X12_fewest_x z) 115 k115) : SK (X12_fewest_x z) 102 (X12_fewest_b102 X12_allArrive k115) := (s_aloadn (pc := 102) dX12_fewest_102 rfl (s_iloadn (pc := 103) dX12_fewest_103 rfl (s_iload (pc := 104) dX12_fewest_104 (s_vI (pc := 106) (run_virtual (X12_allArrive_gd _) (show 6 < 7 by decide) cy_X12_allArrive (by decide) rfl w_1797 w_s74 w_1795 dX12_fewest_106) (s_ifeq (pc := 109) dX12_fewest_109 (by decide) hk115 (s_iload (pc := 112) dX12_fewest_112 (s_istoren (pc := 114) dX12_fewest_114 rfl (show 3 < 5 by decide) hk115)))))))
noncomputable def X12_fewest_b115 (k72 : Kn) : Kn := (a_inc 4 1 k72)
set_option maxRecDepth 100000 in
theorem X12_fewest_s115 {z : CZ} {k72 : Kn} (hk72 : SK (X12_fewest_x z) 72 k72) : SK (X12_fewest_x z) 115 (X12_fewest_b115 k72) := (s_iinc (pc := 115) dX12_fewest_115 c_ic_1 (show 4 < 5 by decide) (s_goto (pc := 118) dX12_fewest_118 (by decide) hk72))
noncomputable def X12_fewest_u30 (g : Nat → Int32 → Int32 → PH → Option Rs) : Kn := fun ls st h => gL 0 st (gT 11 ls 0 fun t => gI ls 1 fun x1 => gI ls 3 fun x3 => g t x1 x3 h)
noncomputable def X12_fewest_u60 (g : Nat → Int32 → Int32 → Int32 → Int32 → Nat → PH → Option Rs) : Kn := fun ls st h => gL 3 st (gT 11 ls 0 fun t => gI ls 1 fun x1 => gI ls 3 fun x3 => gI (st.map some) 0 fun s0 => gI (st.map some) 1 fun s1 => gR 58 (st.map some) 2 fun s2 => g t x1 x3 s0 s1 s2 h)
noncomputable def X12_fewest_u72 (g : Nat → Int32 → Int32 → Int32 → PH → Option Rs) : Kn := fun ls st h => gL 0 st (gT 11 ls 0 fun t => gI ls 1 fun x1 => gI ls 3 fun x3 => gI ls 4 fun x4 => g t x1 x3 x4 h)
noncomputable def X12_fewest_u102 (g : Nat → Int32 → Int32 → Int32 → PH → Option Rs) : Kn := fun ls st h => gL 0 st (gT 11 ls 0 fun t => gI ls 1 fun x1 => gI ls 3 fun x3 => gI ls 4 fun x4 => g t x1 x3 x4 h)
noncomputable def X12_fewest_u115 (g : Nat → Int32 → Int32 → Int32 → PH → Option Rs) : Kn := fun ls st h => gL 0 st (gT 11 ls 0 fun t => gI ls 1 fun x1 => gI ls 3 fun x3 => gI ls 4 fun x4 => g t x1 x3 x4 h)
noncomputable def X12_fewest_f0 (c_X12_isGoal : Nat → Int32 → PH → Option Rs) (c_X12_areWheels : Int32 → PH → Option Rs) (c_X12_looks : Nat → Int32 → PH → Option Rs) (c_X12_findAway : Nat → Int32 → PH → Option Rs) (g30 : Nat → Int32 → Int32 → PH → Option Rs) (t : Nat) (x1 : Int32) (x2 : Int32) (h : PH) : Option Rs :=
  cI (c_X12_isGoal t x1 h) fun v2 h1 =>
  if v2 = 0 then
    some (some (.inl (-1000000001)), h1)
  else
    cI (c_X12_areWheels x2 h1) fun v4 h3 =>
    if v4 = 0 then
      some (some (.inl (-1000000001)), h3)
    else
      cV (c_X12_looks t x2 h3) fun h5 =>
      cV (c_X12_findAway t x1 h5) fun h6 =>
      g30 t x1 0 h6
set_option maxRecDepth 100000 in
theorem X12_fewest_l0 (c_X12_isGoal : Nat → Int32 → PH → Option Rs) (c_X12_areWheels : Int32 → PH → Option Rs) (c_X12_looks : Nat → Int32 → PH → Option Rs) (c_X12_findAway : Nat → Int32 → PH → Option Rs) (g30 : Nat → Int32 → Int32 → PH → Option Rs) (t : Nat) (x1 : Int32) (x2 : Int32) (h : PH) : X12_fewest_b0 c_X12_isGoal c_X12_areWheels c_X12_looks c_X12_findAway (X12_fewest_u30 g30) [some (.inr (11, t + 1)), some (.inl x1), some (.inl x2), none, none] [] h = X12_fewest_f0 c_X12_isGoal c_X12_areWheels c_X12_looks c_X12_findAway g30 t x1 x2 h := rfl
theorem X12_fewest_m0 {c_X12_isGoal : Nat → Int32 → PH → Option Rs} {c_X12_areWheels : Int32 → PH → Option Rs} {c_X12_looks : Nat → Int32 → PH → Option Rs} {c_X12_findAway : Nat → Int32 → PH → Option Rs} {g30 G30 : Nat → Int32 → Int32 → PH → Option Rs} (hg30 : ∀ a0 a1 a2 a3, Mo (g30 a0 a1 a2 a3) (G30 a0 a1 a2 a3)) (t : Nat) (x1 : Int32) (x2 : Int32) (h : PH) : Mo (X12_fewest_f0 c_X12_isGoal c_X12_areWheels c_X12_looks c_X12_findAway g30 t x1 x2 h) (X12_fewest_f0 c_X12_isGoal c_X12_areWheels c_X12_looks c_X12_findAway G30 t x1 x2 h) := (mo_cI fun v2 h1 => (mo_if mo_rf (mo_cI fun v4 h3 => (mo_if mo_rf (mo_cV fun h5 => (mo_cV fun h6 => (hg30 t x1 0 h6)))))))
noncomputable def X12_fewest_f30 (c_X12_nextFrom : Nat → Int32 → PH → Option Rs) (g60 : Nat → Int32 → Int32 → Int32 → Int32 → Nat → PH → Option Rs) (g72 : Nat → Int32 → Int32 → Int32 → PH → Option Rs) (t : Nat) (x1 : Int32) (x3 : Int32) (h : PH) : Option Rs :=
  if x3 < 12 then
    nn (hR h 704 t 0) fun r7 =>
    ix 3 (hL h 41 r7) fun j8 =>
    if x3 < (hI h 2624 r7 j8) then
      cI (c_X12_nextFrom t x3 h) fun v10 h9 =>
      g60 t x1 x3 v10 x3 (hR h 738 t 0) h9
    else
      g60 t x1 x3 (-1) x3 (hR h 738 t 0) h
  else
    g72 t x1 (-1) 0 h
set_option maxRecDepth 100000 in
theorem X12_fewest_l30 (c_X12_nextFrom : Nat → Int32 → PH → Option Rs) (g60 : Nat → Int32 → Int32 → Int32 → Int32 → Nat → PH → Option Rs) (g72 : Nat → Int32 → Int32 → Int32 → PH → Option Rs) (t : Nat) (x1 : Int32) (x3 : Int32) (h : PH) : X12_fewest_b30 c_X12_nextFrom (X12_fewest_u60 g60) (X12_fewest_u72 g72) [some (.inr (11, t + 1)), some (.inl x1), none, some (.inl x3), none] [] h = X12_fewest_f30 c_X12_nextFrom g60 g72 t x1 x3 h := rfl
theorem X12_fewest_m30 {c_X12_nextFrom : Nat → Int32 → PH → Option Rs} {g60 G60 : Nat → Int32 → Int32 → Int32 → Int32 → Nat → PH → Option Rs} {g72 G72 : Nat → Int32 → Int32 → Int32 → PH → Option Rs} (hg60 : ∀ a0 a1 a2 a3 a4 a5 a6, Mo (g60 a0 a1 a2 a3 a4 a5 a6) (G60 a0 a1 a2 a3 a4 a5 a6)) (hg72 : ∀ a0 a1 a2 a3 a4, Mo (g72 a0 a1 a2 a3 a4) (G72 a0 a1 a2 a3 a4)) (t : Nat) (x1 : Int32) (x3 : Int32) (h : PH) : Mo (X12_fewest_f30 c_X12_nextFrom g60 g72 t x1 x3 h) (X12_fewest_f30 c_X12_nextFrom G60 G72 t x1 x3 h) := (mo_if (mo_nn fun r7 => (mo_ix fun j8 => (mo_if (mo_cI fun v10 h9 => (hg60 t x1 x3 v10 x3 (hR h 738 t 0) h9)) (hg60 t x1 x3 (-1) x3 (hR h 738 t 0) h)))) (hg72 t x1 (-1) 0 h))
theorem X12_fewest_w30 {z : CZ} {g60 : Nat → Int32 → Int32 → Int32 → Int32 → Nat → PH → Option Rs} {g72 : Nat → Int32 → Int32 → Int32 → PH → Option Rs} (hk60 : SK (X12_fewest_x z) 60 (X12_fewest_u60 g60)) (hk72 : SK (X12_fewest_x z) 72 (X12_fewest_u72 g72)) : SK (X12_fewest_x z) 30 (X12_fewest_u30 (X12_fewest_f30 X12_nextFrom g60 g72)) := by
  intro ls st h r e
  obtain ⟨hst, e⟩ := gL_of e
  obtain ⟨t, q0, e⟩ := gT_of e
  obtain ⟨x1, q1, e⟩ := gI_of e
  obtain ⟨x3, q2, e⟩ := gI_of e
  rw [st_0 hst]
  exact WK.sub (canon := [some (.inr (11, t + 1)), some (.inl x1), none, some (.inl x3), none]) rfl ⟨q0, q1, q2, trivial⟩ (X12_fewest_s30 hk60 hk72 _ _ _ _ ((X12_fewest_l30 X12_nextFrom g60 g72 t x1 x3 h).trans e))
noncomputable def X12_fewest_f60 (g30 : Nat → Int32 → Int32 → PH → Option Rs) (t : Nat) (x1 : Int32) (x3 : Int32) (s0 : Int32) (s1 : Int32) (s2 : Nat) (h : PH) : Option Rs :=
  nn s2 fun r11 =>
  ix s1 (hL h 58 r11) fun j12 =>
  wr (pI h 3712 r11 j12 s0) fun h13 =>
  g30 t x1 (x3 + 1) h13
set_option maxRecDepth 100000 in
theorem X12_fewest_l60 (g30 : Nat → Int32 → Int32 → PH → Option Rs) (t : Nat) (x1 : Int32) (x3 : Int32) (s0 : Int32) (s1 : Int32) (s2 : Nat) (h : PH) : X12_fewest_b60 (X12_fewest_u30 g30) [some (.inr (11, t + 1)), some (.inl x1), none, some (.inl x3), none] [.inl s0, .inl s1, .inr (58, s2)] h = X12_fewest_f60 g30 t x1 x3 s0 s1 s2 h := rfl
theorem X12_fewest_m60 {g30 G30 : Nat → Int32 → Int32 → PH → Option Rs} (hg30 : ∀ a0 a1 a2 a3, Mo (g30 a0 a1 a2 a3) (G30 a0 a1 a2 a3)) (t : Nat) (x1 : Int32) (x3 : Int32) (s0 : Int32) (s1 : Int32) (s2 : Nat) (h : PH) : Mo (X12_fewest_f60 g30 t x1 x3 s0 s1 s2 h) (X12_fewest_f60 G30 t x1 x3 s0 s1 s2 h) := (mo_nn fun r11 => (mo_ix fun j12 => (mo_wr fun h13 => (hg30 t x1 (x3 + 1) h13))))
theorem X12_fewest_w60 {z : CZ} {g30 : Nat → Int32 → Int32 → PH → Option Rs} (hk30 : SK (X12_fewest_x z) 30 (X12_fewest_u30 g30)) : SK (X12_fewest_x z) 60 (X12_fewest_u60 (X12_fewest_f60 g30)) := by
  intro ls st h r e
  obtain ⟨hst, e⟩ := gL_of e
  obtain ⟨t, q0, e⟩ := gT_of e
  obtain ⟨x1, q1, e⟩ := gI_of e
  obtain ⟨x3, q2, e⟩ := gI_of e
  obtain ⟨s0, q3, e⟩ := gI_of e
  obtain ⟨s1, q4, e⟩ := gI_of e
  obtain ⟨s2, q5, e⟩ := gR_of e
  rw [st_3 hst q3 q4 q5]
  exact WK.sub (canon := [some (.inr (11, t + 1)), some (.inl x1), none, some (.inl x3), none]) rfl ⟨q0, q1, q2, trivial⟩ (X12_fewest_s60 hk30 _ _ _ _ ((X12_fewest_l60 g30 t x1 x3 s0 s1 s2 h).trans e))
noncomputable def X12_fewest_f72 (c_X12_ones : Int32 → PH → Option Rs) (g102 : Nat → Int32 → Int32 → Int32 → PH → Option Rs) (g115 : Nat → Int32 → Int32 → Int32 → PH → Option Rs) (t : Nat) (x1 : Int32) (x3 : Int32) (x4 : Int32) (h : PH) : Option Rs :=
  nn (hR h 704 t 0) fun r14 =>
  ix 7 (hL h 41 r14) fun j15 =>
  if x4 < (jshl 1 (hI h 2624 r14 j15)) then
    if x3 < 0 then
      g102 t x1 x3 x4 h
    else
      cI (c_X12_ones x4 h) fun v17 h16 =>
      cI (c_X12_ones x3 h16) fun v19 h18 =>
      if v17 < v19 then
        g102 t x1 x3 x4 h18
      else
        g115 t x1 x3 x4 h18
  else
    if x3 < 0 then
      some (some (.inl (-1000000005)), h)
    else
      some (some (.inl x3), h)
set_option maxRecDepth 100000 in
theorem X12_fewest_l72 (c_X12_ones : Int32 → PH → Option Rs) (g102 : Nat → Int32 → Int32 → Int32 → PH → Option Rs) (g115 : Nat → Int32 → Int32 → Int32 → PH → Option Rs) (t : Nat) (x1 : Int32) (x3 : Int32) (x4 : Int32) (h : PH) : X12_fewest_b72 c_X12_ones (X12_fewest_u102 g102) (X12_fewest_u115 g115) [some (.inr (11, t + 1)), some (.inl x1), none, some (.inl x3), some (.inl x4)] [] h = X12_fewest_f72 c_X12_ones g102 g115 t x1 x3 x4 h := rfl
theorem X12_fewest_m72 {c_X12_ones : Int32 → PH → Option Rs} {g102 G102 : Nat → Int32 → Int32 → Int32 → PH → Option Rs} {g115 G115 : Nat → Int32 → Int32 → Int32 → PH → Option Rs} (hg102 : ∀ a0 a1 a2 a3 a4, Mo (g102 a0 a1 a2 a3 a4) (G102 a0 a1 a2 a3 a4)) (hg115 : ∀ a0 a1 a2 a3 a4, Mo (g115 a0 a1 a2 a3 a4) (G115 a0 a1 a2 a3 a4)) (t : Nat) (x1 : Int32) (x3 : Int32) (x4 : Int32) (h : PH) : Mo (X12_fewest_f72 c_X12_ones g102 g115 t x1 x3 x4 h) (X12_fewest_f72 c_X12_ones G102 G115 t x1 x3 x4 h) := (mo_nn fun r14 => (mo_ix fun j15 => (mo_if (mo_if (hg102 t x1 x3 x4 h) (mo_cI fun v17 h16 => (mo_cI fun v19 h18 => (mo_if (hg102 t x1 x3 x4 h18) (hg115 t x1 x3 x4 h18))))) (mo_if mo_rf mo_rf))))
theorem X12_fewest_w72 {z : CZ} {g102 : Nat → Int32 → Int32 → Int32 → PH → Option Rs} {g115 : Nat → Int32 → Int32 → Int32 → PH → Option Rs} (hk102 : SK (X12_fewest_x z) 102 (X12_fewest_u102 g102)) (hk115 : SK (X12_fewest_x z) 115 (X12_fewest_u115 g115)) : SK (X12_fewest_x z) 72 (X12_fewest_u72 (X12_fewest_f72 X12_ones g102 g115)) := by
  intro ls st h r e
  obtain ⟨hst, e⟩ := gL_of e
  obtain ⟨t, q0, e⟩ := gT_of e
  obtain ⟨x1, q1, e⟩ := gI_of e
  obtain ⟨x3, q2, e⟩ := gI_of e
  obtain ⟨x4, q3, e⟩ := gI_of e
  rw [st_0 hst]
  exact WK.sub (canon := [some (.inr (11, t + 1)), some (.inl x1), none, some (.inl x3), some (.inl x4)]) rfl ⟨q0, q1, q2, q3, trivial⟩ (X12_fewest_s72 hk102 hk115 _ _ _ _ ((X12_fewest_l72 X12_ones g102 g115 t x1 x3 x4 h).trans e))
noncomputable def X12_fewest_f102 (c_X12_allArrive : Nat → Int32 → Int32 → PH → Option Rs) (g115 : Nat → Int32 → Int32 → Int32 → PH → Option Rs) (t : Nat) (x1 : Int32) (x3 : Int32) (x4 : Int32) (h : PH) : Option Rs :=
  cI (c_X12_allArrive t x1 x4 h) fun v21 h20 =>
  if v21 = 0 then
    g115 t x1 x3 x4 h20
  else
    g115 t x1 x4 x4 h20
set_option maxRecDepth 100000 in
theorem X12_fewest_l102 (c_X12_allArrive : Nat → Int32 → Int32 → PH → Option Rs) (g115 : Nat → Int32 → Int32 → Int32 → PH → Option Rs) (t : Nat) (x1 : Int32) (x3 : Int32) (x4 : Int32) (h : PH) : X12_fewest_b102 c_X12_allArrive (X12_fewest_u115 g115) [some (.inr (11, t + 1)), some (.inl x1), none, some (.inl x3), some (.inl x4)] [] h = X12_fewest_f102 c_X12_allArrive g115 t x1 x3 x4 h := rfl
theorem X12_fewest_m102 {c_X12_allArrive : Nat → Int32 → Int32 → PH → Option Rs} {g115 G115 : Nat → Int32 → Int32 → Int32 → PH → Option Rs} (hg115 : ∀ a0 a1 a2 a3 a4, Mo (g115 a0 a1 a2 a3 a4) (G115 a0 a1 a2 a3 a4)) (t : Nat) (x1 : Int32) (x3 : Int32) (x4 : Int32) (h : PH) : Mo (X12_fewest_f102 c_X12_allArrive g115 t x1 x3 x4 h) (X12_fewest_f102 c_X12_allArrive G115 t x1 x3 x4 h) := (mo_cI fun v21 h20 => (mo_if (hg115 t x1 x3 x4 h20) (hg115 t x1 x4 x4 h20)))
theorem X12_fewest_w102 {z : CZ} {g115 : Nat → Int32 → Int32 → Int32 → PH → Option Rs} (hk115 : SK (X12_fewest_x z) 115 (X12_fewest_u115 g115)) : SK (X12_fewest_x z) 102 (X12_fewest_u102 (X12_fewest_f102 X12_allArrive g115)) := by
  intro ls st h r e
  obtain ⟨hst, e⟩ := gL_of e
  obtain ⟨t, q0, e⟩ := gT_of e
  obtain ⟨x1, q1, e⟩ := gI_of e
  obtain ⟨x3, q2, e⟩ := gI_of e
  obtain ⟨x4, q3, e⟩ := gI_of e
  rw [st_0 hst]
  exact WK.sub (canon := [some (.inr (11, t + 1)), some (.inl x1), none, some (.inl x3), some (.inl x4)]) rfl ⟨q0, q1, q2, q3, trivial⟩ (X12_fewest_s102 hk115 _ _ _ _ ((X12_fewest_l102 X12_allArrive g115 t x1 x3 x4 h).trans e))
noncomputable def X12_fewest_f115 (g72 : Nat → Int32 → Int32 → Int32 → PH → Option Rs) (t : Nat) (x1 : Int32) (x3 : Int32) (x4 : Int32) (h : PH) : Option Rs :=
  g72 t x1 x3 (x4 + 1) h
set_option maxRecDepth 100000 in
theorem X12_fewest_l115 (g72 : Nat → Int32 → Int32 → Int32 → PH → Option Rs) (t : Nat) (x1 : Int32) (x3 : Int32) (x4 : Int32) (h : PH) : X12_fewest_b115 (X12_fewest_u72 g72) [some (.inr (11, t + 1)), some (.inl x1), none, some (.inl x3), some (.inl x4)] [] h = X12_fewest_f115 g72 t x1 x3 x4 h := rfl
theorem X12_fewest_m115 {g72 G72 : Nat → Int32 → Int32 → Int32 → PH → Option Rs} (hg72 : ∀ a0 a1 a2 a3 a4, Mo (g72 a0 a1 a2 a3 a4) (G72 a0 a1 a2 a3 a4)) (t : Nat) (x1 : Int32) (x3 : Int32) (x4 : Int32) (h : PH) : Mo (X12_fewest_f115 g72 t x1 x3 x4 h) (X12_fewest_f115 G72 t x1 x3 x4 h) := (hg72 t x1 x3 (x4 + 1) h)
theorem X12_fewest_w115 {z : CZ} {g72 : Nat → Int32 → Int32 → Int32 → PH → Option Rs} (hk72 : SK (X12_fewest_x z) 72 (X12_fewest_u72 g72)) : SK (X12_fewest_x z) 115 (X12_fewest_u115 (X12_fewest_f115 g72)) := by
  intro ls st h r e
  obtain ⟨hst, e⟩ := gL_of e
  obtain ⟨t, q0, e⟩ := gT_of e
  obtain ⟨x1, q1, e⟩ := gI_of e
  obtain ⟨x3, q2, e⟩ := gI_of e
  obtain ⟨x4, q3, e⟩ := gI_of e
  rw [st_0 hst]
  exact WK.sub (canon := [some (.inr (11, t + 1)), some (.inl x1), none, some (.inl x3), some (.inl x4)]) rfl ⟨q0, q1, q2, q3, trivial⟩ (X12_fewest_s115 hk72 _ _ _ _ ((X12_fewest_l115 g72 t x1 x3 x4 h).trans e))
noncomputable def X12_fewest_g0 (G : (Nat → Int32 → Int32 → PH → Option Rs) × (Nat → Int32 → Int32 → Int32 → PH → Option Rs)) (t : Nat) (x1 : Int32) (x2 : Int32) (h : PH) : Option Rs := X12_fewest_f0 X12_isGoal X12_areWheels X12_looks X12_findAway (G).1 t x1 x2 h
noncomputable def X12_fewest_g60 (G : (Nat → Int32 → Int32 → PH → Option Rs) × (Nat → Int32 → Int32 → Int32 → PH → Option Rs)) (t : Nat) (x1 : Int32) (x3 : Int32) (s0 : Int32) (s1 : Int32) (s2 : Nat) (h : PH) : Option Rs := X12_fewest_f60 (G).1 t x1 x3 s0 s1 s2 h
noncomputable def X12_fewest_g30 (G : (Nat → Int32 → Int32 → PH → Option Rs) × (Nat → Int32 → Int32 → Int32 → PH → Option Rs)) (t : Nat) (x1 : Int32) (x3 : Int32) (h : PH) : Option Rs := X12_fewest_f30 X12_nextFrom (X12_fewest_g60 G) (G).2 t x1 x3 h
noncomputable def X12_fewest_g115 (G : (Nat → Int32 → Int32 → PH → Option Rs) × (Nat → Int32 → Int32 → Int32 → PH → Option Rs)) (t : Nat) (x1 : Int32) (x3 : Int32) (x4 : Int32) (h : PH) : Option Rs := X12_fewest_f115 (G).2 t x1 x3 x4 h
noncomputable def X12_fewest_g102 (G : (Nat → Int32 → Int32 → PH → Option Rs) × (Nat → Int32 → Int32 → Int32 → PH → Option Rs)) (t : Nat) (x1 : Int32) (x3 : Int32) (x4 : Int32) (h : PH) : Option Rs := X12_fewest_f102 X12_allArrive (X12_fewest_g115 G) t x1 x3 x4 h
noncomputable def X12_fewest_g72 (G : (Nat → Int32 → Int32 → PH → Option Rs) × (Nat → Int32 → Int32 → Int32 → PH → Option Rs)) (t : Nat) (x1 : Int32) (x3 : Int32) (x4 : Int32) (h : PH) : Option Rs := X12_fewest_f72 X12_ones (X12_fewest_g102 G) (X12_fewest_g115 G) t x1 x3 x4 h
theorem X12_fewest_v60 {z : CZ} {G : (Nat → Int32 → Int32 → PH → Option Rs) × (Nat → Int32 → Int32 → Int32 → PH → Option Rs)} (hG30 : SK (X12_fewest_x z) 30 (X12_fewest_u30 (G).1)) (hG72 : SK (X12_fewest_x z) 72 (X12_fewest_u72 (G).2)) : SK (X12_fewest_x z) 60 (X12_fewest_u60 (X12_fewest_g60 G)) := X12_fewest_w60 hG30
theorem X12_fewest_v30 {z : CZ} {G : (Nat → Int32 → Int32 → PH → Option Rs) × (Nat → Int32 → Int32 → Int32 → PH → Option Rs)} (hG30 : SK (X12_fewest_x z) 30 (X12_fewest_u30 (G).1)) (hG72 : SK (X12_fewest_x z) 72 (X12_fewest_u72 (G).2)) : SK (X12_fewest_x z) 30 (X12_fewest_u30 (X12_fewest_g30 G)) := X12_fewest_w30 (X12_fewest_v60 hG30 hG72) hG72
theorem X12_fewest_v115 {z : CZ} {G : (Nat → Int32 → Int32 → PH → Option Rs) × (Nat → Int32 → Int32 → Int32 → PH → Option Rs)} (hG30 : SK (X12_fewest_x z) 30 (X12_fewest_u30 (G).1)) (hG72 : SK (X12_fewest_x z) 72 (X12_fewest_u72 (G).2)) : SK (X12_fewest_x z) 115 (X12_fewest_u115 (X12_fewest_g115 G)) := X12_fewest_w115 hG72
theorem X12_fewest_v102 {z : CZ} {G : (Nat → Int32 → Int32 → PH → Option Rs) × (Nat → Int32 → Int32 → Int32 → PH → Option Rs)} (hG30 : SK (X12_fewest_x z) 30 (X12_fewest_u30 (G).1)) (hG72 : SK (X12_fewest_x z) 72 (X12_fewest_u72 (G).2)) : SK (X12_fewest_x z) 102 (X12_fewest_u102 (X12_fewest_g102 G)) := X12_fewest_w102 (X12_fewest_v115 hG30 hG72)
theorem X12_fewest_v72 {z : CZ} {G : (Nat → Int32 → Int32 → PH → Option Rs) × (Nat → Int32 → Int32 → Int32 → PH → Option Rs)} (hG30 : SK (X12_fewest_x z) 30 (X12_fewest_u30 (G).1)) (hG72 : SK (X12_fewest_x z) 72 (X12_fewest_u72 (G).2)) : SK (X12_fewest_x z) 72 (X12_fewest_u72 (X12_fewest_g72 G)) := X12_fewest_w72 (X12_fewest_v102 hG30 hG72) (X12_fewest_v115 hG30 hG72)
noncomputable def X12_fewest_fam : Nat → (Nat → Int32 → Int32 → PH → Option Rs) × (Nat → Int32 → Int32 → Int32 → PH → Option Rs)
  | 0 => (fun _ _ _ _ => none, fun _ _ _ _ _ => none)
  | n + 1 => (X12_fewest_g30 (X12_fewest_fam n), X12_fewest_g72 (X12_fewest_fam n))
theorem X12_fewest_k {z : CZ} : ∀ n, SK (X12_fewest_x z) 30 (X12_fewest_u30 (X12_fewest_fam n).1) ∧ SK (X12_fewest_x z) 72 (X12_fewest_u72 (X12_fewest_fam n).2)
  | 0 => ⟨(fun ls st h r e => by
      obtain ⟨_, e⟩ := gL_of e
      obtain ⟨_, _, e⟩ := gT_of e
      obtain ⟨_, _, e⟩ := gI_of e
      obtain ⟨_, _, e⟩ := gI_of e
      cases e), (fun ls st h r e => by
      obtain ⟨_, e⟩ := gL_of e
      obtain ⟨_, _, e⟩ := gT_of e
      obtain ⟨_, _, e⟩ := gI_of e
      obtain ⟨_, _, e⟩ := gI_of e
      obtain ⟨_, _, e⟩ := gI_of e
      cases e)⟩
  | n + 1 => by
    obtain ⟨ih30, ih72⟩ := X12_fewest_k n
    exact ⟨X12_fewest_v30 ih30 ih72, X12_fewest_v72 ih30 ih72⟩
theorem X12_fewest_n0 {G G' : (Nat → Int32 → Int32 → PH → Option Rs) × (Nat → Int32 → Int32 → Int32 → PH → Option Rs)} (hg30 : ∀ a0 a1 a2 a3, Mo ((G).1 a0 a1 a2 a3) ((G').1 a0 a1 a2 a3)) (hg72 : ∀ a0 a1 a2 a3 a4, Mo ((G).2 a0 a1 a2 a3 a4) ((G').2 a0 a1 a2 a3 a4)) (t : Nat) (x1 : Int32) (x2 : Int32) (h : PH) : Mo (X12_fewest_g0 G t x1 x2 h) (X12_fewest_g0 G' t x1 x2 h) := X12_fewest_m0 hg30 t x1 x2 h
theorem X12_fewest_n60 {G G' : (Nat → Int32 → Int32 → PH → Option Rs) × (Nat → Int32 → Int32 → Int32 → PH → Option Rs)} (hg30 : ∀ a0 a1 a2 a3, Mo ((G).1 a0 a1 a2 a3) ((G').1 a0 a1 a2 a3)) (hg72 : ∀ a0 a1 a2 a3 a4, Mo ((G).2 a0 a1 a2 a3 a4) ((G').2 a0 a1 a2 a3 a4)) (t : Nat) (x1 : Int32) (x3 : Int32) (s0 : Int32) (s1 : Int32) (s2 : Nat) (h : PH) : Mo (X12_fewest_g60 G t x1 x3 s0 s1 s2 h) (X12_fewest_g60 G' t x1 x3 s0 s1 s2 h) := X12_fewest_m60 hg30 t x1 x3 s0 s1 s2 h
theorem X12_fewest_n30 {G G' : (Nat → Int32 → Int32 → PH → Option Rs) × (Nat → Int32 → Int32 → Int32 → PH → Option Rs)} (hg30 : ∀ a0 a1 a2 a3, Mo ((G).1 a0 a1 a2 a3) ((G').1 a0 a1 a2 a3)) (hg72 : ∀ a0 a1 a2 a3 a4, Mo ((G).2 a0 a1 a2 a3 a4) ((G').2 a0 a1 a2 a3 a4)) (t : Nat) (x1 : Int32) (x3 : Int32) (h : PH) : Mo (X12_fewest_g30 G t x1 x3 h) (X12_fewest_g30 G' t x1 x3 h) := X12_fewest_m30 (fun a0 a1 a2 a3 a4 a5 a6 => X12_fewest_n60 hg30 hg72 a0 a1 a2 a3 a4 a5 a6) hg72 t x1 x3 h
theorem X12_fewest_n115 {G G' : (Nat → Int32 → Int32 → PH → Option Rs) × (Nat → Int32 → Int32 → Int32 → PH → Option Rs)} (hg30 : ∀ a0 a1 a2 a3, Mo ((G).1 a0 a1 a2 a3) ((G').1 a0 a1 a2 a3)) (hg72 : ∀ a0 a1 a2 a3 a4, Mo ((G).2 a0 a1 a2 a3 a4) ((G').2 a0 a1 a2 a3 a4)) (t : Nat) (x1 : Int32) (x3 : Int32) (x4 : Int32) (h : PH) : Mo (X12_fewest_g115 G t x1 x3 x4 h) (X12_fewest_g115 G' t x1 x3 x4 h) := X12_fewest_m115 hg72 t x1 x3 x4 h
theorem X12_fewest_n102 {G G' : (Nat → Int32 → Int32 → PH → Option Rs) × (Nat → Int32 → Int32 → Int32 → PH → Option Rs)} (hg30 : ∀ a0 a1 a2 a3, Mo ((G).1 a0 a1 a2 a3) ((G').1 a0 a1 a2 a3)) (hg72 : ∀ a0 a1 a2 a3 a4, Mo ((G).2 a0 a1 a2 a3 a4) ((G').2 a0 a1 a2 a3 a4)) (t : Nat) (x1 : Int32) (x3 : Int32) (x4 : Int32) (h : PH) : Mo (X12_fewest_g102 G t x1 x3 x4 h) (X12_fewest_g102 G' t x1 x3 x4 h) := X12_fewest_m102 (fun a0 a1 a2 a3 a4 => X12_fewest_n115 hg30 hg72 a0 a1 a2 a3 a4) t x1 x3 x4 h
theorem X12_fewest_n72 {G G' : (Nat → Int32 → Int32 → PH → Option Rs) × (Nat → Int32 → Int32 → Int32 → PH → Option Rs)} (hg30 : ∀ a0 a1 a2 a3, Mo ((G).1 a0 a1 a2 a3) ((G').1 a0 a1 a2 a3)) (hg72 : ∀ a0 a1 a2 a3 a4, Mo ((G).2 a0 a1 a2 a3 a4) ((G').2 a0 a1 a2 a3 a4)) (t : Nat) (x1 : Int32) (x3 : Int32) (x4 : Int32) (h : PH) : Mo (X12_fewest_g72 G t x1 x3 x4 h) (X12_fewest_g72 G' t x1 x3 x4 h) := X12_fewest_m72 (fun a0 a1 a2 a3 a4 => X12_fewest_n102 hg30 hg72 a0 a1 a2 a3 a4) (fun a0 a1 a2 a3 a4 => X12_fewest_n115 hg30 hg72 a0 a1 a2 a3 a4) t x1 x3 x4 h
theorem X12_fewest_fm : ∀ n, (∀ a0 a1 a2 a3, Mo ((X12_fewest_fam n).1 a0 a1 a2 a3) ((X12_fewest_fam (n + 1)).1 a0 a1 a2 a3)) ∧ (∀ a0 a1 a2 a3 a4, Mo ((X12_fewest_fam n).2 a0 a1 a2 a3 a4) ((X12_fewest_fam (n + 1)).2 a0 a1 a2 a3 a4))
  | 0 => ⟨fun _ _ _ _ => mo_no, fun _ _ _ _ _ => mo_no⟩
  | n + 1 => by
    obtain ⟨ih30, ih72⟩ := X12_fewest_fm n
    exact ⟨fun a0 a1 a2 a3 => X12_fewest_n30 ih30 ih72 a0 a1 a2 a3, fun a0 a1 a2 a3 a4 => X12_fewest_n72 ih30 ih72 a0 a1 a2 a3 a4⟩
noncomputable def X12_fewest (t : Nat) (x1 : Int32) (x2 : Int32) (h : PH) : Option Rs := lim (fun n => X12_fewest_g0 (X12_fewest_fam n) t x1 x2 h)
theorem X12_fewest_iff {t : Nat} {x1 : Int32} {x2 : Int32} {h : PH} {r : Rs} : X12_fewest t x1 x2 h = some r ↔ ∃ n, X12_fewest_g0 (X12_fewest_fam n) t x1 x2 h = some r := lim_iff (fun n => by
  obtain ⟨ih30, ih72⟩ := X12_fewest_fm n
  exact X12_fewest_n0 ih30 ih72 t x1 x2 h)
noncomputable abbrev X12_fewest_F : List PV → PH → Option Rs := FW_T11II (X12_fewest)
set_option maxRecDepth 100000 in
theorem X12_fewest_gd (l : Launch) : Gd l 7 yX12_fewest cX12_fewest 5 (some .int) (X12_fewest_F)   := Gd_of (by decide +kernel) (fun z hzl as h r e => by
  obtain ⟨hst, e⟩ := gL_of e
  obtain ⟨t, q0, e⟩ := gT_of e
  obtain ⟨x1, q1, e⟩ := gI_of e
  obtain ⟨x2, q2, e⟩ := gI_of e
  rw [st_3 hst q0 q1 q2]
  obtain ⟨n, e⟩ := lim_of e
  obtain ⟨hG30, hG72⟩ := X12_fewest_k (z := z) n
  exact ⟨show 3 ≤ 5 by decide, X12_fewest_s0 hG30 _ _ _ _ ((X12_fewest_l0 X12_isGoal X12_areWheels X12_looks X12_findAway (X12_fewest_fam n).1 t x1 x2 h).trans e)⟩)
abbrev X12_seed_x (z : CZ) : CX := mx RX12 cX12_seed 3 0 (some .int) "seed" z
noncomputable def X12_seed_b0 : Kn := (a_al 0 (a_gR 11 704 41 (a_ic 0 (a_ald 41 2624 (a_is 2 (a_al 0 (a_gR 11 704 41 (a_ic 0 (a_il 1 (a_ast 41 2624 (fun a => a) (a_il 2 a_ir)))))))))))
set_option maxRecDepth 100000 in
theorem X12_seed_s0 {z : CZ} : SK (X12_seed_x z) 0 (X12_seed_b0) := (s_aloadn (pc := 0) dX12_seed_0 rfl (s_gR (pc := 1) (f := 0) ko_11 (by decide) rfl rfl w_1295 dX12_seed_1 (s_iconst (pc := 4) dX12_seed_4 c_ic_0 (s_iald (pc := 5) (by decide) (by decide) rfl rfl rfl dX12_seed_5 (s_istoren (pc := 6) dX12_seed_6 rfl (show 2 < 3 by decide) (s_aloadn (pc := 7) dX12_seed_7 rfl (s_gR (pc := 8) (f := 0) ko_11 (by decide) rfl rfl w_1295 dX12_seed_8 (s_iconst (pc := 11) dX12_seed_11 c_ic_0 (s_iloadn (pc := 12) dX12_seed_12 rfl (s_iast (pc := 13) (by decide) (by decide) rfl rfl rfl dX12_seed_13 (s_iloadn (pc := 14) dX12_seed_14 rfl (s_ir (pc := 15) rfl dX12_seed_15))))))))))))
noncomputable def X12_seed_f0 (t : Nat) (x1 : Int32) (h : PH) : Option Rs :=
  nn (hR h 704 t 0) fun r1 =>
  ix 0 (hL h 41 r1) fun j2 =>
  nn (hR h 704 t 0) fun r3 =>
  ix 0 (hL h 41 r3) fun j4 =>
  wr (pI h 2624 r3 j4 x1) fun h5 =>
  some (some (.inl (hI h 2624 r1 j2)), h5)
set_option maxRecDepth 100000 in
theorem X12_seed_l0 (t : Nat) (x1 : Int32) (h : PH) : X12_seed_b0 [some (.inr (11, t + 1)), some (.inl x1), none] [] h = X12_seed_f0 t x1 h := rfl
noncomputable def X12_seed_g0 (t : Nat) (x1 : Int32) (h : PH) : Option Rs := X12_seed_f0 t x1 h
noncomputable def X12_seed (t : Nat) (x1 : Int32) (h : PH) : Option Rs := X12_seed_g0 t x1 h
noncomputable abbrev X12_seed_F : List PV → PH → Option Rs := FW_T11I (X12_seed)
set_option maxRecDepth 100000 in
theorem X12_seed_gd (l : Launch) : Gd l 0 yX12_seed cX12_seed 3 (some .int) (X12_seed_F)   := Gd_of (by decide +kernel) (fun z hzl as h r e => by
  obtain ⟨hst, e⟩ := gL_of e
  obtain ⟨t, q0, e⟩ := gT_of e
  obtain ⟨x1, q1, e⟩ := gI_of e
  rw [st_2 hst q0 q1]
  exact ⟨show 2 ≤ 3 by decide, X12_seed_s0 _ _ _ _ ((X12_seed_l0 t x1 h).trans e)⟩)
abbrev X12_draw_x (z : CZ) : CX := mx RX12 cX12_draw 1 0 (some .int) "draw" z
noncomputable def X12_draw_b0 : Kn := (a_al 0 (a_gR 11 704 41 (a_ic 0 (a_al 0 (a_gR 11 704 41 (a_ic 0 (a_ald 41 2624 (a_ic 1103515245 (a_b (fun a b => a * b) (a_ic 12345 (a_b (fun a b => a + b) (a_ast 41 2624 (fun a => a) (a_al 0 (a_gR 11 704 41 (a_ic 0 (a_ald 41 2624 (a_ic 8 (a_b jushr a_ir))))))))))))))))))
set_option maxRecDepth 100000 in
theorem X12_draw_s0 {z : CZ} : SK (X12_draw_x z) 0 (X12_draw_b0) := (s_aloadn (pc := 0) dX12_draw_0 rfl (s_gR (pc := 1) (f := 0) ko_11 (by decide) rfl rfl w_1295 dX12_draw_1 (s_iconst (pc := 4) dX12_draw_4 c_ic_0 (s_aloadn (pc := 5) dX12_draw_5 rfl (s_gR (pc := 6) (f := 0) ko_11 (by decide) rfl rfl w_1295 dX12_draw_6 (s_iconst (pc := 9) dX12_draw_9 c_ic_0 (s_iald (pc := 10) (by decide) (by decide) rfl rfl rfl dX12_draw_10 (s_ldcw (pc := 11) w_1815 dX12_draw_11 (s_imul (pc := 14) dX12_draw_14 (s_sipush (pc := 15) dX12_draw_15 c_sp_12345 (s_iadd (pc := 18) dX12_draw_18 (s_iast (pc := 19) (by decide) (by decide) rfl rfl rfl dX12_draw_19 (s_aloadn (pc := 20) dX12_draw_20 rfl (s_gR (pc := 21) (f := 0) ko_11 (by decide) rfl rfl w_1295 dX12_draw_21 (s_iconst (pc := 24) dX12_draw_24 c_ic_0 (s_iald (pc := 25) (by decide) (by decide) rfl rfl rfl dX12_draw_25 (s_bipush (pc := 26) dX12_draw_26 c_bp_8 (s_iushr (pc := 28) dX12_draw_28 (s_ir (pc := 29) rfl dX12_draw_29)))))))))))))))))))
noncomputable def X12_draw_f0 (t : Nat) (h : PH) : Option Rs :=
  nn (hR h 704 t 0) fun r1 =>
  ix 0 (hL h 41 r1) fun j2 =>
  nn (hR h 704 t 0) fun r3 =>
  ix 0 (hL h 41 r3) fun j4 =>
  wr (pI h 2624 r3 j4 (((hI h 2624 r1 j2) * 1103515245) + 12345)) fun h5 =>
  nn (hR h5 704 t 0) fun r6 =>
  ix 0 (hL h5 41 r6) fun j7 =>
  some (some (.inl (jushr (hI h5 2624 r6 j7) 8)), h5)
set_option maxRecDepth 100000 in
theorem X12_draw_l0 (t : Nat) (h : PH) : X12_draw_b0 [some (.inr (11, t + 1))] [] h = X12_draw_f0 t h := rfl
noncomputable def X12_draw_g0 (t : Nat) (h : PH) : Option Rs := X12_draw_f0 t h
noncomputable def X12_draw (t : Nat) (h : PH) : Option Rs := X12_draw_g0 t h
noncomputable abbrev X12_draw_F : List PV → PH → Option Rs := FW_T11 (X12_draw)
set_option maxRecDepth 100000 in
theorem X12_draw_gd (l : Launch) : Gd l 0 yX12_draw cX12_draw 1 (some .int) (X12_draw_F)   := Gd_of (by decide +kernel) (fun z hzl as h r e => by
  obtain ⟨hst, e⟩ := gL_of e
  obtain ⟨t, q0, e⟩ := gT_of e
  rw [st_1 hst q0]
  exact ⟨show 1 ≤ 1 by decide, X12_draw_s0 _ _ _ _ ((X12_draw_l0 t h).trans e)⟩)
abbrev X12_aStranger_x (z : CZ) : CX := mx RX12 cX12_aStranger 5 6 none "aStranger" z
noncomputable def X12_aStranger_b0 (c_X12_draw : Nat → PH → Option Rs) (k38 : Kn) : Kn := (a_al 0 (a_vI 11 0 (FW_T11 c_X12_draw) (a_al 0 (a_gR 11 704 41 (a_ic 3 (a_ald 41 2624 (a_rem (a_is 1 (a_al 0 (a_vI 11 0 (FW_T11 c_X12_draw) (a_al 0 (a_gR 11 704 41 (a_ic 5 (a_ald 41 2624 (a_rem (a_is 2 (a_al 0 (a_vI 11 0 (FW_T11 c_X12_draw) (a_ic 4 (a_rem (a_z (a_ic 1 k38) (a_ic 0 k38))))))))))))))))))))))
set_option maxRecDepth 100000 in
theorem X12_aStranger_s0 {z : CZ} {k38 : Kn} (hk38 : SK (X12_aStranger_x z) 38 k38) : SK (X12_aStranger_x z) 0 (X12_aStranger_b0 X12_draw k38) := (s_aloadn (pc := 0) dX12_aStranger_0 rfl (s_vI (pc := 1) (run_virtual (X12_draw_gd _) (show 0 < 6 by decide) cy_X12_draw (by decide) rfl w_1813 w_s76 w_1811 dX12_aStranger_1) (s_aloadn (pc := 4) dX12_aStranger_4 rfl (s_gR (pc := 5) (f := 0) ko_11 (by decide) rfl rfl w_1295 dX12_aStranger_5 (s_iconst (pc := 8) dX12_aStranger_8 c_ic_3 (s_iald (pc := 9) (by decide) (by decide) rfl rfl rfl dX12_aStranger_9 (s_irem (pc := 10) dX12_aStranger_10 (s_istoren (pc := 11) dX12_aStranger_11 rfl (show 1 < 5 by decide) (s_aloadn (pc := 12) dX12_aStranger_12 rfl (s_vI (pc := 13) (run_virtual (X12_draw_gd _) (show 0 < 6 by decide) cy_X12_draw (by decide) rfl w_1813 w_s76 w_1811 dX12_aStranger_13) (s_aloadn (pc := 16) dX12_aStranger_16 rfl (s_gR (pc := 17) (f := 0) ko_11 (by decide) rfl rfl w_1295 dX12_aStranger_17 (s_iconst (pc := 20) dX12_aStranger_20 c_ic_5 (s_iald (pc := 21) (by decide) (by decide) rfl rfl rfl dX12_aStranger_21 (s_irem (pc := 22) dX12_aStranger_22 (s_istoren (pc := 23) dX12_aStranger_23 rfl (show 2 < 5 by decide) (s_aloadn (pc := 24) dX12_aStranger_24 rfl (s_vI (pc := 25) (run_virtual (X12_draw_gd _) (show 0 < 6 by decide) cy_X12_draw (by decide) rfl w_1813 w_s76 w_1811 dX12_aStranger_25) (s_iconst (pc := 28) dX12_aStranger_28 c_ic_4 (s_irem (pc := 29) dX12_aStranger_29 (s_ifne (pc := 30) dX12_aStranger_30 (by decide) (s_iconst (pc := 37) dX12_aStranger_37 c_ic_0 hk38) (s_iconst (pc := 33) dX12_aStranger_33 c_ic_1 (s_goto (pc := 34) dX12_aStranger_34 (by decide) hk38)))))))))))))))))))))))
noncomputable def X12_aStranger_b38 (c_X12_looks : Nat → Int32 → PH → Option Rs) (c_X12_walks : Nat → Int32 → Int32 → PH → Option Rs) (k118 : Kn) : Kn := (a_is 3 (a_al 0 (a_il 3 (a_vV 11 1 (FW_T11I c_X12_looks) (a_al 0 (a_ic 0 (a_pI 11 737 (a_al 0 (a_il 1 (a_il 2 (a_vV 11 2 (FW_T11II c_X12_walks) (a_al 0 (a_gI 11 731 (a_ic 1 (a_eq a_vr (a_al 0 (a_gI 11 734 (a_n a_vr (a_ic 155 (a_ic 5 (a_al 0 (a_gI 11 734 (a_b (fun a b => a * b) (a_b (fun a b => a + b) (a_ic 3 (a_b (fun a b => a + b) (a_is 4 (a_al 0 (a_gR 11 704 41 (a_il 4 (a_al 0 (a_gR 11 704 41 (a_il 4 (a_ald 41 2624 (a_ic 9999 (a_lt (a_al 0 (a_gR 11 704 41 (a_il 4 (a_ald 41 2624 (a_ic 1 (a_b (fun a b => a + b) k118)))))) (a_ic 9999 k118)))))))))))))))))))))))))))))))))))))
set_option maxRecDepth 100000 in
theorem X12_aStranger_s38 {z : CZ} {k118 : Kn} (hk118 : SK (X12_aStranger_x z) 118 k118) : SK (X12_aStranger_x z) 38 (X12_aStranger_b38 X12_looks X12_walks k118) := (s_istoren (pc := 38) dX12_aStranger_38 rfl (show 3 < 5 by decide) (s_aloadn (pc := 39) dX12_aStranger_39 rfl (s_iloadn (pc := 40) dX12_aStranger_40 rfl (s_vV (pc := 41) (run_virtual (X12_looks_gd _) (show 3 < 6 by decide) cy_X12_looks (by decide) rfl w_1677 w_s56 w_1675 dX12_aStranger_41) (s_aloadn (pc := 44) dX12_aStranger_44 rfl (s_iconst (pc := 45) dX12_aStranger_45 c_ic_0 (s_pI (pc := 46) (f := 33) ko_11 (by decide) rfl rfl rfl (by decide +kernel) w_1328 dX12_aStranger_46 (s_aloadn (pc := 49) dX12_aStranger_49 rfl (s_iloadn (pc := 50) dX12_aStranger_50 rfl (s_iloadn (pc := 51) dX12_aStranger_51 rfl (s_vV (pc := 52) (run_virtual (X12_walks_gd _) (show 5 < 6 by decide) cy_X12_walks (by decide) rfl w_1706 w_s61 w_1704 dX12_aStranger_52) (s_aloadn (pc := 55) dX12_aStranger_55 rfl (s_gI (pc := 56) (f := 27) ko_11 (by decide) rfl rfl w_1322 dX12_aStranger_56 (s_iconst (pc := 59) dX12_aStranger_59 c_ic_1 (s_cmpeq (pc := 60) dX12_aStranger_60 (by decide) (s_vr (pc := 119) rfl dX12_aStranger_119) (s_aloadn (pc := 63) dX12_aStranger_63 rfl (s_gI (pc := 64) (f := 30) ko_11 (by decide) rfl rfl w_1325 dX12_aStranger_64 (s_iflt (pc := 67) dX12_aStranger_67 (by decide) (s_vr (pc := 119) rfl dX12_aStranger_119) (s_sipush (pc := 70) dX12_aStranger_70 c_sp_155 (s_iconst (pc := 73) dX12_aStranger_73 c_ic_5 (s_aloadn (pc := 74) dX12_aStranger_74 rfl (s_gI (pc := 75) (f := 30) ko_11 (by decide) rfl rfl w_1325 dX12_aStranger_75 (s_imul (pc := 78) dX12_aStranger_78 (s_iadd (pc := 79) dX12_aStranger_79 (s_iconst (pc := 80) dX12_aStranger_80 c_ic_3 (s_iadd (pc := 81) dX12_aStranger_81 (s_istore (pc := 82) dX12_aStranger_82 (show 4 < 5 by decide) (s_aloadn (pc := 84) dX12_aStranger_84 rfl (s_gR (pc := 85) (f := 0) ko_11 (by decide) rfl rfl w_1295 dX12_aStranger_85 (s_iload (pc := 88) dX12_aStranger_88 (s_aloadn (pc := 90) dX12_aStranger_90 rfl (s_gR (pc := 91) (f := 0) ko_11 (by decide) rfl rfl w_1295 dX12_aStranger_91 (s_iload (pc := 94) dX12_aStranger_94 (s_iald (pc := 96) (by decide) (by decide) rfl rfl rfl dX12_aStranger_96 (s_sipush (pc := 97) dX12_aStranger_97 c_sp_9999 (s_cmpge (pc := 100) dX12_aStranger_100 (by decide) (s_sipush (pc := 115) dX12_aStranger_115 c_sp_9999 hk118) (s_aloadn (pc := 103) dX12_aStranger_103 rfl (s_gR (pc := 104) (f := 0) ko_11 (by decide) rfl rfl w_1295 dX12_aStranger_104 (s_iload (pc := 107) dX12_aStranger_107 (s_iald (pc := 109) (by decide) (by decide) rfl rfl rfl dX12_aStranger_109 (s_iconst (pc := 110) dX12_aStranger_110 c_ic_1 (s_iadd (pc := 111) dX12_aStranger_111 (s_goto (pc := 112) dX12_aStranger_112 (by decide) hk118)))))))))))))))))))))))))))))))))))))))))))
noncomputable def X12_aStranger_b118 : Kn := (a_ast 41 2624 (fun a => a) a_vr)
set_option maxRecDepth 100000 in
theorem X12_aStranger_s118 {z : CZ} : SK (X12_aStranger_x z) 118 (X12_aStranger_b118) := (s_iast (pc := 118) (by decide) (by decide) rfl rfl rfl dX12_aStranger_118 (s_vr (pc := 119) rfl dX12_aStranger_119))
noncomputable def X12_aStranger_u38 (g : Nat → Int32 → Int32 → Int32 → PH → Option Rs) : Kn := fun ls st h => gL 1 st (gT 11 ls 0 fun t => gI ls 1 fun x1 => gI ls 2 fun x2 => gI (st.map some) 0 fun s0 => g t x1 x2 s0 h)
noncomputable def X12_aStranger_u118 (g : Int32 → Int32 → Nat → PH → Option Rs) : Kn := fun ls st h => gL 3 st (gI (st.map some) 0 fun s0 => gI (st.map some) 1 fun s1 => gR 41 (st.map some) 2 fun s2 => g s0 s1 s2 h)
noncomputable def X12_aStranger_f0 (c_X12_draw : Nat → PH → Option Rs) (g38 : Nat → Int32 → Int32 → Int32 → PH → Option Rs) (t : Nat) (h : PH) : Option Rs :=
  cI (c_X12_draw t h) fun v2 h1 =>
  nn (hR h1 704 t 0) fun r3 =>
  ix 3 (hL h1 41 r3) fun j4 =>
  dv (hI h1 2624 r3 j4) <|
  cI (c_X12_draw t h1) fun v6 h5 =>
  nn (hR h5 704 t 0) fun r7 =>
  ix 5 (hL h5 41 r7) fun j8 =>
  dv (hI h5 2624 r7 j8) <|
  cI (c_X12_draw t h5) fun v10 h9 =>
  dv 4 <|
  if (jrem v10 4) = 0 then
    g38 t (jrem v2 (hI h1 2624 r3 j4)) (jrem v6 (hI h5 2624 r7 j8)) 1 h9
  else
    g38 t (jrem v2 (hI h1 2624 r3 j4)) (jrem v6 (hI h5 2624 r7 j8)) 0 h9
set_option maxRecDepth 100000 in
theorem X12_aStranger_l0 (c_X12_draw : Nat → PH → Option Rs) (g38 : Nat → Int32 → Int32 → Int32 → PH → Option Rs) (t : Nat) (h : PH) : X12_aStranger_b0 c_X12_draw (X12_aStranger_u38 g38) [some (.inr (11, t + 1)), none, none, none, none] [] h = X12_aStranger_f0 c_X12_draw g38 t h := rfl
theorem X12_aStranger_m0 {c_X12_draw : Nat → PH → Option Rs} {g38 G38 : Nat → Int32 → Int32 → Int32 → PH → Option Rs} (hg38 : ∀ a0 a1 a2 a3 a4, Mo (g38 a0 a1 a2 a3 a4) (G38 a0 a1 a2 a3 a4)) (t : Nat) (h : PH) : Mo (X12_aStranger_f0 c_X12_draw g38 t h) (X12_aStranger_f0 c_X12_draw G38 t h) := (mo_cI fun v2 h1 => (mo_nn fun r3 => (mo_ix fun j4 => (mo_dv (mo_cI fun v6 h5 => (mo_nn fun r7 => (mo_ix fun j8 => (mo_dv (mo_cI fun v10 h9 => (mo_dv (mo_if (hg38 t (jrem v2 (hI h1 2624 r3 j4)) (jrem v6 (hI h5 2624 r7 j8)) 1 h9) (hg38 t (jrem v2 (hI h1 2624 r3 j4)) (jrem v6 (hI h5 2624 r7 j8)) 0 h9))))))))))))
noncomputable def X12_aStranger_f38 (c_X12_looks : Nat → Int32 → PH → Option Rs) (c_X12_walks : Nat → Int32 → Int32 → PH → Option Rs) (g118 : Int32 → Int32 → Nat → PH → Option Rs) (t : Nat) (x1 : Int32) (x2 : Int32) (s0 : Int32) (h : PH) : Option Rs :=
  cV (c_X12_looks t s0 h) fun h11 =>
  wr (pI h11 737 t 0 0) fun h12 =>
  cV (c_X12_walks t x1 x2 h12) fun h13 =>
  if (hI h13 731 t 0) = 1 then
    some (none, h13)
  else
    if (hI h13 734 t 0) < 0 then
      some (none, h13)
    else
      nn (hR h13 704 t 0) fun r14 =>
      ix ((155 + (5 * (hI h13 734 t 0))) + 3) (hL h13 41 r14) fun j15 =>
      if (hI h13 2624 r14 j15) < 9999 then
        nn (hR h13 704 t 0) fun r16 =>
        ix ((155 + (5 * (hI h13 734 t 0))) + 3) (hL h13 41 r16) fun j17 =>
        g118 ((hI h13 2624 r16 j17) + 1) ((155 + (5 * (hI h13 734 t 0))) + 3) (hR h13 704 t 0) h13
      else
        g118 9999 ((155 + (5 * (hI h13 734 t 0))) + 3) (hR h13 704 t 0) h13
set_option maxRecDepth 100000 in
theorem X12_aStranger_l38 (c_X12_looks : Nat → Int32 → PH → Option Rs) (c_X12_walks : Nat → Int32 → Int32 → PH → Option Rs) (g118 : Int32 → Int32 → Nat → PH → Option Rs) (t : Nat) (x1 : Int32) (x2 : Int32) (s0 : Int32) (h : PH) : X12_aStranger_b38 c_X12_looks c_X12_walks (X12_aStranger_u118 g118) [some (.inr (11, t + 1)), some (.inl x1), some (.inl x2), none, none] [.inl s0] h = X12_aStranger_f38 c_X12_looks c_X12_walks g118 t x1 x2 s0 h := rfl
theorem X12_aStranger_m38 {c_X12_looks : Nat → Int32 → PH → Option Rs} {c_X12_walks : Nat → Int32 → Int32 → PH → Option Rs} {g118 G118 : Int32 → Int32 → Nat → PH → Option Rs} (hg118 : ∀ a0 a1 a2 a3, Mo (g118 a0 a1 a2 a3) (G118 a0 a1 a2 a3)) (t : Nat) (x1 : Int32) (x2 : Int32) (s0 : Int32) (h : PH) : Mo (X12_aStranger_f38 c_X12_looks c_X12_walks g118 t x1 x2 s0 h) (X12_aStranger_f38 c_X12_looks c_X12_walks G118 t x1 x2 s0 h) := (mo_cV fun h11 => (mo_wr fun h12 => (mo_cV fun h13 => (mo_if mo_rf (mo_if mo_rf (mo_nn fun r14 => (mo_ix fun j15 => (mo_if (mo_nn fun r16 => (mo_ix fun j17 => (hg118 ((hI h13 2624 r16 j17) + 1) ((155 + (5 * (hI h13 734 t 0))) + 3) (hR h13 704 t 0) h13))) (hg118 9999 ((155 + (5 * (hI h13 734 t 0))) + 3) (hR h13 704 t 0) h13)))))))))
theorem X12_aStranger_w38 {z : CZ} {g118 : Int32 → Int32 → Nat → PH → Option Rs} (hk118 : SK (X12_aStranger_x z) 118 (X12_aStranger_u118 g118)) : SK (X12_aStranger_x z) 38 (X12_aStranger_u38 (X12_aStranger_f38 X12_looks X12_walks g118)) := by
  intro ls st h r e
  obtain ⟨hst, e⟩ := gL_of e
  obtain ⟨t, q0, e⟩ := gT_of e
  obtain ⟨x1, q1, e⟩ := gI_of e
  obtain ⟨x2, q2, e⟩ := gI_of e
  obtain ⟨s0, q3, e⟩ := gI_of e
  rw [st_1 hst q3]
  exact WK.sub (canon := [some (.inr (11, t + 1)), some (.inl x1), some (.inl x2), none, none]) rfl ⟨q0, q1, q2, trivial⟩ (X12_aStranger_s38 hk118 _ _ _ _ ((X12_aStranger_l38 X12_looks X12_walks g118 t x1 x2 s0 h).trans e))
noncomputable def X12_aStranger_f118 (s0 : Int32) (s1 : Int32) (s2 : Nat) (h : PH) : Option Rs :=
  nn s2 fun r18 =>
  ix s1 (hL h 41 r18) fun j19 =>
  wr (pI h 2624 r18 j19 s0) fun h20 =>
  some (none, h20)
set_option maxRecDepth 100000 in
theorem X12_aStranger_l118 (s0 : Int32) (s1 : Int32) (s2 : Nat) (h : PH) : X12_aStranger_b118 [none, none, none, none, none] [.inl s0, .inl s1, .inr (41, s2)] h = X12_aStranger_f118 s0 s1 s2 h := rfl
theorem X12_aStranger_w118 {z : CZ} : SK (X12_aStranger_x z) 118 (X12_aStranger_u118 (X12_aStranger_f118)) := by
  intro ls st h r e
  obtain ⟨hst, e⟩ := gL_of e
  obtain ⟨s0, q0, e⟩ := gI_of e
  obtain ⟨s1, q1, e⟩ := gI_of e
  obtain ⟨s2, q2, e⟩ := gR_of e
  rw [st_3 hst q0 q1 q2]
  exact WK.sub (canon := [none, none, none, none, none]) rfl trivial (X12_aStranger_s118 _ _ _ _ ((X12_aStranger_l118 s0 s1 s2 h).trans e))
noncomputable def X12_aStranger_g118 (s0 : Int32) (s1 : Int32) (s2 : Nat) (h : PH) : Option Rs := X12_aStranger_f118 s0 s1 s2 h
noncomputable def X12_aStranger_g38 (t : Nat) (x1 : Int32) (x2 : Int32) (s0 : Int32) (h : PH) : Option Rs := X12_aStranger_f38 X12_looks X12_walks (X12_aStranger_g118) t x1 x2 s0 h
noncomputable def X12_aStranger_g0 (t : Nat) (h : PH) : Option Rs := X12_aStranger_f0 X12_draw (X12_aStranger_g38) t h
theorem X12_aStranger_v118 {z : CZ} : SK (X12_aStranger_x z) 118 (X12_aStranger_u118 (X12_aStranger_g118)) := X12_aStranger_w118
theorem X12_aStranger_v38 {z : CZ} : SK (X12_aStranger_x z) 38 (X12_aStranger_u38 (X12_aStranger_g38)) := X12_aStranger_w38 (X12_aStranger_v118)
noncomputable def X12_aStranger (t : Nat) (h : PH) : Option Rs := X12_aStranger_g0 t h
noncomputable abbrev X12_aStranger_F : List PV → PH → Option Rs := FW_T11 (X12_aStranger)
set_option maxRecDepth 100000 in
theorem X12_aStranger_gd (l : Launch) : Gd l 6 yX12_aStranger cX12_aStranger 5 none (X12_aStranger_F)   := Gd_of (by decide +kernel) (fun z hzl as h r e => by
  obtain ⟨hst, e⟩ := gL_of e
  obtain ⟨t, q0, e⟩ := gT_of e
  rw [st_1 hst q0]
  exact ⟨show 1 ≤ 5 by decide, X12_aStranger_s0 (X12_aStranger_v38) _ _ _ _ ((X12_aStranger_l0 X12_draw (X12_aStranger_g38) t h).trans e)⟩)
abbrev X12_strangers_x (z : CZ) : CX := mx RX12 cX12_strangers 4 7 (some .int) "strangers" z
noncomputable def X12_strangers_b0 (c_X12_in : Int32 → Int32 → Int32 → PH → Option Rs) (k38 : Kn) : Kn := (a_il 1 (a_ic 1 (a_ic 60 (a_sI 3 (FW_III c_X12_in) (a_z (a_ic (-1000000001) a_ir) (a_al 0 (a_gR 11 704 41 (a_ic 3 (a_ald 41 2624 (a_z (a_ic (-1000000002) a_ir) (a_al 0 (a_gR 11 704 41 (a_ic 5 (a_ald 41 2624 (a_z (a_ic (-1000000002) a_ir) (a_ic 0 (a_is 2 (a_ic 0 (a_is 3 k38)))))))))))))))))))
set_option maxRecDepth 100000 in
theorem X12_strangers_s0 {z : CZ} {k38 : Kn} (hk38 : SK (X12_strangers_x z) 38 k38) : SK (X12_strangers_x z) 0 (X12_strangers_b0 X12_in k38) := (s_iloadn (pc := 0) dX12_strangers_0 rfl (s_iconst (pc := 1) dX12_strangers_1 c_ic_1 (s_bipush (pc := 2) dX12_strangers_2 c_bp_60 (s_sI (pc := 4) (run_static (X12_in_gd _) (show 0 < 7 by decide) cy_X12_in w_1464 w_1463 dX12_strangers_4) (s_ifne (pc := 7) dX12_strangers_7 (by decide) (s_aloadn (pc := 13) dX12_strangers_13 rfl (s_gR (pc := 14) (f := 0) ko_11 (by decide) rfl rfl w_1295 dX12_strangers_14 (s_iconst (pc := 17) dX12_strangers_17 c_ic_3 (s_iald (pc := 18) (by decide) (by decide) rfl rfl rfl dX12_strangers_18 (s_ifeq (pc := 19) dX12_strangers_19 (by decide) (s_ldc (pc := 31) w_1471 dX12_strangers_31 (s_ir (pc := 33) rfl dX12_strangers_33)) (s_aloadn (pc := 22) dX12_strangers_22 rfl (s_gR (pc := 23) (f := 0) ko_11 (by decide) rfl rfl w_1295 dX12_strangers_23 (s_iconst (pc := 26) dX12_strangers_26 c_ic_5 (s_iald (pc := 27) (by decide) (by decide) rfl rfl rfl dX12_strangers_27 (s_ifne (pc := 28) dX12_strangers_28 (by decide) (s_iconst (pc := 34) dX12_strangers_34 c_ic_0 (s_istoren (pc := 35) dX12_strangers_35 rfl (show 2 < 4 by decide) (s_iconst (pc := 36) dX12_strangers_36 c_ic_0 (s_istoren (pc := 37) dX12_strangers_37 rfl (show 3 < 4 by decide) hk38)))) (s_ldc (pc := 31) w_1471 dX12_strangers_31 (s_ir (pc := 33) rfl dX12_strangers_33)))))))))))) (s_ldc (pc := 10) w_1466 dX12_strangers_10 (s_ir (pc := 12) rfl dX12_strangers_12)))))))
noncomputable def X12_strangers_b38 (c_X12_aStranger : Nat → PH → Option Rs) (k61 : Kn) : Kn := (a_il 3 (a_il 1 (a_lt (a_al 0 (a_vV 11 0 (FW_T11 c_X12_aStranger) (a_il 2 (a_al 0 (a_gI 11 731 (a_ic 1 (a_eq (a_ic 1 k61) (a_ic 0 k61)))))))) (a_il 2 a_ir))))
set_option maxRecDepth 100000 in
theorem X12_strangers_s38 {z : CZ} {k61 : Kn} (hk61 : SK (X12_strangers_x z) 61 k61) : SK (X12_strangers_x z) 38 (X12_strangers_b38 X12_aStranger k61) := (s_iloadn (pc := 38) dX12_strangers_38 rfl (s_iloadn (pc := 39) dX12_strangers_39 rfl (s_cmpge (pc := 40) dX12_strangers_40 (by decide) (s_iloadn (pc := 69) dX12_strangers_69 rfl (s_ir (pc := 70) rfl dX12_strangers_70)) (s_aloadn (pc := 43) dX12_strangers_43 rfl (s_vV (pc := 44) (run_virtual (X12_aStranger_gd _) (show 6 < 7 by decide) cy_X12_aStranger (by decide) rfl w_1809 w_s75 w_1807 dX12_strangers_44) (s_iloadn (pc := 47) dX12_strangers_47 rfl (s_aloadn (pc := 48) dX12_strangers_48 rfl (s_gI (pc := 49) (f := 27) ko_11 (by decide) rfl rfl w_1322 dX12_strangers_49 (s_iconst (pc := 52) dX12_strangers_52 c_ic_1 (s_cmpne (pc := 53) dX12_strangers_53 (by decide) (s_iconst (pc := 60) dX12_strangers_60 c_ic_0 hk61) (s_iconst (pc := 56) dX12_strangers_56 c_ic_1 (s_goto (pc := 57) dX12_strangers_57 (by decide) hk61))))))))))))
noncomputable def X12_strangers_b61 (k38 : Kn) : Kn := (a_b (fun a b => a + b) (a_is 2 (a_inc 3 1 k38)))
set_option maxRecDepth 100000 in
theorem X12_strangers_s61 {z : CZ} {k38 : Kn} (hk38 : SK (X12_strangers_x z) 38 k38) : SK (X12_strangers_x z) 61 (X12_strangers_b61 k38) := (s_iadd (pc := 61) dX12_strangers_61 (s_istoren (pc := 62) dX12_strangers_62 rfl (show 2 < 4 by decide) (s_iinc (pc := 63) dX12_strangers_63 c_ic_1 (show 3 < 4 by decide) (s_goto (pc := 66) dX12_strangers_66 (by decide) hk38))))
noncomputable def X12_strangers_u38 (g : Nat → Int32 → Int32 → Int32 → PH → Option Rs) : Kn := fun ls st h => gL 0 st (gT 11 ls 0 fun t => gI ls 1 fun x1 => gI ls 2 fun x2 => gI ls 3 fun x3 => g t x1 x2 x3 h)
noncomputable def X12_strangers_u61 (g : Nat → Int32 → Int32 → Int32 → Int32 → PH → Option Rs) : Kn := fun ls st h => gL 2 st (gT 11 ls 0 fun t => gI ls 1 fun x1 => gI ls 3 fun x3 => gI (st.map some) 0 fun s0 => gI (st.map some) 1 fun s1 => g t x1 x3 s0 s1 h)
noncomputable def X12_strangers_f0 (c_X12_in : Int32 → Int32 → Int32 → PH → Option Rs) (g38 : Nat → Int32 → Int32 → Int32 → PH → Option Rs) (t : Nat) (x1 : Int32) (h : PH) : Option Rs :=
  cI (c_X12_in x1 1 60 h) fun v2 h1 =>
  if v2 = 0 then
    some (some (.inl (-1000000001)), h1)
  else
    nn (hR h1 704 t 0) fun r3 =>
    ix 3 (hL h1 41 r3) fun j4 =>
    if (hI h1 2624 r3 j4) = 0 then
      some (some (.inl (-1000000002)), h1)
    else
      nn (hR h1 704 t 0) fun r5 =>
      ix 5 (hL h1 41 r5) fun j6 =>
      if (hI h1 2624 r5 j6) = 0 then
        some (some (.inl (-1000000002)), h1)
      else
        g38 t x1 0 0 h1
set_option maxRecDepth 100000 in
theorem X12_strangers_l0 (c_X12_in : Int32 → Int32 → Int32 → PH → Option Rs) (g38 : Nat → Int32 → Int32 → Int32 → PH → Option Rs) (t : Nat) (x1 : Int32) (h : PH) : X12_strangers_b0 c_X12_in (X12_strangers_u38 g38) [some (.inr (11, t + 1)), some (.inl x1), none, none] [] h = X12_strangers_f0 c_X12_in g38 t x1 h := rfl
theorem X12_strangers_m0 {c_X12_in : Int32 → Int32 → Int32 → PH → Option Rs} {g38 G38 : Nat → Int32 → Int32 → Int32 → PH → Option Rs} (hg38 : ∀ a0 a1 a2 a3 a4, Mo (g38 a0 a1 a2 a3 a4) (G38 a0 a1 a2 a3 a4)) (t : Nat) (x1 : Int32) (h : PH) : Mo (X12_strangers_f0 c_X12_in g38 t x1 h) (X12_strangers_f0 c_X12_in G38 t x1 h) := (mo_cI fun v2 h1 => (mo_if mo_rf (mo_nn fun r3 => (mo_ix fun j4 => (mo_if mo_rf (mo_nn fun r5 => (mo_ix fun j6 => (mo_if mo_rf (hg38 t x1 0 0 h1)))))))))
noncomputable def X12_strangers_f38 (c_X12_aStranger : Nat → PH → Option Rs) (g61 : Nat → Int32 → Int32 → Int32 → Int32 → PH → Option Rs) (t : Nat) (x1 : Int32) (x2 : Int32) (x3 : Int32) (h : PH) : Option Rs :=
  if x3 < x1 then
    cV (c_X12_aStranger t h) fun h7 =>
    if (hI h7 731 t 0) = 1 then
      g61 t x1 x3 1 x2 h7
    else
      g61 t x1 x3 0 x2 h7
  else
    some (some (.inl x2), h)
set_option maxRecDepth 100000 in
theorem X12_strangers_l38 (c_X12_aStranger : Nat → PH → Option Rs) (g61 : Nat → Int32 → Int32 → Int32 → Int32 → PH → Option Rs) (t : Nat) (x1 : Int32) (x2 : Int32) (x3 : Int32) (h : PH) : X12_strangers_b38 c_X12_aStranger (X12_strangers_u61 g61) [some (.inr (11, t + 1)), some (.inl x1), some (.inl x2), some (.inl x3)] [] h = X12_strangers_f38 c_X12_aStranger g61 t x1 x2 x3 h := rfl
theorem X12_strangers_m38 {c_X12_aStranger : Nat → PH → Option Rs} {g61 G61 : Nat → Int32 → Int32 → Int32 → Int32 → PH → Option Rs} (hg61 : ∀ a0 a1 a2 a3 a4 a5, Mo (g61 a0 a1 a2 a3 a4 a5) (G61 a0 a1 a2 a3 a4 a5)) (t : Nat) (x1 : Int32) (x2 : Int32) (x3 : Int32) (h : PH) : Mo (X12_strangers_f38 c_X12_aStranger g61 t x1 x2 x3 h) (X12_strangers_f38 c_X12_aStranger G61 t x1 x2 x3 h) := (mo_if (mo_cV fun h7 => (mo_if (hg61 t x1 x3 1 x2 h7) (hg61 t x1 x3 0 x2 h7))) mo_rf)
theorem X12_strangers_w38 {z : CZ} {g61 : Nat → Int32 → Int32 → Int32 → Int32 → PH → Option Rs} (hk61 : SK (X12_strangers_x z) 61 (X12_strangers_u61 g61)) : SK (X12_strangers_x z) 38 (X12_strangers_u38 (X12_strangers_f38 X12_aStranger g61)) := by
  intro ls st h r e
  obtain ⟨hst, e⟩ := gL_of e
  obtain ⟨t, q0, e⟩ := gT_of e
  obtain ⟨x1, q1, e⟩ := gI_of e
  obtain ⟨x2, q2, e⟩ := gI_of e
  obtain ⟨x3, q3, e⟩ := gI_of e
  rw [st_0 hst]
  exact WK.sub (canon := [some (.inr (11, t + 1)), some (.inl x1), some (.inl x2), some (.inl x3)]) rfl ⟨q0, q1, q2, q3, trivial⟩ (X12_strangers_s38 hk61 _ _ _ _ ((X12_strangers_l38 X12_aStranger g61 t x1 x2 x3 h).trans e))
noncomputable def X12_strangers_f61 (g38 : Nat → Int32 → Int32 → Int32 → PH → Option Rs) (t : Nat) (x1 : Int32) (x3 : Int32) (s0 : Int32) (s1 : Int32) (h : PH) : Option Rs :=
  g38 t x1 (s1 + s0) (x3 + 1) h
set_option maxRecDepth 100000 in
theorem X12_strangers_l61 (g38 : Nat → Int32 → Int32 → Int32 → PH → Option Rs) (t : Nat) (x1 : Int32) (x3 : Int32) (s0 : Int32) (s1 : Int32) (h : PH) : X12_strangers_b61 (X12_strangers_u38 g38) [some (.inr (11, t + 1)), some (.inl x1), none, some (.inl x3)] [.inl s0, .inl s1] h = X12_strangers_f61 g38 t x1 x3 s0 s1 h := rfl
theorem X12_strangers_m61 {g38 G38 : Nat → Int32 → Int32 → Int32 → PH → Option Rs} (hg38 : ∀ a0 a1 a2 a3 a4, Mo (g38 a0 a1 a2 a3 a4) (G38 a0 a1 a2 a3 a4)) (t : Nat) (x1 : Int32) (x3 : Int32) (s0 : Int32) (s1 : Int32) (h : PH) : Mo (X12_strangers_f61 g38 t x1 x3 s0 s1 h) (X12_strangers_f61 G38 t x1 x3 s0 s1 h) := (hg38 t x1 (s1 + s0) (x3 + 1) h)
theorem X12_strangers_w61 {z : CZ} {g38 : Nat → Int32 → Int32 → Int32 → PH → Option Rs} (hk38 : SK (X12_strangers_x z) 38 (X12_strangers_u38 g38)) : SK (X12_strangers_x z) 61 (X12_strangers_u61 (X12_strangers_f61 g38)) := by
  intro ls st h r e
  obtain ⟨hst, e⟩ := gL_of e
  obtain ⟨t, q0, e⟩ := gT_of e
  obtain ⟨x1, q1, e⟩ := gI_of e
  obtain ⟨x3, q2, e⟩ := gI_of e
  obtain ⟨s0, q3, e⟩ := gI_of e
  obtain ⟨s1, q4, e⟩ := gI_of e
  rw [st_2 hst q3 q4]
  exact WK.sub (canon := [some (.inr (11, t + 1)), some (.inl x1), none, some (.inl x3)]) rfl ⟨q0, q1, q2, trivial⟩ (X12_strangers_s61 hk38 _ _ _ _ ((X12_strangers_l61 g38 t x1 x3 s0 s1 h).trans e))
noncomputable def X12_strangers_g0 (G : (Nat → Int32 → Int32 → Int32 → PH → Option Rs)) (t : Nat) (x1 : Int32) (h : PH) : Option Rs := X12_strangers_f0 X12_in (G) t x1 h
noncomputable def X12_strangers_g61 (G : (Nat → Int32 → Int32 → Int32 → PH → Option Rs)) (t : Nat) (x1 : Int32) (x3 : Int32) (s0 : Int32) (s1 : Int32) (h : PH) : Option Rs := X12_strangers_f61 (G) t x1 x3 s0 s1 h
noncomputable def X12_strangers_g38 (G : (Nat → Int32 → Int32 → Int32 → PH → Option Rs)) (t : Nat) (x1 : Int32) (x2 : Int32) (x3 : Int32) (h : PH) : Option Rs := X12_strangers_f38 X12_aStranger (X12_strangers_g61 G) t x1 x2 x3 h
theorem X12_strangers_v61 {z : CZ} {G : (Nat → Int32 → Int32 → Int32 → PH → Option Rs)} (hG38 : SK (X12_strangers_x z) 38 (X12_strangers_u38 (G))) : SK (X12_strangers_x z) 61 (X12_strangers_u61 (X12_strangers_g61 G)) := X12_strangers_w61 hG38
theorem X12_strangers_v38 {z : CZ} {G : (Nat → Int32 → Int32 → Int32 → PH → Option Rs)} (hG38 : SK (X12_strangers_x z) 38 (X12_strangers_u38 (G))) : SK (X12_strangers_x z) 38 (X12_strangers_u38 (X12_strangers_g38 G)) := X12_strangers_w38 (X12_strangers_v61 hG38)
noncomputable def X12_strangers_fam : Nat → (Nat → Int32 → Int32 → Int32 → PH → Option Rs)
  | 0 => fun _ _ _ _ _ => none
  | n + 1 => X12_strangers_g38 (X12_strangers_fam n)
theorem X12_strangers_k {z : CZ} : ∀ n, SK (X12_strangers_x z) 38 (X12_strangers_u38 (X12_strangers_fam n))
  | 0 => (fun ls st h r e => by
      obtain ⟨_, e⟩ := gL_of e
      obtain ⟨_, _, e⟩ := gT_of e
      obtain ⟨_, _, e⟩ := gI_of e
      obtain ⟨_, _, e⟩ := gI_of e
      obtain ⟨_, _, e⟩ := gI_of e
      cases e)
  | n + 1 => by
    obtain ih38 := X12_strangers_k n
    exact X12_strangers_v38 ih38
theorem X12_strangers_n0 {G G' : (Nat → Int32 → Int32 → Int32 → PH → Option Rs)} (hg38 : ∀ a0 a1 a2 a3 a4, Mo ((G) a0 a1 a2 a3 a4) ((G') a0 a1 a2 a3 a4)) (t : Nat) (x1 : Int32) (h : PH) : Mo (X12_strangers_g0 G t x1 h) (X12_strangers_g0 G' t x1 h) := X12_strangers_m0 hg38 t x1 h
theorem X12_strangers_n61 {G G' : (Nat → Int32 → Int32 → Int32 → PH → Option Rs)} (hg38 : ∀ a0 a1 a2 a3 a4, Mo ((G) a0 a1 a2 a3 a4) ((G') a0 a1 a2 a3 a4)) (t : Nat) (x1 : Int32) (x3 : Int32) (s0 : Int32) (s1 : Int32) (h : PH) : Mo (X12_strangers_g61 G t x1 x3 s0 s1 h) (X12_strangers_g61 G' t x1 x3 s0 s1 h) := X12_strangers_m61 hg38 t x1 x3 s0 s1 h
theorem X12_strangers_n38 {G G' : (Nat → Int32 → Int32 → Int32 → PH → Option Rs)} (hg38 : ∀ a0 a1 a2 a3 a4, Mo ((G) a0 a1 a2 a3 a4) ((G') a0 a1 a2 a3 a4)) (t : Nat) (x1 : Int32) (x2 : Int32) (x3 : Int32) (h : PH) : Mo (X12_strangers_g38 G t x1 x2 x3 h) (X12_strangers_g38 G' t x1 x2 x3 h) := X12_strangers_m38 (fun a0 a1 a2 a3 a4 a5 => X12_strangers_n61 hg38 a0 a1 a2 a3 a4 a5) t x1 x2 x3 h
theorem X12_strangers_fm : ∀ n, (∀ a0 a1 a2 a3 a4, Mo ((X12_strangers_fam n) a0 a1 a2 a3 a4) ((X12_strangers_fam (n + 1)) a0 a1 a2 a3 a4))
  | 0 => fun _ _ _ _ _ => mo_no
  | n + 1 => by
    obtain ih38 := X12_strangers_fm n
    exact fun a0 a1 a2 a3 a4 => X12_strangers_n38 ih38 a0 a1 a2 a3 a4
noncomputable def X12_strangers (t : Nat) (x1 : Int32) (h : PH) : Option Rs := lim (fun n => X12_strangers_g0 (X12_strangers_fam n) t x1 h)
theorem X12_strangers_iff {t : Nat} {x1 : Int32} {h : PH} {r : Rs} : X12_strangers t x1 h = some r ↔ ∃ n, X12_strangers_g0 (X12_strangers_fam n) t x1 h = some r := lim_iff (fun n => by
  obtain ih38 := X12_strangers_fm n
  exact X12_strangers_n0 ih38 t x1 h)
noncomputable abbrev X12_strangers_F : List PV → PH → Option Rs := FW_T11I (X12_strangers)
set_option maxRecDepth 100000 in
theorem X12_strangers_gd (l : Launch) : Gd l 7 yX12_strangers cX12_strangers 4 (some .int) (X12_strangers_F)   := Gd_of (by decide +kernel) (fun z hzl as h r e => by
  obtain ⟨hst, e⟩ := gL_of e
  obtain ⟨t, q0, e⟩ := gT_of e
  obtain ⟨x1, q1, e⟩ := gI_of e
  rw [st_2 hst q0 q1]
  obtain ⟨n, e⟩ := lim_of e
  obtain hG38 := X12_strangers_k (z := z) n
  exact ⟨show 2 ≤ 4 by decide, X12_strangers_s0 hG38 _ _ _ _ ((X12_strangers_l0 X12_in (X12_strangers_fam n) t x1 h).trans e)⟩)
abbrev X12_led_x (z : CZ) : CX := mx RX12 cX12_led 4 1 (some .int) "led" z
noncomputable def X12_led_b0 (k4 : Kn) : Kn := (a_ic (-1) (a_is 1 (a_ic 0 (a_is 2 k4))))
set_option maxRecDepth 100000 in
theorem X12_led_s0 {z : CZ} {k4 : Kn} (hk4 : SK (X12_led_x z) 4 k4) : SK (X12_led_x z) 0 (X12_led_b0 k4) := (s_iconst (pc := 0) dX12_led_0 c_ic_m1 (s_istoren (pc := 1) dX12_led_1 rfl (show 1 < 4 by decide) (s_iconst (pc := 2) dX12_led_2 c_ic_0 (s_istoren (pc := 3) dX12_led_3 rfl (show 2 < 4 by decide) hk4))))
noncomputable def X12_led_b4 (c_X12_of5 : Nat → Int32 → Int32 → PH → Option Rs) (k40 k44 : Kn) : Kn := (a_il 2 (a_al 0 (a_gR 11 704 41 (a_ic 6 (a_ald 41 2624 (a_lt (a_al 0 (a_il 2 (a_ic 3 (a_vI 11 2 (FW_T11II c_X12_of5) (a_is 3 (a_il 3 (a_p (a_il 1 (a_n k40 (a_il 3 (a_al 0 (a_il 1 (a_ic 3 (a_vI 11 2 (FW_T11II c_X12_of5) (a_gt k40 k44)))))))) k44))))))) (a_il 1 (a_n (a_ic (-1000000005) a_ir) (a_il 1 a_ir)))))))))
set_option maxRecDepth 100000 in
theorem X12_led_s4 {z : CZ} {k40 k44 : Kn} (hk40 : SK (X12_led_x z) 40 k40) (hk44 : SK (X12_led_x z) 44 k44) : SK (X12_led_x z) 4 (X12_led_b4 X12_of5 k40 k44) := (s_iloadn (pc := 4) dX12_led_4 rfl (s_aloadn (pc := 5) dX12_led_5 rfl (s_gR (pc := 6) (f := 0) ko_11 (by decide) rfl rfl w_1295 dX12_led_6 (s_bipush (pc := 9) dX12_led_9 c_bp_6 (s_iald (pc := 11) (by decide) (by decide) rfl rfl rfl dX12_led_11 (s_cmpge (pc := 12) dX12_led_12 (by decide) (s_iloadn (pc := 52) dX12_led_52 rfl (s_ifge (pc := 53) dX12_led_53 (by decide) (s_iloadn (pc := 61) dX12_led_61 rfl (s_ir (pc := 62) rfl dX12_led_62)) (s_ldc (pc := 56) w_1515 dX12_led_56 (s_goto (pc := 58) dX12_led_58 (by decide) (s_ir (pc := 62) rfl dX12_led_62))))) (s_aloadn (pc := 15) dX12_led_15 rfl (s_iloadn (pc := 16) dX12_led_16 rfl (s_iconst (pc := 17) dX12_led_17 c_ic_3 (s_vI (pc := 18) (run_virtual (X12_of5_gd _) (show 0 < 1 by decide) cy_X12_of5 (by decide) rfl w_1534 w_s38 w_1532 dX12_led_18) (s_istoren (pc := 21) dX12_led_21 rfl (show 3 < 4 by decide) (s_iloadn (pc := 22) dX12_led_22 rfl (s_ifle (pc := 23) dX12_led_23 (by decide) hk44 (s_iloadn (pc := 26) dX12_led_26 rfl (s_iflt (pc := 27) dX12_led_27 (by decide) hk40 (s_iloadn (pc := 30) dX12_led_30 rfl (s_aloadn (pc := 31) dX12_led_31 rfl (s_iloadn (pc := 32) dX12_led_32 rfl (s_iconst (pc := 33) dX12_led_33 c_ic_3 (s_vI (pc := 34) (run_virtual (X12_of5_gd _) (show 0 < 1 by decide) cy_X12_of5 (by decide) rfl w_1534 w_s38 w_1532 dX12_led_34) (s_cmple (pc := 37) dX12_led_37 (by decide) hk44 hk40)))))))))))))))))))))
noncomputable def X12_led_b40 (k45 : Kn) : Kn := (a_il 2 k45)
set_option maxRecDepth 100000 in
theorem X12_led_s40 {z : CZ} {k45 : Kn} (hk45 : SK (X12_led_x z) 45 k45) : SK (X12_led_x z) 40 (X12_led_b40 k45) := (s_iloadn (pc := 40) dX12_led_40 rfl (s_goto (pc := 41) dX12_led_41 (by decide) hk45))
noncomputable def X12_led_b44 (k45 : Kn) : Kn := (a_il 1 k45)
set_option maxRecDepth 100000 in
theorem X12_led_s44 {z : CZ} {k45 : Kn} (hk45 : SK (X12_led_x z) 45 k45) : SK (X12_led_x z) 44 (X12_led_b44 k45) := (s_iloadn (pc := 44) dX12_led_44 rfl hk45)
noncomputable def X12_led_b45 (k4 : Kn) : Kn := (a_is 1 (a_inc 2 1 k4))
set_option maxRecDepth 100000 in
theorem X12_led_s45 {z : CZ} {k4 : Kn} (hk4 : SK (X12_led_x z) 4 k4) : SK (X12_led_x z) 45 (X12_led_b45 k4) := (s_istoren (pc := 45) dX12_led_45 rfl (show 1 < 4 by decide) (s_iinc (pc := 46) dX12_led_46 c_ic_1 (show 2 < 4 by decide) (s_goto (pc := 49) dX12_led_49 (by decide) hk4)))
noncomputable def X12_led_u4 (g : Nat → Int32 → Int32 → PH → Option Rs) : Kn := fun ls st h => gL 0 st (gT 11 ls 0 fun t => gI ls 1 fun x1 => gI ls 2 fun x2 => g t x1 x2 h)
noncomputable def X12_led_u40 (g : Nat → Int32 → PH → Option Rs) : Kn := fun ls st h => gL 0 st (gT 11 ls 0 fun t => gI ls 2 fun x2 => g t x2 h)
noncomputable def X12_led_u44 (g : Nat → Int32 → Int32 → PH → Option Rs) : Kn := fun ls st h => gL 0 st (gT 11 ls 0 fun t => gI ls 1 fun x1 => gI ls 2 fun x2 => g t x1 x2 h)
noncomputable def X12_led_u45 (g : Nat → Int32 → Int32 → PH → Option Rs) : Kn := fun ls st h => gL 1 st (gT 11 ls 0 fun t => gI ls 2 fun x2 => gI (st.map some) 0 fun s0 => g t x2 s0 h)
noncomputable def X12_led_f0 (g4 : Nat → Int32 → Int32 → PH → Option Rs) (t : Nat) (h : PH) : Option Rs :=
  g4 t (-1) 0 h
set_option maxRecDepth 100000 in
theorem X12_led_l0 (g4 : Nat → Int32 → Int32 → PH → Option Rs) (t : Nat) (h : PH) : X12_led_b0 (X12_led_u4 g4) [some (.inr (11, t + 1)), none, none, none] [] h = X12_led_f0 g4 t h := rfl
theorem X12_led_m0 {g4 G4 : Nat → Int32 → Int32 → PH → Option Rs} (hg4 : ∀ a0 a1 a2 a3, Mo (g4 a0 a1 a2 a3) (G4 a0 a1 a2 a3)) (t : Nat) (h : PH) : Mo (X12_led_f0 g4 t h) (X12_led_f0 G4 t h) := (hg4 t (-1) 0 h)
noncomputable def X12_led_f4 (c_X12_of5 : Nat → Int32 → Int32 → PH → Option Rs) (g40 : Nat → Int32 → PH → Option Rs) (g44 : Nat → Int32 → Int32 → PH → Option Rs) (t : Nat) (x1 : Int32) (x2 : Int32) (h : PH) : Option Rs :=
  nn (hR h 704 t 0) fun r1 =>
  ix 6 (hL h 41 r1) fun j2 =>
  if x2 < (hI h 2624 r1 j2) then
    cI (c_X12_of5 t x2 3 h) fun v4 h3 =>
    if 0 < v4 then
      if x1 < 0 then
        g40 t x2 h3
      else
        cI (c_X12_of5 t x1 3 h3) fun v6 h5 =>
        if v6 < v4 then
          g40 t x2 h5
        else
          g44 t x1 x2 h5
    else
      g44 t x1 x2 h3
  else
    if x1 < 0 then
      some (some (.inl (-1000000005)), h)
    else
      some (some (.inl x1), h)
set_option maxRecDepth 100000 in
theorem X12_led_l4 (c_X12_of5 : Nat → Int32 → Int32 → PH → Option Rs) (g40 : Nat → Int32 → PH → Option Rs) (g44 : Nat → Int32 → Int32 → PH → Option Rs) (t : Nat) (x1 : Int32) (x2 : Int32) (h : PH) : X12_led_b4 c_X12_of5 (X12_led_u40 g40) (X12_led_u44 g44) [some (.inr (11, t + 1)), some (.inl x1), some (.inl x2), none] [] h = X12_led_f4 c_X12_of5 g40 g44 t x1 x2 h := rfl
theorem X12_led_m4 {c_X12_of5 : Nat → Int32 → Int32 → PH → Option Rs} {g40 G40 : Nat → Int32 → PH → Option Rs} {g44 G44 : Nat → Int32 → Int32 → PH → Option Rs} (hg40 : ∀ a0 a1 a2, Mo (g40 a0 a1 a2) (G40 a0 a1 a2)) (hg44 : ∀ a0 a1 a2 a3, Mo (g44 a0 a1 a2 a3) (G44 a0 a1 a2 a3)) (t : Nat) (x1 : Int32) (x2 : Int32) (h : PH) : Mo (X12_led_f4 c_X12_of5 g40 g44 t x1 x2 h) (X12_led_f4 c_X12_of5 G40 G44 t x1 x2 h) := (mo_nn fun r1 => (mo_ix fun j2 => (mo_if (mo_cI fun v4 h3 => (mo_if (mo_if (hg40 t x2 h3) (mo_cI fun v6 h5 => (mo_if (hg40 t x2 h5) (hg44 t x1 x2 h5)))) (hg44 t x1 x2 h3))) (mo_if mo_rf mo_rf))))
theorem X12_led_w4 {z : CZ} {g40 : Nat → Int32 → PH → Option Rs} {g44 : Nat → Int32 → Int32 → PH → Option Rs} (hk40 : SK (X12_led_x z) 40 (X12_led_u40 g40)) (hk44 : SK (X12_led_x z) 44 (X12_led_u44 g44)) : SK (X12_led_x z) 4 (X12_led_u4 (X12_led_f4 X12_of5 g40 g44)) := by
  intro ls st h r e
  obtain ⟨hst, e⟩ := gL_of e
  obtain ⟨t, q0, e⟩ := gT_of e
  obtain ⟨x1, q1, e⟩ := gI_of e
  obtain ⟨x2, q2, e⟩ := gI_of e
  rw [st_0 hst]
  exact WK.sub (canon := [some (.inr (11, t + 1)), some (.inl x1), some (.inl x2), none]) rfl ⟨q0, q1, q2, trivial⟩ (X12_led_s4 hk40 hk44 _ _ _ _ ((X12_led_l4 X12_of5 g40 g44 t x1 x2 h).trans e))
noncomputable def X12_led_f40 (g45 : Nat → Int32 → Int32 → PH → Option Rs) (t : Nat) (x2 : Int32) (h : PH) : Option Rs :=
  g45 t x2 x2 h
set_option maxRecDepth 100000 in
theorem X12_led_l40 (g45 : Nat → Int32 → Int32 → PH → Option Rs) (t : Nat) (x2 : Int32) (h : PH) : X12_led_b40 (X12_led_u45 g45) [some (.inr (11, t + 1)), none, some (.inl x2), none] [] h = X12_led_f40 g45 t x2 h := rfl
theorem X12_led_m40 {g45 G45 : Nat → Int32 → Int32 → PH → Option Rs} (hg45 : ∀ a0 a1 a2 a3, Mo (g45 a0 a1 a2 a3) (G45 a0 a1 a2 a3)) (t : Nat) (x2 : Int32) (h : PH) : Mo (X12_led_f40 g45 t x2 h) (X12_led_f40 G45 t x2 h) := (hg45 t x2 x2 h)
theorem X12_led_w40 {z : CZ} {g45 : Nat → Int32 → Int32 → PH → Option Rs} (hk45 : SK (X12_led_x z) 45 (X12_led_u45 g45)) : SK (X12_led_x z) 40 (X12_led_u40 (X12_led_f40 g45)) := by
  intro ls st h r e
  obtain ⟨hst, e⟩ := gL_of e
  obtain ⟨t, q0, e⟩ := gT_of e
  obtain ⟨x2, q1, e⟩ := gI_of e
  rw [st_0 hst]
  exact WK.sub (canon := [some (.inr (11, t + 1)), none, some (.inl x2), none]) rfl ⟨q0, q1, trivial⟩ (X12_led_s40 hk45 _ _ _ _ ((X12_led_l40 g45 t x2 h).trans e))
noncomputable def X12_led_f44 (g45 : Nat → Int32 → Int32 → PH → Option Rs) (t : Nat) (x1 : Int32) (x2 : Int32) (h : PH) : Option Rs :=
  g45 t x2 x1 h
set_option maxRecDepth 100000 in
theorem X12_led_l44 (g45 : Nat → Int32 → Int32 → PH → Option Rs) (t : Nat) (x1 : Int32) (x2 : Int32) (h : PH) : X12_led_b44 (X12_led_u45 g45) [some (.inr (11, t + 1)), some (.inl x1), some (.inl x2), none] [] h = X12_led_f44 g45 t x1 x2 h := rfl
theorem X12_led_m44 {g45 G45 : Nat → Int32 → Int32 → PH → Option Rs} (hg45 : ∀ a0 a1 a2 a3, Mo (g45 a0 a1 a2 a3) (G45 a0 a1 a2 a3)) (t : Nat) (x1 : Int32) (x2 : Int32) (h : PH) : Mo (X12_led_f44 g45 t x1 x2 h) (X12_led_f44 G45 t x1 x2 h) := (hg45 t x2 x1 h)
theorem X12_led_w44 {z : CZ} {g45 : Nat → Int32 → Int32 → PH → Option Rs} (hk45 : SK (X12_led_x z) 45 (X12_led_u45 g45)) : SK (X12_led_x z) 44 (X12_led_u44 (X12_led_f44 g45)) := by
  intro ls st h r e
  obtain ⟨hst, e⟩ := gL_of e
  obtain ⟨t, q0, e⟩ := gT_of e
  obtain ⟨x1, q1, e⟩ := gI_of e
  obtain ⟨x2, q2, e⟩ := gI_of e
  rw [st_0 hst]
  exact WK.sub (canon := [some (.inr (11, t + 1)), some (.inl x1), some (.inl x2), none]) rfl ⟨q0, q1, q2, trivial⟩ (X12_led_s44 hk45 _ _ _ _ ((X12_led_l44 g45 t x1 x2 h).trans e))
noncomputable def X12_led_f45 (g4 : Nat → Int32 → Int32 → PH → Option Rs) (t : Nat) (x2 : Int32) (s0 : Int32) (h : PH) : Option Rs :=
  g4 t s0 (x2 + 1) h
set_option maxRecDepth 100000 in
theorem X12_led_l45 (g4 : Nat → Int32 → Int32 → PH → Option Rs) (t : Nat) (x2 : Int32) (s0 : Int32) (h : PH) : X12_led_b45 (X12_led_u4 g4) [some (.inr (11, t + 1)), none, some (.inl x2), none] [.inl s0] h = X12_led_f45 g4 t x2 s0 h := rfl
theorem X12_led_m45 {g4 G4 : Nat → Int32 → Int32 → PH → Option Rs} (hg4 : ∀ a0 a1 a2 a3, Mo (g4 a0 a1 a2 a3) (G4 a0 a1 a2 a3)) (t : Nat) (x2 : Int32) (s0 : Int32) (h : PH) : Mo (X12_led_f45 g4 t x2 s0 h) (X12_led_f45 G4 t x2 s0 h) := (hg4 t s0 (x2 + 1) h)
theorem X12_led_w45 {z : CZ} {g4 : Nat → Int32 → Int32 → PH → Option Rs} (hk4 : SK (X12_led_x z) 4 (X12_led_u4 g4)) : SK (X12_led_x z) 45 (X12_led_u45 (X12_led_f45 g4)) := by
  intro ls st h r e
  obtain ⟨hst, e⟩ := gL_of e
  obtain ⟨t, q0, e⟩ := gT_of e
  obtain ⟨x2, q1, e⟩ := gI_of e
  obtain ⟨s0, q2, e⟩ := gI_of e
  rw [st_1 hst q2]
  exact WK.sub (canon := [some (.inr (11, t + 1)), none, some (.inl x2), none]) rfl ⟨q0, q1, trivial⟩ (X12_led_s45 hk4 _ _ _ _ ((X12_led_l45 g4 t x2 s0 h).trans e))
noncomputable def X12_led_g0 (G : (Nat → Int32 → Int32 → PH → Option Rs)) (t : Nat) (h : PH) : Option Rs := X12_led_f0 (G) t h
noncomputable def X12_led_g45 (G : (Nat → Int32 → Int32 → PH → Option Rs)) (t : Nat) (x2 : Int32) (s0 : Int32) (h : PH) : Option Rs := X12_led_f45 (G) t x2 s0 h
noncomputable def X12_led_g40 (G : (Nat → Int32 → Int32 → PH → Option Rs)) (t : Nat) (x2 : Int32) (h : PH) : Option Rs := X12_led_f40 (X12_led_g45 G) t x2 h
noncomputable def X12_led_g44 (G : (Nat → Int32 → Int32 → PH → Option Rs)) (t : Nat) (x1 : Int32) (x2 : Int32) (h : PH) : Option Rs := X12_led_f44 (X12_led_g45 G) t x1 x2 h
noncomputable def X12_led_g4 (G : (Nat → Int32 → Int32 → PH → Option Rs)) (t : Nat) (x1 : Int32) (x2 : Int32) (h : PH) : Option Rs := X12_led_f4 X12_of5 (X12_led_g40 G) (X12_led_g44 G) t x1 x2 h
theorem X12_led_v45 {z : CZ} {G : (Nat → Int32 → Int32 → PH → Option Rs)} (hG4 : SK (X12_led_x z) 4 (X12_led_u4 (G))) : SK (X12_led_x z) 45 (X12_led_u45 (X12_led_g45 G)) := X12_led_w45 (g4 := (G)) hG4
theorem X12_led_v40 {z : CZ} {G : (Nat → Int32 → Int32 → PH → Option Rs)} (hG4 : SK (X12_led_x z) 4 (X12_led_u4 (G))) : SK (X12_led_x z) 40 (X12_led_u40 (X12_led_g40 G)) := X12_led_w40 (g45 := (X12_led_g45 G)) (X12_led_v45 hG4)
theorem X12_led_v44 {z : CZ} {G : (Nat → Int32 → Int32 → PH → Option Rs)} (hG4 : SK (X12_led_x z) 4 (X12_led_u4 (G))) : SK (X12_led_x z) 44 (X12_led_u44 (X12_led_g44 G)) := X12_led_w44 (g45 := (X12_led_g45 G)) (X12_led_v45 hG4)
theorem X12_led_v4 {z : CZ} {G : (Nat → Int32 → Int32 → PH → Option Rs)} (hG4 : SK (X12_led_x z) 4 (X12_led_u4 (G))) : SK (X12_led_x z) 4 (X12_led_u4 (X12_led_g4 G)) := X12_led_w4 (g40 := (X12_led_g40 G)) (g44 := (X12_led_g44 G)) (X12_led_v40 hG4) (X12_led_v44 hG4)
noncomputable def X12_led_fam : Nat → (Nat → Int32 → Int32 → PH → Option Rs)
  | 0 => fun _ _ _ _ => none
  | n + 1 => X12_led_g4 (X12_led_fam n)
theorem X12_led_k {z : CZ} : ∀ n, SK (X12_led_x z) 4 (X12_led_u4 (X12_led_fam n))
  | 0 => (fun ls st h r e => by
      obtain ⟨_, e⟩ := gL_of e
      obtain ⟨_, _, e⟩ := gT_of e
      obtain ⟨_, _, e⟩ := gI_of e
      obtain ⟨_, _, e⟩ := gI_of e
      cases e)
  | n + 1 => by
    obtain ih4 := X12_led_k n
    exact X12_led_v4 ih4
theorem X12_led_n0 {G G' : (Nat → Int32 → Int32 → PH → Option Rs)} (hg4 : ∀ a0 a1 a2 a3, Mo ((G) a0 a1 a2 a3) ((G') a0 a1 a2 a3)) (t : Nat) (h : PH) : Mo (X12_led_g0 G t h) (X12_led_g0 G' t h) := X12_led_m0 hg4 t h
theorem X12_led_n45 {G G' : (Nat → Int32 → Int32 → PH → Option Rs)} (hg4 : ∀ a0 a1 a2 a3, Mo ((G) a0 a1 a2 a3) ((G') a0 a1 a2 a3)) (t : Nat) (x2 : Int32) (s0 : Int32) (h : PH) : Mo (X12_led_g45 G t x2 s0 h) (X12_led_g45 G' t x2 s0 h) := X12_led_m45 hg4 t x2 s0 h
theorem X12_led_n40 {G G' : (Nat → Int32 → Int32 → PH → Option Rs)} (hg4 : ∀ a0 a1 a2 a3, Mo ((G) a0 a1 a2 a3) ((G') a0 a1 a2 a3)) (t : Nat) (x2 : Int32) (h : PH) : Mo (X12_led_g40 G t x2 h) (X12_led_g40 G' t x2 h) := X12_led_m40 (fun a0 a1 a2 a3 => X12_led_n45 hg4 a0 a1 a2 a3) t x2 h
theorem X12_led_n44 {G G' : (Nat → Int32 → Int32 → PH → Option Rs)} (hg4 : ∀ a0 a1 a2 a3, Mo ((G) a0 a1 a2 a3) ((G') a0 a1 a2 a3)) (t : Nat) (x1 : Int32) (x2 : Int32) (h : PH) : Mo (X12_led_g44 G t x1 x2 h) (X12_led_g44 G' t x1 x2 h) := X12_led_m44 (fun a0 a1 a2 a3 => X12_led_n45 hg4 a0 a1 a2 a3) t x1 x2 h
theorem X12_led_n4 {G G' : (Nat → Int32 → Int32 → PH → Option Rs)} (hg4 : ∀ a0 a1 a2 a3, Mo ((G) a0 a1 a2 a3) ((G') a0 a1 a2 a3)) (t : Nat) (x1 : Int32) (x2 : Int32) (h : PH) : Mo (X12_led_g4 G t x1 x2 h) (X12_led_g4 G' t x1 x2 h) := X12_led_m4 (fun a0 a1 a2 => X12_led_n40 hg4 a0 a1 a2) (fun a0 a1 a2 a3 => X12_led_n44 hg4 a0 a1 a2 a3) t x1 x2 h
theorem X12_led_fm : ∀ n, (∀ a0 a1 a2 a3, Mo ((X12_led_fam n) a0 a1 a2 a3) ((X12_led_fam (n + 1)) a0 a1 a2 a3))
  | 0 => fun _ _ _ _ => mo_no
  | n + 1 => by
    obtain ih4 := X12_led_fm n
    exact fun a0 a1 a2 a3 => X12_led_n4 ih4 a0 a1 a2 a3
noncomputable def X12_led (t : Nat) (h : PH) : Option Rs := lim (fun n => X12_led_g0 (X12_led_fam n) t h)
theorem X12_led_iff {t : Nat} {h : PH} {r : Rs} : X12_led t h = some r ↔ ∃ n, X12_led_g0 (X12_led_fam n) t h = some r := lim_iff (fun n => by
  obtain ih4 := X12_led_fm n
  exact X12_led_n0 ih4 t h)
noncomputable abbrev X12_led_F : List PV → PH → Option Rs := FW_T11 (X12_led)
set_option maxRecDepth 100000 in
theorem X12_led_gd (l : Launch) : Gd l 1 yX12_led cX12_led 4 (some .int) (X12_led_F)   := Gd_of (by decide +kernel) (fun z hzl as h r e => by
  obtain ⟨hst, e⟩ := gL_of e
  obtain ⟨t, q0, e⟩ := gT_of e
  rw [st_1 hst q0]
  obtain ⟨n, e⟩ := lim_of e
  obtain hG4 := X12_led_k (z := z) n
  exact ⟨show 1 ≤ 4 by decide, X12_led_s0 hG4 _ _ _ _ ((X12_led_l0 (X12_led_fam n) t h).trans e)⟩)
abbrev X12_isSheet_x (z : CZ) : CX := mx RX12 cX12_isSheet 1 1 (some .boolean) "isSheet" z
noncomputable def X12_isSheet_b0 (c_X12_in : Int32 → Int32 → Int32 → PH → Option Rs) : Kn := (a_il 0 (a_ic 0 (a_ic 3 (a_sI 3 (FW_III c_X12_in) a_zr))))
set_option maxRecDepth 100000 in
theorem X12_isSheet_s0 {z : CZ} : SK (X12_isSheet_x z) 0 (X12_isSheet_b0 X12_in) := (s_iloadn (pc := 0) dX12_isSheet_0 rfl (s_iconst (pc := 1) dX12_isSheet_1 c_ic_0 (s_iconst (pc := 2) dX12_isSheet_2 c_ic_3 (s_sI (pc := 3) (run_static (X12_in_gd _) (show 0 < 1 by decide) cy_X12_in w_1464 w_1463 dX12_isSheet_3) (s_zr (pc := 6) rfl dX12_isSheet_6)))))
noncomputable def X12_isSheet_f0 (c_X12_in : Int32 → Int32 → Int32 → PH → Option Rs) (x0 : Int32) (h : PH) : Option Rs :=
  cI (c_X12_in x0 0 3 h) fun v2 h1 =>
  bz v2 <|
  some (some (.inl v2), h1)
set_option maxRecDepth 100000 in
theorem X12_isSheet_l0 (c_X12_in : Int32 → Int32 → Int32 → PH → Option Rs) (x0 : Int32) (h : PH) : X12_isSheet_b0 c_X12_in [some (.inl x0)] [] h = X12_isSheet_f0 c_X12_in x0 h := rfl
noncomputable def X12_isSheet_g0 (x0 : Int32) (h : PH) : Option Rs := X12_isSheet_f0 X12_in x0 h
noncomputable def X12_isSheet (x0 : Int32) (h : PH) : Option Rs := X12_isSheet_g0 x0 h
noncomputable abbrev X12_isSheet_F : List PV → PH → Option Rs := FW_I (X12_isSheet)
set_option maxRecDepth 100000 in
theorem X12_isSheet_gd (l : Launch) : Gd l 1 yX12_isSheet cX12_isSheet 1 (some .boolean) (X12_isSheet_F)   := Gd_of (by decide +kernel) (fun z hzl as h r e => by
  obtain ⟨hst, e⟩ := gL_of e
  obtain ⟨x0, q0, e⟩ := gI_of e
  rw [st_1 hst q0]
  exact ⟨show 1 ≤ 1 by decide, X12_isSheet_s0 _ _ _ _ ((X12_isSheet_l0 X12_in x0 h).trans e)⟩)
abbrev X12_sheet_x (z : CZ) : CX := mx RX12 cX12_sheet 5 2 (some .int) "sheet" z
noncomputable def X12_sheet_b0 (c_X12_isSheet : Int32 → PH → Option Rs) (c_X12_in : Int32 → Int32 → Int32 → PH → Option Rs) (k29 : Kn) : Kn := (a_il 1 (a_sI 1 (FW_I c_X12_isSheet) (a_z (a_ic (-1000000001) a_ir) (a_il 2 (a_ic (-1) (a_ic 1 (a_sI 3 (FW_III c_X12_in) (a_z (a_ic (-1000000001) a_ir) (a_il 2 (a_n k29 (a_il 3 (a_ic 24 (a_gt (a_ic (-1000000001) a_ir) k29)))))))))))))
set_option maxRecDepth 100000 in
theorem X12_sheet_s0 {z : CZ} {k29 : Kn} (hk29 : SK (X12_sheet_x z) 29 k29) : SK (X12_sheet_x z) 0 (X12_sheet_b0 X12_isSheet X12_in k29) := (s_iloadn (pc := 0) dX12_sheet_0 rfl (s_sI (pc := 1) (run_static (X12_isSheet_gd _) (show 1 < 2 by decide) cy_X12_isSheet w_1825 w_1824 dX12_sheet_1) (s_ifeq (pc := 4) dX12_sheet_4 (by decide) (s_ldc (pc := 26) w_1466 dX12_sheet_26 (s_ir (pc := 28) rfl dX12_sheet_28)) (s_iloadn (pc := 7) dX12_sheet_7 rfl (s_iconst (pc := 8) dX12_sheet_8 c_ic_m1 (s_iconst (pc := 9) dX12_sheet_9 c_ic_1 (s_sI (pc := 10) (run_static (X12_in_gd _) (show 0 < 2 by decide) cy_X12_in w_1464 w_1463 dX12_sheet_10) (s_ifeq (pc := 13) dX12_sheet_13 (by decide) (s_ldc (pc := 26) w_1466 dX12_sheet_26 (s_ir (pc := 28) rfl dX12_sheet_28)) (s_iloadn (pc := 16) dX12_sheet_16 rfl (s_iflt (pc := 17) dX12_sheet_17 (by decide) hk29 (s_iloadn (pc := 20) dX12_sheet_20 rfl (s_bipush (pc := 21) dX12_sheet_21 c_bp_24 (s_cmple (pc := 23) dX12_sheet_23 (by decide) hk29 (s_ldc (pc := 26) w_1466 dX12_sheet_26 (s_ir (pc := 28) rfl dX12_sheet_28)))))))))))))))
noncomputable def X12_sheet_b29 (k41 : Kn) : Kn := (a_il 2 (a_n k41 (a_il 3 (a_n (a_ic (-1000000014) a_ir) k41))))
set_option maxRecDepth 100000 in
theorem X12_sheet_s29 {z : CZ} {k41 : Kn} (hk41 : SK (X12_sheet_x z) 41 k41) : SK (X12_sheet_x z) 29 (X12_sheet_b29 k41) := (s_iloadn (pc := 29) dX12_sheet_29 rfl (s_iflt (pc := 30) dX12_sheet_30 (by decide) hk41 (s_iloadn (pc := 33) dX12_sheet_33 rfl (s_ifge (pc := 34) dX12_sheet_34 (by decide) hk41 (s_ldcw (pc := 37) w_1827 dX12_sheet_37 (s_ir (pc := 40) rfl dX12_sheet_40))))))
noncomputable def X12_sheet_b41 (k62 : Kn) : Kn := (a_al 0 (a_gR 11 745 62 (a_il 1 (a_il 2 (a_ast 62 3968 (fun a => a) (a_al 0 (a_gR 11 746 63 (a_il 1 (a_il 2 (a_n (a_ic 0 k62) (a_il 3 k62)))))))))))
set_option maxRecDepth 100000 in
theorem X12_sheet_s41 {z : CZ} {k62 : Kn} (hk62 : SK (X12_sheet_x z) 62 k62) : SK (X12_sheet_x z) 41 (X12_sheet_b41 k62) := (s_aloadn (pc := 41) dX12_sheet_41 rfl (s_gR (pc := 42) (f := 41) ko_11 (by decide) rfl rfl w_1336 dX12_sheet_42 (s_iloadn (pc := 45) dX12_sheet_45 rfl (s_iloadn (pc := 46) dX12_sheet_46 rfl (s_iast (pc := 47) (by decide) (by decide) rfl rfl rfl dX12_sheet_47 (s_aloadn (pc := 48) dX12_sheet_48 rfl (s_gR (pc := 49) (f := 42) ko_11 (by decide) rfl rfl w_1337 dX12_sheet_49 (s_iloadn (pc := 52) dX12_sheet_52 rfl (s_iloadn (pc := 53) dX12_sheet_53 rfl (s_ifge (pc := 54) dX12_sheet_54 (by decide) (s_iloadn (pc := 61) dX12_sheet_61 rfl hk62) (s_iconst (pc := 57) dX12_sheet_57 c_ic_0 (s_goto (pc := 58) dX12_sheet_58 (by decide) hk62))))))))))))
noncomputable def X12_sheet_b62 (k66 : Kn) : Kn := (a_ast 63 4032 (fun a => a) (a_ic 0 (a_is 4 k66)))
set_option maxRecDepth 100000 in
theorem X12_sheet_s62 {z : CZ} {k66 : Kn} (hk66 : SK (X12_sheet_x z) 66 k66) : SK (X12_sheet_x z) 62 (X12_sheet_b62 k66) := (s_iast (pc := 62) (by decide) (by decide) rfl rfl rfl dX12_sheet_62 (s_iconst (pc := 63) dX12_sheet_63 c_ic_0 (s_istore (pc := 64) dX12_sheet_64 (show 4 < 5 by decide) hk66)))
noncomputable def X12_sheet_b66 (k66 : Kn) : Kn := (a_il 4 (a_ic 24 (a_lt (a_al 0 (a_gR 11 747 64 (a_ic 24 (a_il 1 (a_b (fun a b => a * b) (a_il 4 (a_b (fun a b => a + b) (a_ic 0 (a_ast 64 4096 (fun a => a) (a_inc 4 1 k66)))))))))) (a_al 0 (a_gR 11 746 63 (a_il 1 (a_ald 63 4032 a_ir)))))))
set_option maxRecDepth 100000 in
theorem X12_sheet_s66 {z : CZ} {k66 : Kn} (hk66 : SK (X12_sheet_x z) 66 k66) : SK (X12_sheet_x z) 66 (X12_sheet_b66 k66) := (s_iload (pc := 66) dX12_sheet_66 (s_bipush (pc := 68) dX12_sheet_68 c_bp_24 (s_cmpge (pc := 70) dX12_sheet_70 (by decide) (s_aloadn (pc := 92) dX12_sheet_92 rfl (s_gR (pc := 93) (f := 42) ko_11 (by decide) rfl rfl w_1337 dX12_sheet_93 (s_iloadn (pc := 96) dX12_sheet_96 rfl (s_iald (pc := 97) (by decide) (by decide) rfl rfl rfl dX12_sheet_97 (s_ir (pc := 98) rfl dX12_sheet_98))))) (s_aloadn (pc := 73) dX12_sheet_73 rfl (s_gR (pc := 74) (f := 43) ko_11 (by decide) rfl rfl w_1338 dX12_sheet_74 (s_bipush (pc := 77) dX12_sheet_77 c_bp_24 (s_iloadn (pc := 79) dX12_sheet_79 rfl (s_imul (pc := 80) dX12_sheet_80 (s_iload (pc := 81) dX12_sheet_81 (s_iadd (pc := 83) dX12_sheet_83 (s_iconst (pc := 84) dX12_sheet_84 c_ic_0 (s_iast (pc := 85) (by decide) (by decide) rfl rfl rfl dX12_sheet_85 (s_iinc (pc := 86) dX12_sheet_86 c_ic_1 (show 4 < 5 by decide) (s_goto (pc := 89) dX12_sheet_89 (by decide) hk66))))))))))))))
noncomputable def X12_sheet_u29 (g : Nat → Int32 → Int32 → Int32 → PH → Option Rs) : Kn := fun ls st h => gL 0 st (gT 11 ls 0 fun t => gI ls 1 fun x1 => gI ls 2 fun x2 => gI ls 3 fun x3 => g t x1 x2 x3 h)
noncomputable def X12_sheet_u41 (g : Nat → Int32 → Int32 → Int32 → PH → Option Rs) : Kn := fun ls st h => gL 0 st (gT 11 ls 0 fun t => gI ls 1 fun x1 => gI ls 2 fun x2 => gI ls 3 fun x3 => g t x1 x2 x3 h)
noncomputable def X12_sheet_u62 (g : Nat → Int32 → Int32 → Int32 → Nat → PH → Option Rs) : Kn := fun ls st h => gL 3 st (gT 11 ls 0 fun t => gI ls 1 fun x1 => gI (st.map some) 0 fun s0 => gI (st.map some) 1 fun s1 => gR 63 (st.map some) 2 fun s2 => g t x1 s0 s1 s2 h)
noncomputable def X12_sheet_u66 (g : Nat → Int32 → Int32 → PH → Option Rs) : Kn := fun ls st h => gL 0 st (gT 11 ls 0 fun t => gI ls 1 fun x1 => gI ls 4 fun x4 => g t x1 x4 h)
noncomputable def X12_sheet_f0 (c_X12_isSheet : Int32 → PH → Option Rs) (c_X12_in : Int32 → Int32 → Int32 → PH → Option Rs) (g29 : Nat → Int32 → Int32 → Int32 → PH → Option Rs) (t : Nat) (x1 : Int32) (x2 : Int32) (x3 : Int32) (h : PH) : Option Rs :=
  cI (c_X12_isSheet x1 h) fun v2 h1 =>
  if v2 = 0 then
    some (some (.inl (-1000000001)), h1)
  else
    cI (c_X12_in x2 (-1) 1 h1) fun v4 h3 =>
    if v4 = 0 then
      some (some (.inl (-1000000001)), h3)
    else
      if x2 < 0 then
        g29 t x1 x2 x3 h3
      else
        if 24 < x3 then
          some (some (.inl (-1000000001)), h3)
        else
          g29 t x1 x2 x3 h3
set_option maxRecDepth 100000 in
theorem X12_sheet_l0 (c_X12_isSheet : Int32 → PH → Option Rs) (c_X12_in : Int32 → Int32 → Int32 → PH → Option Rs) (g29 : Nat → Int32 → Int32 → Int32 → PH → Option Rs) (t : Nat) (x1 : Int32) (x2 : Int32) (x3 : Int32) (h : PH) : X12_sheet_b0 c_X12_isSheet c_X12_in (X12_sheet_u29 g29) [some (.inr (11, t + 1)), some (.inl x1), some (.inl x2), some (.inl x3), none] [] h = X12_sheet_f0 c_X12_isSheet c_X12_in g29 t x1 x2 x3 h := rfl
theorem X12_sheet_m0 {c_X12_isSheet : Int32 → PH → Option Rs} {c_X12_in : Int32 → Int32 → Int32 → PH → Option Rs} {g29 G29 : Nat → Int32 → Int32 → Int32 → PH → Option Rs} (hg29 : ∀ a0 a1 a2 a3 a4, Mo (g29 a0 a1 a2 a3 a4) (G29 a0 a1 a2 a3 a4)) (t : Nat) (x1 : Int32) (x2 : Int32) (x3 : Int32) (h : PH) : Mo (X12_sheet_f0 c_X12_isSheet c_X12_in g29 t x1 x2 x3 h) (X12_sheet_f0 c_X12_isSheet c_X12_in G29 t x1 x2 x3 h) := (mo_cI fun v2 h1 => (mo_if mo_rf (mo_cI fun v4 h3 => (mo_if mo_rf (mo_if (hg29 t x1 x2 x3 h3) (mo_if mo_rf (hg29 t x1 x2 x3 h3)))))))
noncomputable def X12_sheet_f29 (g41 : Nat → Int32 → Int32 → Int32 → PH → Option Rs) (t : Nat) (x1 : Int32) (x2 : Int32) (x3 : Int32) (h : PH) : Option Rs :=
  if x2 < 0 then
    g41 t x1 x2 x3 h
  else
    if x3 < 0 then
      some (some (.inl (-1000000014)), h)
    else
      g41 t x1 x2 x3 h
set_option maxRecDepth 100000 in
theorem X12_sheet_l29 (g41 : Nat → Int32 → Int32 → Int32 → PH → Option Rs) (t : Nat) (x1 : Int32) (x2 : Int32) (x3 : Int32) (h : PH) : X12_sheet_b29 (X12_sheet_u41 g41) [some (.inr (11, t + 1)), some (.inl x1), some (.inl x2), some (.inl x3), none] [] h = X12_sheet_f29 g41 t x1 x2 x3 h := rfl
theorem X12_sheet_m29 {g41 G41 : Nat → Int32 → Int32 → Int32 → PH → Option Rs} (hg41 : ∀ a0 a1 a2 a3 a4, Mo (g41 a0 a1 a2 a3 a4) (G41 a0 a1 a2 a3 a4)) (t : Nat) (x1 : Int32) (x2 : Int32) (x3 : Int32) (h : PH) : Mo (X12_sheet_f29 g41 t x1 x2 x3 h) (X12_sheet_f29 G41 t x1 x2 x3 h) := (mo_if (hg41 t x1 x2 x3 h) (mo_if mo_rf (hg41 t x1 x2 x3 h)))
theorem X12_sheet_w29 {z : CZ} {g41 : Nat → Int32 → Int32 → Int32 → PH → Option Rs} (hk41 : SK (X12_sheet_x z) 41 (X12_sheet_u41 g41)) : SK (X12_sheet_x z) 29 (X12_sheet_u29 (X12_sheet_f29 g41)) := by
  intro ls st h r e
  obtain ⟨hst, e⟩ := gL_of e
  obtain ⟨t, q0, e⟩ := gT_of e
  obtain ⟨x1, q1, e⟩ := gI_of e
  obtain ⟨x2, q2, e⟩ := gI_of e
  obtain ⟨x3, q3, e⟩ := gI_of e
  rw [st_0 hst]
  exact WK.sub (canon := [some (.inr (11, t + 1)), some (.inl x1), some (.inl x2), some (.inl x3), none]) rfl ⟨q0, q1, q2, q3, trivial⟩ (X12_sheet_s29 hk41 _ _ _ _ ((X12_sheet_l29 g41 t x1 x2 x3 h).trans e))
noncomputable def X12_sheet_f41 (g62 : Nat → Int32 → Int32 → Int32 → Nat → PH → Option Rs) (t : Nat) (x1 : Int32) (x2 : Int32) (x3 : Int32) (h : PH) : Option Rs :=
  nn (hR h 745 t 0) fun r5 =>
  ix x1 (hL h 62 r5) fun j6 =>
  wr (pI h 3968 r5 j6 x2) fun h7 =>
  if x2 < 0 then
    g62 t x1 0 x1 (hR h7 746 t 0) h7
  else
    g62 t x1 x3 x1 (hR h7 746 t 0) h7
set_option maxRecDepth 100000 in
theorem X12_sheet_l41 (g62 : Nat → Int32 → Int32 → Int32 → Nat → PH → Option Rs) (t : Nat) (x1 : Int32) (x2 : Int32) (x3 : Int32) (h : PH) : X12_sheet_b41 (X12_sheet_u62 g62) [some (.inr (11, t + 1)), some (.inl x1), some (.inl x2), some (.inl x3), none] [] h = X12_sheet_f41 g62 t x1 x2 x3 h := rfl
theorem X12_sheet_m41 {g62 G62 : Nat → Int32 → Int32 → Int32 → Nat → PH → Option Rs} (hg62 : ∀ a0 a1 a2 a3 a4 a5, Mo (g62 a0 a1 a2 a3 a4 a5) (G62 a0 a1 a2 a3 a4 a5)) (t : Nat) (x1 : Int32) (x2 : Int32) (x3 : Int32) (h : PH) : Mo (X12_sheet_f41 g62 t x1 x2 x3 h) (X12_sheet_f41 G62 t x1 x2 x3 h) := (mo_nn fun r5 => (mo_ix fun j6 => (mo_wr fun h7 => (mo_if (hg62 t x1 0 x1 (hR h7 746 t 0) h7) (hg62 t x1 x3 x1 (hR h7 746 t 0) h7)))))
theorem X12_sheet_w41 {z : CZ} {g62 : Nat → Int32 → Int32 → Int32 → Nat → PH → Option Rs} (hk62 : SK (X12_sheet_x z) 62 (X12_sheet_u62 g62)) : SK (X12_sheet_x z) 41 (X12_sheet_u41 (X12_sheet_f41 g62)) := by
  intro ls st h r e
  obtain ⟨hst, e⟩ := gL_of e
  obtain ⟨t, q0, e⟩ := gT_of e
  obtain ⟨x1, q1, e⟩ := gI_of e
  obtain ⟨x2, q2, e⟩ := gI_of e
  obtain ⟨x3, q3, e⟩ := gI_of e
  rw [st_0 hst]
  exact WK.sub (canon := [some (.inr (11, t + 1)), some (.inl x1), some (.inl x2), some (.inl x3), none]) rfl ⟨q0, q1, q2, q3, trivial⟩ (X12_sheet_s41 hk62 _ _ _ _ ((X12_sheet_l41 g62 t x1 x2 x3 h).trans e))
noncomputable def X12_sheet_f62 (g66 : Nat → Int32 → Int32 → PH → Option Rs) (t : Nat) (x1 : Int32) (s0 : Int32) (s1 : Int32) (s2 : Nat) (h : PH) : Option Rs :=
  nn s2 fun r8 =>
  ix s1 (hL h 63 r8) fun j9 =>
  wr (pI h 4032 r8 j9 s0) fun h10 =>
  g66 t x1 0 h10
set_option maxRecDepth 100000 in
theorem X12_sheet_l62 (g66 : Nat → Int32 → Int32 → PH → Option Rs) (t : Nat) (x1 : Int32) (s0 : Int32) (s1 : Int32) (s2 : Nat) (h : PH) : X12_sheet_b62 (X12_sheet_u66 g66) [some (.inr (11, t + 1)), some (.inl x1), none, none, none] [.inl s0, .inl s1, .inr (63, s2)] h = X12_sheet_f62 g66 t x1 s0 s1 s2 h := rfl
theorem X12_sheet_m62 {g66 G66 : Nat → Int32 → Int32 → PH → Option Rs} (hg66 : ∀ a0 a1 a2 a3, Mo (g66 a0 a1 a2 a3) (G66 a0 a1 a2 a3)) (t : Nat) (x1 : Int32) (s0 : Int32) (s1 : Int32) (s2 : Nat) (h : PH) : Mo (X12_sheet_f62 g66 t x1 s0 s1 s2 h) (X12_sheet_f62 G66 t x1 s0 s1 s2 h) := (mo_nn fun r8 => (mo_ix fun j9 => (mo_wr fun h10 => (hg66 t x1 0 h10))))
theorem X12_sheet_w62 {z : CZ} {g66 : Nat → Int32 → Int32 → PH → Option Rs} (hk66 : SK (X12_sheet_x z) 66 (X12_sheet_u66 g66)) : SK (X12_sheet_x z) 62 (X12_sheet_u62 (X12_sheet_f62 g66)) := by
  intro ls st h r e
  obtain ⟨hst, e⟩ := gL_of e
  obtain ⟨t, q0, e⟩ := gT_of e
  obtain ⟨x1, q1, e⟩ := gI_of e
  obtain ⟨s0, q2, e⟩ := gI_of e
  obtain ⟨s1, q3, e⟩ := gI_of e
  obtain ⟨s2, q4, e⟩ := gR_of e
  rw [st_3 hst q2 q3 q4]
  exact WK.sub (canon := [some (.inr (11, t + 1)), some (.inl x1), none, none, none]) rfl ⟨q0, q1, trivial⟩ (X12_sheet_s62 hk66 _ _ _ _ ((X12_sheet_l62 g66 t x1 s0 s1 s2 h).trans e))
noncomputable def X12_sheet_f66 (g66 : Nat → Int32 → Int32 → PH → Option Rs) (t : Nat) (x1 : Int32) (x4 : Int32) (h : PH) : Option Rs :=
  if x4 < 24 then
    nn (hR h 747 t 0) fun r13 =>
    ix ((24 * x1) + x4) (hL h 64 r13) fun j14 =>
    wr (pI h 4096 r13 j14 0) fun h15 =>
    g66 t x1 (x4 + 1) h15
  else
    nn (hR h 746 t 0) fun r11 =>
    ix x1 (hL h 63 r11) fun j12 =>
    some (some (.inl (hI h 4032 r11 j12)), h)
set_option maxRecDepth 100000 in
theorem X12_sheet_l66 (g66 : Nat → Int32 → Int32 → PH → Option Rs) (t : Nat) (x1 : Int32) (x4 : Int32) (h : PH) : X12_sheet_b66 (X12_sheet_u66 g66) [some (.inr (11, t + 1)), some (.inl x1), none, none, some (.inl x4)] [] h = X12_sheet_f66 g66 t x1 x4 h := rfl
theorem X12_sheet_m66 {g66 G66 : Nat → Int32 → Int32 → PH → Option Rs} (hg66 : ∀ a0 a1 a2 a3, Mo (g66 a0 a1 a2 a3) (G66 a0 a1 a2 a3)) (t : Nat) (x1 : Int32) (x4 : Int32) (h : PH) : Mo (X12_sheet_f66 g66 t x1 x4 h) (X12_sheet_f66 G66 t x1 x4 h) := (mo_if (mo_nn fun r13 => (mo_ix fun j14 => (mo_wr fun h15 => (hg66 t x1 (x4 + 1) h15)))) (mo_nn fun r11 => (mo_ix fun j12 => mo_rf)))
theorem X12_sheet_w66 {z : CZ} {g66 : Nat → Int32 → Int32 → PH → Option Rs} (hk66 : SK (X12_sheet_x z) 66 (X12_sheet_u66 g66)) : SK (X12_sheet_x z) 66 (X12_sheet_u66 (X12_sheet_f66 g66)) := by
  intro ls st h r e
  obtain ⟨hst, e⟩ := gL_of e
  obtain ⟨t, q0, e⟩ := gT_of e
  obtain ⟨x1, q1, e⟩ := gI_of e
  obtain ⟨x4, q2, e⟩ := gI_of e
  rw [st_0 hst]
  exact WK.sub (canon := [some (.inr (11, t + 1)), some (.inl x1), none, none, some (.inl x4)]) rfl ⟨q0, q1, q2, trivial⟩ (X12_sheet_s66 hk66 _ _ _ _ ((X12_sheet_l66 g66 t x1 x4 h).trans e))
noncomputable def X12_sheet_g62 (G : (Nat → Int32 → Int32 → PH → Option Rs)) (t : Nat) (x1 : Int32) (s0 : Int32) (s1 : Int32) (s2 : Nat) (h : PH) : Option Rs := X12_sheet_f62 (G) t x1 s0 s1 s2 h
noncomputable def X12_sheet_g41 (G : (Nat → Int32 → Int32 → PH → Option Rs)) (t : Nat) (x1 : Int32) (x2 : Int32) (x3 : Int32) (h : PH) : Option Rs := X12_sheet_f41 (X12_sheet_g62 G) t x1 x2 x3 h
noncomputable def X12_sheet_g29 (G : (Nat → Int32 → Int32 → PH → Option Rs)) (t : Nat) (x1 : Int32) (x2 : Int32) (x3 : Int32) (h : PH) : Option Rs := X12_sheet_f29 (X12_sheet_g41 G) t x1 x2 x3 h
noncomputable def X12_sheet_g0 (G : (Nat → Int32 → Int32 → PH → Option Rs)) (t : Nat) (x1 : Int32) (x2 : Int32) (x3 : Int32) (h : PH) : Option Rs := X12_sheet_f0 X12_isSheet X12_in (X12_sheet_g29 G) t x1 x2 x3 h
noncomputable def X12_sheet_g66 (G : (Nat → Int32 → Int32 → PH → Option Rs)) (t : Nat) (x1 : Int32) (x4 : Int32) (h : PH) : Option Rs := X12_sheet_f66 (G) t x1 x4 h
theorem X12_sheet_v62 {z : CZ} {G : (Nat → Int32 → Int32 → PH → Option Rs)} (hG66 : SK (X12_sheet_x z) 66 (X12_sheet_u66 (G))) : SK (X12_sheet_x z) 62 (X12_sheet_u62 (X12_sheet_g62 G)) := X12_sheet_w62 hG66
theorem X12_sheet_v41 {z : CZ} {G : (Nat → Int32 → Int32 → PH → Option Rs)} (hG66 : SK (X12_sheet_x z) 66 (X12_sheet_u66 (G))) : SK (X12_sheet_x z) 41 (X12_sheet_u41 (X12_sheet_g41 G)) := X12_sheet_w41 (X12_sheet_v62 hG66)
theorem X12_sheet_v29 {z : CZ} {G : (Nat → Int32 → Int32 → PH → Option Rs)} (hG66 : SK (X12_sheet_x z) 66 (X12_sheet_u66 (G))) : SK (X12_sheet_x z) 29 (X12_sheet_u29 (X12_sheet_g29 G)) := X12_sheet_w29 (X12_sheet_v41 hG66)
theorem X12_sheet_v66 {z : CZ} {G : (Nat → Int32 → Int32 → PH → Option Rs)} (hG66 : SK (X12_sheet_x z) 66 (X12_sheet_u66 (G))) : SK (X12_sheet_x z) 66 (X12_sheet_u66 (X12_sheet_g66 G)) := X12_sheet_w66 hG66
noncomputable def X12_sheet_fam : Nat → (Nat → Int32 → Int32 → PH → Option Rs)
  | 0 => fun _ _ _ _ => none
  | n + 1 => X12_sheet_g66 (X12_sheet_fam n)
theorem X12_sheet_k {z : CZ} : ∀ n, SK (X12_sheet_x z) 66 (X12_sheet_u66 (X12_sheet_fam n))
  | 0 => (fun ls st h r e => by
      obtain ⟨_, e⟩ := gL_of e
      obtain ⟨_, _, e⟩ := gT_of e
      obtain ⟨_, _, e⟩ := gI_of e
      obtain ⟨_, _, e⟩ := gI_of e
      cases e)
  | n + 1 => by
    obtain ih66 := X12_sheet_k n
    exact X12_sheet_v66 ih66
theorem X12_sheet_n62 {G G' : (Nat → Int32 → Int32 → PH → Option Rs)} (hg66 : ∀ a0 a1 a2 a3, Mo ((G) a0 a1 a2 a3) ((G') a0 a1 a2 a3)) (t : Nat) (x1 : Int32) (s0 : Int32) (s1 : Int32) (s2 : Nat) (h : PH) : Mo (X12_sheet_g62 G t x1 s0 s1 s2 h) (X12_sheet_g62 G' t x1 s0 s1 s2 h) := X12_sheet_m62 hg66 t x1 s0 s1 s2 h
theorem X12_sheet_n41 {G G' : (Nat → Int32 → Int32 → PH → Option Rs)} (hg66 : ∀ a0 a1 a2 a3, Mo ((G) a0 a1 a2 a3) ((G') a0 a1 a2 a3)) (t : Nat) (x1 : Int32) (x2 : Int32) (x3 : Int32) (h : PH) : Mo (X12_sheet_g41 G t x1 x2 x3 h) (X12_sheet_g41 G' t x1 x2 x3 h) := X12_sheet_m41 (fun a0 a1 a2 a3 a4 a5 => X12_sheet_n62 hg66 a0 a1 a2 a3 a4 a5) t x1 x2 x3 h
theorem X12_sheet_n29 {G G' : (Nat → Int32 → Int32 → PH → Option Rs)} (hg66 : ∀ a0 a1 a2 a3, Mo ((G) a0 a1 a2 a3) ((G') a0 a1 a2 a3)) (t : Nat) (x1 : Int32) (x2 : Int32) (x3 : Int32) (h : PH) : Mo (X12_sheet_g29 G t x1 x2 x3 h) (X12_sheet_g29 G' t x1 x2 x3 h) := X12_sheet_m29 (fun a0 a1 a2 a3 a4 => X12_sheet_n41 hg66 a0 a1 a2 a3 a4) t x1 x2 x3 h
theorem X12_sheet_n0 {G G' : (Nat → Int32 → Int32 → PH → Option Rs)} (hg66 : ∀ a0 a1 a2 a3, Mo ((G) a0 a1 a2 a3) ((G') a0 a1 a2 a3)) (t : Nat) (x1 : Int32) (x2 : Int32) (x3 : Int32) (h : PH) : Mo (X12_sheet_g0 G t x1 x2 x3 h) (X12_sheet_g0 G' t x1 x2 x3 h) := X12_sheet_m0 (fun a0 a1 a2 a3 a4 => X12_sheet_n29 hg66 a0 a1 a2 a3 a4) t x1 x2 x3 h
theorem X12_sheet_n66 {G G' : (Nat → Int32 → Int32 → PH → Option Rs)} (hg66 : ∀ a0 a1 a2 a3, Mo ((G) a0 a1 a2 a3) ((G') a0 a1 a2 a3)) (t : Nat) (x1 : Int32) (x4 : Int32) (h : PH) : Mo (X12_sheet_g66 G t x1 x4 h) (X12_sheet_g66 G' t x1 x4 h) := X12_sheet_m66 hg66 t x1 x4 h
theorem X12_sheet_fm : ∀ n, (∀ a0 a1 a2 a3, Mo ((X12_sheet_fam n) a0 a1 a2 a3) ((X12_sheet_fam (n + 1)) a0 a1 a2 a3))
  | 0 => fun _ _ _ _ => mo_no
  | n + 1 => by
    obtain ih66 := X12_sheet_fm n
    exact fun a0 a1 a2 a3 => X12_sheet_n66 ih66 a0 a1 a2 a3
noncomputable def X12_sheet (t : Nat) (x1 : Int32) (x2 : Int32) (x3 : Int32) (h : PH) : Option Rs := lim (fun n => X12_sheet_g0 (X12_sheet_fam n) t x1 x2 x3 h)
theorem X12_sheet_iff {t : Nat} {x1 : Int32} {x2 : Int32} {x3 : Int32} {h : PH} {r : Rs} : X12_sheet t x1 x2 x3 h = some r ↔ ∃ n, X12_sheet_g0 (X12_sheet_fam n) t x1 x2 x3 h = some r := lim_iff (fun n => by
  obtain ih66 := X12_sheet_fm n
  exact X12_sheet_n0 ih66 t x1 x2 x3 h)
noncomputable abbrev X12_sheet_F : List PV → PH → Option Rs := FW_T11III (X12_sheet)
set_option maxRecDepth 100000 in
theorem X12_sheet_gd (l : Launch) : Gd l 2 yX12_sheet cX12_sheet 5 (some .int) (X12_sheet_F)   := Gd_of (by decide +kernel) (fun z hzl as h r e => by
  obtain ⟨hst, e⟩ := gL_of e
  obtain ⟨t, q0, e⟩ := gT_of e
  obtain ⟨x1, q1, e⟩ := gI_of e
  obtain ⟨x2, q2, e⟩ := gI_of e
  obtain ⟨x3, q3, e⟩ := gI_of e
  rw [st_4 hst q0 q1 q2 q3]
  obtain ⟨n, e⟩ := lim_of e
  obtain hG66 := X12_sheet_k (z := z) n
  exact ⟨show 4 ≤ 5 by decide, X12_sheet_s0 (X12_sheet_v29 hG66) _ _ _ _ ((X12_sheet_l0 X12_isSheet X12_in (X12_sheet_g29 (X12_sheet_fam n)) t x1 x2 x3 h).trans e)⟩)
