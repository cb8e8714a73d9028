abbrev X0_note_x (z : CZ) : CX := mx RX0 cX0_note 6 0 none "note" z
noncomputable def X0_note_b0 (k40 : Kn) : Kn := (a_al 0 (a_al 0 (a_gI 0 1 (a_ic 1 (a_b (fun a b => a + b) (a_ic 16 (a_rem (a_pI 0 1 (a_al 0 (a_al 0 (a_gI 0 2 (a_ic 1 (a_b (fun a b => a + b) (a_ic 16 (a_min (a_pI 0 2 (a_al 0 (a_gR 0 0 12 (a_al 0 (a_gI 0 1 (a_rald 12 768 13 (a_as 2 (a_ic 0 (a_is 3 k40))))))))))))))))))))))))
set_option maxRecDepth 100000 in
theorem X0_note_s0 {z : CZ} {k40 : Kn} (hk40 : SK (X0_note_x z) 40 k40) : SK (X0_note_x z) 0 (X0_note_b0 k40) := (s_aloadn (pc := 0) dX0_note_0 rfl (s_aloadn (pc := 1) dX0_note_1 rfl (s_gI (pc := 2) (f := 1) ko_0 (by decide) rfl rfl w_396 dX0_note_2 (s_iconst (pc := 5) dX0_note_5 c_ic_1 (s_iadd (pc := 6) dX0_note_6 (s_bipush (pc := 7) dX0_note_7 c_bp_16 (s_irem (pc := 9) dX0_note_9 (s_pI (pc := 10) (f := 1) ko_0 (by decide) rfl rfl rfl (by decide +kernel) w_396 dX0_note_10 (s_aloadn (pc := 13) dX0_note_13 rfl (s_aloadn (pc := 14) dX0_note_14 rfl (s_gI (pc := 15) (f := 2) ko_0 (by decide) rfl rfl w_397 dX0_note_15 (s_iconst (pc := 18) dX0_note_18 c_ic_1 (s_iadd (pc := 19) dX0_note_19 (s_bipush (pc := 20) dX0_note_20 c_bp_16 (s_min (pc := 22) w_680 w_681 w_92 w_682 dX0_note_22 (s_pI (pc := 25) (f := 2) ko_0 (by decide) rfl rfl rfl (by decide +kernel) w_397 dX0_note_25 (s_aloadn (pc := 28) dX0_note_28 rfl (s_gR (pc := 29) (f := 0) ko_0 (by decide) rfl rfl w_395 dX0_note_29 (s_aloadn (pc := 32) dX0_note_32 rfl (s_gI (pc := 33) (f := 1) ko_0 (by decide) rfl rfl w_396 dX0_note_33 (s_raldA (pc := 36) (by decide) (by decide) rfl rfl rfl dX0_note_36 (s_astoren (pc := 37) dX0_note_37 rfl (show 2 < 6 by decide) (s_iconst (pc := 38) dX0_note_38 c_ic_0 (s_istoren (pc := 39) dX0_note_39 rfl (show 3 < 6 by decide) hk40))))))))))))))))))))))))
noncomputable def X0_note_b40 (k70 : Kn) : Kn := (a_il 3 (a_al 1 (a_gI 1 75 (a_lt (a_al 1 (a_gR 1 68 18 (a_il 3 (a_rald 18 1152 5 (a_as 4 (a_al 2 (a_il 3 (a_ic 7 (a_b (fun a b => a * b) (a_al 4 (a_gI 5 324 (a_ast 13 832 (fun a => a) (a_ic 0 (a_is 5 k70)))))))))))))) a_vr))))
set_option maxRecDepth 100000 in
theorem X0_note_s40 {z : CZ} {k70 : Kn} (hk70 : SK (X0_note_x z) 70 k70) : SK (X0_note_x z) 40 (X0_note_b40 k70) := (s_iloadn (pc := 40) dX0_note_40 rfl (s_aloadn (pc := 41) dX0_note_41 rfl (s_gI (pc := 42) (f := 11) ko_1 (by decide) rfl rfl w_253 dX0_note_42 (s_cmpge (pc := 45) dX0_note_45 (by decide) (s_vr (pc := 123) rfl dX0_note_123) (s_aloadn (pc := 48) dX0_note_48 rfl (s_gR (pc := 49) (f := 4) ko_1 (by decide) rfl rfl w_232 dX0_note_49 (s_iloadn (pc := 52) dX0_note_52 rfl (s_rald (pc := 53) (by decide) (by decide) rfl rfl rfl dX0_note_53 (s_astore (pc := 54) dX0_note_54 (show 4 < 6 by decide) (s_aloadn (pc := 56) dX0_note_56 rfl (s_iloadn (pc := 57) dX0_note_57 rfl (s_bipush (pc := 58) dX0_note_58 c_bp_7 (s_imul (pc := 60) dX0_note_60 (s_aload (pc := 61) dX0_note_61 (s_gI (pc := 63) (f := 4) ko_5 (by decide) rfl rfl w_182 dX0_note_63 (s_iast (pc := 66) (by decide) (by decide) rfl rfl rfl dX0_note_66 (s_iconst (pc := 67) dX0_note_67 c_ic_0 (s_istore (pc := 68) dX0_note_68 (show 5 < 6 by decide) hk70))))))))))))))))))
noncomputable def X0_note_b70 (k40 k70 : Kn) : Kn := (a_il 5 (a_al 4 (a_gI 5 324 (a_lt (a_al 2 (a_il 3 (a_ic 7 (a_b (fun a b => a * b) (a_ic 1 (a_b (fun a b => a + b) (a_il 5 (a_b (fun a b => a + b) (a_al 4 (a_gR 5 325 27 (a_il 5 (a_ald 27 1728 (a_ic 8 (a_b (fun a b => a * b) (a_al 4 (a_gR 5 326 28 (a_il 5 (a_ald 28 1792 (a_b (fun a b => a + b) (a_ast 13 832 (fun a => a) (a_inc 5 1 k70))))))))))))))))))))) (a_inc 3 1 k40)))))
set_option maxRecDepth 100000 in
theorem X0_note_s70 {z : CZ} {k40 k70 : Kn} (hk40 : SK (X0_note_x z) 40 k40) (hk70 : SK (X0_note_x z) 70 k70) : SK (X0_note_x z) 70 (X0_note_b70 k40 k70) := (s_iload (pc := 70) dX0_note_70 (s_aload (pc := 72) dX0_note_72 (s_gI (pc := 74) (f := 4) ko_5 (by decide) rfl rfl w_182 dX0_note_74 (s_cmpge (pc := 77) dX0_note_77 (by decide) (s_iinc (pc := 117) dX0_note_117 c_ic_1 (show 3 < 6 by decide) (s_goto (pc := 120) dX0_note_120 (by decide) hk40)) (s_aloadn (pc := 80) dX0_note_80 rfl (s_iloadn (pc := 81) dX0_note_81 rfl (s_bipush (pc := 82) dX0_note_82 c_bp_7 (s_imul (pc := 84) dX0_note_84 (s_iconst (pc := 85) dX0_note_85 c_ic_1 (s_iadd (pc := 86) dX0_note_86 (s_iload (pc := 87) dX0_note_87 (s_iadd (pc := 89) dX0_note_89 (s_aload (pc := 90) dX0_note_90 (s_gR (pc := 92) (f := 5) ko_5 (by decide) rfl rfl w_188 dX0_note_92 (s_iload (pc := 95) dX0_note_95 (s_iald (pc := 97) (by decide) (by decide) rfl rfl rfl dX0_note_97 (s_bipush (pc := 98) dX0_note_98 c_bp_8 (s_imul (pc := 100) dX0_note_100 (s_aload (pc := 101) dX0_note_101 (s_gR (pc := 103) (f := 6) ko_5 (by decide) rfl rfl w_192 dX0_note_103 (s_iload (pc := 106) dX0_note_106 (s_iald (pc := 108) (by decide) (by decide) rfl rfl rfl dX0_note_108 (s_iadd (pc := 109) dX0_note_109 (s_iast (pc := 110) (by decide) (by decide) rfl rfl rfl dX0_note_110 (s_iinc (pc := 111) dX0_note_111 c_ic_1 (show 5 < 6 by decide) (s_goto (pc := 114) dX0_note_114 (by decide) hk70))))))))))))))))))))))))))
noncomputable def X0_note_u40 (g : Nat → Nat → Int32 → PH → Option Rs) : Kn := fun ls st h => gL 0 st (gR 1 ls 1 fun x1 => gR 13 ls 2 fun x2 => gI ls 3 fun x3 => g x1 x2 x3 h)
noncomputable def X0_note_u70 (g : Nat → Nat → Int32 → Nat → Int32 → PH → Option Rs) : Kn := fun ls st h => gL 0 st (gR 1 ls 1 fun x1 => gR 13 ls 2 fun x2 => gI ls 3 fun x3 => gR 5 ls 4 fun x4 => gI ls 5 fun x5 => g x1 x2 x3 x4 x5 h)
noncomputable def X0_note_f0 (g40 : Nat → Nat → Int32 → PH → Option Rs) (t : Nat) (x1 : Nat) (h : PH) : Option Rs :=
  dv 16 <|
  wr (pI h 1 t 0 (jrem ((hI h 1 t 0) + 1) 16)) fun h1 =>
  wr (pI h1 2 t 0 (if 16 < ((hI h1 2 t 0) + 1) then 16 else (hI h1 2 t 0) + 1)) fun h2 =>
  nn (hR h2 0 t 0) fun r3 =>
  ix (hI h2 1 t 0) (hL h2 12 r3) fun j4 =>
  g40 x1 (hR h2 768 r3 j4) 0 h2
set_option maxRecDepth 100000 in
theorem X0_note_l0 (g40 : Nat → Nat → Int32 → PH → Option Rs) (t : Nat) (x1 : Nat) (h : PH) : X0_note_b0 (X0_note_u40 g40) [some (.inr (0, t + 1)), some (.inr (1, x1)), none, none, none, none] [] h = X0_note_f0 g40 t x1 h := rfl
theorem X0_note_m0 {g40 G40 : Nat → Nat → Int32 → PH → Option Rs} (hg40 : ∀ a0 a1 a2 a3, Mo (g40 a0 a1 a2 a3) (G40 a0 a1 a2 a3)) (t : Nat) (x1 : Nat) (h : PH) : Mo (X0_note_f0 g40 t x1 h) (X0_note_f0 G40 t x1 h) := (mo_dv (mo_wr fun h1 => (mo_wr fun h2 => (mo_nn fun r3 => (mo_ix fun j4 => (hg40 x1 (hR h2 768 r3 j4) 0 h2))))))
noncomputable def X0_note_f40 (g70 : Nat → Nat → Int32 → Nat → Int32 → PH → Option Rs) (x1 : Nat) (x2 : Nat) (x3 : Int32) (h : PH) : Option Rs :=
  nn x1 fun r5 =>
  if x3 < (hI h 75 r5 0) then
    nn x1 fun r6 =>
    nn (hR h 68 r6 0) fun r7 =>
    ix x3 (hL h 18 r7) fun j8 =>
    nn (hR h 1152 r7 j8) fun r9 =>
    nn x2 fun r10 =>
    ix (x3 * 7) (hL h 13 r10) fun j11 =>
    wr (pI h 832 r10 j11 (hI h 324 r9 0)) fun h12 =>
    g70 x1 x2 x3 (hR h 1152 r7 j8) 0 h12
  else
    some (none, h)
set_option maxRecDepth 100000 in
theorem X0_note_l40 (g70 : Nat → Nat → Int32 → Nat → Int32 → PH → Option Rs) (x1 : Nat) (x2 : Nat) (x3 : Int32) (h : PH) : X0_note_b40 (X0_note_u70 g70) [none, some (.inr (1, x1)), some (.inr (13, x2)), some (.inl x3), none, none] [] h = X0_note_f40 g70 x1 x2 x3 h := rfl
theorem X0_note_m40 {g70 G70 : Nat → Nat → Int32 → Nat → Int32 → PH → Option Rs} (hg70 : ∀ a0 a1 a2 a3 a4 a5, Mo (g70 a0 a1 a2 a3 a4 a5) (G70 a0 a1 a2 a3 a4 a5)) (x1 : Nat) (x2 : Nat) (x3 : Int32) (h : PH) : Mo (X0_note_f40 g70 x1 x2 x3 h) (X0_note_f40 G70 x1 x2 x3 h) := (mo_nn fun r5 => (mo_if (mo_nn fun r6 => (mo_nn fun r7 => (mo_ix fun j8 => (mo_nn fun r9 => (mo_nn fun r10 => (mo_ix fun j11 => (mo_wr fun h12 => (hg70 x1 x2 x3 (hR h 1152 r7 j8) 0 h12)))))))) mo_rf))
theorem X0_note_w40 {z : CZ} {g70 : Nat → Nat → Int32 → Nat → Int32 → PH → Option Rs} (hk70 : SK (X0_note_x z) 70 (X0_note_u70 g70)) : SK (X0_note_x z) 40 (X0_note_u40 (X0_note_f40 g70)) := by
  intro ls st h r e
  obtain ⟨hst, e⟩ := gL_of e
  obtain ⟨x1, q0, e⟩ := gR_of e
  obtain ⟨x2, q1, e⟩ := gR_of e
  obtain ⟨x3, q2, e⟩ := gI_of e
  rw [st_0 hst]
  exact WK.sub (canon := [none, some (.inr (1, x1)), some (.inr (13, x2)), some (.inl x3), none, none]) rfl ⟨q0, q1, q2, trivial⟩ (X0_note_s40 hk70 _ _ _ _ ((X0_note_l40 g70 x1 x2 x3 h).trans e))
noncomputable def X0_note_f70 (g40 : Nat → Nat → Int32 → PH → Option Rs) (g70 : Nat → Nat → Int32 → Nat → Int32 → PH → Option Rs) (x1 : Nat) (x2 : Nat) (x3 : Int32) (x4 : Nat) (x5 : Int32) (h : PH) : Option Rs :=
  nn x4 fun r13 =>
  if x5 < (hI h 324 r13 0) then
    nn x4 fun r14 =>
    nn (hR h 325 r14 0) fun r15 =>
    ix x5 (hL h 27 r15) fun j16 =>
    nn x4 fun r17 =>
    nn (hR h 326 r17 0) fun r18 =>
    ix x5 (hL h 28 r18) fun j19 =>
    nn x2 fun r20 =>
    ix (((x3 * 7) + 1) + x5) (hL h 13 r20) fun j21 =>
    wr (pI h 832 r20 j21 (((hI h 1728 r15 j16) * 8) + (hI h 1792 r18 j19))) fun h22 =>
    g70 x1 x2 x3 x4 (x5 + 1) h22
  else
    g40 x1 x2 (x3 + 1) h
set_option maxRecDepth 100000 in
theorem X0_note_l70 (g40 : Nat → Nat → Int32 → PH → Option Rs) (g70 : Nat → Nat → Int32 → Nat → Int32 → PH → Option Rs) (x1 : Nat) (x2 : Nat) (x3 : Int32) (x4 : Nat) (x5 : Int32) (h : PH) : X0_note_b70 (X0_note_u40 g40) (X0_note_u70 g70) [none, some (.inr (1, x1)), some (.inr (13, x2)), some (.inl x3), some (.inr (5, x4)), some (.inl x5)] [] h = X0_note_f70 g40 g70 x1 x2 x3 x4 x5 h := rfl
theorem X0_note_m70 {g40 G40 : Nat → Nat → Int32 → PH → Option Rs} {g70 G70 : Nat → Nat → Int32 → Nat → Int32 → PH → Option Rs} (hg40 : ∀ a0 a1 a2 a3, Mo (g40 a0 a1 a2 a3) (G40 a0 a1 a2 a3)) (hg70 : ∀ a0 a1 a2 a3 a4 a5, Mo (g70 a0 a1 a2 a3 a4 a5) (G70 a0 a1 a2 a3 a4 a5)) (x1 : Nat) (x2 : Nat) (x3 : Int32) (x4 : Nat) (x5 : Int32) (h : PH) : Mo (X0_note_f70 g40 g70 x1 x2 x3 x4 x5 h) (X0_note_f70 G40 G70 x1 x2 x3 x4 x5 h) := (mo_nn fun r13 => (mo_if (mo_nn fun r14 => (mo_nn fun r15 => (mo_ix fun j16 => (mo_nn fun r17 => (mo_nn fun r18 => (mo_ix fun j19 => (mo_nn fun r20 => (mo_ix fun j21 => (mo_wr fun h22 => (hg70 x1 x2 x3 x4 (x5 + 1) h22)))))))))) (hg40 x1 x2 (x3 + 1) h)))
theorem X0_note_w70 {z : CZ} {g40 : Nat → Nat → Int32 → PH → Option Rs} {g70 : Nat → Nat → Int32 → Nat → Int32 → PH → Option Rs} (hk40 : SK (X0_note_x z) 40 (X0_note_u40 g40)) (hk70 : SK (X0_note_x z) 70 (X0_note_u70 g70)) : SK (X0_note_x z) 70 (X0_note_u70 (X0_note_f70 g40 g70)) := by
  intro ls st h r e
  obtain ⟨hst, e⟩ := gL_of e
  obtain ⟨x1, q0, e⟩ := gR_of e
  obtain ⟨x2, q1, e⟩ := gR_of e
  obtain ⟨x3, q2, e⟩ := gI_of e
  obtain ⟨x4, q3, e⟩ := gR_of e
  obtain ⟨x5, q4, e⟩ := gI_of e
  rw [st_0 hst]
  exact WK.sub (canon := [none, some (.inr (1, x1)), some (.inr (13, x2)), some (.inl x3), some (.inr (5, x4)), some (.inl x5)]) rfl ⟨q0, q1, q2, q3, q4, trivial⟩ (X0_note_s70 hk40 hk70 _ _ _ _ ((X0_note_l70 g40 g70 x1 x2 x3 x4 x5 h).trans e))
noncomputable def X0_note_g0 (G : (Nat → Nat → Int32 → PH → Option Rs) × (Nat → Nat → Int32 → Nat → Int32 → PH → Option Rs)) (t : Nat) (x1 : Nat) (h : PH) : Option Rs := X0_note_f0 (G).1 t x1 h
noncomputable def X0_note_g40 (G : (Nat → Nat → Int32 → PH → Option Rs) × (Nat → Nat → Int32 → Nat → Int32 → PH → Option Rs)) (x1 : Nat) (x2 : Nat) (x3 : Int32) (h : PH) : Option Rs := X0_note_f40 (G).2 x1 x2 x3 h
noncomputable def X0_note_g70 (G : (Nat → Nat → Int32 → PH → Option Rs) × (Nat → Nat → Int32 → Nat → Int32 → PH → Option Rs)) (x1 : Nat) (x2 : Nat) (x3 : Int32) (x4 : Nat) (x5 : Int32) (h : PH) : Option Rs := X0_note_f70 (G).1 (G).2 x1 x2 x3 x4 x5 h
theorem X0_note_v40 {z : CZ} {G : (Nat → Nat → Int32 → PH → Option Rs) × (Nat → Nat → Int32 → Nat → Int32 → PH → Option Rs)} (hG40 : SK (X0_note_x z) 40 (X0_note_u40 (G).1)) (hG70 : SK (X0_note_x z) 70 (X0_note_u70 (G).2)) : SK (X0_note_x z) 40 (X0_note_u40 (X0_note_g40 G)) := X0_note_w40 hG70
theorem X0_note_v70 {z : CZ} {G : (Nat → Nat → Int32 → PH → Option Rs) × (Nat → Nat → Int32 → Nat → Int32 → PH → Option Rs)} (hG40 : SK (X0_note_x z) 40 (X0_note_u40 (G).1)) (hG70 : SK (X0_note_x z) 70 (X0_note_u70 (G).2)) : SK (X0_note_x z) 70 (X0_note_u70 (X0_note_g70 G)) := X0_note_w70 hG40 hG70
noncomputable def X0_note_fam : Nat → (Nat → Nat → Int32 → PH → Option Rs) × (Nat → Nat → Int32 → Nat → Int32 → PH → Option Rs)
  | 0 => (fun _ _ _ _ => none, fun _ _ _ _ _ _ => none)
  | n + 1 => (X0_note_g40 (X0_note_fam n), X0_note_g70 (X0_note_fam n))
theorem X0_note_k {z : CZ} : ∀ n, SK (X0_note_x z) 40 (X0_note_u40 (X0_note_fam n).1) ∧ SK (X0_note_x z) 70 (X0_note_u70 (X0_note_fam n).2)
  | 0 => ⟨(fun ls st h r e => by
      obtain ⟨_, e⟩ := gL_of e
      obtain ⟨_, _, e⟩ := gR_of e
      obtain ⟨_, _, e⟩ := gR_of e
      obtain ⟨_, _, e⟩ := gI_of e
      cases e), (fun ls st h r e => by
      obtain ⟨_, e⟩ := gL_of e
      obtain ⟨_, _, e⟩ := gR_of e
      obtain ⟨_, _, e⟩ := gR_of e
      obtain ⟨_, _, e⟩ := gI_of e
      obtain ⟨_, _, e⟩ := gR_of e
      obtain ⟨_, _, e⟩ := gI_of e
      cases e)⟩
  | n + 1 => by
    obtain ⟨ih40, ih70⟩ := X0_note_k n
    exact ⟨X0_note_v40 ih40 ih70, X0_note_v70 ih40 ih70⟩
theorem X0_note_n0 {G G' : (Nat → Nat → Int32 → PH → Option Rs) × (Nat → Nat → Int32 → Nat → Int32 → PH → Option Rs)} (hg40 : ∀ a0 a1 a2 a3, Mo ((G).1 a0 a1 a2 a3) ((G').1 a0 a1 a2 a3)) (hg70 : ∀ a0 a1 a2 a3 a4 a5, Mo ((G).2 a0 a1 a2 a3 a4 a5) ((G').2 a0 a1 a2 a3 a4 a5)) (t : Nat) (x1 : Nat) (h : PH) : Mo (X0_note_g0 G t x1 h) (X0_note_g0 G' t x1 h) := X0_note_m0 hg40 t x1 h
theorem X0_note_n40 {G G' : (Nat → Nat → Int32 → PH → Option Rs) × (Nat → Nat → Int32 → Nat → Int32 → PH → Option Rs)} (hg40 : ∀ a0 a1 a2 a3, Mo ((G).1 a0 a1 a2 a3) ((G').1 a0 a1 a2 a3)) (hg70 : ∀ a0 a1 a2 a3 a4 a5, Mo ((G).2 a0 a1 a2 a3 a4 a5) ((G').2 a0 a1 a2 a3 a4 a5)) (x1 : Nat) (x2 : Nat) (x3 : Int32) (h : PH) : Mo (X0_note_g40 G x1 x2 x3 h) (X0_note_g40 G' x1 x2 x3 h) := X0_note_m40 hg70 x1 x2 x3 h
theorem X0_note_n70 {G G' : (Nat → Nat → Int32 → PH → Option Rs) × (Nat → Nat → Int32 → Nat → Int32 → PH → Option Rs)} (hg40 : ∀ a0 a1 a2 a3, Mo ((G).1 a0 a1 a2 a3) ((G').1 a0 a1 a2 a3)) (hg70 : ∀ a0 a1 a2 a3 a4 a5, Mo ((G).2 a0 a1 a2 a3 a4 a5) ((G').2 a0 a1 a2 a3 a4 a5)) (x1 : Nat) (x2 : Nat) (x3 : Int32) (x4 : Nat) (x5 : Int32) (h : PH) : Mo (X0_note_g70 G x1 x2 x3 x4 x5 h) (X0_note_g70 G' x1 x2 x3 x4 x5 h) := X0_note_m70 hg40 hg70 x1 x2 x3 x4 x5 h
theorem X0_note_fm : ∀ n, (∀ a0 a1 a2 a3, Mo ((X0_note_fam n).1 a0 a1 a2 a3) ((X0_note_fam (n + 1)).1 a0 a1 a2 a3)) ∧ (∀ a0 a1 a2 a3 a4 a5, Mo ((X0_note_fam n).2 a0 a1 a2 a3 a4 a5) ((X0_note_fam (n + 1)).2 a0 a1 a2 a3 a4 a5))
  | 0 => ⟨fun _ _ _ _ => mo_no, fun _ _ _ _ _ _ => mo_no⟩
  | n + 1 => by
    obtain ⟨ih40, ih70⟩ := X0_note_fm n
    exact ⟨fun a0 a1 a2 a3 => X0_note_n40 ih40 ih70 a0 a1 a2 a3, fun a0 a1 a2 a3 a4 a5 => X0_note_n70 ih40 ih70 a0 a1 a2 a3 a4 a5⟩
noncomputable def X0_note (t : Nat) (x1 : Nat) (h : PH) : Option Rs := lim (fun n => X0_note_g0 (X0_note_fam n) t x1 h)
theorem X0_note_iff {t : Nat} {x1 : Nat} {h : PH} {r : Rs} : X0_note t x1 h = some r ↔ ∃ n, X0_note_g0 (X0_note_fam n) t x1 h = some r := lim_iff (fun n => by
  obtain ⟨ih40, ih70⟩ := X0_note_fm n
  exact X0_note_n0 ih40 ih70 t x1 h)
noncomputable abbrev X0_note_F : List PV → PH → Option Rs := FW_T0R1 (X0_note)
set_option maxRecDepth 100000 in
theorem X0_note_gd (l : Launch) : Gd l 0 yX0_note cX0_note 6 none (X0_note_F)   := Gd_of (by decide +kernel) (fun z hzl as h r e => by
  obtain ⟨hst, e⟩ := gL_of e
  obtain ⟨t, q0, e⟩ := gT_of e
  obtain ⟨x1, q1, e⟩ := gR_of e
  rw [st_2 hst q0 q1]
  obtain ⟨n, e⟩ := lim_of e
  obtain ⟨hG40, hG70⟩ := X0_note_k (z := z) n
  exact ⟨show 2 ≤ 6 by decide, X0_note_s0 hG40 _ _ _ _ ((X0_note_l0 (X0_note_fam n).1 t x1 h).trans e)⟩)
abbrev X6_addRow_x (z : CZ) : CX := mx RX6 cX6_addRow 3 0 none "addRow" z
noncomputable def X6_addRow_b0 : Kn := (a_al 0 (a_gI 5 324 (a_ic 6 (a_lt (a_al 0 (a_gR 5 325 27 (a_al 0 (a_gI 5 324 (a_il 1 (a_ast 27 1728 (fun a => a) (a_al 0 (a_gR 5 326 28 (a_al 0 (a_gI 5 324 (a_il 2 (a_ast 28 1792 (fun a => a) (a_al 0 (a_dup (a_gI 5 324 (a_ic 1 (a_b (fun a b => a + b) (a_pI 5 324 a_vr)))))))))))))))))) a_vr))))
set_option maxRecDepth 100000 in
theorem X6_addRow_s0 {z : CZ} : SK (X6_addRow_x z) 0 (X6_addRow_b0) := (s_aloadn (pc := 0) dX6_addRow_0 rfl (s_gI (pc := 1) (f := 4) ko_5 (by decide) rfl rfl w_184 dX6_addRow_1 (s_bipush (pc := 4) dX6_addRow_4 c_bp_6 (s_cmpge (pc := 6) dX6_addRow_6 (by decide) (s_vr (pc := 39) rfl dX6_addRow_39) (s_aloadn (pc := 9) dX6_addRow_9 rfl (s_gR (pc := 10) (f := 5) ko_5 (by decide) rfl rfl w_186 dX6_addRow_10 (s_aloadn (pc := 13) dX6_addRow_13 rfl (s_gI (pc := 14) (f := 4) ko_5 (by decide) rfl rfl w_184 dX6_addRow_14 (s_iloadn (pc := 17) dX6_addRow_17 rfl (s_iast (pc := 18) (by decide) (by decide) rfl rfl rfl dX6_addRow_18 (s_aloadn (pc := 19) dX6_addRow_19 rfl (s_gR (pc := 20) (f := 6) ko_5 (by decide) rfl rfl w_190 dX6_addRow_20 (s_aloadn (pc := 23) dX6_addRow_23 rfl (s_gI (pc := 24) (f := 4) ko_5 (by decide) rfl rfl w_184 dX6_addRow_24 (s_iloadn (pc := 27) dX6_addRow_27 rfl (s_iast (pc := 28) (by decide) (by decide) rfl rfl rfl dX6_addRow_28 (s_aloadn (pc := 29) dX6_addRow_29 rfl (s_dup (pc := 30) dX6_addRow_30 (s_gI (pc := 31) (f := 4) ko_5 (by decide) rfl rfl w_184 dX6_addRow_31 (s_iconst (pc := 34) dX6_addRow_34 c_ic_1 (s_iadd (pc := 35) dX6_addRow_35 (s_pI (pc := 36) (f := 4) ko_5 (by decide) rfl rfl rfl (by decide +kernel) w_184 dX6_addRow_36 (s_vr (pc := 39) rfl dX6_addRow_39)))))))))))))))))))))))
noncomputable def X6_addRow_f0 (t : Nat) (x1 : Int32) (x2 : Int32) (h : PH) : Option Rs :=
  if (hI h 324 t 0) < 6 then
    nn (hR h 325 t 0) fun r1 =>
    ix (hI h 324 t 0) (hL h 27 r1) fun j2 =>
    wr (pI h 1728 r1 j2 x1) fun h3 =>
    nn (hR h3 326 t 0) fun r4 =>
    ix (hI h3 324 t 0) (hL h3 28 r4) fun j5 =>
    wr (pI h3 1792 r4 j5 x2) fun h6 =>
    wr (pI h6 324 t 0 ((hI h6 324 t 0) + 1)) fun h7 =>
    some (none, h7)
  else
    some (none, h)
set_option maxRecDepth 100000 in
theorem X6_addRow_l0 (t : Nat) (x1 : Int32) (x2 : Int32) (h : PH) : X6_addRow_b0 [some (.inr (5, t + 1)), some (.inl x1), some (.inl x2)] [] h = X6_addRow_f0 t x1 x2 h := rfl
noncomputable def X6_addRow_g0 (t : Nat) (x1 : Int32) (x2 : Int32) (h : PH) : Option Rs := X6_addRow_f0 t x1 x2 h
noncomputable def X6_addRow (t : Nat) (x1 : Int32) (x2 : Int32) (h : PH) : Option Rs := X6_addRow_g0 t x1 x2 h
noncomputable abbrev X6_addRow_F : List PV → PH → Option Rs := FW_T5II (X6_addRow)
set_option maxRecDepth 100000 in
theorem X6_addRow_gd (l : Launch) : Gd l 0 yX6_addRow cX6_addRow 3 none (X6_addRow_F)   := Gd_of (by decide +kernel) (fun z hzl as h r e => by
  obtain ⟨hst, e⟩ := gL_of e
  obtain ⟨t, q0, e⟩ := gT_of e
  obtain ⟨x1, q1, e⟩ := gI_of e
  obtain ⟨x2, q2, e⟩ := gI_of e
  rw [st_3 hst q0 q1 q2]
  exact ⟨show 3 ≤ 3 by decide, X6_addRow_s0 _ _ _ _ ((X6_addRow_l0 t x1 x2 h).trans e)⟩)
abbrev X11_row_x (z : CZ) : CX := mx RX11 cX11_row 5 31 (some .int) "row" z
noncomputable def X11_row_b0 (c_X1_hasSign : Nat → Int32 → PH → Option Rs) (c_X11_isWithin : Int32 → Int32 → PH → Option Rs) (c_mo3 : List PV → PH → Option Rs) (c_X0_note : Nat → Nat → PH → Option Rs) (c_X6_addRow : Nat → Int32 → Int32 → PH → Option Rs) : Kn := (a_al 0 (a_gR 10 640 1 (a_il 1 (a_vI 1 1 (FW_T1I c_X1_hasSign) (a_z (a_ic (-1000000001) a_ir) (a_il 2 (a_ic 14 (a_sI 2 (FW_II c_X11_isWithin) (a_z (a_ic (-1000000001) a_ir) (a_il 3 (a_ic 8 (a_sI 2 (FW_II c_X11_isWithin) (a_z (a_ic (-1000000001) a_ir) (a_al 0 (a_gR 10 640 1 (a_gR 1 68 18 (a_il 1 (a_rald 18 1152 5 (a_as 4 (a_al 4 (a_gI 5 324 (a_al 4 (a_gI 5 321 (a_sI 1 c_mo3 (a_lt (a_al 0 (a_gR 10 644 0 (a_al 0 (a_gR 10 640 1 (a_vV 0 1 (FW_T0R1 c_X0_note) (a_al 4 (a_il 2 (a_il 3 (a_vV 5 2 (FW_T5II c_X6_addRow) (a_al 4 (a_gI 5 324 a_ir))))))))))) (a_ic (-1000000003) a_ir))))))))))))))))))))))))))
set_option maxRecDepth 100000 in
theorem X11_row_s0 {z : CZ} : SK (X11_row_x z) 0 (X11_row_b0 X1_hasSign X11_isWithin mo3 X0_note X6_addRow) := (s_aloadn (pc := 0) dX11_row_0 rfl (s_gR (pc := 1) (f := 0) ko_10 (by decide) rfl rfl w_504 dX11_row_1 (s_iloadn (pc := 4) dX11_row_4 rfl (s_vI (pc := 5) (run_virtual (X1_hasSign_gd _) (show 1 < 31 by decide) cy_X1_hasSign (by decide) rfl w_633 w_634 w_632 dX11_row_5) (s_ifeq (pc := 8) dX11_row_8 (by decide) (s_ldc (pc := 29) w_551 dX11_row_29 (s_ir (pc := 31) rfl dX11_row_31)) (s_iloadn (pc := 11) dX11_row_11 rfl (s_bipush (pc := 12) dX11_row_12 c_bp_14 (s_sI (pc := 14) (run_static (X11_isWithin_gd _) (show 0 < 31 by decide) cy_X11_isWithin w_549 w_552 dX11_row_14) (s_ifeq (pc := 17) dX11_row_17 (by decide) (s_ldc (pc := 29) w_551 dX11_row_29 (s_ir (pc := 31) rfl dX11_row_31)) (s_iloadn (pc := 20) dX11_row_20 rfl (s_bipush (pc := 21) dX11_row_21 c_bp_8 (s_sI (pc := 23) (run_static (X11_isWithin_gd _) (show 0 < 31 by decide) cy_X11_isWithin w_549 w_552 dX11_row_23) (s_ifne (pc := 26) dX11_row_26 (by decide) (s_aloadn (pc := 32) dX11_row_32 rfl (s_gR (pc := 33) (f := 0) ko_10 (by decide) rfl rfl w_504 dX11_row_33 (s_gR (pc := 36) (f := 4) ko_1 (by decide) rfl rfl w_233 dX11_row_36 (s_iloadn (pc := 39) dX11_row_39 rfl (s_rald (pc := 40) (by decide) (by decide) rfl rfl rfl dX11_row_40 (s_astore (pc := 41) dX11_row_41 (show 4 < 5 by decide) (s_aload (pc := 43) dX11_row_43 (s_gI (pc := 45) (f := 4) ko_5 (by decide) rfl rfl w_185 dX11_row_45 (s_aload (pc := 48) dX11_row_48 (s_gI (pc := 50) (f := 1) ko_5 (by decide) rfl rfl w_174 dX11_row_50 (s_sI (pc := 53) (run_staticN (mo3_gd _) (show 30 < 31 by decide) cy_X6_mostOf w_637 nw_636 dX11_row_53) (s_cmplt (pc := 56) dX11_row_56 (by decide) (s_aloadn (pc := 62) dX11_row_62 rfl (s_gR (pc := 63) (f := 4) ko_10 (by decide) rfl rfl w_508 dX11_row_63 (s_aloadn (pc := 66) dX11_row_66 rfl (s_gR (pc := 67) (f := 0) ko_10 (by decide) rfl rfl w_504 dX11_row_67 (s_vV (pc := 70) (run_virtual (X0_note_gd _) (show 0 < 31 by decide) cy_X0_note (by decide) rfl w_677 w_678 w_676 dX11_row_70) (s_aload (pc := 73) dX11_row_73 (s_iloadn (pc := 75) dX11_row_75 rfl (s_iloadn (pc := 76) dX11_row_76 rfl (s_vV (pc := 77) (run_virtual (X6_addRow_gd _) (show 0 < 31 by decide) cy_X6_addRow (by decide) rfl w_684 w_685 w_683 dX11_row_77) (s_aload (pc := 80) dX11_row_80 (s_gI (pc := 82) (f := 4) ko_5 (by decide) rfl rfl w_185 dX11_row_82 (s_ir (pc := 85) rfl dX11_row_85)))))))))))) (s_ldc (pc := 59) w_539 dX11_row_59 (s_ir (pc := 61) rfl dX11_row_61)))))))))))))) (s_ldc (pc := 29) w_551 dX11_row_29 (s_ir (pc := 31) rfl dX11_row_31)))))))))))))))
noncomputable def X11_row_f0 (c_X1_hasSign : Nat → Int32 → PH → Option Rs) (c_X11_isWithin : Int32 → Int32 → PH → Option Rs) (c_mo3 : List PV → PH → Option Rs) (c_X0_note : Nat → Nat → PH → Option Rs) (c_X6_addRow : Nat → Int32 → Int32 → PH → Option Rs) (t : Nat) (x1 : Int32) (x2 : Int32) (x3 : Int32) (h : PH) : Option Rs :=
  nn (hR h 640 t 0) fun r1 =>
  cI (c_X1_hasSign r1 x1 h) fun v3 h2 =>
  if v3 = 0 then
    some (some (.inl (-1000000001)), h2)
  else
    cI (c_X11_isWithin x2 14 h2) fun v5 h4 =>
    if v5 = 0 then
      some (some (.inl (-1000000001)), h4)
    else
      cI (c_X11_isWithin x3 8 h4) fun v7 h6 =>
      if v7 = 0 then
        some (some (.inl (-1000000001)), h6)
      else
        nn (hR h6 640 t 0) fun r8 =>
        nn (hR h6 68 r8 0) fun r9 =>
        ix x1 (hL h6 18 r9) fun j10 =>
        nn (hR h6 1152 r9 j10) fun r11 =>
        nn (hR h6 1152 r9 j10) fun r12 =>
        cI (c_mo3 [.inl (hI h6 321 r12 0)] h6) fun v14 h13 =>
        if (hI h6 324 r11 0) < v14 then
          nn (hR h13 644 t 0) fun r15 =>
          cV (c_X0_note r15 (hR h13 640 t 0) h13) fun h16 =>
          nn (hR h6 1152 r9 j10) fun r17 =>
          cV (c_X6_addRow r17 x2 x3 h16) fun h18 =>
          nn (hR h6 1152 r9 j10) fun r19 =>
          some (some (.inl (hI h18 324 r19 0)), h18)
        else
          some (some (.inl (-1000000003)), h13)
set_option maxRecDepth 100000 in
theorem X11_row_l0 (c_X1_hasSign : Nat → Int32 → PH → Option Rs) (c_X11_isWithin : Int32 → Int32 → PH → Option Rs) (c_mo3 : List PV → PH → Option Rs) (c_X0_note : Nat → Nat → PH → Option Rs) (c_X6_addRow : Nat → Int32 → Int32 → PH → Option Rs) (t : Nat) (x1 : Int32) (x2 : Int32) (x3 : Int32) (h : PH) : X11_row_b0 c_X1_hasSign c_X11_isWithin c_mo3 c_X0_note c_X6_addRow [some (.inr (10, t + 1)), some (.inl x1), some (.inl x2), some (.inl x3), none] [] h = X11_row_f0 c_X1_hasSign c_X11_isWithin c_mo3 c_X0_note c_X6_addRow t x1 x2 x3 h := rfl
noncomputable def X11_row_g0 (t : Nat) (x1 : Int32) (x2 : Int32) (x3 : Int32) (h : PH) : Option Rs := X11_row_f0 X1_hasSign X11_isWithin mo3 X0_note X6_addRow t x1 x2 x3 h
noncomputable def X11_row (t : Nat) (x1 : Int32) (x2 : Int32) (x3 : Int32) (h : PH) : Option Rs := X11_row_g0 t x1 x2 x3 h
noncomputable abbrev X11_row_F : List PV → PH → Option Rs := FW_T10III (X11_row)
set_option maxRecDepth 100000 in
theorem X11_row_gd (l : Launch) : Gd l 31 yX11_row cX11_row 5 (some .int) (X11_row_F)   := Gd_of (by decide +kernel) (fun z hzl as h r e => by
  obtain ⟨hst, e⟩ := gL_of e
  obtain ⟨t, q0, e⟩ := gT_of e
  obtain ⟨x1, q1, e⟩ := gI_of e
  obtain ⟨x2, q2, e⟩ := gI_of e
  obtain ⟨x3, q3, e⟩ := gI_of e
  rw [st_4 hst q0 q1 q2 q3]
  exact ⟨show 4 ≤ 5 by decide, X11_row_s0 _ _ _ _ ((X11_row_l0 X1_hasSign X11_isWithin mo3 X0_note X6_addRow t x1 x2 x3 h).trans e)⟩)
abbrev X11_rowTold_x (z : CZ) : CX := mx RX11 cX11_rowTold 5 2 (some .int) "rowTold" z
noncomputable def X11_rowTold_b0 (c_X1_hasSign : Nat → Int32 → PH → Option Rs) (c_X11_isWithin : Int32 → Int32 → PH → Option Rs) : Kn := (a_al 0 (a_gR 10 640 1 (a_il 1 (a_vI 1 1 (FW_T1I c_X1_hasSign) (a_z (a_ic (-1000000001) a_ir) (a_il 3 (a_ic 2 (a_sI 2 (FW_II c_X11_isWithin) (a_z (a_ic (-1000000001) a_ir) (a_al 0 (a_gR 10 640 1 (a_gR 1 68 18 (a_il 1 (a_rald 18 1152 5 (a_as 4 (a_il 2 (a_al 4 (a_gI 5 324 (a_sI 2 (FW_II c_X11_isWithin) (a_z (a_ic (-1000000005) a_ir) (a_il 3 (a_z (a_al 4 (a_gR 5 325 27 (a_il 2 (a_ald 27 1728 a_ir)))) (a_al 4 (a_gR 5 326 28 (a_il 2 (a_ald 28 1792 a_ir))))))))))))))))))))))))))
set_option maxRecDepth 100000 in
theorem X11_rowTold_s0 {z : CZ} : SK (X11_rowTold_x z) 0 (X11_rowTold_b0 X1_hasSign X11_isWithin) := (s_aloadn (pc := 0) dX11_rowTold_0 rfl (s_gR (pc := 1) (f := 0) ko_10 (by decide) rfl rfl w_504 dX11_rowTold_1 (s_iloadn (pc := 4) dX11_rowTold_4 rfl (s_vI (pc := 5) (run_virtual (X1_hasSign_gd _) (show 1 < 2 by decide) cy_X1_hasSign (by decide) rfl w_633 w_634 w_632 dX11_rowTold_5) (s_ifeq (pc := 8) dX11_rowTold_8 (by decide) (s_ldc (pc := 19) w_551 dX11_rowTold_19 (s_ir (pc := 21) rfl dX11_rowTold_21)) (s_iloadn (pc := 11) dX11_rowTold_11 rfl (s_iconst (pc := 12) dX11_rowTold_12 c_ic_2 (s_sI (pc := 13) (run_static (X11_isWithin_gd _) (show 0 < 2 by decide) cy_X11_isWithin w_549 w_552 dX11_rowTold_13) (s_ifne (pc := 16) dX11_rowTold_16 (by decide) (s_aloadn (pc := 22) dX11_rowTold_22 rfl (s_gR (pc := 23) (f := 0) ko_10 (by decide) rfl rfl w_504 dX11_rowTold_23 (s_gR (pc := 26) (f := 4) ko_1 (by decide) rfl rfl w_233 dX11_rowTold_26 (s_iloadn (pc := 29) dX11_rowTold_29 rfl (s_rald (pc := 30) (by decide) (by decide) rfl rfl rfl dX11_rowTold_30 (s_astore (pc := 31) dX11_rowTold_31 (show 4 < 5 by decide) (s_iloadn (pc := 33) dX11_rowTold_33 rfl (s_aload (pc := 34) dX11_rowTold_34 (s_gI (pc := 36) (f := 4) ko_5 (by decide) rfl rfl w_185 dX11_rowTold_36 (s_sI (pc := 39) (run_static (X11_isWithin_gd _) (show 0 < 2 by decide) cy_X11_isWithin w_549 w_552 dX11_rowTold_39) (s_ifne (pc := 42) dX11_rowTold_42 (by decide) (s_iloadn (pc := 48) dX11_rowTold_48 rfl (s_ifne (pc := 49) dX11_rowTold_49 (by decide) (s_aload (pc := 62) dX11_rowTold_62 (s_gR (pc := 64) (f := 6) ko_5 (by decide) rfl rfl w_194 dX11_rowTold_64 (s_iloadn (pc := 67) dX11_rowTold_67 rfl (s_iald (pc := 68) (by decide) (by decide) rfl rfl rfl dX11_rowTold_68 (s_ir (pc := 69) rfl dX11_rowTold_69))))) (s_aload (pc := 52) dX11_rowTold_52 (s_gR (pc := 54) (f := 5) ko_5 (by decide) rfl rfl w_189 dX11_rowTold_54 (s_iloadn (pc := 57) dX11_rowTold_57 rfl (s_iald (pc := 58) (by decide) (by decide) rfl rfl rfl dX11_rowTold_58 (s_goto (pc := 59) dX11_rowTold_59 (by decide) (s_ir (pc := 69) rfl dX11_rowTold_69)))))))) (s_ldc (pc := 45) w_611 dX11_rowTold_45 (s_ir (pc := 47) rfl dX11_rowTold_47))))))))))))) (s_ldc (pc := 19) w_551 dX11_rowTold_19 (s_ir (pc := 21) rfl dX11_rowTold_21)))))))))))
noncomputable def X11_rowTold_f0 (c_X1_hasSign : Nat → Int32 → PH → Option Rs) (c_X11_isWithin : Int32 → Int32 → PH → Option Rs) (t : Nat) (x1 : Int32) (x2 : Int32) (x3 : Int32) (h : PH) : Option Rs :=
  nn (hR h 640 t 0) fun r1 =>
  cI (c_X1_hasSign r1 x1 h) fun v3 h2 =>
  if v3 = 0 then
    some (some (.inl (-1000000001)), h2)
  else
    cI (c_X11_isWithin x3 2 h2) fun v5 h4 =>
    if v5 = 0 then
      some (some (.inl (-1000000001)), h4)
    else
      nn (hR h4 640 t 0) fun r6 =>
      nn (hR h4 68 r6 0) fun r7 =>
      ix x1 (hL h4 18 r7) fun j8 =>
      nn (hR h4 1152 r7 j8) fun r9 =>
      cI (c_X11_isWithin x2 (hI h4 324 r9 0) h4) fun v11 h10 =>
      if v11 = 0 then
        some (some (.inl (-1000000005)), h10)
      else
        if x3 = 0 then
          nn (hR h4 1152 r7 j8) fun r15 =>
          nn (hR h10 325 r15 0) fun r16 =>
          ix x2 (hL h10 27 r16) fun j17 =>
          some (some (.inl (hI h10 1728 r16 j17)), h10)
        else
          nn (hR h4 1152 r7 j8) fun r12 =>
          nn (hR h10 326 r12 0) fun r13 =>
          ix x2 (hL h10 28 r13) fun j14 =>
          some (some (.inl (hI h10 1792 r13 j14)), h10)
set_option maxRecDepth 100000 in
theorem X11_rowTold_l0 (c_X1_hasSign : Nat → Int32 → PH → Option Rs) (c_X11_isWithin : Int32 → Int32 → PH → Option Rs) (t : Nat) (x1 : Int32) (x2 : Int32) (x3 : Int32) (h : PH) : X11_rowTold_b0 c_X1_hasSign c_X11_isWithin [some (.inr (10, t + 1)), some (.inl x1), some (.inl x2), some (.inl x3), none] [] h = X11_rowTold_f0 c_X1_hasSign c_X11_isWithin t x1 x2 x3 h := rfl
noncomputable def X11_rowTold_g0 (t : Nat) (x1 : Int32) (x2 : Int32) (x3 : Int32) (h : PH) : Option Rs := X11_rowTold_f0 X1_hasSign X11_isWithin t x1 x2 x3 h
noncomputable def X11_rowTold (t : Nat) (x1 : Int32) (x2 : Int32) (x3 : Int32) (h : PH) : Option Rs := X11_rowTold_g0 t x1 x2 x3 h
noncomputable abbrev X11_rowTold_F : List PV → PH → Option Rs := FW_T10III (X11_rowTold)
set_option maxRecDepth 100000 in
theorem X11_rowTold_gd (l : Launch) : Gd l 2 yX11_rowTold cX11_rowTold 5 (some .int) (X11_rowTold_F)   := Gd_of (by decide +kernel) (fun z hzl as h r e => by
  obtain ⟨hst, e⟩ := gL_of e
  obtain ⟨t, q0, e⟩ := gT_of e
  obtain ⟨x1, q1, e⟩ := gI_of e
  obtain ⟨x2, q2, e⟩ := gI_of e
  obtain ⟨x3, q3, e⟩ := gI_of e
  rw [st_4 hst q0 q1 q2 q3]
  exact ⟨show 4 ≤ 5 by decide, X11_rowTold_s0 _ _ _ _ ((X11_rowTold_l0 X1_hasSign X11_isWithin t x1 x2 x3 h).trans e)⟩)
abbrev X1_hasRow_x (z : CZ) : CX := mx RX1 cX1_hasRow 3 2 (some .boolean) "hasRow" z
noncomputable def X1_hasRow_b0 (c_X1_hasSign : Nat → Int32 → PH → Option Rs) (c_X11_isWithin : Int32 → Int32 → PH → Option Rs) : Kn := (a_al 0 (a_il 1 (a_vI 1 1 (FW_T1I c_X1_hasSign) (a_z (a_ic 0 a_zr) (a_il 2 (a_al 0 (a_gR 1 68 18 (a_il 1 (a_rald 18 1152 5 (a_gI 5 324 (a_sI 2 (FW_II c_X11_isWithin) (a_z (a_ic 0 a_zr) (a_ic 1 a_zr)))))))))))))
set_option maxRecDepth 100000 in
theorem X1_hasRow_s0 {z : CZ} : SK (X1_hasRow_x z) 0 (X1_hasRow_b0 X1_hasSign X11_isWithin) := (s_aloadn (pc := 0) dX1_hasRow_0 rfl (s_iloadn (pc := 1) dX1_hasRow_1 rfl (s_vI (pc := 2) (run_virtual (X1_hasSign_gd _) (show 1 < 2 by decide) cy_X1_hasSign (by decide) rfl w_633 w_634 w_699 dX1_hasRow_2) (s_ifeq (pc := 5) dX1_hasRow_5 (by decide) (s_iconst (pc := 28) dX1_hasRow_28 c_ic_0 (s_zr (pc := 29) rfl dX1_hasRow_29)) (s_iloadn (pc := 8) dX1_hasRow_8 rfl (s_aloadn (pc := 9) dX1_hasRow_9 rfl (s_gR (pc := 10) (f := 4) ko_1 (by decide) rfl rfl w_229 dX1_hasRow_10 (s_iloadn (pc := 13) dX1_hasRow_13 rfl (s_rald (pc := 14) (by decide) (by decide) rfl rfl rfl dX1_hasRow_14 (s_gI (pc := 15) (f := 4) ko_5 (by decide) rfl rfl w_183 dX1_hasRow_15 (s_sI (pc := 18) (run_staticN (X11_isWithin_gd _) (show 0 < 2 by decide) cy_X11_isWithin w_549 nw_548 dX1_hasRow_18) (s_ifeq (pc := 21) dX1_hasRow_21 (by decide) (s_iconst (pc := 28) dX1_hasRow_28 c_ic_0 (s_zr (pc := 29) rfl dX1_hasRow_29)) (s_iconst (pc := 24) dX1_hasRow_24 c_ic_1 (s_goto (pc := 25) dX1_hasRow_25 (by decide) (s_zr (pc := 29) rfl dX1_hasRow_29)))))))))))))))
noncomputable def X1_hasRow_f0 (c_X1_hasSign : Nat → Int32 → PH → Option Rs) (c_X11_isWithin : Int32 → Int32 → PH → Option Rs) (t : Nat) (x1 : Int32) (x2 : Int32) (h : PH) : Option Rs :=
  cI (c_X1_hasSign t x1 h) fun v2 h1 =>
  if v2 = 0 then
    bz 0 <|
    some (some (.inl 0), h1)
  else
    nn (hR h1 68 t 0) fun r3 =>
    ix x1 (hL h1 18 r3) fun j4 =>
    nn (hR h1 1152 r3 j4) fun r5 =>
    cI (c_X11_isWithin x2 (hI h1 324 r5 0) h1) fun v7 h6 =>
    if v7 = 0 then
      bz 0 <|
      some (some (.inl 0), h6)
    else
      bz 1 <|
      some (some (.inl 1), h6)
set_option maxRecDepth 100000 in
theorem X1_hasRow_l0 (c_X1_hasSign : Nat → Int32 → PH → Option Rs) (c_X11_isWithin : Int32 → Int32 → PH → Option Rs) (t : Nat) (x1 : Int32) (x2 : Int32) (h : PH) : X1_hasRow_b0 c_X1_hasSign c_X11_isWithin [some (.inr (1, t + 1)), some (.inl x1), some (.inl x2)] [] h = X1_hasRow_f0 c_X1_hasSign c_X11_isWithin t x1 x2 h := rfl
noncomputable def X1_hasRow_g0 (t : Nat) (x1 : Int32) (x2 : Int32) (h : PH) : Option Rs := X1_hasRow_f0 X1_hasSign X11_isWithin t x1 x2 h
noncomputable def X1_hasRow (t : Nat) (x1 : Int32) (x2 : Int32) (h : PH) : Option Rs := X1_hasRow_g0 t x1 x2 h
noncomputable abbrev X1_hasRow_F : List PV → PH → Option Rs := FW_T1II (X1_hasRow)
set_option maxRecDepth 100000 in
theorem X1_hasRow_gd (l : Launch) : Gd l 2 yX1_hasRow cX1_hasRow 3 (some .boolean) (X1_hasRow_F)   := Gd_of (by decide +kernel) (fun z hzl as h r e => by
  obtain ⟨hst, e⟩ := gL_of e
  obtain ⟨t, q0, e⟩ := gT_of e
  obtain ⟨x1, q1, e⟩ := gI_of e
  obtain ⟨x2, q2, e⟩ := gI_of e
  rw [st_3 hst q0 q1 q2]
  exact ⟨show 3 ≤ 3 by decide, X1_hasRow_s0 _ _ _ _ ((X1_hasRow_l0 X1_hasSign X11_isWithin t x1 x2 h).trans e)⟩)
abbrev X6_removeRow_x (z : CZ) : CX := mx RX6 cX6_removeRow 3 0 none "removeRow" z
noncomputable def X6_removeRow_b0 (k2 : Kn) : Kn := (a_il 1 (a_is 2 k2))
set_option maxRecDepth 100000 in
theorem X6_removeRow_s0 {z : CZ} {k2 : Kn} (hk2 : SK (X6_removeRow_x z) 2 k2) : SK (X6_removeRow_x z) 0 (X6_removeRow_b0 k2) := (s_iloadn (pc := 0) dX6_removeRow_0 rfl (s_istoren (pc := 1) dX6_removeRow_1 rfl (show 2 < 3 by decide) hk2))
noncomputable def X6_removeRow_b2 (k2 : Kn) : Kn := (a_il 2 (a_ic 1 (a_b (fun a b => a + b) (a_al 0 (a_gI 5 324 (a_lt (a_al 0 (a_gR 5 325 27 (a_il 2 (a_al 0 (a_gR 5 325 27 (a_il 2 (a_ic 1 (a_b (fun a b => a + b) (a_ald 27 1728 (a_ast 27 1728 (fun a => a) (a_al 0 (a_gR 5 326 28 (a_il 2 (a_al 0 (a_gR 5 326 28 (a_il 2 (a_ic 1 (a_b (fun a b => a + b) (a_ald 28 1792 (a_ast 28 1792 (fun a => a) (a_inc 2 1 k2))))))))))))))))))))) (a_al 0 (a_dup (a_gI 5 324 (a_ic 1 (a_b (fun a b => a - b) (a_pI 5 324 a_vr))))))))))))
set_option maxRecDepth 100000 in
theorem X6_removeRow_s2 {z : CZ} {k2 : Kn} (hk2 : SK (X6_removeRow_x z) 2 k2) : SK (X6_removeRow_x z) 2 (X6_removeRow_b2 k2) := (s_iloadn (pc := 2) dX6_removeRow_2 rfl (s_iconst (pc := 3) dX6_removeRow_3 c_ic_1 (s_iadd (pc := 4) dX6_removeRow_4 (s_aloadn (pc := 5) dX6_removeRow_5 rfl (s_gI (pc := 6) (f := 4) ko_5 (by decide) rfl rfl w_184 dX6_removeRow_6 (s_cmpge (pc := 9) dX6_removeRow_9 (by decide) (s_aloadn (pc := 46) dX6_removeRow_46 rfl (s_dup (pc := 47) dX6_removeRow_47 (s_gI (pc := 48) (f := 4) ko_5 (by decide) rfl rfl w_184 dX6_removeRow_48 (s_iconst (pc := 51) dX6_removeRow_51 c_ic_1 (s_isub (pc := 52) dX6_removeRow_52 (s_pI (pc := 53) (f := 4) ko_5 (by decide) rfl rfl rfl (by decide +kernel) w_184 dX6_removeRow_53 (s_vr (pc := 56) rfl dX6_removeRow_56))))))) (s_aloadn (pc := 12) dX6_removeRow_12 rfl (s_gR (pc := 13) (f := 5) ko_5 (by decide) rfl rfl w_186 dX6_removeRow_13 (s_iloadn (pc := 16) dX6_removeRow_16 rfl (s_aloadn (pc := 17) dX6_removeRow_17 rfl (s_gR (pc := 18) (f := 5) ko_5 (by decide) rfl rfl w_186 dX6_removeRow_18 (s_iloadn (pc := 21) dX6_removeRow_21 rfl (s_iconst (pc := 22) dX6_removeRow_22 c_ic_1 (s_iadd (pc := 23) dX6_removeRow_23 (s_iald (pc := 24) (by decide) (by decide) rfl rfl rfl dX6_removeRow_24 (s_iast (pc := 25) (by decide) (by decide) rfl rfl rfl dX6_removeRow_25 (s_aloadn (pc := 26) dX6_removeRow_26 rfl (s_gR (pc := 27) (f := 6) ko_5 (by decide) rfl rfl w_190 dX6_removeRow_27 (s_iloadn (pc := 30) dX6_removeRow_30 rfl (s_aloadn (pc := 31) dX6_removeRow_31 rfl (s_gR (pc := 32) (f := 6) ko_5 (by decide) rfl rfl w_190 dX6_removeRow_32 (s_iloadn (pc := 35) dX6_removeRow_35 rfl (s_iconst (pc := 36) dX6_removeRow_36 c_ic_1 (s_iadd (pc := 37) dX6_removeRow_37 (s_iald (pc := 38) (by decide) (by decide) rfl rfl rfl dX6_removeRow_38 (s_iast (pc := 39) (by decide) (by decide) rfl rfl rfl dX6_removeRow_39 (s_iinc (pc := 40) dX6_removeRow_40 c_ic_1 (show 2 < 3 by decide) (s_goto (pc := 43) dX6_removeRow_43 (by decide) hk2))))))))))))))))))))))))))))
noncomputable def X6_removeRow_u2 (g : Nat → Int32 → PH → Option Rs) : Kn := fun ls st h => gL 0 st (gT 5 ls 0 fun t => gI ls 2 fun x2 => g t x2 h)
noncomputable def X6_removeRow_f0 (g2 : Nat → Int32 → PH → Option Rs) (t : Nat) (x1 : Int32) (h : PH) : Option Rs :=
  g2 t x1 h
set_option maxRecDepth 100000 in
theorem X6_removeRow_l0 (g2 : Nat → Int32 → PH → Option Rs) (t : Nat) (x1 : Int32) (h : PH) : X6_removeRow_b0 (X6_removeRow_u2 g2) [some (.inr (5, t + 1)), some (.inl x1), none] [] h = X6_removeRow_f0 g2 t x1 h := rfl
theorem X6_removeRow_m0 {g2 G2 : Nat → Int32 → PH → Option Rs} (hg2 : ∀ a0 a1 a2, Mo (g2 a0 a1 a2) (G2 a0 a1 a2)) (t : Nat) (x1 : Int32) (h : PH) : Mo (X6_removeRow_f0 g2 t x1 h) (X6_removeRow_f0 G2 t x1 h) := (hg2 t x1 h)
noncomputable def X6_removeRow_f2 (g2 : Nat → Int32 → PH → Option Rs) (t : Nat) (x2 : Int32) (h : PH) : Option Rs :=
  if (x2 + 1) < (hI h 324 t 0) then
    nn (hR h 325 t 0) fun r2 =>
    ix (x2 + 1) (hL h 27 r2) fun j3 =>
    nn (hR h 325 t 0) fun r4 =>
    ix x2 (hL h 27 r4) fun j5 =>
    wr (pI h 1728 r4 j5 (hI h 1728 r2 j3)) fun h6 =>
    nn (hR h6 326 t 0) fun r7 =>
    ix (x2 + 1) (hL h6 28 r7) fun j8 =>
    nn (hR h6 326 t 0) fun r9 =>
    ix x2 (hL h6 28 r9) fun j10 =>
    wr (pI h6 1792 r9 j10 (hI h6 1792 r7 j8)) fun h11 =>
    g2 t (x2 + 1) h11
  else
    wr (pI h 324 t 0 ((hI h 324 t 0) - 1)) fun h1 =>
    some (none, h1)
set_option maxRecDepth 100000 in
theorem X6_removeRow_l2 (g2 : Nat → Int32 → PH → Option Rs) (t : Nat) (x2 : Int32) (h : PH) : X6_removeRow_b2 (X6_removeRow_u2 g2) [some (.inr (5, t + 1)), none, some (.inl x2)] [] h = X6_removeRow_f2 g2 t x2 h := rfl
theorem X6_removeRow_m2 {g2 G2 : Nat → Int32 → PH → Option Rs} (hg2 : ∀ a0 a1 a2, Mo (g2 a0 a1 a2) (G2 a0 a1 a2)) (t : Nat) (x2 : Int32) (h : PH) : Mo (X6_removeRow_f2 g2 t x2 h) (X6_removeRow_f2 G2 t x2 h) := (mo_if (mo_nn fun r2 => (mo_ix fun j3 => (mo_nn fun r4 => (mo_ix fun j5 => (mo_wr fun h6 => (mo_nn fun r7 => (mo_ix fun j8 => (mo_nn fun r9 => (mo_ix fun j10 => (mo_wr fun h11 => (hg2 t (x2 + 1) h11))))))))))) (mo_wr fun h1 => mo_rf))
theorem X6_removeRow_w2 {z : CZ} {g2 : Nat → Int32 → PH → Option Rs} (hk2 : SK (X6_removeRow_x z) 2 (X6_removeRow_u2 g2)) : SK (X6_removeRow_x z) 2 (X6_removeRow_u2 (X6_removeRow_f2 g2)) := by
  intro ls st h r e
  obtain ⟨hst, e⟩ := gL_of e
  obtain ⟨t, q0, e⟩ := gT_of e
  obtain ⟨x2, q1, e⟩ := gI_of e
  rw [st_0 hst]
  exact WK.sub (canon := [some (.inr (5, t + 1)), none, some (.inl x2)]) rfl ⟨q0, q1, trivial⟩ (X6_removeRow_s2 hk2 _ _ _ _ ((X6_removeRow_l2 g2 t x2 h).trans e))
noncomputable def X6_removeRow_g0 (G : (Nat → Int32 → PH → Option Rs)) (t : Nat) (x1 : Int32) (h : PH) : Option Rs := X6_removeRow_f0 (G) t x1 h
noncomputable def X6_removeRow_g2 (G : (Nat → Int32 → PH → Option Rs)) (t : Nat) (x2 : Int32) (h : PH) : Option Rs := X6_removeRow_f2 (G) t x2 h
theorem X6_removeRow_v2 {z : CZ} {G : (Nat → Int32 → PH → Option Rs)} (hG2 : SK (X6_removeRow_x z) 2 (X6_removeRow_u2 (G))) : SK (X6_removeRow_x z) 2 (X6_removeRow_u2 (X6_removeRow_g2 G)) := X6_removeRow_w2 hG2
noncomputable def X6_removeRow_fam : Nat → (Nat → Int32 → PH → Option Rs)
  | 0 => fun _ _ _ => none
  | n + 1 => X6_removeRow_g2 (X6_removeRow_fam n)
theorem X6_removeRow_k {z : CZ} : ∀ n, SK (X6_removeRow_x z) 2 (X6_removeRow_u2 (X6_removeRow_fam n))
  | 0 => (fun ls st h r e => by
      obtain ⟨_, e⟩ := gL_of e
      obtain ⟨_, _, e⟩ := gT_of e
      obtain ⟨_, _, e⟩ := gI_of e
      cases e)
  | n + 1 => by
    obtain ih2 := X6_removeRow_k n
    exact X6_removeRow_v2 ih2
theorem X6_removeRow_n0 {G G' : (Nat → Int32 → PH → Option Rs)} (hg2 : ∀ a0 a1 a2, Mo ((G) a0 a1 a2) ((G') a0 a1 a2)) (t : Nat) (x1 : Int32) (h : PH) : Mo (X6_removeRow_g0 G t x1 h) (X6_removeRow_g0 G' t x1 h) := X6_removeRow_m0 hg2 t x1 h
theorem X6_removeRow_n2 {G G' : (Nat → Int32 → PH → Option Rs)} (hg2 : ∀ a0 a1 a2, Mo ((G) a0 a1 a2) ((G') a0 a1 a2)) (t : Nat) (x2 : Int32) (h : PH) : Mo (X6_removeRow_g2 G t x2 h) (X6_removeRow_g2 G' t x2 h) := X6_removeRow_m2 hg2 t x2 h
theorem X6_removeRow_fm : ∀ n, (∀ a0 a1 a2, Mo ((X6_removeRow_fam n) a0 a1 a2) ((X6_removeRow_fam (n + 1)) a0 a1 a2))
  | 0 => fun _ _ _ => mo_no
  | n + 1 => by
    obtain ih2 := X6_removeRow_fm n
    exact fun a0 a1 a2 => X6_removeRow_n2 ih2 a0 a1 a2
noncomputable def X6_removeRow (t : Nat) (x1 : Int32) (h : PH) : Option Rs := lim (fun n => X6_removeRow_g0 (X6_removeRow_fam n) t x1 h)
theorem X6_removeRow_iff {t : Nat} {x1 : Int32} {h : PH} {r : Rs} : X6_removeRow t x1 h = some r ↔ ∃ n, X6_removeRow_g0 (X6_removeRow_fam n) t x1 h = some r := lim_iff (fun n => by
  obtain ih2 := X6_removeRow_fm n
  exact X6_removeRow_n0 ih2 t x1 h)
noncomputable abbrev X6_removeRow_F : List PV → PH → Option Rs := FW_T5I (X6_removeRow)
set_option maxRecDepth 100000 in
theorem X6_removeRow_gd (l : Launch) : Gd l 0 yX6_removeRow cX6_removeRow 3 none (X6_removeRow_F)   := Gd_of (by decide +kernel) (fun z hzl as h r e => by
  obtain ⟨hst, e⟩ := gL_of e
  obtain ⟨t, q0, e⟩ := gT_of e
  obtain ⟨x1, q1, e⟩ := gI_of e
  rw [st_2 hst q0 q1]
  obtain ⟨n, e⟩ := lim_of e
  obtain hG2 := X6_removeRow_k (z := z) n
  exact ⟨show 2 ≤ 3 by decide, X6_removeRow_s0 hG2 _ _ _ _ ((X6_removeRow_l0 (X6_removeRow_fam n) t x1 h).trans e)⟩)
abbrev X11_drop_x (z : CZ) : CX := mx RX11 cX11_drop 3 3 (some .int) "drop" z
noncomputable def X11_drop_b0 (c_X1_hasRow : Nat → Int32 → Int32 → PH → Option Rs) (c_X0_note : Nat → Nat → PH → Option Rs) (c_X6_removeRow : Nat → Int32 → PH → Option Rs) : Kn := (a_al 0 (a_gR 10 640 1 (a_il 1 (a_il 2 (a_vI 1 2 (FW_T1II c_X1_hasRow) (a_z (a_ic (-1000000001) a_ir) (a_al 0 (a_gR 10 644 0 (a_al 0 (a_gR 10 640 1 (a_vV 0 1 (FW_T0R1 c_X0_note) (a_al 0 (a_gR 10 640 1 (a_gR 1 68 18 (a_il 1 (a_rald 18 1152 5 (a_il 2 (a_vV 5 1 (FW_T5I c_X6_removeRow) (a_al 0 (a_gR 10 640 1 (a_gR 1 68 18 (a_il 1 (a_rald 18 1152 5 (a_gI 5 324 a_ir))))))))))))))))))))))))
set_option maxRecDepth 100000 in
theorem X11_drop_s0 {z : CZ} : SK (X11_drop_x z) 0 (X11_drop_b0 X1_hasRow X0_note X6_removeRow) := (s_aloadn (pc := 0) dX11_drop_0 rfl (s_gR (pc := 1) (f := 0) ko_10 (by decide) rfl rfl w_504 dX11_drop_1 (s_iloadn (pc := 4) dX11_drop_4 rfl (s_iloadn (pc := 5) dX11_drop_5 rfl (s_vI (pc := 6) (run_virtual (X1_hasRow_gd _) (show 2 < 3 by decide) cy_X1_hasRow (by decide) rfl w_696 w_697 w_695 dX11_drop_6) (s_ifne (pc := 9) dX11_drop_9 (by decide) (s_aloadn (pc := 15) dX11_drop_15 rfl (s_gR (pc := 16) (f := 4) ko_10 (by decide) rfl rfl w_508 dX11_drop_16 (s_aloadn (pc := 19) dX11_drop_19 rfl (s_gR (pc := 20) (f := 0) ko_10 (by decide) rfl rfl w_504 dX11_drop_20 (s_vV (pc := 23) (run_virtual (X0_note_gd _) (show 0 < 3 by decide) cy_X0_note (by decide) rfl w_677 w_678 w_676 dX11_drop_23) (s_aloadn (pc := 26) dX11_drop_26 rfl (s_gR (pc := 27) (f := 0) ko_10 (by decide) rfl rfl w_504 dX11_drop_27 (s_gR (pc := 30) (f := 4) ko_1 (by decide) rfl rfl w_233 dX11_drop_30 (s_iloadn (pc := 33) dX11_drop_33 rfl (s_rald (pc := 34) (by decide) (by decide) rfl rfl rfl dX11_drop_34 (s_iloadn (pc := 35) dX11_drop_35 rfl (s_vV (pc := 36) (run_virtual (X6_removeRow_gd _) (show 0 < 3 by decide) cy_X6_removeRow (by decide) rfl w_701 w_702 w_700 dX11_drop_36) (s_aloadn (pc := 39) dX11_drop_39 rfl (s_gR (pc := 40) (f := 0) ko_10 (by decide) rfl rfl w_504 dX11_drop_40 (s_gR (pc := 43) (f := 4) ko_1 (by decide) rfl rfl w_233 dX11_drop_43 (s_iloadn (pc := 46) dX11_drop_46 rfl (s_rald (pc := 47) (by decide) (by decide) rfl rfl rfl dX11_drop_47 (s_gI (pc := 48) (f := 4) ko_5 (by decide) rfl rfl w_185 dX11_drop_48 (s_ir (pc := 51) rfl dX11_drop_51))))))))))))))))))) (s_ldc (pc := 12) w_551 dX11_drop_12 (s_ir (pc := 14) rfl dX11_drop_14))))))))
noncomputable def X11_drop_f0 (c_X1_hasRow : Nat → Int32 → Int32 → PH → Option Rs) (c_X0_note : Nat → Nat → PH → Option Rs) (c_X6_removeRow : Nat → Int32 → PH → Option Rs) (t : Nat) (x1 : Int32) (x2 : Int32) (h : PH) : Option Rs :=
  nn (hR h 640 t 0) fun r1 =>
  cI (c_X1_hasRow r1 x1 x2 h) fun v3 h2 =>
  if v3 = 0 then
    some (some (.inl (-1000000001)), h2)
  else
    nn (hR h2 644 t 0) fun r4 =>
    cV (c_X0_note r4 (hR h2 640 t 0) h2) fun h5 =>
    nn (hR h5 640 t 0) fun r6 =>
    nn (hR h5 68 r6 0) fun r7 =>
    ix x1 (hL h5 18 r7) fun j8 =>
    nn (hR h5 1152 r7 j8) fun r9 =>
    cV (c_X6_removeRow r9 x2 h5) fun h10 =>
    nn (hR h10 640 t 0) fun r11 =>
    nn (hR h10 68 r11 0) fun r12 =>
    ix x1 (hL h10 18 r12) fun j13 =>
    nn (hR h10 1152 r12 j13) fun r14 =>
    some (some (.inl (hI h10 324 r14 0)), h10)
set_option maxRecDepth 100000 in
theorem X11_drop_l0 (c_X1_hasRow : Nat → Int32 → Int32 → PH → Option Rs) (c_X0_note : Nat → Nat → PH → Option Rs) (c_X6_removeRow : Nat → Int32 → PH → Option Rs) (t : Nat) (x1 : Int32) (x2 : Int32) (h : PH) : X11_drop_b0 c_X1_hasRow c_X0_note c_X6_removeRow [some (.inr (10, t + 1)), some (.inl x1), some (.inl x2)] [] h = X11_drop_f0 c_X1_hasRow c_X0_note c_X6_removeRow t x1 x2 h := rfl
noncomputable def X11_drop_g0 (t : Nat) (x1 : Int32) (x2 : Int32) (h : PH) : Option Rs := X11_drop_f0 X1_hasRow X0_note X6_removeRow t x1 x2 h
noncomputable def X11_drop (t : Nat) (x1 : Int32) (x2 : Int32) (h : PH) : Option Rs := X11_drop_g0 t x1 x2 h
noncomputable abbrev X11_drop_F : List PV → PH → Option Rs := FW_T10II (X11_drop)
set_option maxRecDepth 100000 in
theorem X11_drop_gd (l : Launch) : Gd l 3 yX11_drop cX11_drop 3 (some .int) (X11_drop_F)   := Gd_of (by decide +kernel) (fun z hzl as h r e => by
  obtain ⟨hst, e⟩ := gL_of e
  obtain ⟨t, q0, e⟩ := gT_of e
  obtain ⟨x1, q1, e⟩ := gI_of e
  obtain ⟨x2, q2, e⟩ := gI_of e
  rw [st_3 hst q0 q1 q2]
  exact ⟨show 3 ≤ 3 by decide, X11_drop_s0 _ _ _ _ ((X11_drop_l0 X1_hasRow X0_note X6_removeRow t x1 x2 h).trans e)⟩)
abbrev X11_aim_x (z : CZ) : CX := mx RX11 cX11_aim 5 3 (some .int) "aim" z
noncomputable def X11_aim_b0 (c_X1_hasRow : Nat → Int32 → Int32 → PH → Option Rs) (c_X11_isWithin : Int32 → Int32 → PH → Option Rs) (c_X0_note : Nat → Nat → PH → Option Rs) : Kn := (a_al 0 (a_gR 10 640 1 (a_il 1 (a_il 2 (a_vI 1 2 (FW_T1II c_X1_hasRow) (a_z (a_ic (-1000000001) a_ir) (a_il 3 (a_ic 8 (a_sI 2 (FW_II c_X11_isWithin) (a_z (a_ic (-1000000001) a_ir) (a_al 0 (a_gR 10 644 0 (a_al 0 (a_gR 10 640 1 (a_vV 0 1 (FW_T0R1 c_X0_note) (a_al 0 (a_gR 10 640 1 (a_gR 1 68 18 (a_il 1 (a_rald 18 1152 5 (a_gR 5 326 28 (a_il 2 (a_ald 28 1792 (a_is 4 (a_al 0 (a_gR 10 640 1 (a_gR 1 68 18 (a_il 1 (a_rald 18 1152 5 (a_gR 5 326 28 (a_il 2 (a_il 3 (a_ast 28 1792 (fun a => a) (a_il 4 a_ir))))))))))))))))))))))))))))))))))
set_option maxRecDepth 100000 in
theorem X11_aim_s0 {z : CZ} : SK (X11_aim_x z) 0 (X11_aim_b0 X1_hasRow X11_isWithin X0_note) := (s_aloadn (pc := 0) dX11_aim_0 rfl (s_gR (pc := 1) (f := 0) ko_10 (by decide) rfl rfl w_504 dX11_aim_1 (s_iloadn (pc := 4) dX11_aim_4 rfl (s_iloadn (pc := 5) dX11_aim_5 rfl (s_vI (pc := 6) (run_virtual (X1_hasRow_gd _) (show 2 < 3 by decide) cy_X1_hasRow (by decide) rfl w_696 w_697 w_695 dX11_aim_6) (s_ifeq (pc := 9) dX11_aim_9 (by decide) (s_ldc (pc := 21) w_551 dX11_aim_21 (s_ir (pc := 23) rfl dX11_aim_23)) (s_iloadn (pc := 12) dX11_aim_12 rfl (s_bipush (pc := 13) dX11_aim_13 c_bp_8 (s_sI (pc := 15) (run_static (X11_isWithin_gd _) (show 0 < 3 by decide) cy_X11_isWithin w_549 w_552 dX11_aim_15) (s_ifne (pc := 18) dX11_aim_18 (by decide) (s_aloadn (pc := 24) dX11_aim_24 rfl (s_gR (pc := 25) (f := 4) ko_10 (by decide) rfl rfl w_508 dX11_aim_25 (s_aloadn (pc := 28) dX11_aim_28 rfl (s_gR (pc := 29) (f := 0) ko_10 (by decide) rfl rfl w_504 dX11_aim_29 (s_vV (pc := 32) (run_virtual (X0_note_gd _) (show 0 < 3 by decide) cy_X0_note (by decide) rfl w_677 w_678 w_676 dX11_aim_32) (s_aloadn (pc := 35) dX11_aim_35 rfl (s_gR (pc := 36) (f := 0) ko_10 (by decide) rfl rfl w_504 dX11_aim_36 (s_gR (pc := 39) (f := 4) ko_1 (by decide) rfl rfl w_233 dX11_aim_39 (s_iloadn (pc := 42) dX11_aim_42 rfl (s_rald (pc := 43) (by decide) (by decide) rfl rfl rfl dX11_aim_43 (s_gR (pc := 44) (f := 6) ko_5 (by decide) rfl rfl w_194 dX11_aim_44 (s_iloadn (pc := 47) dX11_aim_47 rfl (s_iald (pc := 48) (by decide) (by decide) rfl rfl rfl dX11_aim_48 (s_istore (pc := 49) dX11_aim_49 (show 4 < 5 by decide) (s_aloadn (pc := 51) dX11_aim_51 rfl (s_gR (pc := 52) (f := 0) ko_10 (by decide) rfl rfl w_504 dX11_aim_52 (s_gR (pc := 55) (f := 4) ko_1 (by decide) rfl rfl w_233 dX11_aim_55 (s_iloadn (pc := 58) dX11_aim_58 rfl (s_rald (pc := 59) (by decide) (by decide) rfl rfl rfl dX11_aim_59 (s_gR (pc := 60) (f := 6) ko_5 (by decide) rfl rfl w_194 dX11_aim_60 (s_iloadn (pc := 63) dX11_aim_63 rfl (s_iloadn (pc := 64) dX11_aim_64 rfl (s_iast (pc := 65) (by decide) (by decide) rfl rfl rfl dX11_aim_65 (s_iload (pc := 66) dX11_aim_66 (s_ir (pc := 68) rfl dX11_aim_68))))))))))))))))))))))))) (s_ldc (pc := 21) w_551 dX11_aim_21 (s_ir (pc := 23) rfl dX11_aim_23))))))))))))
noncomputable def X11_aim_f0 (c_X1_hasRow : Nat → Int32 → Int32 → PH → Option Rs) (c_X11_isWithin : Int32 → Int32 → PH → Option Rs) (c_X0_note : Nat → Nat → PH → Option Rs) (t : Nat) (x1 : Int32) (x2 : Int32) (x3 : Int32) (h : PH) : Option Rs :=
  nn (hR h 640 t 0) fun r1 =>
  cI (c_X1_hasRow r1 x1 x2 h) fun v3 h2 =>
  if v3 = 0 then
    some (some (.inl (-1000000001)), h2)
  else
    cI (c_X11_isWithin x3 8 h2) fun v5 h4 =>
    if v5 = 0 then
      some (some (.inl (-1000000001)), h4)
    else
      nn (hR h4 644 t 0) fun r6 =>
      cV (c_X0_note r6 (hR h4 640 t 0) h4) fun h7 =>
      nn (hR h7 640 t 0) fun r8 =>
      nn (hR h7 68 r8 0) fun r9 =>
      ix x1 (hL h7 18 r9) fun j10 =>
      nn (hR h7 1152 r9 j10) fun r11 =>
      nn (hR h7 326 r11 0) fun r12 =>
      ix x2 (hL h7 28 r12) fun j13 =>
      nn (hR h7 640 t 0) fun r14 =>
      nn (hR h7 68 r14 0) fun r15 =>
      ix x1 (hL h7 18 r15) fun j16 =>
      nn (hR h7 1152 r15 j16) fun r17 =>
      nn (hR h7 326 r17 0) fun r18 =>
      ix x2 (hL h7 28 r18) fun j19 =>
      wr (pI h7 1792 r18 j19 x3) fun h20 =>
      some (some (.inl (hI h7 1792 r12 j13)), h20)
set_option maxRecDepth 100000 in
theorem X11_aim_l0 (c_X1_hasRow : Nat → Int32 → Int32 → PH → Option Rs) (c_X11_isWithin : Int32 → Int32 → PH → Option Rs) (c_X0_note : Nat → Nat → PH → Option Rs) (t : Nat) (x1 : Int32) (x2 : Int32) (x3 : Int32) (h : PH) : X11_aim_b0 c_X1_hasRow c_X11_isWithin c_X0_note [some (.inr (10, t + 1)), some (.inl x1), some (.inl x2), some (.inl x3), none] [] h = X11_aim_f0 c_X1_hasRow c_X11_isWithin c_X0_note t x1 x2 x3 h := rfl
noncomputable def X11_aim_g0 (t : Nat) (x1 : Int32) (x2 : Int32) (x3 : Int32) (h : PH) : Option Rs := X11_aim_f0 X1_hasRow X11_isWithin X0_note t x1 x2 x3 h
noncomputable def X11_aim (t : Nat) (x1 : Int32) (x2 : Int32) (x3 : Int32) (h : PH) : Option Rs := X11_aim_g0 t x1 x2 x3 h
noncomputable abbrev X11_aim_F : List PV → PH → Option Rs := FW_T10III (X11_aim)
set_option maxRecDepth 100000 in
theorem X11_aim_gd (l : Launch) : Gd l 3 yX11_aim cX11_aim 5 (some .int) (X11_aim_F)   := Gd_of (by decide +kernel) (fun z hzl as h r e => by
  obtain ⟨hst, e⟩ := gL_of e
  obtain ⟨t, q0, e⟩ := gT_of e
  obtain ⟨x1, q1, e⟩ := gI_of e
  obtain ⟨x2, q2, e⟩ := gI_of e
  obtain ⟨x3, q3, e⟩ := gI_of e
  rw [st_4 hst q0 q1 q2 q3]
  exact ⟨show 4 ≤ 5 by decide, X11_aim_s0 _ _ _ _ ((X11_aim_l0 X1_hasRow X11_isWithin X0_note t x1 x2 x3 h).trans e)⟩)
abbrev X0_takeBack_x (z : CZ) : CX := mx RX0 cX0_takeBack 7 1 none "takeBack" z
noncomputable def X0_takeBack_b0 (k12 : Kn) : Kn := (a_al 0 (a_gR 0 0 12 (a_al 0 (a_gI 0 1 (a_rald 12 768 13 (a_as 2 (a_ic 0 (a_is 3 k12))))))))
set_option maxRecDepth 100000 in
theorem X0_takeBack_s0 {z : CZ} {k12 : Kn} (hk12 : SK (X0_takeBack_x z) 12 k12) : SK (X0_takeBack_x z) 0 (X0_takeBack_b0 k12) := (s_aloadn (pc := 0) dX0_takeBack_0 rfl (s_gR (pc := 1) (f := 0) ko_0 (by decide) rfl rfl w_395 dX0_takeBack_1 (s_aloadn (pc := 4) dX0_takeBack_4 rfl (s_gI (pc := 5) (f := 1) ko_0 (by decide) rfl rfl w_396 dX0_takeBack_5 (s_raldA (pc := 8) (by decide) (by decide) rfl rfl rfl dX0_takeBack_8 (s_astoren (pc := 9) dX0_takeBack_9 rfl (show 2 < 7 by decide) (s_iconst (pc := 10) dX0_takeBack_10 c_ic_0 (s_istoren (pc := 11) dX0_takeBack_11 rfl (show 3 < 7 by decide) hk12))))))))
noncomputable def X0_takeBack_b12 (k37 : Kn) : Kn := (a_il 3 (a_al 1 (a_gI 1 75 (a_lt (a_al 1 (a_gR 1 68 18 (a_il 3 (a_rald 18 1152 5 (a_as 4 (a_al 4 (a_ic 0 (a_pI 5 324 (a_ic 0 (a_is 5 k37)))))))))) (a_al 0 (a_al 0 (a_gI 0 1 (a_ic 16 (a_b (fun a b => a + b) (a_ic 1 (a_b (fun a b => a - b) (a_ic 16 (a_rem (a_pI 0 1 (a_al 0 (a_dup (a_gI 0 2 (a_ic 1 (a_b (fun a b => a - b) (a_pI 0 2 a_vr))))))))))))))))))))
set_option maxRecDepth 100000 in
theorem X0_takeBack_s12 {z : CZ} {k37 : Kn} (hk37 : SK (X0_takeBack_x z) 37 k37) : SK (X0_takeBack_x z) 12 (X0_takeBack_b12 k37) := (s_iloadn (pc := 12) dX0_takeBack_12 rfl (s_aloadn (pc := 13) dX0_takeBack_13 rfl (s_gI (pc := 14) (f := 11) ko_1 (by decide) rfl rfl w_253 dX0_takeBack_14 (s_cmpge (pc := 17) dX0_takeBack_17 (by decide) (s_aloadn (pc := 88) dX0_takeBack_88 rfl (s_aloadn (pc := 89) dX0_takeBack_89 rfl (s_gI (pc := 90) (f := 1) ko_0 (by decide) rfl rfl w_396 dX0_takeBack_90 (s_bipush (pc := 93) dX0_takeBack_93 c_bp_16 (s_iadd (pc := 95) dX0_takeBack_95 (s_iconst (pc := 96) dX0_takeBack_96 c_ic_1 (s_isub (pc := 97) dX0_takeBack_97 (s_bipush (pc := 98) dX0_takeBack_98 c_bp_16 (s_irem (pc := 100) dX0_takeBack_100 (s_pI (pc := 101) (f := 1) ko_0 (by decide) rfl rfl rfl (by decide +kernel) w_396 dX0_takeBack_101 (s_aloadn (pc := 104) dX0_takeBack_104 rfl (s_dup (pc := 105) dX0_takeBack_105 (s_gI (pc := 106) (f := 2) ko_0 (by decide) rfl rfl w_397 dX0_takeBack_106 (s_iconst (pc := 109) dX0_takeBack_109 c_ic_1 (s_isub (pc := 110) dX0_takeBack_110 (s_pI (pc := 111) (f := 2) ko_0 (by decide) rfl rfl rfl (by decide +kernel) w_397 dX0_takeBack_111 (s_vr (pc := 114) rfl dX0_takeBack_114))))))))))))))))) (s_aloadn (pc := 20) dX0_takeBack_20 rfl (s_gR (pc := 21) (f := 4) ko_1 (by decide) rfl rfl w_232 dX0_takeBack_21 (s_iloadn (pc := 24) dX0_takeBack_24 rfl (s_rald (pc := 25) (by decide) (by decide) rfl rfl rfl dX0_takeBack_25 (s_astore (pc := 26) dX0_takeBack_26 (show 4 < 7 by decide) (s_aload (pc := 28) dX0_takeBack_28 (s_iconst (pc := 30) dX0_takeBack_30 c_ic_0 (s_pI (pc := 31) (f := 4) ko_5 (by decide) rfl rfl rfl (by decide +kernel) w_182 dX0_takeBack_31 (s_iconst (pc := 34) dX0_takeBack_34 c_ic_0 (s_istore (pc := 35) dX0_takeBack_35 (show 5 < 7 by decide) hk37))))))))))))))
noncomputable def X0_takeBack_b37 (c_X6_addRow : Nat → Int32 → Int32 → PH → Option Rs) (k12 k37 : Kn) : Kn := (a_il 5 (a_al 2 (a_il 3 (a_ic 7 (a_b (fun a b => a * b) (a_ald 13 832 (a_lt (a_al 2 (a_il 3 (a_ic 7 (a_b (fun a b => a * b) (a_ic 1 (a_b (fun a b => a + b) (a_il 5 (a_b (fun a b => a + b) (a_ald 13 832 (a_is 6 (a_al 4 (a_il 6 (a_ic 8 (a_div (a_il 6 (a_ic 8 (a_rem (a_vV 5 2 (FW_T5II c_X6_addRow) (a_inc 5 1 k37))))))))))))))))))) (a_inc 3 1 k12))))))))
set_option maxRecDepth 100000 in
theorem X0_takeBack_s37 {z : CZ} {k12 k37 : Kn} (hk12 : SK (X0_takeBack_x z) 12 k12) (hk37 : SK (X0_takeBack_x z) 37 k37) : SK (X0_takeBack_x z) 37 (X0_takeBack_b37 X6_addRow k12 k37) := (s_iload (pc := 37) dX0_takeBack_37 (s_aloadn (pc := 39) dX0_takeBack_39 rfl (s_iloadn (pc := 40) dX0_takeBack_40 rfl (s_bipush (pc := 41) dX0_takeBack_41 c_bp_7 (s_imul (pc := 43) dX0_takeBack_43 (s_iald (pc := 44) (by decide) (by decide) rfl rfl rfl dX0_takeBack_44 (s_cmpge (pc := 45) dX0_takeBack_45 (by decide) (s_iinc (pc := 82) dX0_takeBack_82 c_ic_1 (show 3 < 7 by decide) (s_goto (pc := 85) dX0_takeBack_85 (by decide) hk12)) (s_aloadn (pc := 48) dX0_takeBack_48 rfl (s_iloadn (pc := 49) dX0_takeBack_49 rfl (s_bipush (pc := 50) dX0_takeBack_50 c_bp_7 (s_imul (pc := 52) dX0_takeBack_52 (s_iconst (pc := 53) dX0_takeBack_53 c_ic_1 (s_iadd (pc := 54) dX0_takeBack_54 (s_iload (pc := 55) dX0_takeBack_55 (s_iadd (pc := 57) dX0_takeBack_57 (s_iald (pc := 58) (by decide) (by decide) rfl rfl rfl dX0_takeBack_58 (s_istore (pc := 59) dX0_takeBack_59 (show 6 < 7 by decide) (s_aload (pc := 61) dX0_takeBack_61 (s_iload (pc := 63) dX0_takeBack_63 (s_bipush (pc := 65) dX0_takeBack_65 c_bp_8 (s_idiv (pc := 67) dX0_takeBack_67 (s_iload (pc := 68) dX0_takeBack_68 (s_bipush (pc := 70) dX0_takeBack_70 c_bp_8 (s_irem (pc := 72) dX0_takeBack_72 (s_vV (pc := 73) (run_virtual (X6_addRow_gd _) (show 0 < 1 by decide) cy_X6_addRow (by decide) rfl w_684 w_685 w_716 dX0_takeBack_73) (s_iinc (pc := 76) dX0_takeBack_76 c_ic_1 (show 5 < 7 by decide) (s_goto (pc := 79) dX0_takeBack_79 (by decide) hk37)))))))))))))))))))))))))))
noncomputable def X0_takeBack_u12 (g : Nat → Nat → Nat → Int32 → PH → Option Rs) : Kn := fun ls st h => gL 0 st (gT 0 ls 0 fun t => gR 1 ls 1 fun x1 => gR 13 ls 2 fun x2 => gI ls 3 fun x3 => g t x1 x2 x3 h)
noncomputable def X0_takeBack_u37 (g : Nat → Nat → Nat → Int32 → Nat → Int32 → PH → Option Rs) : Kn := fun ls st h => gL 0 st (gT 0 ls 0 fun t => gR 1 ls 1 fun x1 => gR 13 ls 2 fun x2 => gI ls 3 fun x3 => gR 5 ls 4 fun x4 => gI ls 5 fun x5 => g t x1 x2 x3 x4 x5 h)
noncomputable def X0_takeBack_f0 (g12 : Nat → Nat → Nat → Int32 → PH → Option Rs) (t : Nat) (x1 : Nat) (h : PH) : Option Rs :=
  nn (hR h 0 t 0) fun r1 =>
  ix (hI h 1 t 0) (hL h 12 r1) fun j2 =>
  g12 t x1 (hR h 768 r1 j2) 0 h
set_option maxRecDepth 100000 in
theorem X0_takeBack_l0 (g12 : Nat → Nat → Nat → Int32 → PH → Option Rs) (t : Nat) (x1 : Nat) (h : PH) : X0_takeBack_b0 (X0_takeBack_u12 g12) [some (.inr (0, t + 1)), some (.inr (1, x1)), none, none, none, none, none] [] h = X0_takeBack_f0 g12 t x1 h := rfl
theorem X0_takeBack_m0 {g12 G12 : Nat → Nat → Nat → Int32 → PH → Option Rs} (hg12 : ∀ a0 a1 a2 a3 a4, Mo (g12 a0 a1 a2 a3 a4) (G12 a0 a1 a2 a3 a4)) (t : Nat) (x1 : Nat) (h : PH) : Mo (X0_takeBack_f0 g12 t x1 h) (X0_takeBack_f0 G12 t x1 h) := (mo_nn fun r1 => (mo_ix fun j2 => (hg12 t x1 (hR h 768 r1 j2) 0 h)))
noncomputable def X0_takeBack_f12 (g37 : Nat → Nat → Nat → Int32 → Nat → Int32 → PH → Option Rs) (t : Nat) (x1 : Nat) (x2 : Nat) (x3 : Int32) (h : PH) : Option Rs :=
  nn x1 fun r3 =>
  if x3 < (hI h 75 r3 0) then
    nn x1 fun r6 =>
    nn (hR h 68 r6 0) fun r7 =>
    ix x3 (hL h 18 r7) fun j8 =>
    nn (hR h 1152 r7 j8) fun r9 =>
    wr (pI h 324 r9 0 0) fun h10 =>
    g37 t x1 x2 x3 (hR h 1152 r7 j8) 0 h10
  else
    dv 16 <|
    wr (pI h 1 t 0 (jrem (((hI h 1 t 0) + 16) - 1) 16)) fun h4 =>
    wr (pI h4 2 t 0 ((hI h4 2 t 0) - 1)) fun h5 =>
    some (none, h5)
set_option maxRecDepth 100000 in
theorem X0_takeBack_l12 (g37 : Nat → Nat → Nat → Int32 → Nat → Int32 → PH → Option Rs) (t : Nat) (x1 : Nat) (x2 : Nat) (x3 : Int32) (h : PH) : X0_takeBack_b12 (X0_takeBack_u37 g37) [some (.inr (0, t + 1)), some (.inr (1, x1)), some (.inr (13, x2)), some (.inl x3), none, none, none] [] h = X0_takeBack_f12 g37 t x1 x2 x3 h := rfl
theorem X0_takeBack_m12 {g37 G37 : Nat → Nat → Nat → Int32 → Nat → Int32 → PH → Option Rs} (hg37 : ∀ a0 a1 a2 a3 a4 a5 a6, Mo (g37 a0 a1 a2 a3 a4 a5 a6) (G37 a0 a1 a2 a3 a4 a5 a6)) (t : Nat) (x1 : Nat) (x2 : Nat) (x3 : Int32) (h : PH) : Mo (X0_takeBack_f12 g37 t x1 x2 x3 h) (X0_takeBack_f12 G37 t x1 x2 x3 h) := (mo_nn fun r3 => (mo_if (mo_nn fun r6 => (mo_nn fun r7 => (mo_ix fun j8 => (mo_nn fun r9 => (mo_wr fun h10 => (hg37 t x1 x2 x3 (hR h 1152 r7 j8) 0 h10)))))) (mo_dv (mo_wr fun h4 => (mo_wr fun h5 => mo_rf)))))
theorem X0_takeBack_w12 {z : CZ} {g37 : Nat → Nat → Nat → Int32 → Nat → Int32 → PH → Option Rs} (hk37 : SK (X0_takeBack_x z) 37 (X0_takeBack_u37 g37)) : SK (X0_takeBack_x z) 12 (X0_takeBack_u12 (X0_takeBack_f12 g37)) := by
  intro ls st h r e
  obtain ⟨hst, e⟩ := gL_of e
  obtain ⟨t, q0, e⟩ := gT_of e
  obtain ⟨x1, q1, e⟩ := gR_of e
  obtain ⟨x2, q2, e⟩ := gR_of e
  obtain ⟨x3, q3, e⟩ := gI_of e
  rw [st_0 hst]
  exact WK.sub (canon := [some (.inr (0, t + 1)), some (.inr (1, x1)), some (.inr (13, x2)), some (.inl x3), none, none, none]) rfl ⟨q0, q1, q2, q3, trivial⟩ (X0_takeBack_s12 hk37 _ _ _ _ ((X0_takeBack_l12 g37 t x1 x2 x3 h).trans e))
noncomputable def X0_takeBack_f37 (c_X6_addRow : Nat → Int32 → Int32 → PH → Option Rs) (g12 : Nat → Nat → Nat → Int32 → PH → Option Rs) (g37 : Nat → Nat → Nat → Int32 → Nat → Int32 → PH → Option Rs) (t : Nat) (x1 : Nat) (x2 : Nat) (x3 : Int32) (x4 : Nat) (x5 : Int32) (h : PH) : Option Rs :=
  nn x2 fun r11 =>
  ix (x3 * 7) (hL h 13 r11) fun j12 =>
  if x5 < (hI h 832 r11 j12) then
    nn x2 fun r13 =>
    ix (((x3 * 7) + 1) + x5) (hL h 13 r13) fun j14 =>
    dv 8 <|
    dv 8 <|
    nn x4 fun r15 =>
    cV (c_X6_addRow r15 ((hI h 832 r13 j14) / 8) (jrem (hI h 832 r13 j14) 8) h) fun h16 =>
    g37 t x1 x2 x3 x4 (x5 + 1) h16
  else
    g12 t x1 x2 (x3 + 1) h
set_option maxRecDepth 100000 in
theorem X0_takeBack_l37 (c_X6_addRow : Nat → Int32 → Int32 → PH → Option Rs) (g12 : Nat → Nat → Nat → Int32 → PH → Option Rs) (g37 : Nat → Nat → Nat → Int32 → Nat → Int32 → PH → Option Rs) (t : Nat) (x1 : Nat) (x2 : Nat) (x3 : Int32) (x4 : Nat) (x5 : Int32) (h : PH) : X0_takeBack_b37 c_X6_addRow (X0_takeBack_u12 g12) (X0_takeBack_u37 g37) [some (.inr (0, t + 1)), some (.inr (1, x1)), some (.inr (13, x2)), some (.inl x3), some (.inr (5, x4)), some (.inl x5), none] [] h = X0_takeBack_f37 c_X6_addRow g12 g37 t x1 x2 x3 x4 x5 h := rfl
theorem X0_takeBack_m37 {c_X6_addRow : Nat → Int32 → Int32 → PH → Option Rs} {g12 G12 : Nat → Nat → Nat → Int32 → PH → Option Rs} {g37 G37 : Nat → Nat → Nat → Int32 → Nat → Int32 → PH → Option Rs} (hg12 : ∀ a0 a1 a2 a3 a4, Mo (g12 a0 a1 a2 a3 a4) (G12 a0 a1 a2 a3 a4)) (hg37 : ∀ a0 a1 a2 a3 a4 a5 a6, Mo (g37 a0 a1 a2 a3 a4 a5 a6) (G37 a0 a1 a2 a3 a4 a5 a6)) (t : Nat) (x1 : Nat) (x2 : Nat) (x3 : Int32) (x4 : Nat) (x5 : Int32) (h : PH) : Mo (X0_takeBack_f37 c_X6_addRow g12 g37 t x1 x2 x3 x4 x5 h) (X0_takeBack_f37 c_X6_addRow G12 G37 t x1 x2 x3 x4 x5 h) := (mo_nn fun r11 => (mo_ix fun j12 => (mo_if (mo_nn fun r13 => (mo_ix fun j14 => (mo_dv (mo_dv (mo_nn fun r15 => (mo_cV fun h16 => (hg37 t x1 x2 x3 x4 (x5 + 1) h16))))))) (hg12 t x1 x2 (x3 + 1) h))))
theorem X0_takeBack_w37 {z : CZ} {g12 : Nat → Nat → Nat → Int32 → PH → Option Rs} {g37 : Nat → Nat → Nat → Int32 → Nat → Int32 → PH → Option Rs} (hk12 : SK (X0_takeBack_x z) 12 (X0_takeBack_u12 g12)) (hk37 : SK (X0_takeBack_x z) 37 (X0_takeBack_u37 g37)) : SK (X0_takeBack_x z) 37 (X0_takeBack_u37 (X0_takeBack_f37 X6_addRow g12 g37)) := by
  intro ls st h r e
  obtain ⟨hst, e⟩ := gL_of e
  obtain ⟨t, q0, e⟩ := gT_of e
  obtain ⟨x1, q1, e⟩ := gR_of e
  obtain ⟨x2, q2, e⟩ := gR_of e
  obtain ⟨x3, q3, e⟩ := gI_of e
  obtain ⟨x4, q4, e⟩ := gR_of e
  obtain ⟨x5, q5, e⟩ := gI_of e
  rw [st_0 hst]
  exact WK.sub (canon := [some (.inr (0, t + 1)), some (.inr (1, x1)), some (.inr (13, x2)), some (.inl x3), some (.inr (5, x4)), some (.inl x5), none]) rfl ⟨q0, q1, q2, q3, q4, q5, trivial⟩ (X0_takeBack_s37 hk12 hk37 _ _ _ _ ((X0_takeBack_l37 X6_addRow g12 g37 t x1 x2 x3 x4 x5 h).trans e))
noncomputable def X0_takeBack_g0 (G : (Nat → Nat → Nat → Int32 → PH → Option Rs) × (Nat → Nat → Nat → Int32 → Nat → Int32 → PH → Option Rs)) (t : Nat) (x1 : Nat) (h : PH) : Option Rs := X0_takeBack_f0 (G).1 t x1 h
noncomputable def X0_takeBack_g12 (G : (Nat → Nat → Nat → Int32 → PH → Option Rs) × (Nat → Nat → Nat → Int32 → Nat → Int32 → PH → Option Rs)) (t : Nat) (x1 : Nat) (x2 : Nat) (x3 : Int32) (h : PH) : Option Rs := X0_takeBack_f12 (G).2 t x1 x2 x3 h
noncomputable def X0_takeBack_g37 (G : (Nat → Nat → Nat → Int32 → PH → Option Rs) × (Nat → Nat → Nat → Int32 → Nat → Int32 → PH → Option Rs)) (t : Nat) (x1 : Nat) (x2 : Nat) (x3 : Int32) (x4 : Nat) (x5 : Int32) (h : PH) : Option Rs := X0_takeBack_f37 X6_addRow (G).1 (G).2 t x1 x2 x3 x4 x5 h
theorem X0_takeBack_v12 {z : CZ} {G : (Nat → Nat → Nat → Int32 → PH → Option Rs) × (Nat → Nat → Nat → Int32 → Nat → Int32 → PH → Option Rs)} (hG12 : SK (X0_takeBack_x z) 12 (X0_takeBack_u12 (G).1)) (hG37 : SK (X0_takeBack_x z) 37 (X0_takeBack_u37 (G).2)) : SK (X0_takeBack_x z) 12 (X0_takeBack_u12 (X0_takeBack_g12 G)) := X0_takeBack_w12 hG37
theorem X0_takeBack_v37 {z : CZ} {G : (Nat → Nat → Nat → Int32 → PH → Option Rs) × (Nat → Nat → Nat → Int32 → Nat → Int32 → PH → Option Rs)} (hG12 : SK (X0_takeBack_x z) 12 (X0_takeBack_u12 (G).1)) (hG37 : SK (X0_takeBack_x z) 37 (X0_takeBack_u37 (G).2)) : SK (X0_takeBack_x z) 37 (X0_takeBack_u37 (X0_takeBack_g37 G)) := X0_takeBack_w37 hG12 hG37
noncomputable def X0_takeBack_fam : Nat → (Nat → Nat → Nat → Int32 → PH → Option Rs) × (Nat → Nat → Nat → Int32 → Nat → Int32 → PH → Option Rs)
  | 0 => (fun _ _ _ _ _ => none, fun _ _ _ _ _ _ _ => none)
  | n + 1 => (X0_takeBack_g12 (X0_takeBack_fam n), X0_takeBack_g37 (X0_takeBack_fam n))
theorem X0_takeBack_k {z : CZ} : ∀ n, SK (X0_takeBack_x z) 12 (X0_takeBack_u12 (X0_takeBack_fam n).1) ∧ SK (X0_takeBack_x z) 37 (X0_takeBack_u37 (X0_takeBack_fam n).2)
  | 0 => ⟨(fun ls st h r e => by
      obtain ⟨_, e⟩ := gL_of e
      obtain ⟨_, _, e⟩ := gT_of e
      obtain ⟨_, _, e⟩ := gR_of e
      obtain ⟨_, _, e⟩ := gR_of e
      obtain ⟨_, _, e⟩ := gI_of e
      cases e), (fun ls st h r e => by
      obtain ⟨_, e⟩ := gL_of e
      obtain ⟨_, _, e⟩ := gT_of e
      obtain ⟨_, _, e⟩ := gR_of e
      obtain ⟨_, _, e⟩ := gR_of e
      obtain ⟨_, _, e⟩ := gI_of e
      obtain ⟨_, _, e⟩ := gR_of e
      obtain ⟨_, _, e⟩ := gI_of e
      cases e)⟩
  | n + 1 => by
    obtain ⟨ih12, ih37⟩ := X0_takeBack_k n
    exact ⟨X0_takeBack_v12 ih12 ih37, X0_takeBack_v37 ih12 ih37⟩
theorem X0_takeBack_n0 {G G' : (Nat → Nat → Nat → Int32 → PH → Option Rs) × (Nat → Nat → Nat → Int32 → Nat → Int32 → PH → Option Rs)} (hg12 : ∀ a0 a1 a2 a3 a4, Mo ((G).1 a0 a1 a2 a3 a4) ((G').1 a0 a1 a2 a3 a4)) (hg37 : ∀ a0 a1 a2 a3 a4 a5 a6, Mo ((G).2 a0 a1 a2 a3 a4 a5 a6) ((G').2 a0 a1 a2 a3 a4 a5 a6)) (t : Nat) (x1 : Nat) (h : PH) : Mo (X0_takeBack_g0 G t x1 h) (X0_takeBack_g0 G' t x1 h) := X0_takeBack_m0 hg12 t x1 h
theorem X0_takeBack_n12 {G G' : (Nat → Nat → Nat → Int32 → PH → Option Rs) × (Nat → Nat → Nat → Int32 → Nat → Int32 → PH → Option Rs)} (hg12 : ∀ a0 a1 a2 a3 a4, Mo ((G).1 a0 a1 a2 a3 a4) ((G').1 a0 a1 a2 a3 a4)) (hg37 : ∀ a0 a1 a2 a3 a4 a5 a6, Mo ((G).2 a0 a1 a2 a3 a4 a5 a6) ((G').2 a0 a1 a2 a3 a4 a5 a6)) (t : Nat) (x1 : Nat) (x2 : Nat) (x3 : Int32) (h : PH) : Mo (X0_takeBack_g12 G t x1 x2 x3 h) (X0_takeBack_g12 G' t x1 x2 x3 h) := X0_takeBack_m12 hg37 t x1 x2 x3 h
theorem X0_takeBack_n37 {G G' : (Nat → Nat → Nat → Int32 → PH → Option Rs) × (Nat → Nat → Nat → Int32 → Nat → Int32 → PH → Option Rs)} (hg12 : ∀ a0 a1 a2 a3 a4, Mo ((G).1 a0 a1 a2 a3 a4) ((G').1 a0 a1 a2 a3 a4)) (hg37 : ∀ a0 a1 a2 a3 a4 a5 a6, Mo ((G).2 a0 a1 a2 a3 a4 a5 a6) ((G').2 a0 a1 a2 a3 a4 a5 a6)) (t : Nat) (x1 : Nat) (x2 : Nat) (x3 : Int32) (x4 : Nat) (x5 : Int32) (h : PH) : Mo (X0_takeBack_g37 G t x1 x2 x3 x4 x5 h) (X0_takeBack_g37 G' t x1 x2 x3 x4 x5 h) := X0_takeBack_m37 hg12 hg37 t x1 x2 x3 x4 x5 h
theorem X0_takeBack_fm : ∀ n, (∀ a0 a1 a2 a3 a4, Mo ((X0_takeBack_fam n).1 a0 a1 a2 a3 a4) ((X0_takeBack_fam (n + 1)).1 a0 a1 a2 a3 a4)) ∧ (∀ a0 a1 a2 a3 a4 a5 a6, Mo ((X0_takeBack_fam n).2 a0 a1 a2 a3 a4 a5 a6) ((X0_takeBack_fam (n + 1)).2 a0 a1 a2 a3 a4 a5 a6))
  | 0 => ⟨fun _ _ _ _ _ => mo_no, fun _ _ _ _ _ _ _ => mo_no⟩
  | n + 1 => by
    obtain ⟨ih12, ih37⟩ := X0_takeBack_fm n
    exact ⟨fun a0 a1 a2 a3 a4 => X0_takeBack_n12 ih12 ih37 a0 a1 a2 a3 a4, fun a0 a1 a2 a3 a4 a5 a6 => X0_takeBack_n37 ih12 ih37 a0 a1 a2 a3 a4 a5 a6⟩
noncomputable def X0_takeBack (t : Nat) (x1 : Nat) (h : PH) : Option Rs := lim (fun n => X0_takeBack_g0 (X0_takeBack_fam n) t x1 h)
theorem X0_takeBack_iff {t : Nat} {x1 : Nat} {h : PH} {r : Rs} : X0_takeBack t x1 h = some r ↔ ∃ n, X0_takeBack_g0 (X0_takeBack_fam n) t x1 h = some r := lim_iff (fun n => by
  obtain ⟨ih12, ih37⟩ := X0_takeBack_fm n
  exact X0_takeBack_n0 ih12 ih37 t x1 h)
noncomputable abbrev X0_takeBack_F : List PV → PH → Option Rs := FW_T0R1 (X0_takeBack)
set_option maxRecDepth 100000 in
theorem X0_takeBack_gd (l : Launch) : Gd l 1 yX0_takeBack cX0_takeBack 7 none (X0_takeBack_F)   := Gd_of (by decide +kernel) (fun z hzl as h r e => by
  obtain ⟨hst, e⟩ := gL_of e
  obtain ⟨t, q0, e⟩ := gT_of e
  obtain ⟨x1, q1, e⟩ := gR_of e
  rw [st_2 hst q0 q1]
  obtain ⟨n, e⟩ := lim_of e
  obtain ⟨hG12, hG37⟩ := X0_takeBack_k (z := z) n
  exact ⟨show 2 ≤ 7 by decide, X0_takeBack_s0 hG12 _ _ _ _ ((X0_takeBack_l0 (X0_takeBack_fam n).1 t x1 h).trans e)⟩)
abbrev X11_undo_x (z : CZ) : CX := mx RX11 cX11_undo 1 2 (some .int) "undo" z
noncomputable def X11_undo_b0 (c_X0_takeBack : Nat → Nat → PH → Option Rs) : Kn := (a_al 0 (a_gR 10 644 0 (a_gI 0 2 (a_z (a_ic (-1000000002) a_ir) (a_al 0 (a_gR 10 644 0 (a_al 0 (a_gR 10 640 1 (a_vV 0 1 (FW_T0R1 c_X0_takeBack) (a_al 0 (a_gR 10 644 0 (a_gI 0 2 a_ir))))))))))))
set_option maxRecDepth 100000 in
theorem X11_undo_s0 {z : CZ} : SK (X11_undo_x z) 0 (X11_undo_b0 X0_takeBack) := (s_aloadn (pc := 0) dX11_undo_0 rfl (s_gR (pc := 1) (f := 4) ko_10 (by decide) rfl rfl w_508 dX11_undo_1 (s_gI (pc := 4) (f := 2) ko_0 (by decide) rfl rfl w_398 dX11_undo_4 (s_ifne (pc := 7) dX11_undo_7 (by decide) (s_aloadn (pc := 13) dX11_undo_13 rfl (s_gR (pc := 14) (f := 4) ko_10 (by decide) rfl rfl w_508 dX11_undo_14 (s_aloadn (pc := 17) dX11_undo_17 rfl (s_gR (pc := 18) (f := 0) ko_10 (by decide) rfl rfl w_504 dX11_undo_18 (s_vV (pc := 21) (run_virtual (X0_takeBack_gd _) (show 1 < 2 by decide) cy_X0_takeBack (by decide) rfl w_713 w_714 w_712 dX11_undo_21) (s_aloadn (pc := 24) dX11_undo_24 rfl (s_gR (pc := 25) (f := 4) ko_10 (by decide) rfl rfl w_508 dX11_undo_25 (s_gI (pc := 28) (f := 2) ko_0 (by decide) rfl rfl w_398 dX11_undo_28 (s_ir (pc := 31) rfl dX11_undo_31))))))))) (s_ldc (pc := 10) w_563 dX11_undo_10 (s_ir (pc := 12) rfl dX11_undo_12))))))
noncomputable def X11_undo_f0 (c_X0_takeBack : Nat → Nat → PH → Option Rs) (t : Nat) (h : PH) : Option Rs :=
  nn (hR h 644 t 0) fun r1 =>
  if (hI h 2 r1 0) = 0 then
    some (some (.inl (-1000000002)), h)
  else
    nn (hR h 644 t 0) fun r2 =>
    cV (c_X0_takeBack r2 (hR h 640 t 0) h) fun h3 =>
    nn (hR h3 644 t 0) fun r4 =>
    some (some (.inl (hI h3 2 r4 0)), h3)
set_option maxRecDepth 100000 in
theorem X11_undo_l0 (c_X0_takeBack : Nat → Nat → PH → Option Rs) (t : Nat) (h : PH) : X11_undo_b0 c_X0_takeBack [some (.inr (10, t + 1))] [] h = X11_undo_f0 c_X0_takeBack t h := rfl
noncomputable def X11_undo_g0 (t : Nat) (h : PH) : Option Rs := X11_undo_f0 X0_takeBack t h
noncomputable def X11_undo (t : Nat) (h : PH) : Option Rs := X11_undo_g0 t h
noncomputable abbrev X11_undo_F : List PV → PH → Option Rs := FW_T10 (X11_undo)
set_option maxRecDepth 100000 in
theorem X11_undo_gd (l : Launch) : Gd l 2 yX11_undo cX11_undo 1 (some .int) (X11_undo_F)   := Gd_of (by decide +kernel) (fun z hzl as h r e => by
  obtain ⟨hst, e⟩ := gL_of e
  obtain ⟨t, q0, e⟩ := gT_of e
  rw [st_1 hst q0]
  exact ⟨show 1 ≤ 1 by decide, X11_undo_s0 _ _ _ _ ((X11_undo_l0 X0_takeBack t h).trans e)⟩)
abbrev X3_append_x (z : CZ) : CX := mx RX3 cX3_append 3 0 none "append" z
noncomputable def X3_append_b0 (k3 : Kn) : Kn := (a_ic 24 (a_is 2 k3))
set_option maxRecDepth 100000 in
theorem X3_append_s0 {z : CZ} {k3 : Kn} (hk3 : SK (X3_append_x z) 3 k3) : SK (X3_append_x z) 0 (X3_append_b0 k3) := (s_bipush (pc := 0) dX3_append_0 c_bp_24 (s_istoren (pc := 2) dX3_append_2 rfl (show 2 < 3 by decide) hk3))
noncomputable def X3_append_b3 (k3 : Kn) : Kn := (a_il 2 (a_n a_vr (a_al 0 (a_gI 2 129 (a_ic 96 (a_lt (a_al 0 (a_gR 2 128 22 (a_al 0 (a_gI 2 129 (a_il 1 (a_il 2 (a_b jshr (a_u jb (a_ast 22 1408 (vp_nar .byte) (a_al 0 (a_dup (a_gI 2 129 (a_ic 1 (a_b (fun a b => a + b) (a_pI 2 129 (a_inc 2 (-8) k3)))))))))))))))) a_vr))))))
set_option maxRecDepth 100000 in
theorem X3_append_s3 {z : CZ} {k3 : Kn} (hk3 : SK (X3_append_x z) 3 k3) : SK (X3_append_x z) 3 (X3_append_b3 k3) := (s_iloadn (pc := 3) dX3_append_3 rfl (s_iflt (pc := 4) dX3_append_4 (by decide) (s_vr (pc := 45) rfl dX3_append_45) (s_aloadn (pc := 7) dX3_append_7 rfl (s_gI (pc := 8) (f := 1) ko_2 (by decide) rfl rfl w_413 dX3_append_8 (s_bipush (pc := 11) dX3_append_11 c_bp_96 (s_cmpge (pc := 13) dX3_append_13 (by decide) (s_vr (pc := 45) rfl dX3_append_45) (s_aloadn (pc := 16) dX3_append_16 rfl (s_gR (pc := 17) (f := 0) ko_2 (by decide) rfl rfl w_412 dX3_append_17 (s_aloadn (pc := 20) dX3_append_20 rfl (s_gI (pc := 21) (f := 1) ko_2 (by decide) rfl rfl w_413 dX3_append_21 (s_iloadn (pc := 24) dX3_append_24 rfl (s_iloadn (pc := 25) dX3_append_25 rfl (s_ishr (pc := 26) dX3_append_26 (s_i2b (pc := 27) dX3_append_27 (s_bast (pc := 28) (by decide) (by decide) rfl rfl rfl dX3_append_28 (s_aloadn (pc := 29) dX3_append_29 rfl (s_dup (pc := 30) dX3_append_30 (s_gI (pc := 31) (f := 1) ko_2 (by decide) rfl rfl w_413 dX3_append_31 (s_iconst (pc := 34) dX3_append_34 c_ic_1 (s_iadd (pc := 35) dX3_append_35 (s_pI (pc := 36) (f := 1) ko_2 (by decide) rfl rfl rfl (by decide +kernel) w_413 dX3_append_36 (s_iinc (pc := 39) dX3_append_39 c_ic_m8 (show 2 < 3 by decide) (s_goto (pc := 42) dX3_append_42 (by decide) hk3)))))))))))))))))))))))
noncomputable def X3_append_u3 (g : Nat → Int32 → Int32 → PH → Option Rs) : Kn := fun ls st h => gL 0 st (gT 2 ls 0 fun t => gI ls 1 fun x1 => gI ls 2 fun x2 => g t x1 x2 h)
noncomputable def X3_append_f0 (g3 : Nat → Int32 → Int32 → PH → Option Rs) (t : Nat) (x1 : Int32) (h : PH) : Option Rs :=
  g3 t x1 24 h
set_option maxRecDepth 100000 in
theorem X3_append_l0 (g3 : Nat → Int32 → Int32 → PH → Option Rs) (t : Nat) (x1 : Int32) (h : PH) : X3_append_b0 (X3_append_u3 g3) [some (.inr (2, t + 1)), some (.inl x1), none] [] h = X3_append_f0 g3 t x1 h := rfl
theorem X3_append_m0 {g3 G3 : Nat → Int32 → Int32 → PH → Option Rs} (hg3 : ∀ a0 a1 a2 a3, Mo (g3 a0 a1 a2 a3) (G3 a0 a1 a2 a3)) (t : Nat) (x1 : Int32) (h : PH) : Mo (X3_append_f0 g3 t x1 h) (X3_append_f0 G3 t x1 h) := (hg3 t x1 24 h)
noncomputable def X3_append_f3 (g3 : Nat → Int32 → Int32 → PH → Option Rs) (t : Nat) (x1 : Int32) (x2 : Int32) (h : PH) : Option Rs :=
  if x2 < 0 then
    some (none, h)
  else
    if (hI h 129 t 0) < 96 then
      nn (hR h 128 t 0) fun r1 =>
      ix (hI h 129 t 0) (hL h 22 r1) fun j2 =>
      wr (pI h 1408 r1 j2 (vp_nar .byte (jb (jshr x1 x2)))) fun h3 =>
      wr (pI h3 129 t 0 ((hI h3 129 t 0) + 1)) fun h4 =>
      g3 t x1 (x2 + (-8)) h4
    else
      some (none, h)
set_option maxRecDepth 100000 in
theorem X3_append_l3 (g3 : Nat → Int32 → Int32 → PH → Option Rs) (t : Nat) (x1 : Int32) (x2 : Int32) (h : PH) : X3_append_b3 (X3_append_u3 g3) [some (.inr (2, t + 1)), some (.inl x1), some (.inl x2)] [] h = X3_append_f3 g3 t x1 x2 h := rfl
theorem X3_append_m3 {g3 G3 : Nat → Int32 → Int32 → PH → Option Rs} (hg3 : ∀ a0 a1 a2 a3, Mo (g3 a0 a1 a2 a3) (G3 a0 a1 a2 a3)) (t : Nat) (x1 : Int32) (x2 : Int32) (h : PH) : Mo (X3_append_f3 g3 t x1 x2 h) (X3_append_f3 G3 t x1 x2 h) := (mo_if mo_rf (mo_if (mo_nn fun r1 => (mo_ix fun j2 => (mo_wr fun h3 => (mo_wr fun h4 => (hg3 t x1 (x2 + (-8)) h4))))) mo_rf))
theorem X3_append_w3 {z : CZ} {g3 : Nat → Int32 → Int32 → PH → Option Rs} (hk3 : SK (X3_append_x z) 3 (X3_append_u3 g3)) : SK (X3_append_x z) 3 (X3_append_u3 (X3_append_f3 g3)) := by
  intro ls st h r e
  obtain ⟨hst, e⟩ := gL_of e
  obtain ⟨t, q0, e⟩ := gT_of e
  obtain ⟨x1, q1, e⟩ := gI_of e
  obtain ⟨x2, q2, e⟩ := gI_of e
  rw [st_0 hst]
  exact WK.sub (canon := [some (.inr (2, t + 1)), some (.inl x1), some (.inl x2)]) rfl ⟨q0, q1, q2, trivial⟩ (X3_append_s3 hk3 _ _ _ _ ((X3_append_l3 g3 t x1 x2 h).trans e))
noncomputable def X3_append_g0 (G : (Nat → Int32 → Int32 → PH → Option Rs)) (t : Nat) (x1 : Int32) (h : PH) : Option Rs := X3_append_f0 (G) t x1 h
noncomputable def X3_append_g3 (G : (Nat → Int32 → Int32 → PH → Option Rs)) (t : Nat) (x1 : Int32) (x2 : Int32) (h : PH) : Option Rs := X3_append_f3 (G) t x1 x2 h
theorem X3_append_v3 {z : CZ} {G : (Nat → Int32 → Int32 → PH → Option Rs)} (hG3 : SK (X3_append_x z) 3 (X3_append_u3 (G))) : SK (X3_append_x z) 3 (X3_append_u3 (X3_append_g3 G)) := X3_append_w3 hG3
noncomputable def X3_append_fam : Nat → (Nat → Int32 → Int32 → PH → Option Rs)
  | 0 => fun _ _ _ _ => none
  | n + 1 => X3_append_g3 (X3_append_fam n)
theorem X3_append_k {z : CZ} : ∀ n, SK (X3_append_x z) 3 (X3_append_u3 (X3_append_fam n))
  | 0 => (fun ls st h r e => by
      obtain ⟨_, e⟩ := gL_of e
      obtain ⟨_, _, e⟩ := gT_of e
      obtain ⟨_, _, e⟩ := gI_of e
      obtain ⟨_, _, e⟩ := gI_of e
      cases e)
  | n + 1 => by
    obtain ih3 := X3_append_k n
    exact X3_append_v3 ih3
theorem X3_append_n0 {G G' : (Nat → Int32 → Int32 → PH → Option Rs)} (hg3 : ∀ a0 a1 a2 a3, Mo ((G) a0 a1 a2 a3) ((G') a0 a1 a2 a3)) (t : Nat) (x1 : Int32) (h : PH) : Mo (X3_append_g0 G t x1 h) (X3_append_g0 G' t x1 h) := X3_append_m0 hg3 t x1 h
theorem X3_append_n3 {G G' : (Nat → Int32 → Int32 → PH → Option Rs)} (hg3 : ∀ a0 a1 a2 a3, Mo ((G) a0 a1 a2 a3) ((G') a0 a1 a2 a3)) (t : Nat) (x1 : Int32) (x2 : Int32) (h : PH) : Mo (X3_append_g3 G t x1 x2 h) (X3_append_g3 G' t x1 x2 h) := X3_append_m3 hg3 t x1 x2 h
theorem X3_append_fm : ∀ n, (∀ a0 a1 a2 a3, Mo ((X3_append_fam n) a0 a1 a2 a3) ((X3_append_fam (n + 1)) a0 a1 a2 a3))
  | 0 => fun _ _ _ _ => mo_no
  | n + 1 => by
    obtain ih3 := X3_append_fm n
    exact fun a0 a1 a2 a3 => X3_append_n3 ih3 a0 a1 a2 a3
noncomputable def X3_append (t : Nat) (x1 : Int32) (h : PH) : Option Rs := lim (fun n => X3_append_g0 (X3_append_fam n) t x1 h)
theorem X3_append_iff {t : Nat} {x1 : Int32} {h : PH} {r : Rs} : X3_append t x1 h = some r ↔ ∃ n, X3_append_g0 (X3_append_fam n) t x1 h = some r := lim_iff (fun n => by
  obtain ih3 := X3_append_fm n
  exact X3_append_n0 ih3 t x1 h)
noncomputable abbrev X3_append_F : List PV → PH → Option Rs := FW_T2I (X3_append)
set_option maxRecDepth 100000 in
theorem X3_append_gd (l : Launch) : Gd l 0 yX3_append cX3_append 3 none (X3_append_F)   := Gd_of (by decide +kernel) (fun z hzl as h r e => by
  obtain ⟨hst, e⟩ := gL_of e
  obtain ⟨t, q0, e⟩ := gT_of e
  obtain ⟨x1, q1, e⟩ := gI_of e
  rw [st_2 hst q0 q1]
  obtain ⟨n, e⟩ := lim_of e
  obtain hG3 := X3_append_k (z := z) n
  exact ⟨show 2 ≤ 3 by decide, X3_append_s0 hG3 _ _ _ _ ((X3_append_l0 (X3_append_fam n) t x1 h).trans e)⟩)
abbrev X11_feed_x (z : CZ) : CX := mx RX11 cX11_feed 4 1 (some .int) "feed" z
noncomputable def X11_feed_b0 (c_X3_append : Nat → Int32 → PH → Option Rs) : Kn := (a_al 0 (a_gR 10 645 2 (a_gI 2 129 (a_ic 12 (a_b (fun a b => a + b) (a_ic 96 (a_gt (a_ic (-1000000003) a_ir) (a_al 0 (a_gR 10 645 2 (a_il 1 (a_vV 2 1 (FW_T2I c_X3_append) (a_al 0 (a_gR 10 645 2 (a_il 2 (a_vV 2 1 (FW_T2I c_X3_append) (a_al 0 (a_gR 10 645 2 (a_il 3 (a_vV 2 1 (FW_T2I c_X3_append) (a_al 0 (a_gR 10 645 2 (a_gI 2 129 a_ir))))))))))))))))))))))
set_option maxRecDepth 100000 in
theorem X11_feed_s0 {z : CZ} : SK (X11_feed_x z) 0 (X11_feed_b0 X3_append) := (s_aloadn (pc := 0) dX11_feed_0 rfl (s_gR (pc := 1) (f := 5) ko_10 (by decide) rfl rfl w_509 dX11_feed_1 (s_gI (pc := 4) (f := 1) ko_2 (by decide) rfl rfl w_414 dX11_feed_4 (s_bipush (pc := 7) dX11_feed_7 c_bp_12 (s_iadd (pc := 9) dX11_feed_9 (s_bipush (pc := 10) dX11_feed_10 c_bp_96 (s_cmple (pc := 12) dX11_feed_12 (by decide) (s_aloadn (pc := 18) dX11_feed_18 rfl (s_gR (pc := 19) (f := 5) ko_10 (by decide) rfl rfl w_509 dX11_feed_19 (s_iloadn (pc := 22) dX11_feed_22 rfl (s_vV (pc := 23) (run_virtual (X3_append_gd _) (show 0 < 1 by decide) cy_X3_append (by decide) rfl w_722 w_723 w_721 dX11_feed_23) (s_aloadn (pc := 26) dX11_feed_26 rfl (s_gR (pc := 27) (f := 5) ko_10 (by decide) rfl rfl w_509 dX11_feed_27 (s_iloadn (pc := 30) dX11_feed_30 rfl (s_vV (pc := 31) (run_virtual (X3_append_gd _) (show 0 < 1 by decide) cy_X3_append (by decide) rfl w_722 w_723 w_721 dX11_feed_31) (s_aloadn (pc := 34) dX11_feed_34 rfl (s_gR (pc := 35) (f := 5) ko_10 (by decide) rfl rfl w_509 dX11_feed_35 (s_iloadn (pc := 38) dX11_feed_38 rfl (s_vV (pc := 39) (run_virtual (X3_append_gd _) (show 0 < 1 by decide) cy_X3_append (by decide) rfl w_722 w_723 w_721 dX11_feed_39) (s_aloadn (pc := 42) dX11_feed_42 rfl (s_gR (pc := 43) (f := 5) ko_10 (by decide) rfl rfl w_509 dX11_feed_43 (s_gI (pc := 46) (f := 1) ko_2 (by decide) rfl rfl w_414 dX11_feed_46 (s_ir (pc := 49) rfl dX11_feed_49)))))))))))))))) (s_ldc (pc := 15) w_539 dX11_feed_15 (s_ir (pc := 17) rfl dX11_feed_17)))))))))
noncomputable def X11_feed_f0 (c_X3_append : Nat → Int32 → PH → Option Rs) (t : Nat) (x1 : Int32) (x2 : Int32) (x3 : Int32) (h : PH) : Option Rs :=
  nn (hR h 645 t 0) fun r1 =>
  if 96 < ((hI h 129 r1 0) + 12) then
    some (some (.inl (-1000000003)), h)
  else
    nn (hR h 645 t 0) fun r2 =>
    cV (c_X3_append r2 x1 h) fun h3 =>
    nn (hR h3 645 t 0) fun r4 =>
    cV (c_X3_append r4 x2 h3) fun h5 =>
    nn (hR h5 645 t 0) fun r6 =>
    cV (c_X3_append r6 x3 h5) fun h7 =>
    nn (hR h7 645 t 0) fun r8 =>
    some (some (.inl (hI h7 129 r8 0)), h7)
set_option maxRecDepth 100000 in
theorem X11_feed_l0 (c_X3_append : Nat → Int32 → PH → Option Rs) (t : Nat) (x1 : Int32) (x2 : Int32) (x3 : Int32) (h : PH) : X11_feed_b0 c_X3_append [some (.inr (10, t + 1)), some (.inl x1), some (.inl x2), some (.inl x3)] [] h = X11_feed_f0 c_X3_append t x1 x2 x3 h := rfl
noncomputable def X11_feed_g0 (t : Nat) (x1 : Int32) (x2 : Int32) (x3 : Int32) (h : PH) : Option Rs := X11_feed_f0 X3_append t x1 x2 x3 h
noncomputable def X11_feed (t : Nat) (x1 : Int32) (x2 : Int32) (x3 : Int32) (h : PH) : Option Rs := X11_feed_g0 t x1 x2 x3 h
noncomputable abbrev X11_feed_F : List PV → PH → Option Rs := FW_T10III (X11_feed)
set_option maxRecDepth 100000 in
theorem X11_feed_gd (l : Launch) : Gd l 1 yX11_feed cX11_feed 4 (some .int) (X11_feed_F)   := Gd_of (by decide +kernel) (fun z hzl as h r e => by
  obtain ⟨hst, e⟩ := gL_of e
  obtain ⟨t, q0, e⟩ := gT_of e
  obtain ⟨x1, q1, e⟩ := gI_of e
  obtain ⟨x2, q2, e⟩ := gI_of e
  obtain ⟨x3, q3, e⟩ := gI_of e
  rw [st_4 hst q0 q1 q2 q3]
  exact ⟨show 4 ≤ 4 by decide, X11_feed_s0 _ _ _ _ ((X11_feed_l0 X3_append t x1 x2 x3 h).trans e)⟩)
abbrev X11_trim_x (z : CZ) : CX := mx RX11 cX11_trim 2 0 (some .int) "trim" z
noncomputable def X11_trim_b0 : Kn := (a_il 1 (a_n (a_ic (-1000000001) a_ir) (a_il 1 (a_al 0 (a_gR 10 645 2 (a_gI 2 129 (a_gt (a_ic (-1000000001) a_ir) (a_al 0 (a_gR 10 645 2 (a_il 1 (a_pI 2 129 (a_il 1 a_ir))))))))))))
set_option maxRecDepth 100000 in
theorem X11_trim_s0 {z : CZ} : SK (X11_trim_x z) 0 (X11_trim_b0) := (s_iloadn (pc := 0) dX11_trim_0 rfl (s_iflt (pc := 1) dX11_trim_1 (by decide) (s_ldc (pc := 15) w_551 dX11_trim_15 (s_ir (pc := 17) rfl dX11_trim_17)) (s_iloadn (pc := 4) dX11_trim_4 rfl (s_aloadn (pc := 5) dX11_trim_5 rfl (s_gR (pc := 6) (f := 5) ko_10 (by decide) rfl rfl w_509 dX11_trim_6 (s_gI (pc := 9) (f := 1) ko_2 (by decide) rfl rfl w_414 dX11_trim_9 (s_cmple (pc := 12) dX11_trim_12 (by decide) (s_aloadn (pc := 18) dX11_trim_18 rfl (s_gR (pc := 19) (f := 5) ko_10 (by decide) rfl rfl w_509 dX11_trim_19 (s_iloadn (pc := 22) dX11_trim_22 rfl (s_pI (pc := 23) (f := 1) ko_2 (by decide) rfl rfl rfl (by decide +kernel) w_414 dX11_trim_23 (s_iloadn (pc := 26) dX11_trim_26 rfl (s_ir (pc := 27) rfl dX11_trim_27)))))) (s_ldc (pc := 15) w_551 dX11_trim_15 (s_ir (pc := 17) rfl dX11_trim_17)))))))))
noncomputable def X11_trim_f0 (t : Nat) (x1 : Int32) (h : PH) : Option Rs :=
  if x1 < 0 then
    some (some (.inl (-1000000001)), h)
  else
    nn (hR h 645 t 0) fun r1 =>
    if (hI h 129 r1 0) < x1 then
      some (some (.inl (-1000000001)), h)
    else
      nn (hR h 645 t 0) fun r2 =>
      wr (pI h 129 r2 0 x1) fun h3 =>
      some (some (.inl x1), h3)
set_option maxRecDepth 100000 in
theorem X11_trim_l0 (t : Nat) (x1 : Int32) (h : PH) : X11_trim_b0 [some (.inr (10, t + 1)), some (.inl x1)] [] h = X11_trim_f0 t x1 h := rfl
noncomputable def X11_trim_g0 (t : Nat) (x1 : Int32) (h : PH) : Option Rs := X11_trim_f0 t x1 h
noncomputable def X11_trim (t : Nat) (x1 : Int32) (h : PH) : Option Rs := X11_trim_g0 t x1 h
noncomputable abbrev X11_trim_F : List PV → PH → Option Rs := FW_T10I (X11_trim)
set_option maxRecDepth 100000 in
theorem X11_trim_gd (l : Launch) : Gd l 0 yX11_trim cX11_trim 2 (some .int) (X11_trim_F)   := Gd_of (by decide +kernel) (fun z hzl as h r e => by
  obtain ⟨hst, e⟩ := gL_of e
  obtain ⟨t, q0, e⟩ := gT_of e
  obtain ⟨x1, q1, e⟩ := gI_of e
  rw [st_2 hst q0 q1]
  exact ⟨show 2 ≤ 2 by decide, X11_trim_s0 _ _ _ _ ((X11_trim_l0 t x1 h).trans e)⟩)
abbrev X3_isLetter_x (z : CZ) : CX := mx RX3 cX3_isLetter 2 0 (some .boolean) "isLetter" z
noncomputable def X3_isLetter_b0 : Kn := (a_il 1 (a_al 0 (a_gI 2 129 (a_lt (a_al 0 (a_gR 2 128 22 (a_il 1 (a_ald 22 1408 (a_ic 97 (a_lt (a_ic 0 a_zr) (a_al 0 (a_gR 2 128 22 (a_il 1 (a_ald 22 1408 (a_ic 122 (a_gt (a_ic 0 a_zr) (a_ic 1 a_zr))))))))))))) (a_ic 0 a_zr)))))
set_option maxRecDepth 100000 in
theorem X3_isLetter_s0 {z : CZ} : SK (X3_isLetter_x z) 0 (X3_isLetter_b0) := (s_iloadn (pc := 0) dX3_isLetter_0 rfl (s_aloadn (pc := 1) dX3_isLetter_1 rfl (s_gI (pc := 2) (f := 1) ko_2 (by decide) rfl rfl w_413 dX3_isLetter_2 (s_cmpge (pc := 5) dX3_isLetter_5 (by decide) (s_iconst (pc := 34) dX3_isLetter_34 c_ic_0 (s_zr (pc := 35) rfl dX3_isLetter_35)) (s_aloadn (pc := 8) dX3_isLetter_8 rfl (s_gR (pc := 9) (f := 0) ko_2 (by decide) rfl rfl w_412 dX3_isLetter_9 (s_iloadn (pc := 12) dX3_isLetter_12 rfl (s_bald (pc := 13) (by decide) (by decide) rfl rfl rfl dX3_isLetter_13 (s_bipush (pc := 14) dX3_isLetter_14 c_bp_97 (s_cmplt (pc := 16) dX3_isLetter_16 (by decide) (s_iconst (pc := 34) dX3_isLetter_34 c_ic_0 (s_zr (pc := 35) rfl dX3_isLetter_35)) (s_aloadn (pc := 19) dX3_isLetter_19 rfl (s_gR (pc := 20) (f := 0) ko_2 (by decide) rfl rfl w_412 dX3_isLetter_20 (s_iloadn (pc := 23) dX3_isLetter_23 rfl (s_bald (pc := 24) (by decide) (by decide) rfl rfl rfl dX3_isLetter_24 (s_bipush (pc := 25) dX3_isLetter_25 c_bp_122 (s_cmpgt (pc := 27) dX3_isLetter_27 (by decide) (s_iconst (pc := 34) dX3_isLetter_34 c_ic_0 (s_zr (pc := 35) rfl dX3_isLetter_35)) (s_iconst (pc := 30) dX3_isLetter_30 c_ic_1 (s_goto (pc := 31) dX3_isLetter_31 (by decide) (s_zr (pc := 35) rfl dX3_isLetter_35)))))))))))))))))))
noncomputable def X3_isLetter_f0 (t : Nat) (x1 : Int32) (h : PH) : Option Rs :=
  if x1 < (hI h 129 t 0) then
    nn (hR h 128 t 0) fun r1 =>
    ix x1 (hL h 22 r1) fun j2 =>
    if (hI h 1408 r1 j2) < 97 then
      bz 0 <|
      some (some (.inl 0), h)
    else
      nn (hR h 128 t 0) fun r3 =>
      ix x1 (hL h 22 r3) fun j4 =>
      if 122 < (hI h 1408 r3 j4) then
        bz 0 <|
        some (some (.inl 0), h)
      else
        bz 1 <|
        some (some (.inl 1), h)
  else
    bz 0 <|
    some (some (.inl 0), h)
set_option maxRecDepth 100000 in
theorem X3_isLetter_l0 (t : Nat) (x1 : Int32) (h : PH) : X3_isLetter_b0 [some (.inr (2, t + 1)), some (.inl x1)] [] h = X3_isLetter_f0 t x1 h := rfl
noncomputable def X3_isLetter_g0 (t : Nat) (x1 : Int32) (h : PH) : Option Rs := X3_isLetter_f0 t x1 h
noncomputable def X3_isLetter (t : Nat) (x1 : Int32) (h : PH) : Option Rs := X3_isLetter_g0 t x1 h
noncomputable abbrev X3_isLetter_F : List PV → PH → Option Rs := FW_T2I (X3_isLetter)
set_option maxRecDepth 100000 in
theorem X3_isLetter_gd (l : Launch) : Gd l 0 yX3_isLetter cX3_isLetter 2 (some .boolean) (X3_isLetter_F)   := Gd_of (by decide +kernel) (fun z hzl as h r e => by
  obtain ⟨hst, e⟩ := gL_of e
  obtain ⟨t, q0, e⟩ := gT_of e
  obtain ⟨x1, q1, e⟩ := gI_of e
  rw [st_2 hst q0 q1]
  exact ⟨show 2 ≤ 2 by decide, X3_isLetter_s0 _ _ _ _ ((X3_isLetter_l0 t x1 h).trans e)⟩)
abbrev X3_isDigit_x (z : CZ) : CX := mx RX3 cX3_isDigit 2 0 (some .boolean) "isDigit" z
noncomputable def X3_isDigit_b0 : Kn := (a_il 1 (a_al 0 (a_gI 2 129 (a_lt (a_al 0 (a_gR 2 128 22 (a_il 1 (a_ald 22 1408 (a_ic 48 (a_lt (a_ic 0 a_zr) (a_al 0 (a_gR 2 128 22 (a_il 1 (a_ald 22 1408 (a_ic 57 (a_gt (a_ic 0 a_zr) (a_ic 1 a_zr))))))))))))) (a_ic 0 a_zr)))))
set_option maxRecDepth 100000 in
theorem X3_isDigit_s0 {z : CZ} : SK (X3_isDigit_x z) 0 (X3_isDigit_b0) := (s_iloadn (pc := 0) dX3_isDigit_0 rfl (s_aloadn (pc := 1) dX3_isDigit_1 rfl (s_gI (pc := 2) (f := 1) ko_2 (by decide) rfl rfl w_413 dX3_isDigit_2 (s_cmpge (pc := 5) dX3_isDigit_5 (by decide) (s_iconst (pc := 34) dX3_isDigit_34 c_ic_0 (s_zr (pc := 35) rfl dX3_isDigit_35)) (s_aloadn (pc := 8) dX3_isDigit_8 rfl (s_gR (pc := 9) (f := 0) ko_2 (by decide) rfl rfl w_412 dX3_isDigit_9 (s_iloadn (pc := 12) dX3_isDigit_12 rfl (s_bald (pc := 13) (by decide) (by decide) rfl rfl rfl dX3_isDigit_13 (s_bipush (pc := 14) dX3_isDigit_14 c_bp_48 (s_cmplt (pc := 16) dX3_isDigit_16 (by decide) (s_iconst (pc := 34) dX3_isDigit_34 c_ic_0 (s_zr (pc := 35) rfl dX3_isDigit_35)) (s_aloadn (pc := 19) dX3_isDigit_19 rfl (s_gR (pc := 20) (f := 0) ko_2 (by decide) rfl rfl w_412 dX3_isDigit_20 (s_iloadn (pc := 23) dX3_isDigit_23 rfl (s_bald (pc := 24) (by decide) (by decide) rfl rfl rfl dX3_isDigit_24 (s_bipush (pc := 25) dX3_isDigit_25 c_bp_57 (s_cmpgt (pc := 27) dX3_isDigit_27 (by decide) (s_iconst (pc := 34) dX3_isDigit_34 c_ic_0 (s_zr (pc := 35) rfl dX3_isDigit_35)) (s_iconst (pc := 30) dX3_isDigit_30 c_ic_1 (s_goto (pc := 31) dX3_isDigit_31 (by decide) (s_zr (pc := 35) rfl dX3_isDigit_35)))))))))))))))))))
noncomputable def X3_isDigit_f0 (t : Nat) (x1 : Int32) (h : PH) : Option Rs :=
  if x1 < (hI h 129 t 0) then
    nn (hR h 128 t 0) fun r1 =>
    ix x1 (hL h 22 r1) fun j2 =>
    if (hI h 1408 r1 j2) < 48 then
      bz 0 <|
      some (some (.inl 0), h)
    else
      nn (hR h 128 t 0) fun r3 =>
      ix x1 (hL h 22 r3) fun j4 =>
      if 57 < (hI h 1408 r3 j4) then
        bz 0 <|
        some (some (.inl 0), h)
      else
        bz 1 <|
        some (some (.inl 1), h)
  else
    bz 0 <|
    some (some (.inl 0), h)
set_option maxRecDepth 100000 in
theorem X3_isDigit_l0 (t : Nat) (x1 : Int32) (h : PH) : X3_isDigit_b0 [some (.inr (2, t + 1)), some (.inl x1)] [] h = X3_isDigit_f0 t x1 h := rfl
noncomputable def X3_isDigit_g0 (t : Nat) (x1 : Int32) (h : PH) : Option Rs := X3_isDigit_f0 t x1 h
noncomputable def X3_isDigit (t : Nat) (x1 : Int32) (h : PH) : Option Rs := X3_isDigit_g0 t x1 h
noncomputable abbrev X3_isDigit_F : List PV → PH → Option Rs := FW_T2I (X3_isDigit)
set_option maxRecDepth 100000 in
theorem X3_isDigit_gd (l : Launch) : Gd l 0 yX3_isDigit cX3_isDigit 2 (some .boolean) (X3_isDigit_F)   := Gd_of (by decide +kernel) (fun z hzl as h r e => by
  obtain ⟨hst, e⟩ := gL_of e
  obtain ⟨t, q0, e⟩ := gT_of e
  obtain ⟨x1, q1, e⟩ := gI_of e
  rw [st_2 hst q0 q1]
  exact ⟨show 2 ≤ 2 by decide, X3_isDigit_s0 _ _ _ _ ((X3_isDigit_l0 t x1 h).trans e)⟩)
