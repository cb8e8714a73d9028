abbrev X4_shorten_x (z : CZ) : CX := mx RX4 cX4_shorten 5 1 (some .boolean) "shorten" z
noncomputable def X4_shorten_b0 (k4 : Kn) : Kn := (a_ic 0 (a_is 2 (a_ic 0 (a_is 3 k4))))
set_option maxRecDepth 100000 in
theorem X4_shorten_s0 {z : CZ} {k4 : Kn} (hk4 : SK (X4_shorten_x z) 4 k4) : SK (X4_shorten_x z) 0 (X4_shorten_b0 k4) := (s_iconst (pc := 0) dX4_shorten_0 c_ic_0 (s_istoren (pc := 1) dX4_shorten_1 rfl (show 2 < 5 by decide) (s_iconst (pc := 2) dX4_shorten_2 c_ic_0 (s_istoren (pc := 3) dX4_shorten_3 rfl (show 3 < 5 by decide) hk4))))
noncomputable def X4_shorten_b4 (c_X4_shortenOne : Nat → Int32 → Int32 → Int32 → PH → Option Rs) (k66 k103 : Kn) : Kn := (a_il 3 (a_al 0 (a_gR 3 193 1 (a_gI 1 73 (a_lt (a_al 0 (a_gR 3 193 1 (a_gR 1 64 14 (a_il 3 (a_rald 14 896 9 (a_as 4 (a_al 0 (a_gR 3 194 24 (a_il 3 (a_ald 24 1536 (a_z k66 (a_al 0 (a_il 1 (a_al 4 (a_gI 9 576 (a_b (fun a b => a + b) (a_il 1 (a_al 4 (a_gI 9 577 (a_b (fun a b => a + b) (a_al 4 (a_gI 9 580 (a_vI 3 3 (FW_T3III c_X4_shortenOne) (a_z k66 (a_ic 1 (a_is 2 k103)))))))))))))))))))))))))) (a_il 2 a_zr))))))
set_option maxRecDepth 100000 in
theorem X4_shorten_s4 {z : CZ} {k66 k103 : Kn} (hk66 : SK (X4_shorten_x z) 66 k66) (hk103 : SK (X4_shorten_x z) 103 k103) : SK (X4_shorten_x z) 4 (X4_shorten_b4 X4_shortenOne k66 k103) := (s_iloadn (pc := 4) dX4_shorten_4 rfl (s_aloadn (pc := 5) dX4_shorten_5 rfl (s_gR (pc := 6) (f := 1) ko_3 (by decide) rfl rfl w_313 dX4_shorten_6 (s_gI (pc := 9) (f := 9) ko_1 (by decide) rfl rfl w_245 dX4_shorten_9 (s_cmpge (pc := 12) dX4_shorten_12 (by decide) (s_iloadn (pc := 109) dX4_shorten_109 rfl (s_zr (pc := 110) rfl dX4_shorten_110)) (s_aloadn (pc := 15) dX4_shorten_15 rfl (s_gR (pc := 16) (f := 1) ko_3 (by decide) rfl rfl w_313 dX4_shorten_16 (s_gR (pc := 19) (f := 0) ko_1 (by decide) rfl rfl w_214 dX4_shorten_19 (s_iloadn (pc := 22) dX4_shorten_22 rfl (s_rald (pc := 23) (by decide) (by decide) rfl rfl rfl dX4_shorten_23 (s_astore (pc := 24) dX4_shorten_24 (show 4 < 5 by decide) (s_aloadn (pc := 26) dX4_shorten_26 rfl (s_gR (pc := 27) (f := 2) ko_3 (by decide) rfl rfl w_315 dX4_shorten_27 (s_iloadn (pc := 30) dX4_shorten_30 rfl (s_zald (pc := 31) (by decide) (by decide) rfl rfl rfl dX4_shorten_31 (s_ifeq (pc := 32) dX4_shorten_32 (by decide) hk66 (s_aloadn (pc := 35) dX4_shorten_35 rfl (s_iloadn (pc := 36) dX4_shorten_36 rfl (s_aload (pc := 37) dX4_shorten_37 (s_gI (pc := 39) (f := 0) ko_9 (by decide) rfl rfl w_128 dX4_shorten_39 (s_iadd (pc := 42) dX4_shorten_42 (s_iloadn (pc := 43) dX4_shorten_43 rfl (s_aload (pc := 44) dX4_shorten_44 (s_gI (pc := 46) (f := 1) ko_9 (by decide) rfl rfl w_132 dX4_shorten_46 (s_iadd (pc := 49) dX4_shorten_49 (s_aload (pc := 50) dX4_shorten_50 (s_gI (pc := 52) (f := 4) ko_9 (by decide) rfl rfl w_143 dX4_shorten_52 (s_vI (pc := 55) (run_virtual (X4_shortenOne_gd _) (show 0 < 1 by decide) cy_X4_shortenOne (by decide) rfl w_1034 w_s22 w_1032 dX4_shorten_55) (s_ifeq (pc := 58) dX4_shorten_58 (by decide) hk66 (s_iconst (pc := 61) dX4_shorten_61 c_ic_1 (s_istoren (pc := 62) dX4_shorten_62 rfl (show 2 < 5 by decide) (s_goto (pc := 63) dX4_shorten_63 (by decide) hk103))))))))))))))))))))))))))))))))
noncomputable def X4_shorten_b66 (c_X4_shortenOne : Nat → Int32 → Int32 → Int32 → PH → Option Rs) (k103 : Kn) : Kn := (a_al 0 (a_gR 3 194 24 (a_il 3 (a_ald 24 1536 (a_z k103 (a_al 0 (a_il 1 (a_al 4 (a_gI 9 577 (a_b (fun a b => a + b) (a_il 1 (a_al 4 (a_gI 9 576 (a_b (fun a b => a + b) (a_al 4 (a_gI 9 580 (a_vI 3 3 (FW_T3III c_X4_shortenOne) (a_z k103 (a_ic 1 (a_is 2 k103))))))))))))))))))))
set_option maxRecDepth 100000 in
theorem X4_shorten_s66 {z : CZ} {k103 : Kn} (hk103 : SK (X4_shorten_x z) 103 k103) : SK (X4_shorten_x z) 66 (X4_shorten_b66 X4_shortenOne k103) := (s_aloadn (pc := 66) dX4_shorten_66 rfl (s_gR (pc := 67) (f := 2) ko_3 (by decide) rfl rfl w_315 dX4_shorten_67 (s_iloadn (pc := 70) dX4_shorten_70 rfl (s_zald (pc := 71) (by decide) (by decide) rfl rfl rfl dX4_shorten_71 (s_ifeq (pc := 72) dX4_shorten_72 (by decide) hk103 (s_aloadn (pc := 75) dX4_shorten_75 rfl (s_iloadn (pc := 76) dX4_shorten_76 rfl (s_aload (pc := 77) dX4_shorten_77 (s_gI (pc := 79) (f := 1) ko_9 (by decide) rfl rfl w_132 dX4_shorten_79 (s_iadd (pc := 82) dX4_shorten_82 (s_iloadn (pc := 83) dX4_shorten_83 rfl (s_aload (pc := 84) dX4_shorten_84 (s_gI (pc := 86) (f := 0) ko_9 (by decide) rfl rfl w_128 dX4_shorten_86 (s_iadd (pc := 89) dX4_shorten_89 (s_aload (pc := 90) dX4_shorten_90 (s_gI (pc := 92) (f := 4) ko_9 (by decide) rfl rfl w_143 dX4_shorten_92 (s_vI (pc := 95) (run_virtual (X4_shortenOne_gd _) (show 0 < 1 by decide) cy_X4_shortenOne (by decide) rfl w_1034 w_s22 w_1032 dX4_shorten_95) (s_ifeq (pc := 98) dX4_shorten_98 (by decide) hk103 (s_iconst (pc := 101) dX4_shorten_101 c_ic_1 (s_istoren (pc := 102) dX4_shorten_102 rfl (show 2 < 5 by decide) hk103))))))))))))))))))))
noncomputable def X4_shorten_b103 (k4 : Kn) : Kn := (a_inc 3 1 k4)
set_option maxRecDepth 100000 in
theorem X4_shorten_s103 {z : CZ} {k4 : Kn} (hk4 : SK (X4_shorten_x z) 4 k4) : SK (X4_shorten_x z) 103 (X4_shorten_b103 k4) := (s_iinc (pc := 103) dX4_shorten_103 c_ic_1 (show 3 < 5 by decide) (s_goto (pc := 106) dX4_shorten_106 (by decide) hk4))
noncomputable def X4_shorten_u4 (g : Nat → Int32 → Int32 → Int32 → PH → Option Rs) : Kn := fun ls st h => gL 0 st (gT 3 ls 0 fun t => gI ls 1 fun x1 => gI ls 2 fun x2 => gI ls 3 fun x3 => g t x1 x2 x3 h)
noncomputable def X4_shorten_u66 (g : Nat → Int32 → Int32 → Int32 → Nat → PH → Option Rs) : Kn := fun ls st h => gL 0 st (gT 3 ls 0 fun t => gI ls 1 fun x1 => gI ls 2 fun x2 => gI ls 3 fun x3 => gR 9 ls 4 fun x4 => g t x1 x2 x3 x4 h)
noncomputable def X4_shorten_u103 (g : Nat → Int32 → Int32 → Int32 → PH → Option Rs) : Kn := fun ls st h => gL 0 st (gT 3 ls 0 fun t => gI ls 1 fun x1 => gI ls 2 fun x2 => gI ls 3 fun x3 => g t x1 x2 x3 h)
noncomputable def X4_shorten_f0 (g4 : Nat → Int32 → Int32 → Int32 → PH → Option Rs) (t : Nat) (x1 : Int32) (h : PH) : Option Rs :=
  g4 t x1 0 0 h
set_option maxRecDepth 100000 in
theorem X4_shorten_l0 (g4 : Nat → Int32 → Int32 → Int32 → PH → Option Rs) (t : Nat) (x1 : Int32) (h : PH) : X4_shorten_b0 (X4_shorten_u4 g4) [some (.inr (3, t + 1)), some (.inl x1), none, none, none] [] h = X4_shorten_f0 g4 t x1 h := rfl
theorem X4_shorten_m0 {g4 G4 : Nat → Int32 → Int32 → Int32 → PH → Option Rs} (hg4 : ∀ a0 a1 a2 a3 a4, Mo (g4 a0 a1 a2 a3 a4) (G4 a0 a1 a2 a3 a4)) (t : Nat) (x1 : Int32) (h : PH) : Mo (X4_shorten_f0 g4 t x1 h) (X4_shorten_f0 G4 t x1 h) := (hg4 t x1 0 0 h)
noncomputable def X4_shorten_f4 (c_X4_shortenOne : Nat → Int32 → Int32 → Int32 → PH → Option Rs) (g66 : Nat → Int32 → Int32 → Int32 → Nat → PH → Option Rs) (g103 : Nat → Int32 → Int32 → Int32 → PH → Option Rs) (t : Nat) (x1 : Int32) (x2 : Int32) (x3 : Int32) (h : PH) : Option Rs :=
  nn (hR h 193 t 0) fun r1 =>
  if x3 < (hI h 73 r1 0) then
    nn (hR h 193 t 0) fun r2 =>
    nn (hR h 64 r2 0) fun r3 =>
    ix x3 (hL h 14 r3) fun j4 =>
    nn (hR h 194 t 0) fun r5 =>
    ix x3 (hL h 24 r5) fun j6 =>
    if (hI h 1536 r5 j6) = 0 then
      g66 t x1 x2 x3 (hR h 896 r3 j4) h
    else
      nn (hR h 896 r3 j4) fun r7 =>
      nn (hR h 896 r3 j4) fun r8 =>
      nn (hR h 896 r3 j4) fun r9 =>
      cI (c_X4_shortenOne t (x1 + (hI h 576 r7 0)) (x1 + (hI h 577 r8 0)) (hI h 580 r9 0) h) fun v11 h10 =>
      if v11 = 0 then
        g66 t x1 x2 x3 (hR h 896 r3 j4) h10
      else
        g103 t x1 1 x3 h10
  else
    bz x2 <|
    some (some (.inl x2), h)
set_option maxRecDepth 100000 in
theorem X4_shorten_l4 (c_X4_shortenOne : Nat → Int32 → Int32 → Int32 → PH → Option Rs) (g66 : Nat → Int32 → Int32 → Int32 → Nat → PH → Option Rs) (g103 : Nat → Int32 → Int32 → Int32 → PH → Option Rs) (t : Nat) (x1 : Int32) (x2 : Int32) (x3 : Int32) (h : PH) : X4_shorten_b4 c_X4_shortenOne (X4_shorten_u66 g66) (X4_shorten_u103 g103) [some (.inr (3, t + 1)), some (.inl x1), some (.inl x2), some (.inl x3), none] [] h = X4_shorten_f4 c_X4_shortenOne g66 g103 t x1 x2 x3 h := rfl
theorem X4_shorten_m4 {c_X4_shortenOne : Nat → Int32 → Int32 → Int32 → PH → Option Rs} {g66 G66 : Nat → Int32 → Int32 → Int32 → Nat → PH → Option Rs} {g103 G103 : Nat → Int32 → Int32 → Int32 → PH → Option Rs} (hg66 : ∀ a0 a1 a2 a3 a4 a5, Mo (g66 a0 a1 a2 a3 a4 a5) (G66 a0 a1 a2 a3 a4 a5)) (hg103 : ∀ a0 a1 a2 a3 a4, Mo (g103 a0 a1 a2 a3 a4) (G103 a0 a1 a2 a3 a4)) (t : Nat) (x1 : Int32) (x2 : Int32) (x3 : Int32) (h : PH) : Mo (X4_shorten_f4 c_X4_shortenOne g66 g103 t x1 x2 x3 h) (X4_shorten_f4 c_X4_shortenOne G66 G103 t x1 x2 x3 h) := (mo_nn fun r1 => (mo_if (mo_nn fun r2 => (mo_nn fun r3 => (mo_ix fun j4 => (mo_nn fun r5 => (mo_ix fun j6 => (mo_if (hg66 t x1 x2 x3 (hR h 896 r3 j4) h) (mo_nn fun r7 => (mo_nn fun r8 => (mo_nn fun r9 => (mo_cI fun v11 h10 => (mo_if (hg66 t x1 x2 x3 (hR h 896 r3 j4) h10) (hg103 t x1 1 x3 h10)))))))))))) (mo_bz mo_rf)))
theorem X4_shorten_w4 {z : CZ} {g66 : Nat → Int32 → Int32 → Int32 → Nat → PH → Option Rs} {g103 : Nat → Int32 → Int32 → Int32 → PH → Option Rs} (hk66 : SK (X4_shorten_x z) 66 (X4_shorten_u66 g66)) (hk103 : SK (X4_shorten_x z) 103 (X4_shorten_u103 g103)) : SK (X4_shorten_x z) 4 (X4_shorten_u4 (X4_shorten_f4 X4_shortenOne g66 g103)) := by
  intro ls st h r e
  obtain ⟨hst, e⟩ := gL_of e
  obtain ⟨t, q0, e⟩ := gT_of e
  obtain ⟨x1, q1, e⟩ := gI_of e
  obtain ⟨x2, q2, e⟩ := gI_of e
  obtain ⟨x3, q3, e⟩ := gI_of e
  rw [st_0 hst]
  exact WK.sub (canon := [some (.inr (3, t + 1)), some (.inl x1), some (.inl x2), some (.inl x3), none]) rfl ⟨q0, q1, q2, q3, trivial⟩ (X4_shorten_s4 hk66 hk103 _ _ _ _ ((X4_shorten_l4 X4_shortenOne g66 g103 t x1 x2 x3 h).trans e))
noncomputable def X4_shorten_f66 (c_X4_shortenOne : Nat → Int32 → Int32 → Int32 → PH → Option Rs) (g103 : Nat → Int32 → Int32 → Int32 → PH → Option Rs) (t : Nat) (x1 : Int32) (x2 : Int32) (x3 : Int32) (x4 : Nat) (h : PH) : Option Rs :=
  nn (hR h 194 t 0) fun r12 =>
  ix x3 (hL h 24 r12) fun j13 =>
  if (hI h 1536 r12 j13) = 0 then
    g103 t x1 x2 x3 h
  else
    nn x4 fun r14 =>
    nn x4 fun r15 =>
    nn x4 fun r16 =>
    cI (c_X4_shortenOne t (x1 + (hI h 577 r14 0)) (x1 + (hI h 576 r15 0)) (hI h 580 r16 0) h) fun v18 h17 =>
    if v18 = 0 then
      g103 t x1 x2 x3 h17
    else
      g103 t x1 1 x3 h17
set_option maxRecDepth 100000 in
theorem X4_shorten_l66 (c_X4_shortenOne : Nat → Int32 → Int32 → Int32 → PH → Option Rs) (g103 : Nat → Int32 → Int32 → Int32 → PH → Option Rs) (t : Nat) (x1 : Int32) (x2 : Int32) (x3 : Int32) (x4 : Nat) (h : PH) : X4_shorten_b66 c_X4_shortenOne (X4_shorten_u103 g103) [some (.inr (3, t + 1)), some (.inl x1), some (.inl x2), some (.inl x3), some (.inr (9, x4))] [] h = X4_shorten_f66 c_X4_shortenOne g103 t x1 x2 x3 x4 h := rfl
theorem X4_shorten_m66 {c_X4_shortenOne : Nat → Int32 → Int32 → Int32 → PH → Option Rs} {g103 G103 : Nat → Int32 → Int32 → Int32 → PH → Option Rs} (hg103 : ∀ a0 a1 a2 a3 a4, Mo (g103 a0 a1 a2 a3 a4) (G103 a0 a1 a2 a3 a4)) (t : Nat) (x1 : Int32) (x2 : Int32) (x3 : Int32) (x4 : Nat) (h : PH) : Mo (X4_shorten_f66 c_X4_shortenOne g103 t x1 x2 x3 x4 h) (X4_shorten_f66 c_X4_shortenOne G103 t x1 x2 x3 x4 h) := (mo_nn fun r12 => (mo_ix fun j13 => (mo_if (hg103 t x1 x2 x3 h) (mo_nn fun r14 => (mo_nn fun r15 => (mo_nn fun r16 => (mo_cI fun v18 h17 => (mo_if (hg103 t x1 x2 x3 h17) (hg103 t x1 1 x3 h17)))))))))
theorem X4_shorten_w66 {z : CZ} {g103 : Nat → Int32 → Int32 → Int32 → PH → Option Rs} (hk103 : SK (X4_shorten_x z) 103 (X4_shorten_u103 g103)) : SK (X4_shorten_x z) 66 (X4_shorten_u66 (X4_shorten_f66 X4_shortenOne g103)) := by
  intro ls st h r e
  obtain ⟨hst, e⟩ := gL_of e
  obtain ⟨t, q0, e⟩ := gT_of e
  obtain ⟨x1, q1, e⟩ := gI_of e
  obtain ⟨x2, q2, e⟩ := gI_of e
  obtain ⟨x3, q3, e⟩ := gI_of e
  obtain ⟨x4, q4, e⟩ := gR_of e
  rw [st_0 hst]
  exact WK.sub (canon := [some (.inr (3, t + 1)), some (.inl x1), some (.inl x2), some (.inl x3), some (.inr (9, x4))]) rfl ⟨q0, q1, q2, q3, q4, trivial⟩ (X4_shorten_s66 hk103 _ _ _ _ ((X4_shorten_l66 X4_shortenOne g103 t x1 x2 x3 x4 h).trans e))
noncomputable def X4_shorten_f103 (g4 : Nat → Int32 → Int32 → Int32 → PH → Option Rs) (t : Nat) (x1 : Int32) (x2 : Int32) (x3 : Int32) (h : PH) : Option Rs :=
  g4 t x1 x2 (x3 + 1) h
set_option maxRecDepth 100000 in
theorem X4_shorten_l103 (g4 : Nat → Int32 → Int32 → Int32 → PH → Option Rs) (t : Nat) (x1 : Int32) (x2 : Int32) (x3 : Int32) (h : PH) : X4_shorten_b103 (X4_shorten_u4 g4) [some (.inr (3, t + 1)), some (.inl x1), some (.inl x2), some (.inl x3), none] [] h = X4_shorten_f103 g4 t x1 x2 x3 h := rfl
theorem X4_shorten_m103 {g4 G4 : Nat → Int32 → Int32 → Int32 → PH → Option Rs} (hg4 : ∀ a0 a1 a2 a3 a4, Mo (g4 a0 a1 a2 a3 a4) (G4 a0 a1 a2 a3 a4)) (t : Nat) (x1 : Int32) (x2 : Int32) (x3 : Int32) (h : PH) : Mo (X4_shorten_f103 g4 t x1 x2 x3 h) (X4_shorten_f103 G4 t x1 x2 x3 h) := (hg4 t x1 x2 (x3 + 1) h)
theorem X4_shorten_w103 {z : CZ} {g4 : Nat → Int32 → Int32 → Int32 → PH → Option Rs} (hk4 : SK (X4_shorten_x z) 4 (X4_shorten_u4 g4)) : SK (X4_shorten_x z) 103 (X4_shorten_u103 (X4_shorten_f103 g4)) := by
  intro ls st h r e
  obtain ⟨hst, e⟩ := gL_of e
  obtain ⟨t, q0, e⟩ := gT_of e
  obtain ⟨x1, q1, e⟩ := gI_of e
  obtain ⟨x2, q2, e⟩ := gI_of e
  obtain ⟨x3, q3, e⟩ := gI_of e
  rw [st_0 hst]
  exact WK.sub (canon := [some (.inr (3, t + 1)), some (.inl x1), some (.inl x2), some (.inl x3), none]) rfl ⟨q0, q1, q2, q3, trivial⟩ (X4_shorten_s103 hk4 _ _ _ _ ((X4_shorten_l103 g4 t x1 x2 x3 h).trans e))
noncomputable def X4_shorten_g0 (G : (Nat → Int32 → Int32 → Int32 → PH → Option Rs)) (t : Nat) (x1 : Int32) (h : PH) : Option Rs := X4_shorten_f0 (G) t x1 h
noncomputable def X4_shorten_g103 (G : (Nat → Int32 → Int32 → Int32 → PH → Option Rs)) (t : Nat) (x1 : Int32) (x2 : Int32) (x3 : Int32) (h : PH) : Option Rs := X4_shorten_f103 (G) t x1 x2 x3 h
noncomputable def X4_shorten_g66 (G : (Nat → Int32 → Int32 → Int32 → PH → Option Rs)) (t : Nat) (x1 : Int32) (x2 : Int32) (x3 : Int32) (x4 : Nat) (h : PH) : Option Rs := X4_shorten_f66 X4_shortenOne (X4_shorten_g103 G) t x1 x2 x3 x4 h
noncomputable def X4_shorten_g4 (G : (Nat → Int32 → Int32 → Int32 → PH → Option Rs)) (t : Nat) (x1 : Int32) (x2 : Int32) (x3 : Int32) (h : PH) : Option Rs := X4_shorten_f4 X4_shortenOne (X4_shorten_g66 G) (X4_shorten_g103 G) t x1 x2 x3 h
theorem X4_shorten_v103 {z : CZ} {G : (Nat → Int32 → Int32 → Int32 → PH → Option Rs)} (hG4 : SK (X4_shorten_x z) 4 (X4_shorten_u4 (G))) : SK (X4_shorten_x z) 103 (X4_shorten_u103 (X4_shorten_g103 G)) := X4_shorten_w103 hG4
theorem X4_shorten_v66 {z : CZ} {G : (Nat → Int32 → Int32 → Int32 → PH → Option Rs)} (hG4 : SK (X4_shorten_x z) 4 (X4_shorten_u4 (G))) : SK (X4_shorten_x z) 66 (X4_shorten_u66 (X4_shorten_g66 G)) := X4_shorten_w66 (X4_shorten_v103 hG4)
theorem X4_shorten_v4 {z : CZ} {G : (Nat → Int32 → Int32 → Int32 → PH → Option Rs)} (hG4 : SK (X4_shorten_x z) 4 (X4_shorten_u4 (G))) : SK (X4_shorten_x z) 4 (X4_shorten_u4 (X4_shorten_g4 G)) := X4_shorten_w4 (X4_shorten_v66 hG4) (X4_shorten_v103 hG4)
noncomputable def X4_shorten_fam : Nat → (Nat → Int32 → Int32 → Int32 → PH → Option Rs)
  | 0 => fun _ _ _ _ _ => none
  | n + 1 => X4_shorten_g4 (X4_shorten_fam n)
theorem X4_shorten_k {z : CZ} : ∀ n, SK (X4_shorten_x z) 4 (X4_shorten_u4 (X4_shorten_fam n))
  | 0 => (fun ls st h r e => by
      obtain ⟨_, e⟩ := gL_of e
      obtain ⟨_, _, e⟩ := gT_of e
      obtain ⟨_, _, e⟩ := gI_of e
      obtain ⟨_, _, e⟩ := gI_of e
      obtain ⟨_, _, e⟩ := gI_of e
      cases e)
  | n + 1 => by
    obtain ih4 := X4_shorten_k n
    exact X4_shorten_v4 ih4
theorem X4_shorten_n0 {G G' : (Nat → Int32 → Int32 → Int32 → PH → Option Rs)} (hg4 : ∀ a0 a1 a2 a3 a4, Mo ((G) a0 a1 a2 a3 a4) ((G') a0 a1 a2 a3 a4)) (t : Nat) (x1 : Int32) (h : PH) : Mo (X4_shorten_g0 G t x1 h) (X4_shorten_g0 G' t x1 h) := X4_shorten_m0 hg4 t x1 h
theorem X4_shorten_n103 {G G' : (Nat → Int32 → Int32 → Int32 → PH → Option Rs)} (hg4 : ∀ a0 a1 a2 a3 a4, Mo ((G) a0 a1 a2 a3 a4) ((G') a0 a1 a2 a3 a4)) (t : Nat) (x1 : Int32) (x2 : Int32) (x3 : Int32) (h : PH) : Mo (X4_shorten_g103 G t x1 x2 x3 h) (X4_shorten_g103 G' t x1 x2 x3 h) := X4_shorten_m103 hg4 t x1 x2 x3 h
theorem X4_shorten_n66 {G G' : (Nat → Int32 → Int32 → Int32 → PH → Option Rs)} (hg4 : ∀ a0 a1 a2 a3 a4, Mo ((G) a0 a1 a2 a3 a4) ((G') a0 a1 a2 a3 a4)) (t : Nat) (x1 : Int32) (x2 : Int32) (x3 : Int32) (x4 : Nat) (h : PH) : Mo (X4_shorten_g66 G t x1 x2 x3 x4 h) (X4_shorten_g66 G' t x1 x2 x3 x4 h) := X4_shorten_m66 (fun a0 a1 a2 a3 a4 => X4_shorten_n103 hg4 a0 a1 a2 a3 a4) t x1 x2 x3 x4 h
theorem X4_shorten_n4 {G G' : (Nat → Int32 → Int32 → Int32 → PH → Option Rs)} (hg4 : ∀ a0 a1 a2 a3 a4, Mo ((G) a0 a1 a2 a3 a4) ((G') a0 a1 a2 a3 a4)) (t : Nat) (x1 : Int32) (x2 : Int32) (x3 : Int32) (h : PH) : Mo (X4_shorten_g4 G t x1 x2 x3 h) (X4_shorten_g4 G' t x1 x2 x3 h) := X4_shorten_m4 (fun a0 a1 a2 a3 a4 a5 => X4_shorten_n66 hg4 a0 a1 a2 a3 a4 a5) (fun a0 a1 a2 a3 a4 => X4_shorten_n103 hg4 a0 a1 a2 a3 a4) t x1 x2 x3 h
theorem X4_shorten_fm : ∀ n, (∀ a0 a1 a2 a3 a4, Mo ((X4_shorten_fam n) a0 a1 a2 a3 a4) ((X4_shorten_fam (n + 1)) a0 a1 a2 a3 a4))
  | 0 => fun _ _ _ _ _ => mo_no
  | n + 1 => by
    obtain ih4 := X4_shorten_fm n
    exact fun a0 a1 a2 a3 a4 => X4_shorten_n4 ih4 a0 a1 a2 a3 a4
noncomputable def X4_shorten (t : Nat) (x1 : Int32) (h : PH) : Option Rs := lim (fun n => X4_shorten_g0 (X4_shorten_fam n) t x1 h)
theorem X4_shorten_iff {t : Nat} {x1 : Int32} {h : PH} {r : Rs} : X4_shorten t x1 h = some r ↔ ∃ n, X4_shorten_g0 (X4_shorten_fam n) t x1 h = some r := lim_iff (fun n => by
  obtain ih4 := X4_shorten_fm n
  exact X4_shorten_n0 ih4 t x1 h)
noncomputable abbrev X4_shorten_F : List PV → PH → Option Rs := FW_T3I (X4_shorten)
set_option maxRecDepth 100000 in
theorem X4_shorten_gd (l : Launch) : Gd l 1 yX4_shorten cX4_shorten 5 (some .boolean) (X4_shorten_F)   := Gd_of (by decide +kernel) (fun z hzl as h r e => by
  obtain ⟨hst, e⟩ := gL_of e
  obtain ⟨t, q0, e⟩ := gT_of e
  obtain ⟨x1, q1, e⟩ := gI_of e
  rw [st_2 hst q0 q1]
  obtain ⟨n, e⟩ := lim_of e
  obtain hG4 := X4_shorten_k (z := z) n
  exact ⟨show 2 ≤ 5 by decide, X4_shorten_s0 hG4 _ _ _ _ ((X4_shorten_l0 (X4_shorten_fam n) t x1 h).trans e)⟩)
abbrev X4_measure_x (z : CZ) : CX := mx RX4 cX4_measure 5 2 none "measure" z
noncomputable def X4_measure_b0 (k7 : Kn) : Kn := (a_il 1 (a_ic 12 (a_b (fun a b => a * b) (a_is 2 (a_ic 0 (a_is 3 k7))))))
set_option maxRecDepth 100000 in
theorem X4_measure_s0 {z : CZ} {k7 : Kn} (hk7 : SK (X4_measure_x z) 7 k7) : SK (X4_measure_x z) 0 (X4_measure_b0 k7) := (s_iloadn (pc := 0) dX4_measure_0 rfl (s_bipush (pc := 1) dX4_measure_1 c_bp_12 (s_imul (pc := 3) dX4_measure_3 (s_istoren (pc := 4) dX4_measure_4 rfl (show 2 < 5 by decide) (s_iconst (pc := 5) dX4_measure_5 c_ic_0 (s_istoren (pc := 6) dX4_measure_6 rfl (show 3 < 5 by decide) hk7))))))
noncomputable def X4_measure_b7 (k7 k51 : Kn) : Kn := (a_il 3 (a_ic 12 (a_lt (a_al 0 (a_gR 3 195 25 (a_il 2 (a_il 3 (a_b (fun a b => a + b) (a_ic 1000000 (a_ast 25 1600 (fun a => a) (a_inc 3 1 k7)))))))) (a_al 0 (a_gR 3 195 25 (a_il 2 (a_al 0 (a_gR 3 193 1 (a_gR 1 66 16 (a_il 1 (a_ald 16 1024 (a_b (fun a b => a + b) (a_ic 0 (a_ast 25 1600 (fun a => a) (a_ic 1 (a_is 3 (a_ic 0 (a_is 4 k51))))))))))))))))))
set_option maxRecDepth 100000 in
theorem X4_measure_s7 {z : CZ} {k7 k51 : Kn} (hk7 : SK (X4_measure_x z) 7 k7) (hk51 : SK (X4_measure_x z) 51 k51) : SK (X4_measure_x z) 7 (X4_measure_b7 k7 k51) := (s_iloadn (pc := 7) dX4_measure_7 rfl (s_bipush (pc := 8) dX4_measure_8 c_bp_12 (s_cmpge (pc := 10) dX4_measure_10 (by decide) (s_aloadn (pc := 29) dX4_measure_29 rfl (s_gR (pc := 30) (f := 3) ko_3 (by decide) rfl rfl w_316 dX4_measure_30 (s_iloadn (pc := 33) dX4_measure_33 rfl (s_aloadn (pc := 34) dX4_measure_34 rfl (s_gR (pc := 35) (f := 1) ko_3 (by decide) rfl rfl w_313 dX4_measure_35 (s_gR (pc := 38) (f := 2) ko_1 (by decide) rfl rfl w_220 dX4_measure_38 (s_iloadn (pc := 41) dX4_measure_41 rfl (s_iald (pc := 42) (by decide) (by decide) rfl rfl rfl dX4_measure_42 (s_iadd (pc := 43) dX4_measure_43 (s_iconst (pc := 44) dX4_measure_44 c_ic_0 (s_iast (pc := 45) (by decide) (by decide) rfl rfl rfl dX4_measure_45 (s_iconst (pc := 46) dX4_measure_46 c_ic_1 (s_istoren (pc := 47) dX4_measure_47 rfl (show 3 < 5 by decide) (s_iconst (pc := 48) dX4_measure_48 c_ic_0 (s_istore (pc := 49) dX4_measure_49 (show 4 < 5 by decide) hk51))))))))))))))) (s_aloadn (pc := 13) dX4_measure_13 rfl (s_gR (pc := 14) (f := 3) ko_3 (by decide) rfl rfl w_316 dX4_measure_14 (s_iloadn (pc := 17) dX4_measure_17 rfl (s_iloadn (pc := 18) dX4_measure_18 rfl (s_iadd (pc := 19) dX4_measure_19 (s_ldc (pc := 20) w_1027 dX4_measure_20 (s_iast (pc := 22) (by decide) (by decide) rfl rfl rfl dX4_measure_22 (s_iinc (pc := 23) dX4_measure_23 c_ic_1 (show 3 < 5 by decide) (s_goto (pc := 26) dX4_measure_26 (by decide) hk7))))))))))))
noncomputable def X4_measure_b51 (c_X4_shorten : Nat → Int32 → PH → Option Rs) (k51 : Kn) : Kn := (a_il 4 (a_ic 12 (a_lt (a_il 3 (a_z a_vr (a_al 0 (a_il 2 (a_vI 3 1 (FW_T3I c_X4_shorten) (a_is 3 (a_inc 4 1 k51))))))) a_vr)))
set_option maxRecDepth 100000 in
theorem X4_measure_s51 {z : CZ} {k51 : Kn} (hk51 : SK (X4_measure_x z) 51 k51) : SK (X4_measure_x z) 51 (X4_measure_b51 X4_shorten k51) := (s_iload (pc := 51) dX4_measure_51 (s_bipush (pc := 53) dX4_measure_53 c_bp_12 (s_cmpge (pc := 55) dX4_measure_55 (by decide) (s_vr (pc := 74) rfl dX4_measure_74) (s_iloadn (pc := 58) dX4_measure_58 rfl (s_ifeq (pc := 59) dX4_measure_59 (by decide) (s_vr (pc := 74) rfl dX4_measure_74) (s_aloadn (pc := 62) dX4_measure_62 rfl (s_iloadn (pc := 63) dX4_measure_63 rfl (s_vI (pc := 64) (run_virtual (X4_shorten_gd _) (show 1 < 2 by decide) cy_X4_shorten (by decide) rfl w_1030 w_s21 w_1028 dX4_measure_64) (s_istoren (pc := 67) dX4_measure_67 rfl (show 3 < 5 by decide) (s_iinc (pc := 68) dX4_measure_68 c_ic_1 (show 4 < 5 by decide) (s_goto (pc := 71) dX4_measure_71 (by decide) hk51)))))))))))
noncomputable def X4_measure_u7 (g : Nat → Int32 → Int32 → Int32 → PH → Option Rs) : Kn := fun ls st h => gL 0 st (gT 3 ls 0 fun t => gI ls 1 fun x1 => gI ls 2 fun x2 => gI ls 3 fun x3 => g t x1 x2 x3 h)
noncomputable def X4_measure_u51 (g : Nat → Int32 → Int32 → Int32 → PH → Option Rs) : Kn := fun ls st h => gL 0 st (gT 3 ls 0 fun t => gI ls 2 fun x2 => gI ls 3 fun x3 => gI ls 4 fun x4 => g t x2 x3 x4 h)
noncomputable def X4_measure_f0 (g7 : Nat → Int32 → Int32 → Int32 → PH → Option Rs) (t : Nat) (x1 : Int32) (h : PH) : Option Rs :=
  g7 t x1 (x1 * 12) 0 h
set_option maxRecDepth 100000 in
theorem X4_measure_l0 (g7 : Nat → Int32 → Int32 → Int32 → PH → Option Rs) (t : Nat) (x1 : Int32) (h : PH) : X4_measure_b0 (X4_measure_u7 g7) [some (.inr (3, t + 1)), some (.inl x1), none, none, none] [] h = X4_measure_f0 g7 t x1 h := rfl
theorem X4_measure_m0 {g7 G7 : Nat → Int32 → Int32 → Int32 → PH → Option Rs} (hg7 : ∀ a0 a1 a2 a3 a4, Mo (g7 a0 a1 a2 a3 a4) (G7 a0 a1 a2 a3 a4)) (t : Nat) (x1 : Int32) (h : PH) : Mo (X4_measure_f0 g7 t x1 h) (X4_measure_f0 G7 t x1 h) := (hg7 t x1 (x1 * 12) 0 h)
noncomputable def X4_measure_f7 (g7 : Nat → Int32 → Int32 → Int32 → PH → Option Rs) (g51 : Nat → Int32 → Int32 → Int32 → PH → Option Rs) (t : Nat) (x1 : Int32) (x2 : Int32) (x3 : Int32) (h : PH) : Option Rs :=
  if x3 < 12 then
    nn (hR h 195 t 0) fun r7 =>
    ix (x2 + x3) (hL h 25 r7) fun j8 =>
    wr (pI h 1600 r7 j8 1000000) fun h9 =>
    g7 t x1 x2 (x3 + 1) h9
  else
    nn (hR h 193 t 0) fun r1 =>
    nn (hR h 66 r1 0) fun r2 =>
    ix x1 (hL h 16 r2) fun j3 =>
    nn (hR h 195 t 0) fun r4 =>
    ix (x2 + (hI h 1024 r2 j3)) (hL h 25 r4) fun j5 =>
    wr (pI h 1600 r4 j5 0) fun h6 =>
    g51 t x2 1 0 h6
set_option maxRecDepth 100000 in
theorem X4_measure_l7 (g7 : Nat → Int32 → Int32 → Int32 → PH → Option Rs) (g51 : Nat → Int32 → Int32 → Int32 → PH → Option Rs) (t : Nat) (x1 : Int32) (x2 : Int32) (x3 : Int32) (h : PH) : X4_measure_b7 (X4_measure_u7 g7) (X4_measure_u51 g51) [some (.inr (3, t + 1)), some (.inl x1), some (.inl x2), some (.inl x3), none] [] h = X4_measure_f7 g7 g51 t x1 x2 x3 h := rfl
theorem X4_measure_m7 {g7 G7 : Nat → Int32 → Int32 → Int32 → PH → Option Rs} {g51 G51 : Nat → Int32 → Int32 → Int32 → PH → Option Rs} (hg7 : ∀ a0 a1 a2 a3 a4, Mo (g7 a0 a1 a2 a3 a4) (G7 a0 a1 a2 a3 a4)) (hg51 : ∀ a0 a1 a2 a3 a4, Mo (g51 a0 a1 a2 a3 a4) (G51 a0 a1 a2 a3 a4)) (t : Nat) (x1 : Int32) (x2 : Int32) (x3 : Int32) (h : PH) : Mo (X4_measure_f7 g7 g51 t x1 x2 x3 h) (X4_measure_f7 G7 G51 t x1 x2 x3 h) := (mo_if (mo_nn fun r7 => (mo_ix fun j8 => (mo_wr fun h9 => (hg7 t x1 x2 (x3 + 1) h9)))) (mo_nn fun r1 => (mo_nn fun r2 => (mo_ix fun j3 => (mo_nn fun r4 => (mo_ix fun j5 => (mo_wr fun h6 => (hg51 t x2 1 0 h6))))))))
theorem X4_measure_w7 {z : CZ} {g7 : Nat → Int32 → Int32 → Int32 → PH → Option Rs} {g51 : Nat → Int32 → Int32 → Int32 → PH → Option Rs} (hk7 : SK (X4_measure_x z) 7 (X4_measure_u7 g7)) (hk51 : SK (X4_measure_x z) 51 (X4_measure_u51 g51)) : SK (X4_measure_x z) 7 (X4_measure_u7 (X4_measure_f7 g7 g51)) := by
  intro ls st h r e
  obtain ⟨hst, e⟩ := gL_of e
  obtain ⟨t, q0, e⟩ := gT_of e
  obtain ⟨x1, q1, e⟩ := gI_of e
  obtain ⟨x2, q2, e⟩ := gI_of e
  obtain ⟨x3, q3, e⟩ := gI_of e
  rw [st_0 hst]
  exact WK.sub (canon := [some (.inr (3, t + 1)), some (.inl x1), some (.inl x2), some (.inl x3), none]) rfl ⟨q0, q1, q2, q3, trivial⟩ (X4_measure_s7 hk7 hk51 _ _ _ _ ((X4_measure_l7 g7 g51 t x1 x2 x3 h).trans e))
noncomputable def X4_measure_f51 (c_X4_shorten : Nat → Int32 → PH → Option Rs) (g51 : Nat → Int32 → Int32 → Int32 → PH → Option Rs) (t : Nat) (x2 : Int32) (x3 : Int32) (x4 : Int32) (h : PH) : Option Rs :=
  if x4 < 12 then
    if x3 = 0 then
      some (none, h)
    else
      cI (c_X4_shorten t x2 h) fun v11 h10 =>
      g51 t x2 v11 (x4 + 1) h10
  else
    some (none, h)
set_option maxRecDepth 100000 in
theorem X4_measure_l51 (c_X4_shorten : Nat → Int32 → PH → Option Rs) (g51 : Nat → Int32 → Int32 → Int32 → PH → Option Rs) (t : Nat) (x2 : Int32) (x3 : Int32) (x4 : Int32) (h : PH) : X4_measure_b51 c_X4_shorten (X4_measure_u51 g51) [some (.inr (3, t + 1)), none, some (.inl x2), some (.inl x3), some (.inl x4)] [] h = X4_measure_f51 c_X4_shorten g51 t x2 x3 x4 h := rfl
theorem X4_measure_m51 {c_X4_shorten : Nat → Int32 → PH → Option Rs} {g51 G51 : Nat → Int32 → Int32 → Int32 → PH → Option Rs} (hg51 : ∀ a0 a1 a2 a3 a4, Mo (g51 a0 a1 a2 a3 a4) (G51 a0 a1 a2 a3 a4)) (t : Nat) (x2 : Int32) (x3 : Int32) (x4 : Int32) (h : PH) : Mo (X4_measure_f51 c_X4_shorten g51 t x2 x3 x4 h) (X4_measure_f51 c_X4_shorten G51 t x2 x3 x4 h) := (mo_if (mo_if mo_rf (mo_cI fun v11 h10 => (hg51 t x2 v11 (x4 + 1) h10))) mo_rf)
theorem X4_measure_w51 {z : CZ} {g51 : Nat → Int32 → Int32 → Int32 → PH → Option Rs} (hk51 : SK (X4_measure_x z) 51 (X4_measure_u51 g51)) : SK (X4_measure_x z) 51 (X4_measure_u51 (X4_measure_f51 X4_shorten g51)) := by
  intro ls st h r e
  obtain ⟨hst, e⟩ := gL_of e
  obtain ⟨t, q0, e⟩ := gT_of e
  obtain ⟨x2, q1, e⟩ := gI_of e
  obtain ⟨x3, q2, e⟩ := gI_of e
  obtain ⟨x4, q3, e⟩ := gI_of e
  rw [st_0 hst]
  exact WK.sub (canon := [some (.inr (3, t + 1)), none, some (.inl x2), some (.inl x3), some (.inl x4)]) rfl ⟨q0, q1, q2, q3, trivial⟩ (X4_measure_s51 hk51 _ _ _ _ ((X4_measure_l51 X4_shorten g51 t x2 x3 x4 h).trans e))
noncomputable def X4_measure_g0 (G : (Nat → Int32 → Int32 → Int32 → PH → Option Rs) × (Nat → Int32 → Int32 → Int32 → PH → Option Rs)) (t : Nat) (x1 : Int32) (h : PH) : Option Rs := X4_measure_f0 (G).1 t x1 h
noncomputable def X4_measure_g7 (G : (Nat → Int32 → Int32 → Int32 → PH → Option Rs) × (Nat → Int32 → Int32 → Int32 → PH → Option Rs)) (t : Nat) (x1 : Int32) (x2 : Int32) (x3 : Int32) (h : PH) : Option Rs := X4_measure_f7 (G).1 (G).2 t x1 x2 x3 h
noncomputable def X4_measure_g51 (G : (Nat → Int32 → Int32 → Int32 → PH → Option Rs) × (Nat → Int32 → Int32 → Int32 → PH → Option Rs)) (t : Nat) (x2 : Int32) (x3 : Int32) (x4 : Int32) (h : PH) : Option Rs := X4_measure_f51 X4_shorten (G).2 t x2 x3 x4 h
theorem X4_measure_v7 {z : CZ} {G : (Nat → Int32 → Int32 → Int32 → PH → Option Rs) × (Nat → Int32 → Int32 → Int32 → PH → Option Rs)} (hG7 : SK (X4_measure_x z) 7 (X4_measure_u7 (G).1)) (hG51 : SK (X4_measure_x z) 51 (X4_measure_u51 (G).2)) : SK (X4_measure_x z) 7 (X4_measure_u7 (X4_measure_g7 G)) := X4_measure_w7 hG7 hG51
theorem X4_measure_v51 {z : CZ} {G : (Nat → Int32 → Int32 → Int32 → PH → Option Rs) × (Nat → Int32 → Int32 → Int32 → PH → Option Rs)} (hG7 : SK (X4_measure_x z) 7 (X4_measure_u7 (G).1)) (hG51 : SK (X4_measure_x z) 51 (X4_measure_u51 (G).2)) : SK (X4_measure_x z) 51 (X4_measure_u51 (X4_measure_g51 G)) := X4_measure_w51 hG51
noncomputable def X4_measure_fam : Nat → (Nat → Int32 → Int32 → Int32 → PH → Option Rs) × (Nat → Int32 → Int32 → Int32 → PH → Option Rs)
  | 0 => (fun _ _ _ _ _ => none, fun _ _ _ _ _ => none)
  | n + 1 => (X4_measure_g7 (X4_measure_fam n), X4_measure_g51 (X4_measure_fam n))
theorem X4_measure_k {z : CZ} : ∀ n, SK (X4_measure_x z) 7 (X4_measure_u7 (X4_measure_fam n).1) ∧ SK (X4_measure_x z) 51 (X4_measure_u51 (X4_measure_fam n).2)
  | 0 => ⟨(fun ls st h r e => by
      obtain ⟨_, e⟩ := gL_of e
      obtain ⟨_, _, e⟩ := gT_of e
      obtain ⟨_, _, e⟩ := gI_of e
      obtain ⟨_, _, e⟩ := gI_of e
      obtain ⟨_, _, e⟩ := gI_of e
      cases e), (fun ls st h r e => by
      obtain ⟨_, e⟩ := gL_of e
      obtain ⟨_, _, e⟩ := gT_of e
      obtain ⟨_, _, e⟩ := gI_of e
      obtain ⟨_, _, e⟩ := gI_of e
      obtain ⟨_, _, e⟩ := gI_of e
      cases e)⟩
  | n + 1 => by
    obtain ⟨ih7, ih51⟩ := X4_measure_k n
    exact ⟨X4_measure_v7 ih7 ih51, X4_measure_v51 ih7 ih51⟩
theorem X4_measure_n0 {G G' : (Nat → Int32 → Int32 → Int32 → PH → Option Rs) × (Nat → Int32 → Int32 → Int32 → PH → Option Rs)} (hg7 : ∀ a0 a1 a2 a3 a4, Mo ((G).1 a0 a1 a2 a3 a4) ((G').1 a0 a1 a2 a3 a4)) (hg51 : ∀ a0 a1 a2 a3 a4, Mo ((G).2 a0 a1 a2 a3 a4) ((G').2 a0 a1 a2 a3 a4)) (t : Nat) (x1 : Int32) (h : PH) : Mo (X4_measure_g0 G t x1 h) (X4_measure_g0 G' t x1 h) := X4_measure_m0 hg7 t x1 h
theorem X4_measure_n7 {G G' : (Nat → Int32 → Int32 → Int32 → PH → Option Rs) × (Nat → Int32 → Int32 → Int32 → PH → Option Rs)} (hg7 : ∀ a0 a1 a2 a3 a4, Mo ((G).1 a0 a1 a2 a3 a4) ((G').1 a0 a1 a2 a3 a4)) (hg51 : ∀ a0 a1 a2 a3 a4, Mo ((G).2 a0 a1 a2 a3 a4) ((G').2 a0 a1 a2 a3 a4)) (t : Nat) (x1 : Int32) (x2 : Int32) (x3 : Int32) (h : PH) : Mo (X4_measure_g7 G t x1 x2 x3 h) (X4_measure_g7 G' t x1 x2 x3 h) := X4_measure_m7 hg7 hg51 t x1 x2 x3 h
theorem X4_measure_n51 {G G' : (Nat → Int32 → Int32 → Int32 → PH → Option Rs) × (Nat → Int32 → Int32 → Int32 → PH → Option Rs)} (hg7 : ∀ a0 a1 a2 a3 a4, Mo ((G).1 a0 a1 a2 a3 a4) ((G').1 a0 a1 a2 a3 a4)) (hg51 : ∀ a0 a1 a2 a3 a4, Mo ((G).2 a0 a1 a2 a3 a4) ((G').2 a0 a1 a2 a3 a4)) (t : Nat) (x2 : Int32) (x3 : Int32) (x4 : Int32) (h : PH) : Mo (X4_measure_g51 G t x2 x3 x4 h) (X4_measure_g51 G' t x2 x3 x4 h) := X4_measure_m51 hg51 t x2 x3 x4 h
theorem X4_measure_fm : ∀ n, (∀ a0 a1 a2 a3 a4, Mo ((X4_measure_fam n).1 a0 a1 a2 a3 a4) ((X4_measure_fam (n + 1)).1 a0 a1 a2 a3 a4)) ∧ (∀ a0 a1 a2 a3 a4, Mo ((X4_measure_fam n).2 a0 a1 a2 a3 a4) ((X4_measure_fam (n + 1)).2 a0 a1 a2 a3 a4))
  | 0 => ⟨fun _ _ _ _ _ => mo_no, fun _ _ _ _ _ => mo_no⟩
  | n + 1 => by
    obtain ⟨ih7, ih51⟩ := X4_measure_fm n
    exact ⟨fun a0 a1 a2 a3 a4 => X4_measure_n7 ih7 ih51 a0 a1 a2 a3 a4, fun a0 a1 a2 a3 a4 => X4_measure_n51 ih7 ih51 a0 a1 a2 a3 a4⟩
noncomputable def X4_measure (t : Nat) (x1 : Int32) (h : PH) : Option Rs := lim (fun n => X4_measure_g0 (X4_measure_fam n) t x1 h)
theorem X4_measure_iff {t : Nat} {x1 : Int32} {h : PH} {r : Rs} : X4_measure t x1 h = some r ↔ ∃ n, X4_measure_g0 (X4_measure_fam n) t x1 h = some r := lim_iff (fun n => by
  obtain ⟨ih7, ih51⟩ := X4_measure_fm n
  exact X4_measure_n0 ih7 ih51 t x1 h)
noncomputable abbrev X4_measure_F : List PV → PH → Option Rs := FW_T3I (X4_measure)
set_option maxRecDepth 100000 in
theorem X4_measure_gd (l : Launch) : Gd l 2 yX4_measure cX4_measure 5 none (X4_measure_F)   := Gd_of (by decide +kernel) (fun z hzl as h r e => by
  obtain ⟨hst, e⟩ := gL_of e
  obtain ⟨t, q0, e⟩ := gT_of e
  obtain ⟨x1, q1, e⟩ := gI_of e
  rw [st_2 hst q0 q1]
  obtain ⟨n, e⟩ := lim_of e
  obtain ⟨hG7, hG51⟩ := X4_measure_k (z := z) n
  exact ⟨show 2 ≤ 5 by decide, X4_measure_s0 hG7 _ _ _ _ ((X4_measure_l0 (X4_measure_fam n).1 t x1 h).trans e)⟩)
abbrev X4_minutesFrom_x (z : CZ) : CX := mx RX4 cX4_minutesFrom 3 0 (some .int) "minutesFrom" z
noncomputable def X4_minutesFrom_b0 : Kn := (a_al 0 (a_gR 3 195 25 (a_il 2 (a_ic 12 (a_b (fun a b => a * b) (a_il 1 (a_b (fun a b => a + b) (a_ald 25 1600 a_ir))))))))
set_option maxRecDepth 100000 in
theorem X4_minutesFrom_s0 {z : CZ} : SK (X4_minutesFrom_x z) 0 (X4_minutesFrom_b0) := (s_aloadn (pc := 0) dX4_minutesFrom_0 rfl (s_gR (pc := 1) (f := 3) ko_3 (by decide) rfl rfl w_316 dX4_minutesFrom_1 (s_iloadn (pc := 4) dX4_minutesFrom_4 rfl (s_bipush (pc := 5) dX4_minutesFrom_5 c_bp_12 (s_imul (pc := 7) dX4_minutesFrom_7 (s_iloadn (pc := 8) dX4_minutesFrom_8 rfl (s_iadd (pc := 9) dX4_minutesFrom_9 (s_iald (pc := 10) (by decide) (by decide) rfl rfl rfl dX4_minutesFrom_10 (s_ir (pc := 11) rfl dX4_minutesFrom_11)))))))))
noncomputable def X4_minutesFrom_f0 (t : Nat) (x1 : Int32) (x2 : Int32) (h : PH) : Option Rs :=
  nn (hR h 195 t 0) fun r1 =>
  ix ((x2 * 12) + x1) (hL h 25 r1) fun j2 =>
  some (some (.inl (hI h 1600 r1 j2)), h)
set_option maxRecDepth 100000 in
theorem X4_minutesFrom_l0 (t : Nat) (x1 : Int32) (x2 : Int32) (h : PH) : X4_minutesFrom_b0 [some (.inr (3, t + 1)), some (.inl x1), some (.inl x2)] [] h = X4_minutesFrom_f0 t x1 x2 h := rfl
noncomputable def X4_minutesFrom_g0 (t : Nat) (x1 : Int32) (x2 : Int32) (h : PH) : Option Rs := X4_minutesFrom_f0 t x1 x2 h
noncomputable def X4_minutesFrom (t : Nat) (x1 : Int32) (x2 : Int32) (h : PH) : Option Rs := X4_minutesFrom_g0 t x1 x2 h
noncomputable abbrev X4_minutesFrom_F : List PV → PH → Option Rs := FW_T3II (X4_minutesFrom)
set_option maxRecDepth 100000 in
theorem X4_minutesFrom_gd (l : Launch) : Gd l 0 yX4_minutesFrom cX4_minutesFrom 3 (some .int) (X4_minutesFrom_F)   := Gd_of (by decide +kernel) (fun z hzl as h r e => by
  obtain ⟨hst, e⟩ := gL_of e
  obtain ⟨t, q0, e⟩ := gT_of e
  obtain ⟨x1, q1, e⟩ := gI_of e
  obtain ⟨x2, q2, e⟩ := gI_of e
  rw [st_3 hst q0 q1 q2]
  exact ⟨show 3 ≤ 3 by decide, X4_minutesFrom_s0 _ _ _ _ ((X4_minutesFrom_l0 t x1 x2 h).trans e)⟩)
abbrev X11_far_x (z : CZ) : CX := mx RX11 cX11_far 6 5 (some .int) "far" z
noncomputable def X11_far_b0 (c_X11_isTrip : Nat → Int32 → Int32 → Int32 → PH → Option Rs) (c_X11_roadsFor : Nat → Int32 → PH → Option Rs) (c_X4_measure : Nat → Int32 → PH → Option Rs) (c_X4_minutesFrom : Nat → Int32 → Int32 → PH → Option Rs) : Kn := (a_al 0 (a_il 1 (a_il 2 (a_il 3 (a_vI 10 3 (FW_T10III c_X11_isTrip) (a_z (a_ic (-1000000001) a_ir) (a_al 0 (a_il 3 (a_vR 10 3 1 (FW_T10I c_X11_roadsFor) (a_as 4 (a_al 4 (a_il 2 (a_vV 3 1 (FW_T3I c_X4_measure) (a_al 4 (a_il 1 (a_il 2 (a_vI 3 2 (FW_T3II c_X4_minutesFrom) (a_is 5 (a_il 5 (a_ic 1000000 (a_lt (a_il 5 a_ir) (a_ic (-1000000005) a_ir))))))))))))))))))))))
set_option maxRecDepth 100000 in
theorem X11_far_s0 {z : CZ} : SK (X11_far_x z) 0 (X11_far_b0 X11_isTrip X11_roadsFor X4_measure X4_minutesFrom) := (s_aloadn (pc := 0) dX11_far_0 rfl (s_iloadn (pc := 1) dX11_far_1 rfl (s_iloadn (pc := 2) dX11_far_2 rfl (s_iloadn (pc := 3) dX11_far_3 rfl (s_vI (pc := 4) (run_virtual (X11_isTrip_gd _) (show 2 < 5 by decide) cy_X11_isTrip (by decide) rfl w_953 w_s14 w_951 dX11_far_4) (s_ifne (pc := 7) dX11_far_7 (by decide) (s_aloadn (pc := 13) dX11_far_13 rfl (s_iloadn (pc := 14) dX11_far_14 rfl (s_vR (pc := 15) (run_virtual (X11_roadsFor_gd _) (show 4 < 5 by decide) cy_X11_roadsFor (by decide) rfl w_1020 w_s20 w_1018 dX11_far_15) (s_astore (pc := 18) dX11_far_18 (show 4 < 6 by decide) (s_aload (pc := 20) dX11_far_20 (s_iloadn (pc := 22) dX11_far_22 rfl (s_vV (pc := 23) (run_virtual (X4_measure_gd _) (show 2 < 5 by decide) cy_X4_measure (by decide) rfl w_1024 w_1025 w_1023 dX11_far_23) (s_aload (pc := 26) dX11_far_26 (s_iloadn (pc := 28) dX11_far_28 rfl (s_iloadn (pc := 29) dX11_far_29 rfl (s_vI (pc := 30) (run_virtual (X4_minutesFrom_gd _) (show 0 < 5 by decide) cy_X4_minutesFrom (by decide) rfl w_1037 w_1038 w_1036 dX11_far_30) (s_istore (pc := 33) dX11_far_33 (show 5 < 6 by decide) (s_iload (pc := 35) dX11_far_35 (s_ldcw (pc := 37) w_1040 dX11_far_37 (s_cmpge (pc := 40) dX11_far_40 (by decide) (s_ldc (pc := 48) w_611 dX11_far_48 (s_ir (pc := 50) rfl dX11_far_50)) (s_iload (pc := 43) dX11_far_43 (s_goto (pc := 45) dX11_far_45 (by decide) (s_ir (pc := 50) rfl dX11_far_50)))))))))))))))))) (s_ldc (pc := 10) w_551 dX11_far_10 (s_ir (pc := 12) rfl dX11_far_12))))))))
noncomputable def X11_far_f0 (c_X11_isTrip : Nat → Int32 → Int32 → Int32 → PH → Option Rs) (c_X11_roadsFor : Nat → Int32 → PH → Option Rs) (c_X4_measure : Nat → Int32 → PH → Option Rs) (c_X4_minutesFrom : Nat → Int32 → Int32 → PH → Option Rs) (t : Nat) (x1 : Int32) (x2 : Int32) (x3 : Int32) (h : PH) : Option Rs :=
  cI (c_X11_isTrip t x1 x2 x3 h) fun v2 h1 =>
  if v2 = 0 then
    some (some (.inl (-1000000001)), h1)
  else
    cR 3 (c_X11_roadsFor t x3 h1) fun r4 h3 =>
    nn r4 fun r5 =>
    cV (c_X4_measure r5 x2 h3) fun h6 =>
    nn r4 fun r7 =>
    cI (c_X4_minutesFrom r7 x1 x2 h6) fun v9 h8 =>
    if v9 < 1000000 then
      some (some (.inl v9), h8)
    else
      some (some (.inl (-1000000005)), h8)
set_option maxRecDepth 100000 in
theorem X11_far_l0 (c_X11_isTrip : Nat → Int32 → Int32 → Int32 → PH → Option Rs) (c_X11_roadsFor : Nat → Int32 → PH → Option Rs) (c_X4_measure : Nat → Int32 → PH → Option Rs) (c_X4_minutesFrom : Nat → Int32 → Int32 → PH → Option Rs) (t : Nat) (x1 : Int32) (x2 : Int32) (x3 : Int32) (h : PH) : X11_far_b0 c_X11_isTrip c_X11_roadsFor c_X4_measure c_X4_minutesFrom [some (.inr (10, t + 1)), some (.inl x1), some (.inl x2), some (.inl x3), none, none] [] h = X11_far_f0 c_X11_isTrip c_X11_roadsFor c_X4_measure c_X4_minutesFrom t x1 x2 x3 h := rfl
noncomputable def X11_far_g0 (t : Nat) (x1 : Int32) (x2 : Int32) (x3 : Int32) (h : PH) : Option Rs := X11_far_f0 X11_isTrip X11_roadsFor X4_measure X4_minutesFrom t x1 x2 x3 h
noncomputable def X11_far (t : Nat) (x1 : Int32) (x2 : Int32) (x3 : Int32) (h : PH) : Option Rs := X11_far_g0 t x1 x2 x3 h
noncomputable abbrev X11_far_F : List PV → PH → Option Rs := FW_T10III (X11_far)
set_option maxRecDepth 100000 in
theorem X11_far_gd (l : Launch) : Gd l 5 yX11_far cX11_far 6 (some .int) (X11_far_F)   := Gd_of (by decide +kernel) (fun z hzl as h r e => by
  obtain ⟨hst, e⟩ := gL_of e
  obtain ⟨t, q0, e⟩ := gT_of e
  obtain ⟨x1, q1, e⟩ := gI_of e
  obtain ⟨x2, q2, e⟩ := gI_of e
  obtain ⟨x3, q3, e⟩ := gI_of e
  rw [st_4 hst q0 q1 q2 q3]
  exact ⟨show 4 ≤ 6 by decide, X11_far_s0 _ _ _ _ ((X11_far_l0 X11_isTrip X11_roadsFor X4_measure X4_minutesFrom t x1 x2 x3 h).trans e)⟩)
abbrev X4_minutesBy_x (z : CZ) : CX := mx RX4 cX4_minutesBy 4 1 (some .int) "minutesBy" z
noncomputable def X4_minutesBy_b0 (c_X10_endFrom : Nat → Int32 → PH → Option Rs) (c_X4_minutesFrom : Nat → Int32 → Int32 → PH → Option Rs) : Kn := (a_al 1 (a_gI 9 580 (a_al 0 (a_al 1 (a_il 2 (a_vI 9 1 (FW_T9I c_X10_endFrom) (a_il 3 (a_vI 3 2 (FW_T3II c_X4_minutesFrom) (a_b (fun a b => a + b) a_ir)))))))))
set_option maxRecDepth 100000 in
theorem X4_minutesBy_s0 {z : CZ} : SK (X4_minutesBy_x z) 0 (X4_minutesBy_b0 X10_endFrom X4_minutesFrom) := (s_aloadn (pc := 0) dX4_minutesBy_0 rfl (s_gI (pc := 1) (f := 4) ko_9 (by decide) rfl rfl w_143 dX4_minutesBy_1 (s_aloadn (pc := 4) dX4_minutesBy_4 rfl (s_aloadn (pc := 5) dX4_minutesBy_5 rfl (s_iloadn (pc := 6) dX4_minutesBy_6 rfl (s_vI (pc := 7) (run_virtual (X10_endFrom_gd _) (show 0 < 1 by decide) cy_X10_endFrom (by decide) rfl w_1007 w_1008 w_1055 dX4_minutesBy_7) (s_iloadn (pc := 10) dX4_minutesBy_10 rfl (s_vI (pc := 11) (run_virtual (X4_minutesFrom_gd _) (show 0 < 1 by decide) cy_X4_minutesFrom (by decide) rfl w_1037 w_1038 w_1049 dX4_minutesBy_11) (s_iadd (pc := 14) dX4_minutesBy_14 (s_ir (pc := 15) rfl dX4_minutesBy_15))))))))))
noncomputable def X4_minutesBy_f0 (c_X10_endFrom : Nat → Int32 → PH → Option Rs) (c_X4_minutesFrom : Nat → Int32 → Int32 → PH → Option Rs) (t : Nat) (x1 : Nat) (x2 : Int32) (x3 : Int32) (h : PH) : Option Rs :=
  nn x1 fun r1 =>
  nn x1 fun r2 =>
  cI (c_X10_endFrom r2 x2 h) fun v4 h3 =>
  cI (c_X4_minutesFrom t v4 x3 h3) fun v6 h5 =>
  some (some (.inl ((hI h 580 r1 0) + v6)), h5)
set_option maxRecDepth 100000 in
theorem X4_minutesBy_l0 (c_X10_endFrom : Nat → Int32 → PH → Option Rs) (c_X4_minutesFrom : Nat → Int32 → Int32 → PH → Option Rs) (t : Nat) (x1 : Nat) (x2 : Int32) (x3 : Int32) (h : PH) : X4_minutesBy_b0 c_X10_endFrom c_X4_minutesFrom [some (.inr (3, t + 1)), some (.inr (9, x1)), some (.inl x2), some (.inl x3)] [] h = X4_minutesBy_f0 c_X10_endFrom c_X4_minutesFrom t x1 x2 x3 h := rfl
noncomputable def X4_minutesBy_g0 (t : Nat) (x1 : Nat) (x2 : Int32) (x3 : Int32) (h : PH) : Option Rs := X4_minutesBy_f0 X10_endFrom X4_minutesFrom t x1 x2 x3 h
noncomputable def X4_minutesBy (t : Nat) (x1 : Nat) (x2 : Int32) (x3 : Int32) (h : PH) : Option Rs := X4_minutesBy_g0 t x1 x2 x3 h
noncomputable abbrev X4_minutesBy_F : List PV → PH → Option Rs := FW_T3R9II (X4_minutesBy)
set_option maxRecDepth 100000 in
theorem X4_minutesBy_gd (l : Launch) : Gd l 1 yX4_minutesBy cX4_minutesBy 4 (some .int) (X4_minutesBy_F)   := Gd_of (by decide +kernel) (fun z hzl as h r e => by
  obtain ⟨hst, e⟩ := gL_of e
  obtain ⟨t, q0, e⟩ := gT_of e
  obtain ⟨x1, q1, e⟩ := gR_of e
  obtain ⟨x2, q2, e⟩ := gI_of e
  obtain ⟨x3, q3, e⟩ := gI_of e
  rw [st_4 hst q0 q1 q2 q3]
  exact ⟨show 4 ≤ 4 by decide, X4_minutesBy_s0 _ _ _ _ ((X4_minutesBy_l0 X10_endFrom X4_minutesFrom t x1 x2 x3 h).trans e)⟩)
abbrev X4_heading_x (z : CZ) : CX := mx RX4 cX4_heading 6 2 (some .int) "heading" z
noncomputable def X4_heading_b0 (c_X4_minutesFrom : Nat → Int32 → Int32 → PH → Option Rs) (k22 : Kn) : Kn := (a_al 0 (a_il 1 (a_il 2 (a_vI 3 2 (FW_T3II c_X4_minutesFrom) (a_is 3 (a_il 3 (a_z (a_ic (-1) a_ir) (a_il 3 (a_ic 1000000 (a_lt (a_ic 0 (a_is 4 k22)) (a_ic (-1) a_ir)))))))))))
set_option maxRecDepth 100000 in
theorem X4_heading_s0 {z : CZ} {k22 : Kn} (hk22 : SK (X4_heading_x z) 22 k22) : SK (X4_heading_x z) 0 (X4_heading_b0 X4_minutesFrom k22) := (s_aloadn (pc := 0) dX4_heading_0 rfl (s_iloadn (pc := 1) dX4_heading_1 rfl (s_iloadn (pc := 2) dX4_heading_2 rfl (s_vI (pc := 3) (run_virtual (X4_minutesFrom_gd _) (show 0 < 2 by decide) cy_X4_minutesFrom (by decide) rfl w_1037 w_1038 w_1049 dX4_heading_3) (s_istoren (pc := 6) dX4_heading_6 rfl (show 3 < 6 by decide) (s_iloadn (pc := 7) dX4_heading_7 rfl (s_ifeq (pc := 8) dX4_heading_8 (by decide) (s_iconst (pc := 17) dX4_heading_17 c_ic_m1 (s_ir (pc := 18) rfl dX4_heading_18)) (s_iloadn (pc := 11) dX4_heading_11 rfl (s_ldc (pc := 12) w_1027 dX4_heading_12 (s_cmplt (pc := 14) dX4_heading_14 (by decide) (s_iconst (pc := 19) dX4_heading_19 c_ic_0 (s_istore (pc := 20) dX4_heading_20 (show 4 < 6 by decide) hk22)) (s_iconst (pc := 17) dX4_heading_17 c_ic_m1 (s_ir (pc := 18) rfl dX4_heading_18))))))))))))
noncomputable def X4_heading_b22 (c_X4_openWay : Nat → Int32 → Int32 → PH → Option Rs) (c_X4_minutesBy : Nat → Nat → Int32 → Int32 → PH → Option Rs) (k67 : Kn) : Kn := (a_il 4 (a_ic 8 (a_lt (a_al 0 (a_il 1 (a_il 4 (a_vI 3 2 (FW_T3II c_X4_openWay) (a_is 5 (a_il 5 (a_ic (-1) (a_eq k67 (a_al 0 (a_al 0 (a_gR 3 193 1 (a_gR 1 64 14 (a_il 5 (a_rald 14 896 9 (a_il 1 (a_il 2 (a_vI 3 3 (FW_T3R9II c_X4_minutesBy) (a_il 3 (a_eq (a_il 4 a_ir) k67))))))))))))))))))) (a_ic (-1) a_ir))))
set_option maxRecDepth 100000 in
theorem X4_heading_s22 {z : CZ} {k67 : Kn} (hk67 : SK (X4_heading_x z) 67 k67) : SK (X4_heading_x z) 22 (X4_heading_b22 X4_openWay X4_minutesBy k67) := (s_iload (pc := 22) dX4_heading_22 (s_bipush (pc := 24) dX4_heading_24 c_bp_8 (s_cmpge (pc := 26) dX4_heading_26 (by decide) (s_iconst (pc := 73) dX4_heading_73 c_ic_m1 (s_ir (pc := 74) rfl dX4_heading_74)) (s_aloadn (pc := 29) dX4_heading_29 rfl (s_iloadn (pc := 30) dX4_heading_30 rfl (s_iload (pc := 31) dX4_heading_31 (s_vI (pc := 33) (run_virtual (X4_openWay_gd _) (show 1 < 2 by decide) cy_X4_openWay (by decide) rfl w_993 w_994 w_1050 dX4_heading_33) (s_istore (pc := 36) dX4_heading_36 (show 5 < 6 by decide) (s_iload (pc := 38) dX4_heading_38 (s_iconst (pc := 40) dX4_heading_40 c_ic_m1 (s_cmpeq (pc := 41) dX4_heading_41 (by decide) hk67 (s_aloadn (pc := 44) dX4_heading_44 rfl (s_aloadn (pc := 45) dX4_heading_45 rfl (s_gR (pc := 46) (f := 1) ko_3 (by decide) rfl rfl w_313 dX4_heading_46 (s_gR (pc := 49) (f := 0) ko_1 (by decide) rfl rfl w_214 dX4_heading_49 (s_iload (pc := 52) dX4_heading_52 (s_rald (pc := 54) (by decide) (by decide) rfl rfl rfl dX4_heading_54 (s_iloadn (pc := 55) dX4_heading_55 rfl (s_iloadn (pc := 56) dX4_heading_56 rfl (s_vI (pc := 57) (run_virtual (X4_minutesBy_gd _) (show 1 < 2 by decide) cy_X4_minutesBy (by decide) rfl w_1053 w_s23 w_1051 dX4_heading_57) (s_iloadn (pc := 60) dX4_heading_60 rfl (s_cmpne (pc := 61) dX4_heading_61 (by decide) hk67 (s_iload (pc := 64) dX4_heading_64 (s_ir (pc := 66) rfl dX4_heading_66))))))))))))))))))))))))
noncomputable def X4_heading_b67 (k22 : Kn) : Kn := (a_inc 4 1 k22)
set_option maxRecDepth 100000 in
theorem X4_heading_s67 {z : CZ} {k22 : Kn} (hk22 : SK (X4_heading_x z) 22 k22) : SK (X4_heading_x z) 67 (X4_heading_b67 k22) := (s_iinc (pc := 67) dX4_heading_67 c_ic_1 (show 4 < 6 by decide) (s_goto (pc := 70) dX4_heading_70 (by decide) hk22))
noncomputable def X4_heading_u22 (g : Nat → Int32 → Int32 → Int32 → Int32 → PH → Option Rs) : Kn := fun ls st h => gL 0 st (gT 3 ls 0 fun t => gI ls 1 fun x1 => gI ls 2 fun x2 => gI ls 3 fun x3 => gI ls 4 fun x4 => g t x1 x2 x3 x4 h)
noncomputable def X4_heading_u67 (g : Nat → Int32 → Int32 → Int32 → Int32 → PH → Option Rs) : Kn := fun ls st h => gL 0 st (gT 3 ls 0 fun t => gI ls 1 fun x1 => gI ls 2 fun x2 => gI ls 3 fun x3 => gI ls 4 fun x4 => g t x1 x2 x3 x4 h)
noncomputable def X4_heading_f0 (c_X4_minutesFrom : Nat → Int32 → Int32 → PH → Option Rs) (g22 : Nat → Int32 → Int32 → Int32 → Int32 → PH → Option Rs) (t : Nat) (x1 : Int32) (x2 : Int32) (h : PH) : Option Rs :=
  cI (c_X4_minutesFrom t x1 x2 h) fun v2 h1 =>
  if v2 = 0 then
    some (some (.inl (-1)), h1)
  else
    if v2 < 1000000 then
      g22 t x1 x2 v2 0 h1
    else
      some (some (.inl (-1)), h1)
set_option maxRecDepth 100000 in
theorem X4_heading_l0 (c_X4_minutesFrom : Nat → Int32 → Int32 → PH → Option Rs) (g22 : Nat → Int32 → Int32 → Int32 → Int32 → PH → Option Rs) (t : Nat) (x1 : Int32) (x2 : Int32) (h : PH) : X4_heading_b0 c_X4_minutesFrom (X4_heading_u22 g22) [some (.inr (3, t + 1)), some (.inl x1), some (.inl x2), none, none, none] [] h = X4_heading_f0 c_X4_minutesFrom g22 t x1 x2 h := rfl
theorem X4_heading_m0 {c_X4_minutesFrom : Nat → Int32 → Int32 → PH → Option Rs} {g22 G22 : Nat → Int32 → Int32 → Int32 → Int32 → PH → Option Rs} (hg22 : ∀ a0 a1 a2 a3 a4 a5, Mo (g22 a0 a1 a2 a3 a4 a5) (G22 a0 a1 a2 a3 a4 a5)) (t : Nat) (x1 : Int32) (x2 : Int32) (h : PH) : Mo (X4_heading_f0 c_X4_minutesFrom g22 t x1 x2 h) (X4_heading_f0 c_X4_minutesFrom G22 t x1 x2 h) := (mo_cI fun v2 h1 => (mo_if mo_rf (mo_if (hg22 t x1 x2 v2 0 h1) mo_rf)))
noncomputable def X4_heading_f22 (c_X4_openWay : Nat → Int32 → Int32 → PH → Option Rs) (c_X4_minutesBy : Nat → Nat → Int32 → Int32 → PH → Option Rs) (g67 : Nat → Int32 → Int32 → Int32 → Int32 → PH → Option Rs) (t : Nat) (x1 : Int32) (x2 : Int32) (x3 : Int32) (x4 : Int32) (h : PH) : Option Rs :=
  if x4 < 8 then
    cI (c_X4_openWay t x1 x4 h) fun v4 h3 =>
    if v4 = (-1) then
      g67 t x1 x2 x3 x4 h3
    else
      nn (hR h3 193 t 0) fun r5 =>
      nn (hR h3 64 r5 0) fun r6 =>
      ix v4 (hL h3 14 r6) fun j7 =>
      cI (c_X4_minutesBy t (hR h3 896 r6 j7) x1 x2 h3) fun v9 h8 =>
      if v9 = x3 then
        some (some (.inl x4), h8)
      else
        g67 t x1 x2 x3 x4 h8
  else
    some (some (.inl (-1)), h)
set_option maxRecDepth 100000 in
theorem X4_heading_l22 (c_X4_openWay : Nat → Int32 → Int32 → PH → Option Rs) (c_X4_minutesBy : Nat → Nat → Int32 → Int32 → PH → Option Rs) (g67 : Nat → Int32 → Int32 → Int32 → Int32 → PH → Option Rs) (t : Nat) (x1 : Int32) (x2 : Int32) (x3 : Int32) (x4 : Int32) (h : PH) : X4_heading_b22 c_X4_openWay c_X4_minutesBy (X4_heading_u67 g67) [some (.inr (3, t + 1)), some (.inl x1), some (.inl x2), some (.inl x3), some (.inl x4), none] [] h = X4_heading_f22 c_X4_openWay c_X4_minutesBy g67 t x1 x2 x3 x4 h := rfl
theorem X4_heading_m22 {c_X4_openWay : Nat → Int32 → Int32 → PH → Option Rs} {c_X4_minutesBy : Nat → Nat → Int32 → Int32 → PH → Option Rs} {g67 G67 : Nat → Int32 → Int32 → Int32 → Int32 → PH → Option Rs} (hg67 : ∀ a0 a1 a2 a3 a4 a5, Mo (g67 a0 a1 a2 a3 a4 a5) (G67 a0 a1 a2 a3 a4 a5)) (t : Nat) (x1 : Int32) (x2 : Int32) (x3 : Int32) (x4 : Int32) (h : PH) : Mo (X4_heading_f22 c_X4_openWay c_X4_minutesBy g67 t x1 x2 x3 x4 h) (X4_heading_f22 c_X4_openWay c_X4_minutesBy G67 t x1 x2 x3 x4 h) := (mo_if (mo_cI fun v4 h3 => (mo_if (hg67 t x1 x2 x3 x4 h3) (mo_nn fun r5 => (mo_nn fun r6 => (mo_ix fun j7 => (mo_cI fun v9 h8 => (mo_if mo_rf (hg67 t x1 x2 x3 x4 h8)))))))) mo_rf)
theorem X4_heading_w22 {z : CZ} {g67 : Nat → Int32 → Int32 → Int32 → Int32 → PH → Option Rs} (hk67 : SK (X4_heading_x z) 67 (X4_heading_u67 g67)) : SK (X4_heading_x z) 22 (X4_heading_u22 (X4_heading_f22 X4_openWay X4_minutesBy g67)) := by
  intro ls st h r e
  obtain ⟨hst, e⟩ := gL_of e
  obtain ⟨t, q0, e⟩ := gT_of e
  obtain ⟨x1, q1, e⟩ := gI_of e
  obtain ⟨x2, q2, e⟩ := gI_of e
  obtain ⟨x3, q3, e⟩ := gI_of e
  obtain ⟨x4, q4, e⟩ := gI_of e
  rw [st_0 hst]
  exact WK.sub (canon := [some (.inr (3, t + 1)), some (.inl x1), some (.inl x2), some (.inl x3), some (.inl x4), none]) rfl ⟨q0, q1, q2, q3, q4, trivial⟩ (X4_heading_s22 hk67 _ _ _ _ ((X4_heading_l22 X4_openWay X4_minutesBy g67 t x1 x2 x3 x4 h).trans e))
noncomputable def X4_heading_f67 (g22 : Nat → Int32 → Int32 → Int32 → Int32 → PH → Option Rs) (t : Nat) (x1 : Int32) (x2 : Int32) (x3 : Int32) (x4 : Int32) (h : PH) : Option Rs :=
  g22 t x1 x2 x3 (x4 + 1) h
set_option maxRecDepth 100000 in
theorem X4_heading_l67 (g22 : Nat → Int32 → Int32 → Int32 → Int32 → PH → Option Rs) (t : Nat) (x1 : Int32) (x2 : Int32) (x3 : Int32) (x4 : Int32) (h : PH) : X4_heading_b67 (X4_heading_u22 g22) [some (.inr (3, t + 1)), some (.inl x1), some (.inl x2), some (.inl x3), some (.inl x4), none] [] h = X4_heading_f67 g22 t x1 x2 x3 x4 h := rfl
theorem X4_heading_m67 {g22 G22 : Nat → Int32 → Int32 → Int32 → Int32 → PH → Option Rs} (hg22 : ∀ a0 a1 a2 a3 a4 a5, Mo (g22 a0 a1 a2 a3 a4 a5) (G22 a0 a1 a2 a3 a4 a5)) (t : Nat) (x1 : Int32) (x2 : Int32) (x3 : Int32) (x4 : Int32) (h : PH) : Mo (X4_heading_f67 g22 t x1 x2 x3 x4 h) (X4_heading_f67 G22 t x1 x2 x3 x4 h) := (hg22 t x1 x2 x3 (x4 + 1) h)
theorem X4_heading_w67 {z : CZ} {g22 : Nat → Int32 → Int32 → Int32 → Int32 → PH → Option Rs} (hk22 : SK (X4_heading_x z) 22 (X4_heading_u22 g22)) : SK (X4_heading_x z) 67 (X4_heading_u67 (X4_heading_f67 g22)) := by
  intro ls st h r e
  obtain ⟨hst, e⟩ := gL_of e
  obtain ⟨t, q0, e⟩ := gT_of e
  obtain ⟨x1, q1, e⟩ := gI_of e
  obtain ⟨x2, q2, e⟩ := gI_of e
  obtain ⟨x3, q3, e⟩ := gI_of e
  obtain ⟨x4, q4, e⟩ := gI_of e
  rw [st_0 hst]
  exact WK.sub (canon := [some (.inr (3, t + 1)), some (.inl x1), some (.inl x2), some (.inl x3), some (.inl x4), none]) rfl ⟨q0, q1, q2, q3, q4, trivial⟩ (X4_heading_s67 hk22 _ _ _ _ ((X4_heading_l67 g22 t x1 x2 x3 x4 h).trans e))
noncomputable def X4_heading_g0 (G : (Nat → Int32 → Int32 → Int32 → Int32 → PH → Option Rs)) (t : Nat) (x1 : Int32) (x2 : Int32) (h : PH) : Option Rs := X4_heading_f0 X4_minutesFrom (G) t x1 x2 h
noncomputable def X4_heading_g67 (G : (Nat → Int32 → Int32 → Int32 → Int32 → PH → Option Rs)) (t : Nat) (x1 : Int32) (x2 : Int32) (x3 : Int32) (x4 : Int32) (h : PH) : Option Rs := X4_heading_f67 (G) t x1 x2 x3 x4 h
noncomputable def X4_heading_g22 (G : (Nat → Int32 → Int32 → Int32 → Int32 → PH → Option Rs)) (t : Nat) (x1 : Int32) (x2 : Int32) (x3 : Int32) (x4 : Int32) (h : PH) : Option Rs := X4_heading_f22 X4_openWay X4_minutesBy (X4_heading_g67 G) t x1 x2 x3 x4 h
theorem X4_heading_v67 {z : CZ} {G : (Nat → Int32 → Int32 → Int32 → Int32 → PH → Option Rs)} (hG22 : SK (X4_heading_x z) 22 (X4_heading_u22 (G))) : SK (X4_heading_x z) 67 (X4_heading_u67 (X4_heading_g67 G)) := X4_heading_w67 hG22
theorem X4_heading_v22 {z : CZ} {G : (Nat → Int32 → Int32 → Int32 → Int32 → PH → Option Rs)} (hG22 : SK (X4_heading_x z) 22 (X4_heading_u22 (G))) : SK (X4_heading_x z) 22 (X4_heading_u22 (X4_heading_g22 G)) := X4_heading_w22 (X4_heading_v67 hG22)
noncomputable def X4_heading_fam : Nat → (Nat → Int32 → Int32 → Int32 → Int32 → PH → Option Rs)
  | 0 => fun _ _ _ _ _ _ => none
  | n + 1 => X4_heading_g22 (X4_heading_fam n)
theorem X4_heading_k {z : CZ} : ∀ n, SK (X4_heading_x z) 22 (X4_heading_u22 (X4_heading_fam n))
  | 0 => (fun ls st h r e => by
      obtain ⟨_, e⟩ := gL_of e
      obtain ⟨_, _, e⟩ := gT_of e
      obtain ⟨_, _, e⟩ := gI_of e
      obtain ⟨_, _, e⟩ := gI_of e
      obtain ⟨_, _, e⟩ := gI_of e
      obtain ⟨_, _, e⟩ := gI_of e
      cases e)
  | n + 1 => by
    obtain ih22 := X4_heading_k n
    exact X4_heading_v22 ih22
theorem X4_heading_n0 {G G' : (Nat → Int32 → Int32 → Int32 → Int32 → PH → Option Rs)} (hg22 : ∀ a0 a1 a2 a3 a4 a5, Mo ((G) a0 a1 a2 a3 a4 a5) ((G') a0 a1 a2 a3 a4 a5)) (t : Nat) (x1 : Int32) (x2 : Int32) (h : PH) : Mo (X4_heading_g0 G t x1 x2 h) (X4_heading_g0 G' t x1 x2 h) := X4_heading_m0 hg22 t x1 x2 h
theorem X4_heading_n67 {G G' : (Nat → Int32 → Int32 → Int32 → Int32 → PH → Option Rs)} (hg22 : ∀ a0 a1 a2 a3 a4 a5, Mo ((G) a0 a1 a2 a3 a4 a5) ((G') a0 a1 a2 a3 a4 a5)) (t : Nat) (x1 : Int32) (x2 : Int32) (x3 : Int32) (x4 : Int32) (h : PH) : Mo (X4_heading_g67 G t x1 x2 x3 x4 h) (X4_heading_g67 G' t x1 x2 x3 x4 h) := X4_heading_m67 hg22 t x1 x2 x3 x4 h
theorem X4_heading_n22 {G G' : (Nat → Int32 → Int32 → Int32 → Int32 → PH → Option Rs)} (hg22 : ∀ a0 a1 a2 a3 a4 a5, Mo ((G) a0 a1 a2 a3 a4 a5) ((G') a0 a1 a2 a3 a4 a5)) (t : Nat) (x1 : Int32) (x2 : Int32) (x3 : Int32) (x4 : Int32) (h : PH) : Mo (X4_heading_g22 G t x1 x2 x3 x4 h) (X4_heading_g22 G' t x1 x2 x3 x4 h) := X4_heading_m22 (fun a0 a1 a2 a3 a4 a5 => X4_heading_n67 hg22 a0 a1 a2 a3 a4 a5) t x1 x2 x3 x4 h
theorem X4_heading_fm : ∀ n, (∀ a0 a1 a2 a3 a4 a5, Mo ((X4_heading_fam n) a0 a1 a2 a3 a4 a5) ((X4_heading_fam (n + 1)) a0 a1 a2 a3 a4 a5))
  | 0 => fun _ _ _ _ _ _ => mo_no
  | n + 1 => by
    obtain ih22 := X4_heading_fm n
    exact fun a0 a1 a2 a3 a4 a5 => X4_heading_n22 ih22 a0 a1 a2 a3 a4 a5
noncomputable def X4_heading (t : Nat) (x1 : Int32) (x2 : Int32) (h : PH) : Option Rs := lim (fun n => X4_heading_g0 (X4_heading_fam n) t x1 x2 h)
theorem X4_heading_iff {t : Nat} {x1 : Int32} {x2 : Int32} {h : PH} {r : Rs} : X4_heading t x1 x2 h = some r ↔ ∃ n, X4_heading_g0 (X4_heading_fam n) t x1 x2 h = some r := lim_iff (fun n => by
  obtain ih22 := X4_heading_fm n
  exact X4_heading_n0 ih22 t x1 x2 h)
noncomputable abbrev X4_heading_F : List PV → PH → Option Rs := FW_T3II (X4_heading)
set_option maxRecDepth 100000 in
theorem X4_heading_gd (l : Launch) : Gd l 2 yX4_heading cX4_heading 6 (some .int) (X4_heading_F)   := Gd_of (by decide +kernel) (fun z hzl as h r e => by
  obtain ⟨hst, e⟩ := gL_of e
  obtain ⟨t, q0, e⟩ := gT_of e
  obtain ⟨x1, q1, e⟩ := gI_of e
  obtain ⟨x2, q2, e⟩ := gI_of e
  rw [st_3 hst q0 q1 q2]
  obtain ⟨n, e⟩ := lim_of e
  obtain hG22 := X4_heading_k (z := z) n
  exact ⟨show 3 ≤ 6 by decide, X4_heading_s0 hG22 _ _ _ _ ((X4_heading_l0 X4_minutesFrom (X4_heading_fam n) t x1 x2 h).trans e)⟩)
abbrev X11_next_x (z : CZ) : CX := mx RX11 cX11_next 5 5 (some .int) "next" z
noncomputable def X11_next_b0 (c_X11_isTrip : Nat → Int32 → Int32 → Int32 → PH → Option Rs) (c_X11_roadsFor : Nat → Int32 → PH → Option Rs) (c_X4_measure : Nat → Int32 → PH → Option Rs) (c_X4_heading : Nat → Int32 → Int32 → PH → Option Rs) (c_X11_orNone : Int32 → PH → Option Rs) : Kn := (a_al 0 (a_il 1 (a_il 2 (a_il 3 (a_vI 10 3 (FW_T10III c_X11_isTrip) (a_z (a_ic (-1000000001) a_ir) (a_al 0 (a_il 3 (a_vR 10 3 1 (FW_T10I c_X11_roadsFor) (a_as 4 (a_al 4 (a_il 2 (a_vV 3 1 (FW_T3I c_X4_measure) (a_al 4 (a_il 1 (a_il 2 (a_vI 3 2 (FW_T3II c_X4_heading) (a_sI 1 (FW_I c_X11_orNone) a_ir))))))))))))))))))
set_option maxRecDepth 100000 in
theorem X11_next_s0 {z : CZ} : SK (X11_next_x z) 0 (X11_next_b0 X11_isTrip X11_roadsFor X4_measure X4_heading X11_orNone) := (s_aloadn (pc := 0) dX11_next_0 rfl (s_iloadn (pc := 1) dX11_next_1 rfl (s_iloadn (pc := 2) dX11_next_2 rfl (s_iloadn (pc := 3) dX11_next_3 rfl (s_vI (pc := 4) (run_virtual (X11_isTrip_gd _) (show 2 < 5 by decide) cy_X11_isTrip (by decide) rfl w_953 w_s14 w_951 dX11_next_4) (s_ifne (pc := 7) dX11_next_7 (by decide) (s_aloadn (pc := 13) dX11_next_13 rfl (s_iloadn (pc := 14) dX11_next_14 rfl (s_vR (pc := 15) (run_virtual (X11_roadsFor_gd _) (show 4 < 5 by decide) cy_X11_roadsFor (by decide) rfl w_1020 w_s20 w_1018 dX11_next_15) (s_astore (pc := 18) dX11_next_18 (show 4 < 5 by decide) (s_aload (pc := 20) dX11_next_20 (s_iloadn (pc := 22) dX11_next_22 rfl (s_vV (pc := 23) (run_virtual (X4_measure_gd _) (show 2 < 5 by decide) cy_X4_measure (by decide) rfl w_1024 w_1025 w_1023 dX11_next_23) (s_aload (pc := 26) dX11_next_26 (s_iloadn (pc := 28) dX11_next_28 rfl (s_iloadn (pc := 29) dX11_next_29 rfl (s_vI (pc := 30) (run_virtual (X4_heading_gd _) (show 2 < 5 by decide) cy_X4_heading (by decide) rfl w_1046 w_1047 w_1045 dX11_next_30) (s_sI (pc := 33) (run_static (X11_orNone_gd _) (show 0 < 5 by decide) cy_X11_orNone w_609 w_608 dX11_next_33) (s_ir (pc := 36) rfl dX11_next_36))))))))))))) (s_ldc (pc := 10) w_551 dX11_next_10 (s_ir (pc := 12) rfl dX11_next_12))))))))
noncomputable def X11_next_f0 (c_X11_isTrip : Nat → Int32 → Int32 → Int32 → PH → Option Rs) (c_X11_roadsFor : Nat → Int32 → PH → Option Rs) (c_X4_measure : Nat → Int32 → PH → Option Rs) (c_X4_heading : Nat → Int32 → Int32 → PH → Option Rs) (c_X11_orNone : Int32 → PH → Option Rs) (t : Nat) (x1 : Int32) (x2 : Int32) (x3 : Int32) (h : PH) : Option Rs :=
  cI (c_X11_isTrip t x1 x2 x3 h) fun v2 h1 =>
  if v2 = 0 then
    some (some (.inl (-1000000001)), h1)
  else
    cR 3 (c_X11_roadsFor t x3 h1) fun r4 h3 =>
    nn r4 fun r5 =>
    cV (c_X4_measure r5 x2 h3) fun h6 =>
    nn r4 fun r7 =>
    cI (c_X4_heading r7 x1 x2 h6) fun v9 h8 =>
    cI (c_X11_orNone v9 h8) fun v11 h10 =>
    some (some (.inl v11), h10)
set_option maxRecDepth 100000 in
theorem X11_next_l0 (c_X11_isTrip : Nat → Int32 → Int32 → Int32 → PH → Option Rs) (c_X11_roadsFor : Nat → Int32 → PH → Option Rs) (c_X4_measure : Nat → Int32 → PH → Option Rs) (c_X4_heading : Nat → Int32 → Int32 → PH → Option Rs) (c_X11_orNone : Int32 → PH → Option Rs) (t : Nat) (x1 : Int32) (x2 : Int32) (x3 : Int32) (h : PH) : X11_next_b0 c_X11_isTrip c_X11_roadsFor c_X4_measure c_X4_heading c_X11_orNone [some (.inr (10, t + 1)), some (.inl x1), some (.inl x2), some (.inl x3), none] [] h = X11_next_f0 c_X11_isTrip c_X11_roadsFor c_X4_measure c_X4_heading c_X11_orNone t x1 x2 x3 h := rfl
noncomputable def X11_next_g0 (t : Nat) (x1 : Int32) (x2 : Int32) (x3 : Int32) (h : PH) : Option Rs := X11_next_f0 X11_isTrip X11_roadsFor X4_measure X4_heading X11_orNone t x1 x2 x3 h
noncomputable def X11_next (t : Nat) (x1 : Int32) (x2 : Int32) (x3 : Int32) (h : PH) : Option Rs := X11_next_g0 t x1 x2 x3 h
noncomputable abbrev X11_next_F : List PV → PH → Option Rs := FW_T10III (X11_next)
set_option maxRecDepth 100000 in
theorem X11_next_gd (l : Launch) : Gd l 5 yX11_next cX11_next 5 (some .int) (X11_next_F)   := Gd_of (by decide +kernel) (fun z hzl as h r e => by
  obtain ⟨hst, e⟩ := gL_of e
  obtain ⟨t, q0, e⟩ := gT_of e
  obtain ⟨x1, q1, e⟩ := gI_of e
  obtain ⟨x2, q2, e⟩ := gI_of e
  obtain ⟨x3, q3, e⟩ := gI_of e
  rw [st_4 hst q0 q1 q2 q3]
  exact ⟨show 4 ≤ 5 by decide, X11_next_s0 _ _ _ _ ((X11_next_l0 X11_isTrip X11_roadsFor X4_measure X4_heading X11_orNone t x1 x2 x3 h).trans e)⟩)
abbrev X6_quarrels_x (z : CZ) : CX := mx RX6 cX6_quarrels 5 0 (some .boolean) "quarrels" z
noncomputable def X6_quarrels_b0 (k3 : Kn) : Kn := (a_ic 0 (a_is 4 k3))
set_option maxRecDepth 100000 in
theorem X6_quarrels_s0 {z : CZ} {k3 : Kn} (hk3 : SK (X6_quarrels_x z) 3 k3) : SK (X6_quarrels_x z) 0 (X6_quarrels_b0 k3) := (s_iconst (pc := 0) dX6_quarrels_0 c_ic_0 (s_istore (pc := 1) dX6_quarrels_1 (show 4 < 5 by decide) hk3))
noncomputable def X6_quarrels_b3 (k42 : Kn) : Kn := (a_il 4 (a_il 3 (a_lt (a_il 4 (a_al 0 (a_gI 5 324 (a_lt (a_al 0 (a_gR 5 325 27 (a_il 4 (a_ald 27 1728 (a_il 1 (a_eq (a_al 0 (a_gR 5 326 28 (a_il 4 (a_ald 28 1792 (a_il 2 (a_eq k42 (a_ic 1 a_zr))))))) k42)))))) (a_ic 0 a_zr))))) (a_ic 0 a_zr))))
set_option maxRecDepth 100000 in
theorem X6_quarrels_s3 {z : CZ} {k42 : Kn} (hk42 : SK (X6_quarrels_x z) 42 k42) : SK (X6_quarrels_x z) 3 (X6_quarrels_b3 k42) := (s_iload (pc := 3) dX6_quarrels_3 (s_iloadn (pc := 5) dX6_quarrels_5 rfl (s_cmpge (pc := 6) dX6_quarrels_6 (by decide) (s_iconst (pc := 48) dX6_quarrels_48 c_ic_0 (s_zr (pc := 49) rfl dX6_quarrels_49)) (s_iload (pc := 9) dX6_quarrels_9 (s_aloadn (pc := 11) dX6_quarrels_11 rfl (s_gI (pc := 12) (f := 4) ko_5 (by decide) rfl rfl w_184 dX6_quarrels_12 (s_cmpge (pc := 15) dX6_quarrels_15 (by decide) (s_iconst (pc := 48) dX6_quarrels_48 c_ic_0 (s_zr (pc := 49) rfl dX6_quarrels_49)) (s_aloadn (pc := 18) dX6_quarrels_18 rfl (s_gR (pc := 19) (f := 5) ko_5 (by decide) rfl rfl w_186 dX6_quarrels_19 (s_iload (pc := 22) dX6_quarrels_22 (s_iald (pc := 24) (by decide) (by decide) rfl rfl rfl dX6_quarrels_24 (s_iloadn (pc := 25) dX6_quarrels_25 rfl (s_cmpne (pc := 26) dX6_quarrels_26 (by decide) hk42 (s_aloadn (pc := 29) dX6_quarrels_29 rfl (s_gR (pc := 30) (f := 6) ko_5 (by decide) rfl rfl w_190 dX6_quarrels_30 (s_iload (pc := 33) dX6_quarrels_33 (s_iald (pc := 35) (by decide) (by decide) rfl rfl rfl dX6_quarrels_35 (s_iloadn (pc := 36) dX6_quarrels_36 rfl (s_cmpeq (pc := 37) dX6_quarrels_37 (by decide) hk42 (s_iconst (pc := 40) dX6_quarrels_40 c_ic_1 (s_zr (pc := 41) rfl dX6_quarrels_41)))))))))))))))))))))
noncomputable def X6_quarrels_b42 (k3 : Kn) : Kn := (a_inc 4 1 k3)
set_option maxRecDepth 100000 in
theorem X6_quarrels_s42 {z : CZ} {k3 : Kn} (hk3 : SK (X6_quarrels_x z) 3 k3) : SK (X6_quarrels_x z) 42 (X6_quarrels_b42 k3) := (s_iinc (pc := 42) dX6_quarrels_42 c_ic_1 (show 4 < 5 by decide) (s_goto (pc := 45) dX6_quarrels_45 (by decide) hk3))
noncomputable def X6_quarrels_u3 (g : Nat → Int32 → Int32 → Int32 → Int32 → PH → Option Rs) : Kn := fun ls st h => gL 0 st (gT 5 ls 0 fun t => gI ls 1 fun x1 => gI ls 2 fun x2 => gI ls 3 fun x3 => gI ls 4 fun x4 => g t x1 x2 x3 x4 h)
noncomputable def X6_quarrels_u42 (g : Nat → Int32 → Int32 → Int32 → Int32 → PH → Option Rs) : Kn := fun ls st h => gL 0 st (gT 5 ls 0 fun t => gI ls 1 fun x1 => gI ls 2 fun x2 => gI ls 3 fun x3 => gI ls 4 fun x4 => g t x1 x2 x3 x4 h)
noncomputable def X6_quarrels_f0 (g3 : Nat → Int32 → Int32 → Int32 → Int32 → PH → Option Rs) (t : Nat) (x1 : Int32) (x2 : Int32) (x3 : Int32) (h : PH) : Option Rs :=
  g3 t x1 x2 x3 0 h
set_option maxRecDepth 100000 in
theorem X6_quarrels_l0 (g3 : Nat → Int32 → Int32 → Int32 → Int32 → PH → Option Rs) (t : Nat) (x1 : Int32) (x2 : Int32) (x3 : Int32) (h : PH) : X6_quarrels_b0 (X6_quarrels_u3 g3) [some (.inr (5, t + 1)), some (.inl x1), some (.inl x2), some (.inl x3), none] [] h = X6_quarrels_f0 g3 t x1 x2 x3 h := rfl
theorem X6_quarrels_m0 {g3 G3 : Nat → Int32 → Int32 → Int32 → Int32 → PH → Option Rs} (hg3 : ∀ a0 a1 a2 a3 a4 a5, Mo (g3 a0 a1 a2 a3 a4 a5) (G3 a0 a1 a2 a3 a4 a5)) (t : Nat) (x1 : Int32) (x2 : Int32) (x3 : Int32) (h : PH) : Mo (X6_quarrels_f0 g3 t x1 x2 x3 h) (X6_quarrels_f0 G3 t x1 x2 x3 h) := (hg3 t x1 x2 x3 0 h)
noncomputable def X6_quarrels_f3 (g42 : Nat → Int32 → Int32 → Int32 → Int32 → PH → Option Rs) (t : Nat) (x1 : Int32) (x2 : Int32) (x3 : Int32) (x4 : Int32) (h : PH) : Option Rs :=
  if x4 < x3 then
    if x4 < (hI h 324 t 0) then
      nn (hR h 325 t 0) fun r1 =>
      ix x4 (hL h 27 r1) fun j2 =>
      if (hI h 1728 r1 j2) = x1 then
        nn (hR h 326 t 0) fun r3 =>
        ix x4 (hL h 28 r3) fun j4 =>
        if (hI h 1792 r3 j4) = x2 then
          g42 t x1 x2 x3 x4 h
        else
          bz 1 <|
          some (some (.inl 1), h)
      else
        g42 t x1 x2 x3 x4 h
    else
      bz 0 <|
      some (some (.inl 0), h)
  else
    bz 0 <|
    some (some (.inl 0), h)
set_option maxRecDepth 100000 in
theorem X6_quarrels_l3 (g42 : Nat → Int32 → Int32 → Int32 → Int32 → PH → Option Rs) (t : Nat) (x1 : Int32) (x2 : Int32) (x3 : Int32) (x4 : Int32) (h : PH) : X6_quarrels_b3 (X6_quarrels_u42 g42) [some (.inr (5, t + 1)), some (.inl x1), some (.inl x2), some (.inl x3), some (.inl x4)] [] h = X6_quarrels_f3 g42 t x1 x2 x3 x4 h := rfl
theorem X6_quarrels_m3 {g42 G42 : Nat → Int32 → Int32 → Int32 → Int32 → PH → Option Rs} (hg42 : ∀ a0 a1 a2 a3 a4 a5, Mo (g42 a0 a1 a2 a3 a4 a5) (G42 a0 a1 a2 a3 a4 a5)) (t : Nat) (x1 : Int32) (x2 : Int32) (x3 : Int32) (x4 : Int32) (h : PH) : Mo (X6_quarrels_f3 g42 t x1 x2 x3 x4 h) (X6_quarrels_f3 G42 t x1 x2 x3 x4 h) := (mo_if (mo_if (mo_nn fun r1 => (mo_ix fun j2 => (mo_if (mo_nn fun r3 => (mo_ix fun j4 => (mo_if (hg42 t x1 x2 x3 x4 h) (mo_bz mo_rf)))) (hg42 t x1 x2 x3 x4 h)))) (mo_bz mo_rf)) (mo_bz mo_rf))
theorem X6_quarrels_w3 {z : CZ} {g42 : Nat → Int32 → Int32 → Int32 → Int32 → PH → Option Rs} (hk42 : SK (X6_quarrels_x z) 42 (X6_quarrels_u42 g42)) : SK (X6_quarrels_x z) 3 (X6_quarrels_u3 (X6_quarrels_f3 g42)) := by
  intro ls st h r e
  obtain ⟨hst, e⟩ := gL_of e
  obtain ⟨t, q0, e⟩ := gT_of e
  obtain ⟨x1, q1, e⟩ := gI_of e
  obtain ⟨x2, q2, e⟩ := gI_of e
  obtain ⟨x3, q3, e⟩ := gI_of e
  obtain ⟨x4, q4, e⟩ := gI_of e
  rw [st_0 hst]
  exact WK.sub (canon := [some (.inr (5, t + 1)), some (.inl x1), some (.inl x2), some (.inl x3), some (.inl x4)]) rfl ⟨q0, q1, q2, q3, q4, trivial⟩ (X6_quarrels_s3 hk42 _ _ _ _ ((X6_quarrels_l3 g42 t x1 x2 x3 x4 h).trans e))
noncomputable def X6_quarrels_f42 (g3 : Nat → Int32 → Int32 → Int32 → Int32 → PH → Option Rs) (t : Nat) (x1 : Int32) (x2 : Int32) (x3 : Int32) (x4 : Int32) (h : PH) : Option Rs :=
  g3 t x1 x2 x3 (x4 + 1) h
set_option maxRecDepth 100000 in
theorem X6_quarrels_l42 (g3 : Nat → Int32 → Int32 → Int32 → Int32 → PH → Option Rs) (t : Nat) (x1 : Int32) (x2 : Int32) (x3 : Int32) (x4 : Int32) (h : PH) : X6_quarrels_b42 (X6_quarrels_u3 g3) [some (.inr (5, t + 1)), some (.inl x1), some (.inl x2), some (.inl x3), some (.inl x4)] [] h = X6_quarrels_f42 g3 t x1 x2 x3 x4 h := rfl
theorem X6_quarrels_m42 {g3 G3 : Nat → Int32 → Int32 → Int32 → Int32 → PH → Option Rs} (hg3 : ∀ a0 a1 a2 a3 a4 a5, Mo (g3 a0 a1 a2 a3 a4 a5) (G3 a0 a1 a2 a3 a4 a5)) (t : Nat) (x1 : Int32) (x2 : Int32) (x3 : Int32) (x4 : Int32) (h : PH) : Mo (X6_quarrels_f42 g3 t x1 x2 x3 x4 h) (X6_quarrels_f42 G3 t x1 x2 x3 x4 h) := (hg3 t x1 x2 x3 (x4 + 1) h)
theorem X6_quarrels_w42 {z : CZ} {g3 : Nat → Int32 → Int32 → Int32 → Int32 → PH → Option Rs} (hk3 : SK (X6_quarrels_x z) 3 (X6_quarrels_u3 g3)) : SK (X6_quarrels_x z) 42 (X6_quarrels_u42 (X6_quarrels_f42 g3)) := by
  intro ls st h r e
  obtain ⟨hst, e⟩ := gL_of e
  obtain ⟨t, q0, e⟩ := gT_of e
  obtain ⟨x1, q1, e⟩ := gI_of e
  obtain ⟨x2, q2, e⟩ := gI_of e
  obtain ⟨x3, q3, e⟩ := gI_of e
  obtain ⟨x4, q4, e⟩ := gI_of e
  rw [st_0 hst]
  exact WK.sub (canon := [some (.inr (5, t + 1)), some (.inl x1), some (.inl x2), some (.inl x3), some (.inl x4)]) rfl ⟨q0, q1, q2, q3, q4, trivial⟩ (X6_quarrels_s42 hk3 _ _ _ _ ((X6_quarrels_l42 g3 t x1 x2 x3 x4 h).trans e))
noncomputable def X6_quarrels_g0 (G : (Nat → Int32 → Int32 → Int32 → Int32 → PH → Option Rs)) (t : Nat) (x1 : Int32) (x2 : Int32) (x3 : Int32) (h : PH) : Option Rs := X6_quarrels_f0 (G) t x1 x2 x3 h
noncomputable def X6_quarrels_g42 (G : (Nat → Int32 → Int32 → Int32 → Int32 → PH → Option Rs)) (t : Nat) (x1 : Int32) (x2 : Int32) (x3 : Int32) (x4 : Int32) (h : PH) : Option Rs := X6_quarrels_f42 (G) t x1 x2 x3 x4 h
noncomputable def X6_quarrels_g3 (G : (Nat → Int32 → Int32 → Int32 → Int32 → PH → Option Rs)) (t : Nat) (x1 : Int32) (x2 : Int32) (x3 : Int32) (x4 : Int32) (h : PH) : Option Rs := X6_quarrels_f3 (X6_quarrels_g42 G) t x1 x2 x3 x4 h
theorem X6_quarrels_v42 {z : CZ} {G : (Nat → Int32 → Int32 → Int32 → Int32 → PH → Option Rs)} (hG3 : SK (X6_quarrels_x z) 3 (X6_quarrels_u3 (G))) : SK (X6_quarrels_x z) 42 (X6_quarrels_u42 (X6_quarrels_g42 G)) := X6_quarrels_w42 hG3
theorem X6_quarrels_v3 {z : CZ} {G : (Nat → Int32 → Int32 → Int32 → Int32 → PH → Option Rs)} (hG3 : SK (X6_quarrels_x z) 3 (X6_quarrels_u3 (G))) : SK (X6_quarrels_x z) 3 (X6_quarrels_u3 (X6_quarrels_g3 G)) := X6_quarrels_w3 (X6_quarrels_v42 hG3)
noncomputable def X6_quarrels_fam : Nat → (Nat → Int32 → Int32 → Int32 → Int32 → PH → Option Rs)
  | 0 => fun _ _ _ _ _ _ => none
  | n + 1 => X6_quarrels_g3 (X6_quarrels_fam n)
theorem X6_quarrels_k {z : CZ} : ∀ n, SK (X6_quarrels_x z) 3 (X6_quarrels_u3 (X6_quarrels_fam n))
  | 0 => (fun ls st h r e => by
      obtain ⟨_, e⟩ := gL_of e
      obtain ⟨_, _, e⟩ := gT_of e
      obtain ⟨_, _, e⟩ := gI_of e
      obtain ⟨_, _, e⟩ := gI_of e
      obtain ⟨_, _, e⟩ := gI_of e
      obtain ⟨_, _, e⟩ := gI_of e
      cases e)
  | n + 1 => by
    obtain ih3 := X6_quarrels_k n
    exact X6_quarrels_v3 ih3
theorem X6_quarrels_n0 {G G' : (Nat → Int32 → Int32 → Int32 → Int32 → PH → Option Rs)} (hg3 : ∀ a0 a1 a2 a3 a4 a5, Mo ((G) a0 a1 a2 a3 a4 a5) ((G') a0 a1 a2 a3 a4 a5)) (t : Nat) (x1 : Int32) (x2 : Int32) (x3 : Int32) (h : PH) : Mo (X6_quarrels_g0 G t x1 x2 x3 h) (X6_quarrels_g0 G' t x1 x2 x3 h) := X6_quarrels_m0 hg3 t x1 x2 x3 h
theorem X6_quarrels_n42 {G G' : (Nat → Int32 → Int32 → Int32 → Int32 → PH → Option Rs)} (hg3 : ∀ a0 a1 a2 a3 a4 a5, Mo ((G) a0 a1 a2 a3 a4 a5) ((G') a0 a1 a2 a3 a4 a5)) (t : Nat) (x1 : Int32) (x2 : Int32) (x3 : Int32) (x4 : Int32) (h : PH) : Mo (X6_quarrels_g42 G t x1 x2 x3 x4 h) (X6_quarrels_g42 G' t x1 x2 x3 x4 h) := X6_quarrels_m42 hg3 t x1 x2 x3 x4 h
theorem X6_quarrels_n3 {G G' : (Nat → Int32 → Int32 → Int32 → Int32 → PH → Option Rs)} (hg3 : ∀ a0 a1 a2 a3 a4 a5, Mo ((G) a0 a1 a2 a3 a4 a5) ((G') a0 a1 a2 a3 a4 a5)) (t : Nat) (x1 : Int32) (x2 : Int32) (x3 : Int32) (x4 : Int32) (h : PH) : Mo (X6_quarrels_g3 G t x1 x2 x3 x4 h) (X6_quarrels_g3 G' t x1 x2 x3 x4 h) := X6_quarrels_m3 (fun a0 a1 a2 a3 a4 a5 => X6_quarrels_n42 hg3 a0 a1 a2 a3 a4 a5) t x1 x2 x3 x4 h
theorem X6_quarrels_fm : ∀ n, (∀ a0 a1 a2 a3 a4 a5, Mo ((X6_quarrels_fam n) a0 a1 a2 a3 a4 a5) ((X6_quarrels_fam (n + 1)) a0 a1 a2 a3 a4 a5))
  | 0 => fun _ _ _ _ _ _ => mo_no
  | n + 1 => by
    obtain ih3 := X6_quarrels_fm n
    exact fun a0 a1 a2 a3 a4 a5 => X6_quarrels_n3 ih3 a0 a1 a2 a3 a4 a5
noncomputable def X6_quarrels (t : Nat) (x1 : Int32) (x2 : Int32) (x3 : Int32) (h : PH) : Option Rs := lim (fun n => X6_quarrels_g0 (X6_quarrels_fam n) t x1 x2 x3 h)
theorem X6_quarrels_iff {t : Nat} {x1 : Int32} {x2 : Int32} {x3 : Int32} {h : PH} {r : Rs} : X6_quarrels t x1 x2 x3 h = some r ↔ ∃ n, X6_quarrels_g0 (X6_quarrels_fam n) t x1 x2 x3 h = some r := lim_iff (fun n => by
  obtain ih3 := X6_quarrels_fm n
  exact X6_quarrels_n0 ih3 t x1 x2 x3 h)
noncomputable abbrev X6_quarrels_F : List PV → PH → Option Rs := FW_T5III (X6_quarrels)
set_option maxRecDepth 100000 in
theorem X6_quarrels_gd (l : Launch) : Gd l 0 yX6_quarrels cX6_quarrels 5 (some .boolean) (X6_quarrels_F)   := Gd_of (by decide +kernel) (fun z hzl as h r e => by
  obtain ⟨hst, e⟩ := gL_of e
  obtain ⟨t, q0, e⟩ := gT_of e
  obtain ⟨x1, q1, e⟩ := gI_of e
  obtain ⟨x2, q2, e⟩ := gI_of e
  obtain ⟨x3, q3, e⟩ := gI_of e
  rw [st_4 hst q0 q1 q2 q3]
  obtain ⟨n, e⟩ := lim_of e
  obtain hG3 := X6_quarrels_k (z := z) n
  exact ⟨show 4 ≤ 5 by decide, X6_quarrels_s0 hG3 _ _ _ _ ((X6_quarrels_l0 (X6_quarrels_fam n) t x1 x2 x3 h).trans e)⟩)
abbrev X2_isQuarrel_x (z : CZ) : CX := mx RX2 cX2_isQuarrel 6 1 (some .boolean) "isQuarrel" z
noncomputable def X2_isQuarrel_b0 (k10 : Kn) : Kn := (a_al 0 (a_gR 1 68 18 (a_il 1 (a_rald 18 1152 5 (a_as 3 (a_ic 0 (a_is 4 k10)))))))
set_option maxRecDepth 100000 in
theorem X2_isQuarrel_s0 {z : CZ} {k10 : Kn} (hk10 : SK (X2_isQuarrel_x z) 10 k10) : SK (X2_isQuarrel_x z) 0 (X2_isQuarrel_b0 k10) := (s_aloadn (pc := 0) dX2_isQuarrel_0 rfl (s_gR (pc := 1) (f := 4) ko_1 (by decide) rfl rfl w_230 dX2_isQuarrel_1 (s_iloadn (pc := 4) dX2_isQuarrel_4 rfl (s_rald (pc := 5) (by decide) (by decide) rfl rfl rfl dX2_isQuarrel_5 (s_astoren (pc := 6) dX2_isQuarrel_6 rfl (show 3 < 6 by decide) (s_iconst (pc := 7) dX2_isQuarrel_7 c_ic_0 (s_istore (pc := 8) dX2_isQuarrel_8 (show 4 < 6 by decide) hk10)))))))
noncomputable def X2_isQuarrel_b10 (c_X6_quarrels : Nat → Int32 → Int32 → Int32 → PH → Option Rs) (k64 : Kn) : Kn := (a_il 4 (a_il 1 (a_lt (a_al 0 (a_gR 1 68 18 (a_il 4 (a_rald 18 1152 5 (a_as 5 (a_al 5 (a_gI 5 320 (a_al 3 (a_gI 5 320 (a_eq (a_al 5 (a_al 3 (a_gR 5 325 27 (a_il 2 (a_ald 27 1728 (a_al 3 (a_gR 5 326 28 (a_il 2 (a_ald 28 1792 (a_al 5 (a_gI 5 324 (a_vI 5 3 (FW_T5III c_X6_quarrels) (a_z k64 (a_ic 1 a_zr)))))))))))))) k64)))))))))) (a_al 3 (a_al 3 (a_gR 5 325 27 (a_il 2 (a_ald 27 1728 (a_al 3 (a_gR 5 326 28 (a_il 2 (a_ald 28 1792 (a_il 2 (a_vI 5 3 (FW_T5III c_X6_quarrels) a_zr))))))))))))))
set_option maxRecDepth 100000 in
theorem X2_isQuarrel_s10 {z : CZ} {k64 : Kn} (hk64 : SK (X2_isQuarrel_x z) 64 k64) : SK (X2_isQuarrel_x z) 10 (X2_isQuarrel_b10 X6_quarrels k64) := (s_iload (pc := 10) dX2_isQuarrel_10 (s_iloadn (pc := 12) dX2_isQuarrel_12 rfl (s_cmpge (pc := 13) dX2_isQuarrel_13 (by decide) (s_aloadn (pc := 70) dX2_isQuarrel_70 rfl (s_aloadn (pc := 71) dX2_isQuarrel_71 rfl (s_gR (pc := 72) (f := 5) ko_5 (by decide) rfl rfl w_187 dX2_isQuarrel_72 (s_iloadn (pc := 75) dX2_isQuarrel_75 rfl (s_iald (pc := 76) (by decide) (by decide) rfl rfl rfl dX2_isQuarrel_76 (s_aloadn (pc := 77) dX2_isQuarrel_77 rfl (s_gR (pc := 78) (f := 6) ko_5 (by decide) rfl rfl w_191 dX2_isQuarrel_78 (s_iloadn (pc := 81) dX2_isQuarrel_81 rfl (s_iald (pc := 82) (by decide) (by decide) rfl rfl rfl dX2_isQuarrel_82 (s_iloadn (pc := 83) dX2_isQuarrel_83 rfl (s_vI (pc := 84) (run_virtual (X6_quarrels_gd _) (show 0 < 1 by decide) cy_X6_quarrels (by decide) rfl w_1069 w_1070 w_1068 dX2_isQuarrel_84) (s_zr (pc := 87) rfl dX2_isQuarrel_87)))))))))))) (s_aloadn (pc := 16) dX2_isQuarrel_16 rfl (s_gR (pc := 17) (f := 4) ko_1 (by decide) rfl rfl w_230 dX2_isQuarrel_17 (s_iload (pc := 20) dX2_isQuarrel_20 (s_rald (pc := 22) (by decide) (by decide) rfl rfl rfl dX2_isQuarrel_22 (s_astore (pc := 23) dX2_isQuarrel_23 (show 5 < 6 by decide) (s_aload (pc := 25) dX2_isQuarrel_25 (s_gI (pc := 27) (f := 0) ko_5 (by decide) rfl rfl w_167 dX2_isQuarrel_27 (s_aloadn (pc := 30) dX2_isQuarrel_30 rfl (s_gI (pc := 31) (f := 0) ko_5 (by decide) rfl rfl w_167 dX2_isQuarrel_31 (s_cmpne (pc := 34) dX2_isQuarrel_34 (by decide) hk64 (s_aload (pc := 37) dX2_isQuarrel_37 (s_aloadn (pc := 39) dX2_isQuarrel_39 rfl (s_gR (pc := 40) (f := 5) ko_5 (by decide) rfl rfl w_187 dX2_isQuarrel_40 (s_iloadn (pc := 43) dX2_isQuarrel_43 rfl (s_iald (pc := 44) (by decide) (by decide) rfl rfl rfl dX2_isQuarrel_44 (s_aloadn (pc := 45) dX2_isQuarrel_45 rfl (s_gR (pc := 46) (f := 6) ko_5 (by decide) rfl rfl w_191 dX2_isQuarrel_46 (s_iloadn (pc := 49) dX2_isQuarrel_49 rfl (s_iald (pc := 50) (by decide) (by decide) rfl rfl rfl dX2_isQuarrel_50 (s_aload (pc := 51) dX2_isQuarrel_51 (s_gI (pc := 53) (f := 4) ko_5 (by decide) rfl rfl w_181 dX2_isQuarrel_53 (s_vI (pc := 56) (run_virtual (X6_quarrels_gd _) (show 0 < 1 by decide) cy_X6_quarrels (by decide) rfl w_1069 w_1070 w_1068 dX2_isQuarrel_56) (s_ifeq (pc := 59) dX2_isQuarrel_59 (by decide) hk64 (s_iconst (pc := 62) dX2_isQuarrel_62 c_ic_1 (s_zr (pc := 63) rfl dX2_isQuarrel_63))))))))))))))))))))))))))))
noncomputable def X2_isQuarrel_b64 (k10 : Kn) : Kn := (a_inc 4 1 k10)
set_option maxRecDepth 100000 in
theorem X2_isQuarrel_s64 {z : CZ} {k10 : Kn} (hk10 : SK (X2_isQuarrel_x z) 10 k10) : SK (X2_isQuarrel_x z) 64 (X2_isQuarrel_b64 k10) := (s_iinc (pc := 64) dX2_isQuarrel_64 c_ic_1 (show 4 < 6 by decide) (s_goto (pc := 67) dX2_isQuarrel_67 (by decide) hk10))
noncomputable def X2_isQuarrel_u10 (g : Nat → Int32 → Int32 → Nat → Int32 → PH → Option Rs) : Kn := fun ls st h => gL 0 st (gR 1 ls 0 fun x0 => gI ls 1 fun x1 => gI ls 2 fun x2 => gR 5 ls 3 fun x3 => gI ls 4 fun x4 => g x0 x1 x2 x3 x4 h)
noncomputable def X2_isQuarrel_u64 (g : Nat → Int32 → Int32 → Nat → Int32 → PH → Option Rs) : Kn := fun ls st h => gL 0 st (gR 1 ls 0 fun x0 => gI ls 1 fun x1 => gI ls 2 fun x2 => gR 5 ls 3 fun x3 => gI ls 4 fun x4 => g x0 x1 x2 x3 x4 h)
noncomputable def X2_isQuarrel_f0 (g10 : Nat → Int32 → Int32 → Nat → Int32 → PH → Option Rs) (x0 : Nat) (x1 : Int32) (x2 : Int32) (h : PH) : Option Rs :=
  nn x0 fun r1 =>
  nn (hR h 68 r1 0) fun r2 =>
  ix x1 (hL h 18 r2) fun j3 =>
  g10 x0 x1 x2 (hR h 1152 r2 j3) 0 h
set_option maxRecDepth 100000 in
theorem X2_isQuarrel_l0 (g10 : Nat → Int32 → Int32 → Nat → Int32 → PH → Option Rs) (x0 : Nat) (x1 : Int32) (x2 : Int32) (h : PH) : X2_isQuarrel_b0 (X2_isQuarrel_u10 g10) [some (.inr (1, x0)), some (.inl x1), some (.inl x2), none, none, none] [] h = X2_isQuarrel_f0 g10 x0 x1 x2 h := rfl
theorem X2_isQuarrel_m0 {g10 G10 : Nat → Int32 → Int32 → Nat → Int32 → PH → Option Rs} (hg10 : ∀ a0 a1 a2 a3 a4 a5, Mo (g10 a0 a1 a2 a3 a4 a5) (G10 a0 a1 a2 a3 a4 a5)) (x0 : Nat) (x1 : Int32) (x2 : Int32) (h : PH) : Mo (X2_isQuarrel_f0 g10 x0 x1 x2 h) (X2_isQuarrel_f0 G10 x0 x1 x2 h) := (mo_nn fun r1 => (mo_nn fun r2 => (mo_ix fun j3 => (hg10 x0 x1 x2 (hR h 1152 r2 j3) 0 h))))
noncomputable def X2_isQuarrel_f10 (c_X6_quarrels : Nat → Int32 → Int32 → Int32 → PH → Option Rs) (g64 : Nat → Int32 → Int32 → Nat → Int32 → PH → Option Rs) (x0 : Nat) (x1 : Int32) (x2 : Int32) (x3 : Nat) (x4 : Int32) (h : PH) : Option Rs :=
  if x4 < x1 then
    nn x0 fun r13 =>
    nn (hR h 68 r13 0) fun r14 =>
    ix x4 (hL h 18 r14) fun j15 =>
    nn (hR h 1152 r14 j15) fun r16 =>
    nn x3 fun r17 =>
    if (hI h 320 r16 0) = (hI h 320 r17 0) then
      nn x3 fun r18 =>
      nn (hR h 325 r18 0) fun r19 =>
      ix x2 (hL h 27 r19) fun j20 =>
      nn x3 fun r21 =>
      nn (hR h 326 r21 0) fun r22 =>
      ix x2 (hL h 28 r22) fun j23 =>
      nn (hR h 1152 r14 j15) fun r24 =>
      nn (hR h 1152 r14 j15) fun r25 =>
      cI (c_X6_quarrels r25 (hI h 1728 r19 j20) (hI h 1792 r22 j23) (hI h 324 r24 0) h) fun v27 h26 =>
      if v27 = 0 then
        g64 x0 x1 x2 x3 x4 h26
      else
        bz 1 <|
        some (some (.inl 1), h26)
    else
      g64 x0 x1 x2 x3 x4 h
  else
    nn x3 fun r4 =>
    nn (hR h 325 r4 0) fun r5 =>
    ix x2 (hL h 27 r5) fun j6 =>
    nn x3 fun r7 =>
    nn (hR h 326 r7 0) fun r8 =>
    ix x2 (hL h 28 r8) fun j9 =>
    nn x3 fun r10 =>
    cI (c_X6_quarrels r10 (hI h 1728 r5 j6) (hI h 1792 r8 j9) x2 h) fun v12 h11 =>
    bz v12 <|
    some (some (.inl v12), h11)
set_option maxRecDepth 100000 in
theorem X2_isQuarrel_l10 (c_X6_quarrels : Nat → Int32 → Int32 → Int32 → PH → Option Rs) (g64 : Nat → Int32 → Int32 → Nat → Int32 → PH → Option Rs) (x0 : Nat) (x1 : Int32) (x2 : Int32) (x3 : Nat) (x4 : Int32) (h : PH) : X2_isQuarrel_b10 c_X6_quarrels (X2_isQuarrel_u64 g64) [some (.inr (1, x0)), some (.inl x1), some (.inl x2), some (.inr (5, x3)), some (.inl x4), none] [] h = X2_isQuarrel_f10 c_X6_quarrels g64 x0 x1 x2 x3 x4 h := rfl
theorem X2_isQuarrel_m10 {c_X6_quarrels : Nat → Int32 → Int32 → Int32 → PH → Option Rs} {g64 G64 : Nat → Int32 → Int32 → Nat → Int32 → PH → Option Rs} (hg64 : ∀ a0 a1 a2 a3 a4 a5, Mo (g64 a0 a1 a2 a3 a4 a5) (G64 a0 a1 a2 a3 a4 a5)) (x0 : Nat) (x1 : Int32) (x2 : Int32) (x3 : Nat) (x4 : Int32) (h : PH) : Mo (X2_isQuarrel_f10 c_X6_quarrels g64 x0 x1 x2 x3 x4 h) (X2_isQuarrel_f10 c_X6_quarrels G64 x0 x1 x2 x3 x4 h) := (mo_if (mo_nn fun r13 => (mo_nn fun r14 => (mo_ix fun j15 => (mo_nn fun r16 => (mo_nn fun r17 => (mo_if (mo_nn fun r18 => (mo_nn fun r19 => (mo_ix fun j20 => (mo_nn fun r21 => (mo_nn fun r22 => (mo_ix fun j23 => (mo_nn fun r24 => (mo_nn fun r25 => (mo_cI fun v27 h26 => (mo_if (hg64 x0 x1 x2 x3 x4 h26) (mo_bz mo_rf))))))))))) (hg64 x0 x1 x2 x3 x4 h))))))) (mo_nn fun r4 => (mo_nn fun r5 => (mo_ix fun j6 => (mo_nn fun r7 => (mo_nn fun r8 => (mo_ix fun j9 => (mo_nn fun r10 => (mo_cI fun v12 h11 => (mo_bz mo_rf))))))))))
theorem X2_isQuarrel_w10 {z : CZ} {g64 : Nat → Int32 → Int32 → Nat → Int32 → PH → Option Rs} (hk64 : SK (X2_isQuarrel_x z) 64 (X2_isQuarrel_u64 g64)) : SK (X2_isQuarrel_x z) 10 (X2_isQuarrel_u10 (X2_isQuarrel_f10 X6_quarrels g64)) := by
  intro ls st h r e
  obtain ⟨hst, e⟩ := gL_of e
  obtain ⟨x0, q0, e⟩ := gR_of e
  obtain ⟨x1, q1, e⟩ := gI_of e
  obtain ⟨x2, q2, e⟩ := gI_of e
  obtain ⟨x3, q3, e⟩ := gR_of e
  obtain ⟨x4, q4, e⟩ := gI_of e
  rw [st_0 hst]
  exact WK.sub (canon := [some (.inr (1, x0)), some (.inl x1), some (.inl x2), some (.inr (5, x3)), some (.inl x4), none]) rfl ⟨q0, q1, q2, q3, q4, trivial⟩ (X2_isQuarrel_s10 hk64 _ _ _ _ ((X2_isQuarrel_l10 X6_quarrels g64 x0 x1 x2 x3 x4 h).trans e))
noncomputable def X2_isQuarrel_f64 (g10 : Nat → Int32 → Int32 → Nat → Int32 → PH → Option Rs) (x0 : Nat) (x1 : Int32) (x2 : Int32) (x3 : Nat) (x4 : Int32) (h : PH) : Option Rs :=
  g10 x0 x1 x2 x3 (x4 + 1) h
set_option maxRecDepth 100000 in
theorem X2_isQuarrel_l64 (g10 : Nat → Int32 → Int32 → Nat → Int32 → PH → Option Rs) (x0 : Nat) (x1 : Int32) (x2 : Int32) (x3 : Nat) (x4 : Int32) (h : PH) : X2_isQuarrel_b64 (X2_isQuarrel_u10 g10) [some (.inr (1, x0)), some (.inl x1), some (.inl x2), some (.inr (5, x3)), some (.inl x4), none] [] h = X2_isQuarrel_f64 g10 x0 x1 x2 x3 x4 h := rfl
theorem X2_isQuarrel_m64 {g10 G10 : Nat → Int32 → Int32 → Nat → Int32 → PH → Option Rs} (hg10 : ∀ a0 a1 a2 a3 a4 a5, Mo (g10 a0 a1 a2 a3 a4 a5) (G10 a0 a1 a2 a3 a4 a5)) (x0 : Nat) (x1 : Int32) (x2 : Int32) (x3 : Nat) (x4 : Int32) (h : PH) : Mo (X2_isQuarrel_f64 g10 x0 x1 x2 x3 x4 h) (X2_isQuarrel_f64 G10 x0 x1 x2 x3 x4 h) := (hg10 x0 x1 x2 x3 (x4 + 1) h)
theorem X2_isQuarrel_w64 {z : CZ} {g10 : Nat → Int32 → Int32 → Nat → Int32 → PH → Option Rs} (hk10 : SK (X2_isQuarrel_x z) 10 (X2_isQuarrel_u10 g10)) : SK (X2_isQuarrel_x z) 64 (X2_isQuarrel_u64 (X2_isQuarrel_f64 g10)) := by
  intro ls st h r e
  obtain ⟨hst, e⟩ := gL_of e
  obtain ⟨x0, q0, e⟩ := gR_of e
  obtain ⟨x1, q1, e⟩ := gI_of e
  obtain ⟨x2, q2, e⟩ := gI_of e
  obtain ⟨x3, q3, e⟩ := gR_of e
  obtain ⟨x4, q4, e⟩ := gI_of e
  rw [st_0 hst]
  exact WK.sub (canon := [some (.inr (1, x0)), some (.inl x1), some (.inl x2), some (.inr (5, x3)), some (.inl x4), none]) rfl ⟨q0, q1, q2, q3, q4, trivial⟩ (X2_isQuarrel_s64 hk10 _ _ _ _ ((X2_isQuarrel_l64 g10 x0 x1 x2 x3 x4 h).trans e))
noncomputable def X2_isQuarrel_g0 (G : (Nat → Int32 → Int32 → Nat → Int32 → PH → Option Rs)) (x0 : Nat) (x1 : Int32) (x2 : Int32) (h : PH) : Option Rs := X2_isQuarrel_f0 (G) x0 x1 x2 h
noncomputable def X2_isQuarrel_g64 (G : (Nat → Int32 → Int32 → Nat → Int32 → PH → Option Rs)) (x0 : Nat) (x1 : Int32) (x2 : Int32) (x3 : Nat) (x4 : Int32) (h : PH) : Option Rs := X2_isQuarrel_f64 (G) x0 x1 x2 x3 x4 h
noncomputable def X2_isQuarrel_g10 (G : (Nat → Int32 → Int32 → Nat → Int32 → PH → Option Rs)) (x0 : Nat) (x1 : Int32) (x2 : Int32) (x3 : Nat) (x4 : Int32) (h : PH) : Option Rs := X2_isQuarrel_f10 X6_quarrels (X2_isQuarrel_g64 G) x0 x1 x2 x3 x4 h
theorem X2_isQuarrel_v64 {z : CZ} {G : (Nat → Int32 → Int32 → Nat → Int32 → PH → Option Rs)} (hG10 : SK (X2_isQuarrel_x z) 10 (X2_isQuarrel_u10 (G))) : SK (X2_isQuarrel_x z) 64 (X2_isQuarrel_u64 (X2_isQuarrel_g64 G)) := X2_isQuarrel_w64 hG10
theorem X2_isQuarrel_v10 {z : CZ} {G : (Nat → Int32 → Int32 → Nat → Int32 → PH → Option Rs)} (hG10 : SK (X2_isQuarrel_x z) 10 (X2_isQuarrel_u10 (G))) : SK (X2_isQuarrel_x z) 10 (X2_isQuarrel_u10 (X2_isQuarrel_g10 G)) := X2_isQuarrel_w10 (X2_isQuarrel_v64 hG10)
noncomputable def X2_isQuarrel_fam : Nat → (Nat → Int32 → Int32 → Nat → Int32 → PH → Option Rs)
  | 0 => fun _ _ _ _ _ _ => none
  | n + 1 => X2_isQuarrel_g10 (X2_isQuarrel_fam n)
theorem X2_isQuarrel_k {z : CZ} : ∀ n, SK (X2_isQuarrel_x z) 10 (X2_isQuarrel_u10 (X2_isQuarrel_fam n))
  | 0 => (fun ls st h r e => by
      obtain ⟨_, e⟩ := gL_of e
      obtain ⟨_, _, e⟩ := gR_of e
      obtain ⟨_, _, e⟩ := gI_of e
      obtain ⟨_, _, e⟩ := gI_of e
      obtain ⟨_, _, e⟩ := gR_of e
      obtain ⟨_, _, e⟩ := gI_of e
      cases e)
  | n + 1 => by
    obtain ih10 := X2_isQuarrel_k n
    exact X2_isQuarrel_v10 ih10
theorem X2_isQuarrel_n0 {G G' : (Nat → Int32 → Int32 → Nat → Int32 → PH → Option Rs)} (hg10 : ∀ a0 a1 a2 a3 a4 a5, Mo ((G) a0 a1 a2 a3 a4 a5) ((G') a0 a1 a2 a3 a4 a5)) (x0 : Nat) (x1 : Int32) (x2 : Int32) (h : PH) : Mo (X2_isQuarrel_g0 G x0 x1 x2 h) (X2_isQuarrel_g0 G' x0 x1 x2 h) := X2_isQuarrel_m0 hg10 x0 x1 x2 h
theorem X2_isQuarrel_n64 {G G' : (Nat → Int32 → Int32 → Nat → Int32 → PH → Option Rs)} (hg10 : ∀ a0 a1 a2 a3 a4 a5, Mo ((G) a0 a1 a2 a3 a4 a5) ((G') a0 a1 a2 a3 a4 a5)) (x0 : Nat) (x1 : Int32) (x2 : Int32) (x3 : Nat) (x4 : Int32) (h : PH) : Mo (X2_isQuarrel_g64 G x0 x1 x2 x3 x4 h) (X2_isQuarrel_g64 G' x0 x1 x2 x3 x4 h) := X2_isQuarrel_m64 hg10 x0 x1 x2 x3 x4 h
theorem X2_isQuarrel_n10 {G G' : (Nat → Int32 → Int32 → Nat → Int32 → PH → Option Rs)} (hg10 : ∀ a0 a1 a2 a3 a4 a5, Mo ((G) a0 a1 a2 a3 a4 a5) ((G') a0 a1 a2 a3 a4 a5)) (x0 : Nat) (x1 : Int32) (x2 : Int32) (x3 : Nat) (x4 : Int32) (h : PH) : Mo (X2_isQuarrel_g10 G x0 x1 x2 x3 x4 h) (X2_isQuarrel_g10 G' x0 x1 x2 x3 x4 h) := X2_isQuarrel_m10 (fun a0 a1 a2 a3 a4 a5 => X2_isQuarrel_n64 hg10 a0 a1 a2 a3 a4 a5) x0 x1 x2 x3 x4 h
theorem X2_isQuarrel_fm : ∀ n, (∀ a0 a1 a2 a3 a4 a5, Mo ((X2_isQuarrel_fam n) a0 a1 a2 a3 a4 a5) ((X2_isQuarrel_fam (n + 1)) a0 a1 a2 a3 a4 a5))
  | 0 => fun _ _ _ _ _ _ => mo_no
  | n + 1 => by
    obtain ih10 := X2_isQuarrel_fm n
    exact fun a0 a1 a2 a3 a4 a5 => X2_isQuarrel_n10 ih10 a0 a1 a2 a3 a4 a5
noncomputable def X2_isQuarrel (x0 : Nat) (x1 : Int32) (x2 : Int32) (h : PH) : Option Rs := lim (fun n => X2_isQuarrel_g0 (X2_isQuarrel_fam n) x0 x1 x2 h)
theorem X2_isQuarrel_iff {x0 : Nat} {x1 : Int32} {x2 : Int32} {h : PH} {r : Rs} : X2_isQuarrel x0 x1 x2 h = some r ↔ ∃ n, X2_isQuarrel_g0 (X2_isQuarrel_fam n) x0 x1 x2 h = some r := lim_iff (fun n => by
  obtain ih10 := X2_isQuarrel_fm n
  exact X2_isQuarrel_n0 ih10 x0 x1 x2 h)
noncomputable abbrev X2_isQuarrel_F : List PV → PH → Option Rs := FW_R1II (X2_isQuarrel)
set_option maxRecDepth 100000 in
theorem X2_isQuarrel_gd (l : Launch) : Gd l 1 yX2_isQuarrel cX2_isQuarrel 6 (some .boolean) (X2_isQuarrel_F)   := Gd_of (by decide +kernel) (fun z hzl as h r e => by
  obtain ⟨hst, e⟩ := gL_of e
  obtain ⟨x0, q0, e⟩ := gR_of e
  obtain ⟨x1, q1, e⟩ := gI_of e
  obtain ⟨x2, q2, e⟩ := gI_of e
  rw [st_3 hst q0 q1 q2]
  obtain ⟨n, e⟩ := lim_of e
  obtain hG10 := X2_isQuarrel_k (z := z) n
  exact ⟨show 3 ≤ 6 by decide, X2_isQuarrel_s0 hG10 _ _ _ _ ((X2_isQuarrel_l0 (X2_isQuarrel_fam n) x0 x1 x2 h).trans e)⟩)
abbrev X1_waysFrom_x (z : CZ) : CX := mx RX1 cX1_waysFrom 4 1 (some .int) "waysFrom" z
noncomputable def X1_waysFrom_b0 (k4 : Kn) : Kn := (a_ic 0 (a_is 2 (a_ic 0 (a_is 3 k4))))
set_option maxRecDepth 100000 in
theorem X1_waysFrom_s0 {z : CZ} {k4 : Kn} (hk4 : SK (X1_waysFrom_x z) 4 k4) : SK (X1_waysFrom_x z) 0 (X1_waysFrom_b0 k4) := (s_iconst (pc := 0) dX1_waysFrom_0 c_ic_0 (s_istoren (pc := 1) dX1_waysFrom_1 rfl (show 2 < 4 by decide) (s_iconst (pc := 2) dX1_waysFrom_2 c_ic_0 (s_istoren (pc := 3) dX1_waysFrom_3 rfl (show 3 < 4 by decide) hk4))))
noncomputable def X1_waysFrom_b4 (c_X1_wayFrom : Nat → Int32 → Int32 → PH → Option Rs) (k26 : Kn) : Kn := (a_il 3 (a_ic 8 (a_lt (a_il 2 (a_al 0 (a_il 1 (a_il 3 (a_vI 1 2 (FW_T1II c_X1_wayFrom) (a_ic (-1) (a_eq (a_ic 0 k26) (a_ic 1 k26)))))))) (a_il 2 a_ir))))
set_option maxRecDepth 100000 in
theorem X1_waysFrom_s4 {z : CZ} {k26 : Kn} (hk26 : SK (X1_waysFrom_x z) 26 k26) : SK (X1_waysFrom_x z) 4 (X1_waysFrom_b4 X1_wayFrom k26) := (s_iloadn (pc := 4) dX1_waysFrom_4 rfl (s_bipush (pc := 5) dX1_waysFrom_5 c_bp_8 (s_cmpge (pc := 7) dX1_waysFrom_7 (by decide) (s_iloadn (pc := 37) dX1_waysFrom_37 rfl (s_ir (pc := 38) rfl dX1_waysFrom_38)) (s_iloadn (pc := 10) dX1_waysFrom_10 rfl (s_aloadn (pc := 11) dX1_waysFrom_11 rfl (s_iloadn (pc := 12) dX1_waysFrom_12 rfl (s_iloadn (pc := 13) dX1_waysFrom_13 rfl (s_vI (pc := 14) (run_virtual (X1_wayFrom_gd _) (show 0 < 1 by decide) cy_X1_wayFrom (by decide) rfl w_557 w_558 w_1080 dX1_waysFrom_14) (s_iconst (pc := 17) dX1_waysFrom_17 c_ic_m1 (s_cmpeq (pc := 18) dX1_waysFrom_18 (by decide) (s_iconst (pc := 25) dX1_waysFrom_25 c_ic_0 hk26) (s_iconst (pc := 21) dX1_waysFrom_21 c_ic_1 (s_goto (pc := 22) dX1_waysFrom_22 (by decide) hk26))))))))))))
noncomputable def X1_waysFrom_b26 (c_X11_bit : Int32 → PH → Option Rs) (k4 : Kn) : Kn := (a_sI 1 (FW_I c_X11_bit) (a_b (fun a b => a + b) (a_is 2 (a_inc 3 1 k4))))
set_option maxRecDepth 100000 in
theorem X1_waysFrom_s26 {z : CZ} {k4 : Kn} (hk4 : SK (X1_waysFrom_x z) 4 k4) : SK (X1_waysFrom_x z) 26 (X1_waysFrom_b26 X11_bit k4) := (s_sI (pc := 26) (run_staticN (X11_bit_gd _) (show 0 < 1 by decide) cy_X11_bit w_574 nw_1081 dX1_waysFrom_26) (s_iadd (pc := 29) dX1_waysFrom_29 (s_istoren (pc := 30) dX1_waysFrom_30 rfl (show 2 < 4 by decide) (s_iinc (pc := 31) dX1_waysFrom_31 c_ic_1 (show 3 < 4 by decide) (s_goto (pc := 34) dX1_waysFrom_34 (by decide) hk4)))))
noncomputable def X1_waysFrom_u4 (g : Nat → Int32 → Int32 → Int32 → PH → Option Rs) : Kn := fun ls st h => gL 0 st (gT 1 ls 0 fun t => gI ls 1 fun x1 => gI ls 2 fun x2 => gI ls 3 fun x3 => g t x1 x2 x3 h)
noncomputable def X1_waysFrom_u26 (g : Nat → Int32 → Int32 → Int32 → Int32 → PH → Option Rs) : Kn := fun ls st h => gL 2 st (gT 1 ls 0 fun t => gI ls 1 fun x1 => gI ls 3 fun x3 => gI (st.map some) 0 fun s0 => gI (st.map some) 1 fun s1 => g t x1 x3 s0 s1 h)
noncomputable def X1_waysFrom_f0 (g4 : Nat → Int32 → Int32 → Int32 → PH → Option Rs) (t : Nat) (x1 : Int32) (h : PH) : Option Rs :=
  g4 t x1 0 0 h
set_option maxRecDepth 100000 in
theorem X1_waysFrom_l0 (g4 : Nat → Int32 → Int32 → Int32 → PH → Option Rs) (t : Nat) (x1 : Int32) (h : PH) : X1_waysFrom_b0 (X1_waysFrom_u4 g4) [some (.inr (1, t + 1)), some (.inl x1), none, none] [] h = X1_waysFrom_f0 g4 t x1 h := rfl
theorem X1_waysFrom_m0 {g4 G4 : Nat → Int32 → Int32 → Int32 → PH → Option Rs} (hg4 : ∀ a0 a1 a2 a3 a4, Mo (g4 a0 a1 a2 a3 a4) (G4 a0 a1 a2 a3 a4)) (t : Nat) (x1 : Int32) (h : PH) : Mo (X1_waysFrom_f0 g4 t x1 h) (X1_waysFrom_f0 G4 t x1 h) := (hg4 t x1 0 0 h)
noncomputable def X1_waysFrom_f4 (c_X1_wayFrom : Nat → Int32 → Int32 → PH → Option Rs) (g26 : Nat → Int32 → Int32 → Int32 → Int32 → PH → Option Rs) (t : Nat) (x1 : Int32) (x2 : Int32) (x3 : Int32) (h : PH) : Option Rs :=
  if x3 < 8 then
    cI (c_X1_wayFrom t x1 x3 h) fun v2 h1 =>
    if v2 = (-1) then
      g26 t x1 x3 0 x2 h1
    else
      g26 t x1 x3 1 x2 h1
  else
    some (some (.inl x2), h)
set_option maxRecDepth 100000 in
theorem X1_waysFrom_l4 (c_X1_wayFrom : Nat → Int32 → Int32 → PH → Option Rs) (g26 : Nat → Int32 → Int32 → Int32 → Int32 → PH → Option Rs) (t : Nat) (x1 : Int32) (x2 : Int32) (x3 : Int32) (h : PH) : X1_waysFrom_b4 c_X1_wayFrom (X1_waysFrom_u26 g26) [some (.inr (1, t + 1)), some (.inl x1), some (.inl x2), some (.inl x3)] [] h = X1_waysFrom_f4 c_X1_wayFrom g26 t x1 x2 x3 h := rfl
theorem X1_waysFrom_m4 {c_X1_wayFrom : Nat → Int32 → Int32 → PH → Option Rs} {g26 G26 : Nat → Int32 → Int32 → Int32 → Int32 → PH → Option Rs} (hg26 : ∀ a0 a1 a2 a3 a4 a5, Mo (g26 a0 a1 a2 a3 a4 a5) (G26 a0 a1 a2 a3 a4 a5)) (t : Nat) (x1 : Int32) (x2 : Int32) (x3 : Int32) (h : PH) : Mo (X1_waysFrom_f4 c_X1_wayFrom g26 t x1 x2 x3 h) (X1_waysFrom_f4 c_X1_wayFrom G26 t x1 x2 x3 h) := (mo_if (mo_cI fun v2 h1 => (mo_if (hg26 t x1 x3 0 x2 h1) (hg26 t x1 x3 1 x2 h1))) mo_rf)
theorem X1_waysFrom_w4 {z : CZ} {g26 : Nat → Int32 → Int32 → Int32 → Int32 → PH → Option Rs} (hk26 : SK (X1_waysFrom_x z) 26 (X1_waysFrom_u26 g26)) : SK (X1_waysFrom_x z) 4 (X1_waysFrom_u4 (X1_waysFrom_f4 X1_wayFrom g26)) := by
  intro ls st h r e
  obtain ⟨hst, e⟩ := gL_of e
  obtain ⟨t, q0, e⟩ := gT_of e
  obtain ⟨x1, q1, e⟩ := gI_of e
  obtain ⟨x2, q2, e⟩ := gI_of e
  obtain ⟨x3, q3, e⟩ := gI_of e
  rw [st_0 hst]
  exact WK.sub (canon := [some (.inr (1, t + 1)), some (.inl x1), some (.inl x2), some (.inl x3)]) rfl ⟨q0, q1, q2, q3, trivial⟩ (X1_waysFrom_s4 hk26 _ _ _ _ ((X1_waysFrom_l4 X1_wayFrom g26 t x1 x2 x3 h).trans e))
noncomputable def X1_waysFrom_f26 (c_X11_bit : Int32 → PH → Option Rs) (g4 : Nat → Int32 → Int32 → Int32 → PH → Option Rs) (t : Nat) (x1 : Int32) (x3 : Int32) (s0 : Int32) (s1 : Int32) (h : PH) : Option Rs :=
  cI (c_X11_bit s0 h) fun v4 h3 =>
  g4 t x1 (s1 + v4) (x3 + 1) h3
set_option maxRecDepth 100000 in
theorem X1_waysFrom_l26 (c_X11_bit : Int32 → PH → Option Rs) (g4 : Nat → Int32 → Int32 → Int32 → PH → Option Rs) (t : Nat) (x1 : Int32) (x3 : Int32) (s0 : Int32) (s1 : Int32) (h : PH) : X1_waysFrom_b26 c_X11_bit (X1_waysFrom_u4 g4) [some (.inr (1, t + 1)), some (.inl x1), none, some (.inl x3)] [.inl s0, .inl s1] h = X1_waysFrom_f26 c_X11_bit g4 t x1 x3 s0 s1 h := rfl
theorem X1_waysFrom_m26 {c_X11_bit : Int32 → PH → Option Rs} {g4 G4 : Nat → Int32 → Int32 → Int32 → PH → Option Rs} (hg4 : ∀ a0 a1 a2 a3 a4, Mo (g4 a0 a1 a2 a3 a4) (G4 a0 a1 a2 a3 a4)) (t : Nat) (x1 : Int32) (x3 : Int32) (s0 : Int32) (s1 : Int32) (h : PH) : Mo (X1_waysFrom_f26 c_X11_bit g4 t x1 x3 s0 s1 h) (X1_waysFrom_f26 c_X11_bit G4 t x1 x3 s0 s1 h) := (mo_cI fun v4 h3 => (hg4 t x1 (s1 + v4) (x3 + 1) h3))
theorem X1_waysFrom_w26 {z : CZ} {g4 : Nat → Int32 → Int32 → Int32 → PH → Option Rs} (hk4 : SK (X1_waysFrom_x z) 4 (X1_waysFrom_u4 g4)) : SK (X1_waysFrom_x z) 26 (X1_waysFrom_u26 (X1_waysFrom_f26 X11_bit g4)) := by
  intro ls st h r e
  obtain ⟨hst, e⟩ := gL_of e
  obtain ⟨t, q0, e⟩ := gT_of e
  obtain ⟨x1, q1, e⟩ := gI_of e
  obtain ⟨x3, q2, e⟩ := gI_of e
  obtain ⟨s0, q3, e⟩ := gI_of e
  obtain ⟨s1, q4, e⟩ := gI_of e
  rw [st_2 hst q3 q4]
  exact WK.sub (canon := [some (.inr (1, t + 1)), some (.inl x1), none, some (.inl x3)]) rfl ⟨q0, q1, q2, trivial⟩ (X1_waysFrom_s26 hk4 _ _ _ _ ((X1_waysFrom_l26 X11_bit g4 t x1 x3 s0 s1 h).trans e))
noncomputable def X1_waysFrom_g0 (G : (Nat → Int32 → Int32 → Int32 → PH → Option Rs)) (t : Nat) (x1 : Int32) (h : PH) : Option Rs := X1_waysFrom_f0 (G) t x1 h
noncomputable def X1_waysFrom_g26 (G : (Nat → Int32 → Int32 → Int32 → PH → Option Rs)) (t : Nat) (x1 : Int32) (x3 : Int32) (s0 : Int32) (s1 : Int32) (h : PH) : Option Rs := X1_waysFrom_f26 X11_bit (G) t x1 x3 s0 s1 h
noncomputable def X1_waysFrom_g4 (G : (Nat → Int32 → Int32 → Int32 → PH → Option Rs)) (t : Nat) (x1 : Int32) (x2 : Int32) (x3 : Int32) (h : PH) : Option Rs := X1_waysFrom_f4 X1_wayFrom (X1_waysFrom_g26 G) t x1 x2 x3 h
theorem X1_waysFrom_v26 {z : CZ} {G : (Nat → Int32 → Int32 → Int32 → PH → Option Rs)} (hG4 : SK (X1_waysFrom_x z) 4 (X1_waysFrom_u4 (G))) : SK (X1_waysFrom_x z) 26 (X1_waysFrom_u26 (X1_waysFrom_g26 G)) := X1_waysFrom_w26 hG4
theorem X1_waysFrom_v4 {z : CZ} {G : (Nat → Int32 → Int32 → Int32 → PH → Option Rs)} (hG4 : SK (X1_waysFrom_x z) 4 (X1_waysFrom_u4 (G))) : SK (X1_waysFrom_x z) 4 (X1_waysFrom_u4 (X1_waysFrom_g4 G)) := X1_waysFrom_w4 (X1_waysFrom_v26 hG4)
noncomputable def X1_waysFrom_fam : Nat → (Nat → Int32 → Int32 → Int32 → PH → Option Rs)
  | 0 => fun _ _ _ _ _ => none
  | n + 1 => X1_waysFrom_g4 (X1_waysFrom_fam n)
theorem X1_waysFrom_k {z : CZ} : ∀ n, SK (X1_waysFrom_x z) 4 (X1_waysFrom_u4 (X1_waysFrom_fam n))
  | 0 => (fun ls st h r e => by
      obtain ⟨_, e⟩ := gL_of e
      obtain ⟨_, _, e⟩ := gT_of e
      obtain ⟨_, _, e⟩ := gI_of e
      obtain ⟨_, _, e⟩ := gI_of e
      obtain ⟨_, _, e⟩ := gI_of e
      cases e)
  | n + 1 => by
    obtain ih4 := X1_waysFrom_k n
    exact X1_waysFrom_v4 ih4
theorem X1_waysFrom_n0 {G G' : (Nat → Int32 → Int32 → Int32 → PH → Option Rs)} (hg4 : ∀ a0 a1 a2 a3 a4, Mo ((G) a0 a1 a2 a3 a4) ((G') a0 a1 a2 a3 a4)) (t : Nat) (x1 : Int32) (h : PH) : Mo (X1_waysFrom_g0 G t x1 h) (X1_waysFrom_g0 G' t x1 h) := X1_waysFrom_m0 hg4 t x1 h
theorem X1_waysFrom_n26 {G G' : (Nat → Int32 → Int32 → Int32 → PH → Option Rs)} (hg4 : ∀ a0 a1 a2 a3 a4, Mo ((G) a0 a1 a2 a3 a4) ((G') a0 a1 a2 a3 a4)) (t : Nat) (x1 : Int32) (x3 : Int32) (s0 : Int32) (s1 : Int32) (h : PH) : Mo (X1_waysFrom_g26 G t x1 x3 s0 s1 h) (X1_waysFrom_g26 G' t x1 x3 s0 s1 h) := X1_waysFrom_m26 hg4 t x1 x3 s0 s1 h
theorem X1_waysFrom_n4 {G G' : (Nat → Int32 → Int32 → Int32 → PH → Option Rs)} (hg4 : ∀ a0 a1 a2 a3 a4, Mo ((G) a0 a1 a2 a3 a4) ((G') a0 a1 a2 a3 a4)) (t : Nat) (x1 : Int32) (x2 : Int32) (x3 : Int32) (h : PH) : Mo (X1_waysFrom_g4 G t x1 x2 x3 h) (X1_waysFrom_g4 G' t x1 x2 x3 h) := X1_waysFrom_m4 (fun a0 a1 a2 a3 a4 a5 => X1_waysFrom_n26 hg4 a0 a1 a2 a3 a4 a5) t x1 x2 x3 h
theorem X1_waysFrom_fm : ∀ n, (∀ a0 a1 a2 a3 a4, Mo ((X1_waysFrom_fam n) a0 a1 a2 a3 a4) ((X1_waysFrom_fam (n + 1)) a0 a1 a2 a3 a4))
  | 0 => fun _ _ _ _ _ => mo_no
  | n + 1 => by
    obtain ih4 := X1_waysFrom_fm n
    exact fun a0 a1 a2 a3 a4 => X1_waysFrom_n4 ih4 a0 a1 a2 a3 a4
noncomputable def X1_waysFrom (t : Nat) (x1 : Int32) (h : PH) : Option Rs := lim (fun n => X1_waysFrom_g0 (X1_waysFrom_fam n) t x1 h)
theorem X1_waysFrom_iff {t : Nat} {x1 : Int32} {h : PH} {r : Rs} : X1_waysFrom t x1 h = some r ↔ ∃ n, X1_waysFrom_g0 (X1_waysFrom_fam n) t x1 h = some r := lim_iff (fun n => by
  obtain ih4 := X1_waysFrom_fm n
  exact X1_waysFrom_n0 ih4 t x1 h)
noncomputable abbrev X1_waysFrom_F : List PV → PH → Option Rs := FW_T1I (X1_waysFrom)
set_option maxRecDepth 100000 in
theorem X1_waysFrom_gd (l : Launch) : Gd l 1 yX1_waysFrom cX1_waysFrom 4 (some .int) (X1_waysFrom_F)   := Gd_of (by decide +kernel) (fun z hzl as h r e => by
  obtain ⟨hst, e⟩ := gL_of e
  obtain ⟨t, q0, e⟩ := gT_of e
  obtain ⟨x1, q1, e⟩ := gI_of e
  rw [st_2 hst q0 q1]
  obtain ⟨n, e⟩ := lim_of e
  obtain hG4 := X1_waysFrom_k (z := z) n
  exact ⟨show 2 ≤ 4 by decide, X1_waysFrom_s0 hG4 _ _ _ _ ((X1_waysFrom_l0 (X1_waysFrom_fam n) t x1 h).trans e)⟩)
abbrev X2_groupName_x (z : CZ) : CX := mx RX2 cX2_groupName 3 2 (some .int) "groupName" z
noncomputable def X2_groupName_b0 (c_X1_hasGoal : Nat → Int32 → PH → Option Rs) (k23 : Kn) : Kn := (a_al 0 (a_il 1 (a_vI 1 1 (FW_T1I c_X1_hasGoal) (a_z (a_ic 0 k23) (a_al 0 (a_gR 1 67 17 (a_il 1 (a_ald 17 1088 (a_ic (-1) (a_eq (a_ic 0 k23) (a_ic 1 k23)))))))))))
set_option maxRecDepth 100000 in
theorem X2_groupName_s0 {z : CZ} {k23 : Kn} (hk23 : SK (X2_groupName_x z) 23 k23) : SK (X2_groupName_x z) 0 (X2_groupName_b0 X1_hasGoal k23) := (s_aloadn (pc := 0) dX2_groupName_0 rfl (s_iloadn (pc := 1) dX2_groupName_1 rfl (s_vI (pc := 2) (run_virtual (X1_hasGoal_gd _) (show 1 < 2 by decide) cy_X1_hasGoal (by decide) rfl w_605 w_606 w_1088 dX2_groupName_2) (s_ifeq (pc := 5) dX2_groupName_5 (by decide) (s_iconst (pc := 22) dX2_groupName_22 c_ic_0 hk23) (s_aloadn (pc := 8) dX2_groupName_8 rfl (s_gR (pc := 9) (f := 3) ko_1 (by decide) rfl rfl w_227 dX2_groupName_9 (s_iloadn (pc := 12) dX2_groupName_12 rfl (s_iald (pc := 13) (by decide) (by decide) rfl rfl rfl dX2_groupName_13 (s_iconst (pc := 14) dX2_groupName_14 c_ic_m1 (s_cmpeq (pc := 15) dX2_groupName_15 (by decide) (s_iconst (pc := 22) dX2_groupName_22 c_ic_0 hk23) (s_iconst (pc := 18) dX2_groupName_18 c_ic_1 (s_goto (pc := 19) dX2_groupName_19 (by decide) hk23))))))))))))
noncomputable def X2_groupName_b23 : Kn := (a_is 2 (a_il 2 (a_z (a_ic (-1) a_ir) (a_ic 10 (a_al 0 (a_gR 1 67 17 (a_il 1 (a_ald 17 1088 (a_b (fun a b => a + b) a_ir)))))))))
set_option maxRecDepth 100000 in
theorem X2_groupName_s23 {z : CZ} : SK (X2_groupName_x z) 23 (X2_groupName_b23) := (s_istoren (pc := 23) dX2_groupName_23 rfl (show 2 < 3 by decide) (s_iloadn (pc := 24) dX2_groupName_24 rfl (s_ifeq (pc := 25) dX2_groupName_25 (by decide) (s_iconst (pc := 40) dX2_groupName_40 c_ic_m1 (s_ir (pc := 41) rfl dX2_groupName_41)) (s_bipush (pc := 28) dX2_groupName_28 c_bp_10 (s_aloadn (pc := 30) dX2_groupName_30 rfl (s_gR (pc := 31) (f := 3) ko_1 (by decide) rfl rfl w_227 dX2_groupName_31 (s_iloadn (pc := 34) dX2_groupName_34 rfl (s_iald (pc := 35) (by decide) (by decide) rfl rfl rfl dX2_groupName_35 (s_iadd (pc := 36) dX2_groupName_36 (s_goto (pc := 37) dX2_groupName_37 (by decide) (s_ir (pc := 41) rfl dX2_groupName_41)))))))))))
noncomputable def X2_groupName_u23 (g : Nat → Int32 → Int32 → PH → Option Rs) : Kn := fun ls st h => gL 1 st (gR 1 ls 0 fun x0 => gI ls 1 fun x1 => gI (st.map some) 0 fun s0 => g x0 x1 s0 h)
noncomputable def X2_groupName_f0 (c_X1_hasGoal : Nat → Int32 → PH → Option Rs) (g23 : Nat → Int32 → Int32 → PH → Option Rs) (x0 : Nat) (x1 : Int32) (h : PH) : Option Rs :=
  nn x0 fun r1 =>
  cI (c_X1_hasGoal r1 x1 h) fun v3 h2 =>
  if v3 = 0 then
    g23 x0 x1 0 h2
  else
    nn x0 fun r4 =>
    nn (hR h2 67 r4 0) fun r5 =>
    ix x1 (hL h2 17 r5) fun j6 =>
    if (hI h2 1088 r5 j6) = (-1) then
      g23 x0 x1 0 h2
    else
      g23 x0 x1 1 h2
set_option maxRecDepth 100000 in
theorem X2_groupName_l0 (c_X1_hasGoal : Nat → Int32 → PH → Option Rs) (g23 : Nat → Int32 → Int32 → PH → Option Rs) (x0 : Nat) (x1 : Int32) (h : PH) : X2_groupName_b0 c_X1_hasGoal (X2_groupName_u23 g23) [some (.inr (1, x0)), some (.inl x1), none] [] h = X2_groupName_f0 c_X1_hasGoal g23 x0 x1 h := rfl
theorem X2_groupName_m0 {c_X1_hasGoal : Nat → Int32 → PH → Option Rs} {g23 G23 : Nat → Int32 → Int32 → PH → Option Rs} (hg23 : ∀ a0 a1 a2 a3, Mo (g23 a0 a1 a2 a3) (G23 a0 a1 a2 a3)) (x0 : Nat) (x1 : Int32) (h : PH) : Mo (X2_groupName_f0 c_X1_hasGoal g23 x0 x1 h) (X2_groupName_f0 c_X1_hasGoal G23 x0 x1 h) := (mo_nn fun r1 => (mo_cI fun v3 h2 => (mo_if (hg23 x0 x1 0 h2) (mo_nn fun r4 => (mo_nn fun r5 => (mo_ix fun j6 => (mo_if (hg23 x0 x1 0 h2) (hg23 x0 x1 1 h2))))))))
noncomputable def X2_groupName_f23 (x0 : Nat) (x1 : Int32) (s0 : Int32) (h : PH) : Option Rs :=
  if s0 = 0 then
    some (some (.inl (-1)), h)
  else
    nn x0 fun r7 =>
    nn (hR h 67 r7 0) fun r8 =>
    ix x1 (hL h 17 r8) fun j9 =>
    some (some (.inl (10 + (hI h 1088 r8 j9))), h)
set_option maxRecDepth 100000 in
theorem X2_groupName_l23 (x0 : Nat) (x1 : Int32) (s0 : Int32) (h : PH) : X2_groupName_b23 [some (.inr (1, x0)), some (.inl x1), none] [.inl s0] h = X2_groupName_f23 x0 x1 s0 h := rfl
theorem X2_groupName_w23 {z : CZ} : SK (X2_groupName_x z) 23 (X2_groupName_u23 (X2_groupName_f23)) := by
  intro ls st h r e
  obtain ⟨hst, e⟩ := gL_of e
  obtain ⟨x0, q0, e⟩ := gR_of e
  obtain ⟨x1, q1, e⟩ := gI_of e
  obtain ⟨s0, q2, e⟩ := gI_of e
  rw [st_1 hst q2]
  exact WK.sub (canon := [some (.inr (1, x0)), some (.inl x1), none]) rfl ⟨q0, q1, trivial⟩ (X2_groupName_s23 _ _ _ _ ((X2_groupName_l23 x0 x1 s0 h).trans e))
noncomputable def X2_groupName_g23 (x0 : Nat) (x1 : Int32) (s0 : Int32) (h : PH) : Option Rs := X2_groupName_f23 x0 x1 s0 h
noncomputable def X2_groupName_g0 (x0 : Nat) (x1 : Int32) (h : PH) : Option Rs := X2_groupName_f0 X1_hasGoal (X2_groupName_g23) x0 x1 h
theorem X2_groupName_v23 {z : CZ} : SK (X2_groupName_x z) 23 (X2_groupName_u23 (X2_groupName_g23)) := X2_groupName_w23
noncomputable def X2_groupName (x0 : Nat) (x1 : Int32) (h : PH) : Option Rs := X2_groupName_g0 x0 x1 h
noncomputable abbrev X2_groupName_F : List PV → PH → Option Rs := FW_R1I (X2_groupName)
set_option maxRecDepth 100000 in
theorem X2_groupName_gd (l : Launch) : Gd l 2 yX2_groupName cX2_groupName 3 (some .int) (X2_groupName_F)   := Gd_of (by decide +kernel) (fun z hzl as h r e => by
  obtain ⟨hst, e⟩ := gL_of e
  obtain ⟨x0, q0, e⟩ := gR_of e
  obtain ⟨x1, q1, e⟩ := gI_of e
  rw [st_2 hst q0 q1]
  exact ⟨show 2 ≤ 3 by decide, X2_groupName_s0 (X2_groupName_v23) _ _ _ _ ((X2_groupName_l0 X1_hasGoal (X2_groupName_g23) x0 x1 h).trans e)⟩)
abbrev X2_isThere_x (z : CZ) : CX := mx RX2 cX2_isThere 4 3 (some .boolean) "isThere" z
noncomputable def X2_isThere_b0 (k2 : Kn) : Kn := (a_ic 0 (a_is 3 k2))
set_option maxRecDepth 100000 in
theorem X2_isThere_s0 {z : CZ} {k2 : Kn} (hk2 : SK (X2_isThere_x z) 2 k2) : SK (X2_isThere_x z) 0 (X2_isThere_b0 k2) := (s_iconst (pc := 0) dX2_isThere_0 c_ic_0 (s_istoren (pc := 1) dX2_isThere_1 rfl (show 3 < 4 by decide) hk2))
noncomputable def X2_isThere_b2 (c_X2_groupName : Nat → Int32 → PH → Option Rs) (k36 : Kn) : Kn := (a_il 3 (a_al 0 (a_gI 1 74 (a_lt (a_al 0 (a_gR 1 66 16 (a_il 3 (a_ald 16 1024 (a_il 2 (a_eq (a_il 3 (a_il 1 (a_eq (a_ic 1 a_zr) (a_al 0 (a_il 3 (a_sI 2 (FW_R1I c_X2_groupName) (a_il 1 (a_eq (a_ic 1 a_zr) k36)))))))) k36)))))) (a_ic 0 a_zr)))))
set_option maxRecDepth 100000 in
theorem X2_isThere_s2 {z : CZ} {k36 : Kn} (hk36 : SK (X2_isThere_x z) 36 k36) : SK (X2_isThere_x z) 2 (X2_isThere_b2 X2_groupName k36) := (s_iloadn (pc := 2) dX2_isThere_2 rfl (s_aloadn (pc := 3) dX2_isThere_3 rfl (s_gI (pc := 4) (f := 10) ko_1 (by decide) rfl rfl w_248 dX2_isThere_4 (s_cmpge (pc := 7) dX2_isThere_7 (by decide) (s_iconst (pc := 42) dX2_isThere_42 c_ic_0 (s_zr (pc := 43) rfl dX2_isThere_43)) (s_aloadn (pc := 10) dX2_isThere_10 rfl (s_gR (pc := 11) (f := 2) ko_1 (by decide) rfl rfl w_221 dX2_isThere_11 (s_iloadn (pc := 14) dX2_isThere_14 rfl (s_iald (pc := 15) (by decide) (by decide) rfl rfl rfl dX2_isThere_15 (s_iloadn (pc := 16) dX2_isThere_16 rfl (s_cmpne (pc := 17) dX2_isThere_17 (by decide) hk36 (s_iloadn (pc := 20) dX2_isThere_20 rfl (s_iloadn (pc := 21) dX2_isThere_21 rfl (s_cmpeq (pc := 22) dX2_isThere_22 (by decide) (s_iconst (pc := 34) dX2_isThere_34 c_ic_1 (s_zr (pc := 35) rfl dX2_isThere_35)) (s_aloadn (pc := 25) dX2_isThere_25 rfl (s_iloadn (pc := 26) dX2_isThere_26 rfl (s_sI (pc := 27) (run_static (X2_groupName_gd _) (show 2 < 3 by decide) cy_X2_groupName w_1086 w_1085 dX2_isThere_27) (s_iloadn (pc := 30) dX2_isThere_30 rfl (s_cmpne (pc := 31) dX2_isThere_31 (by decide) hk36 (s_iconst (pc := 34) dX2_isThere_34 c_ic_1 (s_zr (pc := 35) rfl dX2_isThere_35))))))))))))))))))))
noncomputable def X2_isThere_b36 (k2 : Kn) : Kn := (a_inc 3 1 k2)
set_option maxRecDepth 100000 in
theorem X2_isThere_s36 {z : CZ} {k2 : Kn} (hk2 : SK (X2_isThere_x z) 2 k2) : SK (X2_isThere_x z) 36 (X2_isThere_b36 k2) := (s_iinc (pc := 36) dX2_isThere_36 c_ic_1 (show 3 < 4 by decide) (s_goto (pc := 39) dX2_isThere_39 (by decide) hk2))
noncomputable def X2_isThere_u2 (g : Nat → Int32 → Int32 → Int32 → PH → Option Rs) : Kn := fun ls st h => gL 0 st (gR 1 ls 0 fun x0 => gI ls 1 fun x1 => gI ls 2 fun x2 => gI ls 3 fun x3 => g x0 x1 x2 x3 h)
noncomputable def X2_isThere_u36 (g : Nat → Int32 → Int32 → Int32 → PH → Option Rs) : Kn := fun ls st h => gL 0 st (gR 1 ls 0 fun x0 => gI ls 1 fun x1 => gI ls 2 fun x2 => gI ls 3 fun x3 => g x0 x1 x2 x3 h)
noncomputable def X2_isThere_f0 (g2 : Nat → Int32 → Int32 → Int32 → PH → Option Rs) (x0 : Nat) (x1 : Int32) (x2 : Int32) (h : PH) : Option Rs :=
  g2 x0 x1 x2 0 h
set_option maxRecDepth 100000 in
theorem X2_isThere_l0 (g2 : Nat → Int32 → Int32 → Int32 → PH → Option Rs) (x0 : Nat) (x1 : Int32) (x2 : Int32) (h : PH) : X2_isThere_b0 (X2_isThere_u2 g2) [some (.inr (1, x0)), some (.inl x1), some (.inl x2), none] [] h = X2_isThere_f0 g2 x0 x1 x2 h := rfl
theorem X2_isThere_m0 {g2 G2 : Nat → Int32 → Int32 → Int32 → PH → Option Rs} (hg2 : ∀ a0 a1 a2 a3 a4, Mo (g2 a0 a1 a2 a3 a4) (G2 a0 a1 a2 a3 a4)) (x0 : Nat) (x1 : Int32) (x2 : Int32) (h : PH) : Mo (X2_isThere_f0 g2 x0 x1 x2 h) (X2_isThere_f0 G2 x0 x1 x2 h) := (hg2 x0 x1 x2 0 h)
noncomputable def X2_isThere_f2 (c_X2_groupName : Nat → Int32 → PH → Option Rs) (g36 : Nat → Int32 → Int32 → Int32 → PH → Option Rs) (x0 : Nat) (x1 : Int32) (x2 : Int32) (x3 : Int32) (h : PH) : Option Rs :=
  nn x0 fun r1 =>
  if x3 < (hI h 74 r1 0) then
    nn x0 fun r2 =>
    nn (hR h 66 r2 0) fun r3 =>
    ix x3 (hL h 16 r3) fun j4 =>
    if (hI h 1024 r3 j4) = x2 then
      if x3 = x1 then
        bz 1 <|
        some (some (.inl 1), h)
      else
        cI (c_X2_groupName x0 x3 h) fun v6 h5 =>
        if v6 = x1 then
          bz 1 <|
          some (some (.inl 1), h5)
        else
          g36 x0 x1 x2 x3 h5
    else
      g36 x0 x1 x2 x3 h
  else
    bz 0 <|
    some (some (.inl 0), h)
set_option maxRecDepth 100000 in
theorem X2_isThere_l2 (c_X2_groupName : Nat → Int32 → PH → Option Rs) (g36 : Nat → Int32 → Int32 → Int32 → PH → Option Rs) (x0 : Nat) (x1 : Int32) (x2 : Int32) (x3 : Int32) (h : PH) : X2_isThere_b2 c_X2_groupName (X2_isThere_u36 g36) [some (.inr (1, x0)), some (.inl x1), some (.inl x2), some (.inl x3)] [] h = X2_isThere_f2 c_X2_groupName g36 x0 x1 x2 x3 h := rfl
theorem X2_isThere_m2 {c_X2_groupName : Nat → Int32 → PH → Option Rs} {g36 G36 : Nat → Int32 → Int32 → Int32 → PH → Option Rs} (hg36 : ∀ a0 a1 a2 a3 a4, Mo (g36 a0 a1 a2 a3 a4) (G36 a0 a1 a2 a3 a4)) (x0 : Nat) (x1 : Int32) (x2 : Int32) (x3 : Int32) (h : PH) : Mo (X2_isThere_f2 c_X2_groupName g36 x0 x1 x2 x3 h) (X2_isThere_f2 c_X2_groupName G36 x0 x1 x2 x3 h) := (mo_nn fun r1 => (mo_if (mo_nn fun r2 => (mo_nn fun r3 => (mo_ix fun j4 => (mo_if (mo_if (mo_bz mo_rf) (mo_cI fun v6 h5 => (mo_if (mo_bz mo_rf) (hg36 x0 x1 x2 x3 h5)))) (hg36 x0 x1 x2 x3 h))))) (mo_bz mo_rf)))
theorem X2_isThere_w2 {z : CZ} {g36 : Nat → Int32 → Int32 → Int32 → PH → Option Rs} (hk36 : SK (X2_isThere_x z) 36 (X2_isThere_u36 g36)) : SK (X2_isThere_x z) 2 (X2_isThere_u2 (X2_isThere_f2 X2_groupName g36)) := by
  intro ls st h r e
  obtain ⟨hst, e⟩ := gL_of e
  obtain ⟨x0, q0, e⟩ := gR_of e
  obtain ⟨x1, q1, e⟩ := gI_of e
  obtain ⟨x2, q2, e⟩ := gI_of e
  obtain ⟨x3, q3, e⟩ := gI_of e
  rw [st_0 hst]
  exact WK.sub (canon := [some (.inr (1, x0)), some (.inl x1), some (.inl x2), some (.inl x3)]) rfl ⟨q0, q1, q2, q3, trivial⟩ (X2_isThere_s2 hk36 _ _ _ _ ((X2_isThere_l2 X2_groupName g36 x0 x1 x2 x3 h).trans e))
noncomputable def X2_isThere_f36 (g2 : Nat → Int32 → Int32 → Int32 → PH → Option Rs) (x0 : Nat) (x1 : Int32) (x2 : Int32) (x3 : Int32) (h : PH) : Option Rs :=
  g2 x0 x1 x2 (x3 + 1) h
set_option maxRecDepth 100000 in
theorem X2_isThere_l36 (g2 : Nat → Int32 → Int32 → Int32 → PH → Option Rs) (x0 : Nat) (x1 : Int32) (x2 : Int32) (x3 : Int32) (h : PH) : X2_isThere_b36 (X2_isThere_u2 g2) [some (.inr (1, x0)), some (.inl x1), some (.inl x2), some (.inl x3)] [] h = X2_isThere_f36 g2 x0 x1 x2 x3 h := rfl
theorem X2_isThere_m36 {g2 G2 : Nat → Int32 → Int32 → Int32 → PH → Option Rs} (hg2 : ∀ a0 a1 a2 a3 a4, Mo (g2 a0 a1 a2 a3 a4) (G2 a0 a1 a2 a3 a4)) (x0 : Nat) (x1 : Int32) (x2 : Int32) (x3 : Int32) (h : PH) : Mo (X2_isThere_f36 g2 x0 x1 x2 x3 h) (X2_isThere_f36 G2 x0 x1 x2 x3 h) := (hg2 x0 x1 x2 (x3 + 1) h)
theorem X2_isThere_w36 {z : CZ} {g2 : Nat → Int32 → Int32 → Int32 → PH → Option Rs} (hk2 : SK (X2_isThere_x z) 2 (X2_isThere_u2 g2)) : SK (X2_isThere_x z) 36 (X2_isThere_u36 (X2_isThere_f36 g2)) := by
  intro ls st h r e
  obtain ⟨hst, e⟩ := gL_of e
  obtain ⟨x0, q0, e⟩ := gR_of e
  obtain ⟨x1, q1, e⟩ := gI_of e
  obtain ⟨x2, q2, e⟩ := gI_of e
  obtain ⟨x3, q3, e⟩ := gI_of e
  rw [st_0 hst]
  exact WK.sub (canon := [some (.inr (1, x0)), some (.inl x1), some (.inl x2), some (.inl x3)]) rfl ⟨q0, q1, q2, q3, trivial⟩ (X2_isThere_s36 hk2 _ _ _ _ ((X2_isThere_l36 g2 x0 x1 x2 x3 h).trans e))
noncomputable def X2_isThere_g0 (G : (Nat → Int32 → Int32 → Int32 → PH → Option Rs)) (x0 : Nat) (x1 : Int32) (x2 : Int32) (h : PH) : Option Rs := X2_isThere_f0 (G) x0 x1 x2 h
noncomputable def X2_isThere_g36 (G : (Nat → Int32 → Int32 → Int32 → PH → Option Rs)) (x0 : Nat) (x1 : Int32) (x2 : Int32) (x3 : Int32) (h : PH) : Option Rs := X2_isThere_f36 (G) x0 x1 x2 x3 h
noncomputable def X2_isThere_g2 (G : (Nat → Int32 → Int32 → Int32 → PH → Option Rs)) (x0 : Nat) (x1 : Int32) (x2 : Int32) (x3 : Int32) (h : PH) : Option Rs := X2_isThere_f2 X2_groupName (X2_isThere_g36 G) x0 x1 x2 x3 h
theorem X2_isThere_v36 {z : CZ} {G : (Nat → Int32 → Int32 → Int32 → PH → Option Rs)} (hG2 : SK (X2_isThere_x z) 2 (X2_isThere_u2 (G))) : SK (X2_isThere_x z) 36 (X2_isThere_u36 (X2_isThere_g36 G)) := X2_isThere_w36 hG2
theorem X2_isThere_v2 {z : CZ} {G : (Nat → Int32 → Int32 → Int32 → PH → Option Rs)} (hG2 : SK (X2_isThere_x z) 2 (X2_isThere_u2 (G))) : SK (X2_isThere_x z) 2 (X2_isThere_u2 (X2_isThere_g2 G)) := X2_isThere_w2 (X2_isThere_v36 hG2)
noncomputable def X2_isThere_fam : Nat → (Nat → Int32 → Int32 → Int32 → PH → Option Rs)
  | 0 => fun _ _ _ _ _ => none
  | n + 1 => X2_isThere_g2 (X2_isThere_fam n)
theorem X2_isThere_k {z : CZ} : ∀ n, SK (X2_isThere_x z) 2 (X2_isThere_u2 (X2_isThere_fam n))
  | 0 => (fun ls st h r e => by
      obtain ⟨_, e⟩ := gL_of e
      obtain ⟨_, _, e⟩ := gR_of e
      obtain ⟨_, _, e⟩ := gI_of e
      obtain ⟨_, _, e⟩ := gI_of e
      obtain ⟨_, _, e⟩ := gI_of e
      cases e)
  | n + 1 => by
    obtain ih2 := X2_isThere_k n
    exact X2_isThere_v2 ih2
theorem X2_isThere_n0 {G G' : (Nat → Int32 → Int32 → Int32 → PH → Option Rs)} (hg2 : ∀ a0 a1 a2 a3 a4, Mo ((G) a0 a1 a2 a3 a4) ((G') a0 a1 a2 a3 a4)) (x0 : Nat) (x1 : Int32) (x2 : Int32) (h : PH) : Mo (X2_isThere_g0 G x0 x1 x2 h) (X2_isThere_g0 G' x0 x1 x2 h) := X2_isThere_m0 hg2 x0 x1 x2 h
theorem X2_isThere_n36 {G G' : (Nat → Int32 → Int32 → Int32 → PH → Option Rs)} (hg2 : ∀ a0 a1 a2 a3 a4, Mo ((G) a0 a1 a2 a3 a4) ((G') a0 a1 a2 a3 a4)) (x0 : Nat) (x1 : Int32) (x2 : Int32) (x3 : Int32) (h : PH) : Mo (X2_isThere_g36 G x0 x1 x2 x3 h) (X2_isThere_g36 G' x0 x1 x2 x3 h) := X2_isThere_m36 hg2 x0 x1 x2 x3 h
theorem X2_isThere_n2 {G G' : (Nat → Int32 → Int32 → Int32 → PH → Option Rs)} (hg2 : ∀ a0 a1 a2 a3 a4, Mo ((G) a0 a1 a2 a3 a4) ((G') a0 a1 a2 a3 a4)) (x0 : Nat) (x1 : Int32) (x2 : Int32) (x3 : Int32) (h : PH) : Mo (X2_isThere_g2 G x0 x1 x2 x3 h) (X2_isThere_g2 G' x0 x1 x2 x3 h) := X2_isThere_m2 (fun a0 a1 a2 a3 a4 => X2_isThere_n36 hg2 a0 a1 a2 a3 a4) x0 x1 x2 x3 h
theorem X2_isThere_fm : ∀ n, (∀ a0 a1 a2 a3 a4, Mo ((X2_isThere_fam n) a0 a1 a2 a3 a4) ((X2_isThere_fam (n + 1)) a0 a1 a2 a3 a4))
  | 0 => fun _ _ _ _ _ => mo_no
  | n + 1 => by
    obtain ih2 := X2_isThere_fm n
    exact fun a0 a1 a2 a3 a4 => X2_isThere_n2 ih2 a0 a1 a2 a3 a4
noncomputable def X2_isThere (x0 : Nat) (x1 : Int32) (x2 : Int32) (h : PH) : Option Rs := lim (fun n => X2_isThere_g0 (X2_isThere_fam n) x0 x1 x2 h)
theorem X2_isThere_iff {x0 : Nat} {x1 : Int32} {x2 : Int32} {h : PH} {r : Rs} : X2_isThere x0 x1 x2 h = some r ↔ ∃ n, X2_isThere_g0 (X2_isThere_fam n) x0 x1 x2 h = some r := lim_iff (fun n => by
  obtain ih2 := X2_isThere_fm n
  exact X2_isThere_n0 ih2 x0 x1 x2 h)
noncomputable abbrev X2_isThere_F : List PV → PH → Option Rs := FW_R1II (X2_isThere)
set_option maxRecDepth 100000 in
theorem X2_isThere_gd (l : Launch) : Gd l 3 yX2_isThere cX2_isThere 4 (some .boolean) (X2_isThere_F)   := Gd_of (by decide +kernel) (fun z hzl as h r e => by
  obtain ⟨hst, e⟩ := gL_of e
  obtain ⟨x0, q0, e⟩ := gR_of e
  obtain ⟨x1, q1, e⟩ := gI_of e
  obtain ⟨x2, q2, e⟩ := gI_of e
  rw [st_3 hst q0 q1 q2]
  obtain ⟨n, e⟩ := lim_of e
  obtain hG2 := X2_isThere_k (z := z) n
  exact ⟨show 3 ≤ 4 by decide, X2_isThere_s0 hG2 _ _ _ _ ((X2_isThere_l0 (X2_isThere_fam n) x0 x1 x2 h).trans e)⟩)
abbrev X2_goesOnAt_x (z : CZ) : CX := mx RX2 cX2_goesOnAt 5 3 (some .boolean) "goesOnAt" z
noncomputable def X2_goesOnAt_b0 (k2 : Kn) : Kn := (a_ic 0 (a_is 3 k2))
set_option maxRecDepth 100000 in
theorem X2_goesOnAt_s0 {z : CZ} {k2 : Kn} (hk2 : SK (X2_goesOnAt_x z) 2 k2) : SK (X2_goesOnAt_x z) 0 (X2_goesOnAt_b0 k2) := (s_iconst (pc := 0) dX2_goesOnAt_0 c_ic_0 (s_istoren (pc := 1) dX2_goesOnAt_1 rfl (show 3 < 5 by decide) hk2))
noncomputable def X2_goesOnAt_b2 (c_X2_groupName : Nat → Int32 → PH → Option Rs) (k2 : Kn) : Kn := (a_il 3 (a_al 1 (a_gI 5 324 (a_lt (a_al 1 (a_gR 5 325 27 (a_il 3 (a_ald 27 1728 (a_is 4 (a_il 4 (a_il 2 (a_eq (a_ic 1 a_zr) (a_al 0 (a_il 2 (a_sI 2 (FW_R1I c_X2_groupName) (a_il 4 (a_eq (a_ic 1 a_zr) (a_al 0 (a_il 4 (a_sI 2 (FW_R1I c_X2_groupName) (a_il 2 (a_eq (a_ic 1 a_zr) (a_inc 3 1 k2))))))))))))))))))) (a_ic 0 a_zr)))))
set_option maxRecDepth 100000 in
theorem X2_goesOnAt_s2 {z : CZ} {k2 : Kn} (hk2 : SK (X2_goesOnAt_x z) 2 k2) : SK (X2_goesOnAt_x z) 2 (X2_goesOnAt_b2 X2_groupName k2) := (s_iloadn (pc := 2) dX2_goesOnAt_2 rfl (s_aloadn (pc := 3) dX2_goesOnAt_3 rfl (s_gI (pc := 4) (f := 4) ko_5 (by decide) rfl rfl w_181 dX2_goesOnAt_4 (s_cmpge (pc := 7) dX2_goesOnAt_7 (by decide) (s_iconst (pc := 52) dX2_goesOnAt_52 c_ic_0 (s_zr (pc := 53) rfl dX2_goesOnAt_53)) (s_aloadn (pc := 10) dX2_goesOnAt_10 rfl (s_gR (pc := 11) (f := 5) ko_5 (by decide) rfl rfl w_187 dX2_goesOnAt_11 (s_iloadn (pc := 14) dX2_goesOnAt_14 rfl (s_iald (pc := 15) (by decide) (by decide) rfl rfl rfl dX2_goesOnAt_15 (s_istore (pc := 16) dX2_goesOnAt_16 (show 4 < 5 by decide) (s_iload (pc := 18) dX2_goesOnAt_18 (s_iloadn (pc := 20) dX2_goesOnAt_20 rfl (s_cmpeq (pc := 21) dX2_goesOnAt_21 (by decide) (s_iconst (pc := 44) dX2_goesOnAt_44 c_ic_1 (s_zr (pc := 45) rfl dX2_goesOnAt_45)) (s_aloadn (pc := 24) dX2_goesOnAt_24 rfl (s_iloadn (pc := 25) dX2_goesOnAt_25 rfl (s_sI (pc := 26) (run_static (X2_groupName_gd _) (show 2 < 3 by decide) cy_X2_groupName w_1086 w_1085 dX2_goesOnAt_26) (s_iload (pc := 29) dX2_goesOnAt_29 (s_cmpeq (pc := 31) dX2_goesOnAt_31 (by decide) (s_iconst (pc := 44) dX2_goesOnAt_44 c_ic_1 (s_zr (pc := 45) rfl dX2_goesOnAt_45)) (s_aloadn (pc := 34) dX2_goesOnAt_34 rfl (s_iload (pc := 35) dX2_goesOnAt_35 (s_sI (pc := 37) (run_static (X2_groupName_gd _) (show 2 < 3 by decide) cy_X2_groupName w_1086 w_1085 dX2_goesOnAt_37) (s_iloadn (pc := 40) dX2_goesOnAt_40 rfl (s_cmpne (pc := 41) dX2_goesOnAt_41 (by decide) (s_iinc (pc := 46) dX2_goesOnAt_46 c_ic_1 (show 3 < 5 by decide) (s_goto (pc := 49) dX2_goesOnAt_49 (by decide) hk2)) (s_iconst (pc := 44) dX2_goesOnAt_44 c_ic_1 (s_zr (pc := 45) rfl dX2_goesOnAt_45))))))))))))))))))))))))
noncomputable def X2_goesOnAt_u2 (g : Nat → Nat → Int32 → Int32 → PH → Option Rs) : Kn := fun ls st h => gL 0 st (gR 1 ls 0 fun x0 => gR 5 ls 1 fun x1 => gI ls 2 fun x2 => gI ls 3 fun x3 => g x0 x1 x2 x3 h)
noncomputable def X2_goesOnAt_f0 (g2 : Nat → Nat → Int32 → Int32 → PH → Option Rs) (x0 : Nat) (x1 : Nat) (x2 : Int32) (h : PH) : Option Rs :=
  g2 x0 x1 x2 0 h
set_option maxRecDepth 100000 in
theorem X2_goesOnAt_l0 (g2 : Nat → Nat → Int32 → Int32 → PH → Option Rs) (x0 : Nat) (x1 : Nat) (x2 : Int32) (h : PH) : X2_goesOnAt_b0 (X2_goesOnAt_u2 g2) [some (.inr (1, x0)), some (.inr (5, x1)), some (.inl x2), none, none] [] h = X2_goesOnAt_f0 g2 x0 x1 x2 h := rfl
theorem X2_goesOnAt_m0 {g2 G2 : Nat → Nat → Int32 → Int32 → PH → Option Rs} (hg2 : ∀ a0 a1 a2 a3 a4, Mo (g2 a0 a1 a2 a3 a4) (G2 a0 a1 a2 a3 a4)) (x0 : Nat) (x1 : Nat) (x2 : Int32) (h : PH) : Mo (X2_goesOnAt_f0 g2 x0 x1 x2 h) (X2_goesOnAt_f0 G2 x0 x1 x2 h) := (hg2 x0 x1 x2 0 h)
noncomputable def X2_goesOnAt_f2 (c_X2_groupName : Nat → Int32 → PH → Option Rs) (g2 : Nat → Nat → Int32 → Int32 → PH → Option Rs) (x0 : Nat) (x1 : Nat) (x2 : Int32) (x3 : Int32) (h : PH) : Option Rs :=
  nn x1 fun r1 =>
  if x3 < (hI h 324 r1 0) then
    nn x1 fun r2 =>
    nn (hR h 325 r2 0) fun r3 =>
    ix x3 (hL h 27 r3) fun j4 =>
    if (hI h 1728 r3 j4) = x2 then
      bz 1 <|
      some (some (.inl 1), h)
    else
      cI (c_X2_groupName x0 x2 h) fun v6 h5 =>
      if v6 = (hI h 1728 r3 j4) then
        bz 1 <|
        some (some (.inl 1), h5)
      else
        cI (c_X2_groupName x0 (hI h 1728 r3 j4) h5) fun v8 h7 =>
        if v8 = x2 then
          bz 1 <|
          some (some (.inl 1), h7)
        else
          g2 x0 x1 x2 (x3 + 1) h7
  else
    bz 0 <|
    some (some (.inl 0), h)
set_option maxRecDepth 100000 in
theorem X2_goesOnAt_l2 (c_X2_groupName : Nat → Int32 → PH → Option Rs) (g2 : Nat → Nat → Int32 → Int32 → PH → Option Rs) (x0 : Nat) (x1 : Nat) (x2 : Int32) (x3 : Int32) (h : PH) : X2_goesOnAt_b2 c_X2_groupName (X2_goesOnAt_u2 g2) [some (.inr (1, x0)), some (.inr (5, x1)), some (.inl x2), some (.inl x3), none] [] h = X2_goesOnAt_f2 c_X2_groupName g2 x0 x1 x2 x3 h := rfl
theorem X2_goesOnAt_m2 {c_X2_groupName : Nat → Int32 → PH → Option Rs} {g2 G2 : Nat → Nat → Int32 → Int32 → PH → Option Rs} (hg2 : ∀ a0 a1 a2 a3 a4, Mo (g2 a0 a1 a2 a3 a4) (G2 a0 a1 a2 a3 a4)) (x0 : Nat) (x1 : Nat) (x2 : Int32) (x3 : Int32) (h : PH) : Mo (X2_goesOnAt_f2 c_X2_groupName g2 x0 x1 x2 x3 h) (X2_goesOnAt_f2 c_X2_groupName G2 x0 x1 x2 x3 h) := (mo_nn fun r1 => (mo_if (mo_nn fun r2 => (mo_nn fun r3 => (mo_ix fun j4 => (mo_if (mo_bz mo_rf) (mo_cI fun v6 h5 => (mo_if (mo_bz mo_rf) (mo_cI fun v8 h7 => (mo_if (mo_bz mo_rf) (hg2 x0 x1 x2 (x3 + 1) h7))))))))) (mo_bz mo_rf)))
theorem X2_goesOnAt_w2 {z : CZ} {g2 : Nat → Nat → Int32 → Int32 → PH → Option Rs} (hk2 : SK (X2_goesOnAt_x z) 2 (X2_goesOnAt_u2 g2)) : SK (X2_goesOnAt_x z) 2 (X2_goesOnAt_u2 (X2_goesOnAt_f2 X2_groupName g2)) := by
  intro ls st h r e
  obtain ⟨hst, e⟩ := gL_of e
  obtain ⟨x0, q0, e⟩ := gR_of e
  obtain ⟨x1, q1, e⟩ := gR_of e
  obtain ⟨x2, q2, e⟩ := gI_of e
  obtain ⟨x3, q3, e⟩ := gI_of e
  rw [st_0 hst]
  exact WK.sub (canon := [some (.inr (1, x0)), some (.inr (5, x1)), some (.inl x2), some (.inl x3), none]) rfl ⟨q0, q1, q2, q3, trivial⟩ (X2_goesOnAt_s2 hk2 _ _ _ _ ((X2_goesOnAt_l2 X2_groupName g2 x0 x1 x2 x3 h).trans e))
noncomputable def X2_goesOnAt_g0 (G : (Nat → Nat → Int32 → Int32 → PH → Option Rs)) (x0 : Nat) (x1 : Nat) (x2 : Int32) (h : PH) : Option Rs := X2_goesOnAt_f0 (G) x0 x1 x2 h
noncomputable def X2_goesOnAt_g2 (G : (Nat → Nat → Int32 → Int32 → PH → Option Rs)) (x0 : Nat) (x1 : Nat) (x2 : Int32) (x3 : Int32) (h : PH) : Option Rs := X2_goesOnAt_f2 X2_groupName (G) x0 x1 x2 x3 h
theorem X2_goesOnAt_v2 {z : CZ} {G : (Nat → Nat → Int32 → Int32 → PH → Option Rs)} (hG2 : SK (X2_goesOnAt_x z) 2 (X2_goesOnAt_u2 (G))) : SK (X2_goesOnAt_x z) 2 (X2_goesOnAt_u2 (X2_goesOnAt_g2 G)) := X2_goesOnAt_w2 hG2
noncomputable def X2_goesOnAt_fam : Nat → (Nat → Nat → Int32 → Int32 → PH → Option Rs)
  | 0 => fun _ _ _ _ _ => none
  | n + 1 => X2_goesOnAt_g2 (X2_goesOnAt_fam n)
theorem X2_goesOnAt_k {z : CZ} : ∀ n, SK (X2_goesOnAt_x z) 2 (X2_goesOnAt_u2 (X2_goesOnAt_fam n))
  | 0 => (fun ls st h r e => by
      obtain ⟨_, e⟩ := gL_of e
      obtain ⟨_, _, e⟩ := gR_of e
      obtain ⟨_, _, e⟩ := gR_of e
      obtain ⟨_, _, e⟩ := gI_of e
      obtain ⟨_, _, e⟩ := gI_of e
      cases e)
  | n + 1 => by
    obtain ih2 := X2_goesOnAt_k n
    exact X2_goesOnAt_v2 ih2
theorem X2_goesOnAt_n0 {G G' : (Nat → Nat → Int32 → Int32 → PH → Option Rs)} (hg2 : ∀ a0 a1 a2 a3 a4, Mo ((G) a0 a1 a2 a3 a4) ((G') a0 a1 a2 a3 a4)) (x0 : Nat) (x1 : Nat) (x2 : Int32) (h : PH) : Mo (X2_goesOnAt_g0 G x0 x1 x2 h) (X2_goesOnAt_g0 G' x0 x1 x2 h) := X2_goesOnAt_m0 hg2 x0 x1 x2 h
theorem X2_goesOnAt_n2 {G G' : (Nat → Nat → Int32 → Int32 → PH → Option Rs)} (hg2 : ∀ a0 a1 a2 a3 a4, Mo ((G) a0 a1 a2 a3 a4) ((G') a0 a1 a2 a3 a4)) (x0 : Nat) (x1 : Nat) (x2 : Int32) (x3 : Int32) (h : PH) : Mo (X2_goesOnAt_g2 G x0 x1 x2 x3 h) (X2_goesOnAt_g2 G' x0 x1 x2 x3 h) := X2_goesOnAt_m2 hg2 x0 x1 x2 x3 h
theorem X2_goesOnAt_fm : ∀ n, (∀ a0 a1 a2 a3 a4, Mo ((X2_goesOnAt_fam n) a0 a1 a2 a3 a4) ((X2_goesOnAt_fam (n + 1)) a0 a1 a2 a3 a4))
  | 0 => fun _ _ _ _ _ => mo_no
  | n + 1 => by
    obtain ih2 := X2_goesOnAt_fm n
    exact fun a0 a1 a2 a3 a4 => X2_goesOnAt_n2 ih2 a0 a1 a2 a3 a4
noncomputable def X2_goesOnAt (x0 : Nat) (x1 : Nat) (x2 : Int32) (h : PH) : Option Rs := lim (fun n => X2_goesOnAt_g0 (X2_goesOnAt_fam n) x0 x1 x2 h)
theorem X2_goesOnAt_iff {x0 : Nat} {x1 : Nat} {x2 : Int32} {h : PH} {r : Rs} : X2_goesOnAt x0 x1 x2 h = some r ↔ ∃ n, X2_goesOnAt_g0 (X2_goesOnAt_fam n) x0 x1 x2 h = some r := lim_iff (fun n => by
  obtain ih2 := X2_goesOnAt_fm n
  exact X2_goesOnAt_n0 ih2 x0 x1 x2 h)
noncomputable abbrev X2_goesOnAt_F : List PV → PH → Option Rs := FW_R1R5I (X2_goesOnAt)
set_option maxRecDepth 100000 in
theorem X2_goesOnAt_gd (l : Launch) : Gd l 3 yX2_goesOnAt cX2_goesOnAt 5 (some .boolean) (X2_goesOnAt_F)   := Gd_of (by decide +kernel) (fun z hzl as h r e => by
  obtain ⟨hst, e⟩ := gL_of e
  obtain ⟨x0, q0, e⟩ := gR_of e
  obtain ⟨x1, q1, e⟩ := gR_of e
  obtain ⟨x2, q2, e⟩ := gI_of e
  rw [st_3 hst q0 q1 q2]
  obtain ⟨n, e⟩ := lim_of e
  obtain hG2 := X2_goesOnAt_k (z := z) n
  exact ⟨show 3 ≤ 5 by decide, X2_goesOnAt_s0 hG2 _ _ _ _ ((X2_goesOnAt_l0 (X2_goesOnAt_fam n) x0 x1 x2 h).trans e)⟩)
abbrev X2_isDropped_x (z : CZ) : CX := mx RX2 cX2_isDropped 5 4 (some .boolean) "isDropped" z
noncomputable def X2_isDropped_b0 (c_X1_waysFrom : Nat → Int32 → PH → Option Rs) (c_X2_isThere : Nat → Int32 → Int32 → PH → Option Rs) (k22 : Kn) : Kn := (a_al 0 (a_il 2 (a_vI 1 1 (FW_T1I c_X1_waysFrom) (a_ic 3 (a_lt (a_ic 0 a_zr) (a_al 0 (a_il 1 (a_il 2 (a_sI 3 (FW_R1II c_X2_isThere) (a_z (a_ic 0 (a_is 3 k22)) (a_ic 0 a_zr)))))))))))
set_option maxRecDepth 100000 in
theorem X2_isDropped_s0 {z : CZ} {k22 : Kn} (hk22 : SK (X2_isDropped_x z) 22 k22) : SK (X2_isDropped_x z) 0 (X2_isDropped_b0 X1_waysFrom X2_isThere k22) := (s_aloadn (pc := 0) dX2_isDropped_0 rfl (s_iloadn (pc := 1) dX2_isDropped_1 rfl (s_vI (pc := 2) (run_virtual (X1_waysFrom_gd _) (show 1 < 4 by decide) cy_X1_waysFrom (by decide) rfl w_1077 w_1078 w_1076 dX2_isDropped_2) (s_iconst (pc := 5) dX2_isDropped_5 c_ic_3 (s_cmplt (pc := 6) dX2_isDropped_6 (by decide) (s_iconst (pc := 18) dX2_isDropped_18 c_ic_0 (s_zr (pc := 19) rfl dX2_isDropped_19)) (s_aloadn (pc := 9) dX2_isDropped_9 rfl (s_iloadn (pc := 10) dX2_isDropped_10 rfl (s_iloadn (pc := 11) dX2_isDropped_11 rfl (s_sI (pc := 12) (run_static (X2_isThere_gd _) (show 3 < 4 by decide) cy_X2_isThere w_1083 w_1082 dX2_isDropped_12) (s_ifeq (pc := 15) dX2_isDropped_15 (by decide) (s_iconst (pc := 20) dX2_isDropped_20 c_ic_0 (s_istoren (pc := 21) dX2_isDropped_21 rfl (show 3 < 5 by decide) hk22)) (s_iconst (pc := 18) dX2_isDropped_18 c_ic_0 (s_zr (pc := 19) rfl dX2_isDropped_19))))))))))))
noncomputable def X2_isDropped_b22 (c_X2_goesOnAt : Nat → Nat → Int32 → PH → Option Rs) (k59 : Kn) : Kn := (a_il 3 (a_al 0 (a_gI 1 75 (a_lt (a_al 0 (a_gR 1 68 18 (a_il 3 (a_rald 18 1152 5 (a_as 4 (a_al 4 (a_gI 5 320 (a_il 2 (a_eq (a_al 0 (a_al 4 (a_il 1 (a_sI 3 (FW_R1R5I c_X2_goesOnAt) (a_z k59 (a_ic 0 a_zr)))))) k59))))))))) (a_ic 1 a_zr)))))
set_option maxRecDepth 100000 in
theorem X2_isDropped_s22 {z : CZ} {k59 : Kn} (hk59 : SK (X2_isDropped_x z) 59 k59) : SK (X2_isDropped_x z) 22 (X2_isDropped_b22 X2_goesOnAt k59) := (s_iloadn (pc := 22) dX2_isDropped_22 rfl (s_aloadn (pc := 23) dX2_isDropped_23 rfl (s_gI (pc := 24) (f := 11) ko_1 (by decide) rfl rfl w_254 dX2_isDropped_24 (s_cmpge (pc := 27) dX2_isDropped_27 (by decide) (s_iconst (pc := 65) dX2_isDropped_65 c_ic_1 (s_zr (pc := 66) rfl dX2_isDropped_66)) (s_aloadn (pc := 30) dX2_isDropped_30 rfl (s_gR (pc := 31) (f := 4) ko_1 (by decide) rfl rfl w_230 dX2_isDropped_31 (s_iloadn (pc := 34) dX2_isDropped_34 rfl (s_rald (pc := 35) (by decide) (by decide) rfl rfl rfl dX2_isDropped_35 (s_astore (pc := 36) dX2_isDropped_36 (show 4 < 5 by decide) (s_aload (pc := 38) dX2_isDropped_38 (s_gI (pc := 40) (f := 0) ko_5 (by decide) rfl rfl w_167 dX2_isDropped_40 (s_iloadn (pc := 43) dX2_isDropped_43 rfl (s_cmpne (pc := 44) dX2_isDropped_44 (by decide) hk59 (s_aloadn (pc := 47) dX2_isDropped_47 rfl (s_aload (pc := 48) dX2_isDropped_48 (s_iloadn (pc := 50) dX2_isDropped_50 rfl (s_sI (pc := 51) (run_static (X2_goesOnAt_gd _) (show 3 < 4 by decide) cy_X2_goesOnAt w_1090 w_1089 dX2_isDropped_51) (s_ifeq (pc := 54) dX2_isDropped_54 (by decide) hk59 (s_iconst (pc := 57) dX2_isDropped_57 c_ic_0 (s_zr (pc := 58) rfl dX2_isDropped_58))))))))))))))))))))
noncomputable def X2_isDropped_b59 (k22 : Kn) : Kn := (a_inc 3 1 k22)
set_option maxRecDepth 100000 in
theorem X2_isDropped_s59 {z : CZ} {k22 : Kn} (hk22 : SK (X2_isDropped_x z) 22 k22) : SK (X2_isDropped_x z) 59 (X2_isDropped_b59 k22) := (s_iinc (pc := 59) dX2_isDropped_59 c_ic_1 (show 3 < 5 by decide) (s_goto (pc := 62) dX2_isDropped_62 (by decide) hk22))
noncomputable def X2_isDropped_u22 (g : Nat → Int32 → Int32 → Int32 → PH → Option Rs) : Kn := fun ls st h => gL 0 st (gR 1 ls 0 fun x0 => gI ls 1 fun x1 => gI ls 2 fun x2 => gI ls 3 fun x3 => g x0 x1 x2 x3 h)
noncomputable def X2_isDropped_u59 (g : Nat → Int32 → Int32 → Int32 → PH → Option Rs) : Kn := fun ls st h => gL 0 st (gR 1 ls 0 fun x0 => gI ls 1 fun x1 => gI ls 2 fun x2 => gI ls 3 fun x3 => g x0 x1 x2 x3 h)
noncomputable def X2_isDropped_f0 (c_X1_waysFrom : Nat → Int32 → PH → Option Rs) (c_X2_isThere : Nat → Int32 → Int32 → PH → Option Rs) (g22 : Nat → Int32 → Int32 → Int32 → PH → Option Rs) (x0 : Nat) (x1 : Int32) (x2 : Int32) (h : PH) : Option Rs :=
  nn x0 fun r1 =>
  cI (c_X1_waysFrom r1 x2 h) fun v3 h2 =>
  if v3 < 3 then
    bz 0 <|
    some (some (.inl 0), h2)
  else
    cI (c_X2_isThere x0 x1 x2 h2) fun v5 h4 =>
    if v5 = 0 then
      g22 x0 x1 x2 0 h4
    else
      bz 0 <|
      some (some (.inl 0), h4)
set_option maxRecDepth 100000 in
theorem X2_isDropped_l0 (c_X1_waysFrom : Nat → Int32 → PH → Option Rs) (c_X2_isThere : Nat → Int32 → Int32 → PH → Option Rs) (g22 : Nat → Int32 → Int32 → Int32 → PH → Option Rs) (x0 : Nat) (x1 : Int32) (x2 : Int32) (h : PH) : X2_isDropped_b0 c_X1_waysFrom c_X2_isThere (X2_isDropped_u22 g22) [some (.inr (1, x0)), some (.inl x1), some (.inl x2), none, none] [] h = X2_isDropped_f0 c_X1_waysFrom c_X2_isThere g22 x0 x1 x2 h := rfl
theorem X2_isDropped_m0 {c_X1_waysFrom : Nat → Int32 → PH → Option Rs} {c_X2_isThere : Nat → Int32 → Int32 → PH → Option Rs} {g22 G22 : Nat → Int32 → Int32 → Int32 → PH → Option Rs} (hg22 : ∀ a0 a1 a2 a3 a4, Mo (g22 a0 a1 a2 a3 a4) (G22 a0 a1 a2 a3 a4)) (x0 : Nat) (x1 : Int32) (x2 : Int32) (h : PH) : Mo (X2_isDropped_f0 c_X1_waysFrom c_X2_isThere g22 x0 x1 x2 h) (X2_isDropped_f0 c_X1_waysFrom c_X2_isThere G22 x0 x1 x2 h) := (mo_nn fun r1 => (mo_cI fun v3 h2 => (mo_if (mo_bz mo_rf) (mo_cI fun v5 h4 => (mo_if (hg22 x0 x1 x2 0 h4) (mo_bz mo_rf))))))
noncomputable def X2_isDropped_f22 (c_X2_goesOnAt : Nat → Nat → Int32 → PH → Option Rs) (g59 : Nat → Int32 → Int32 → Int32 → PH → Option Rs) (x0 : Nat) (x1 : Int32) (x2 : Int32) (x3 : Int32) (h : PH) : Option Rs :=
  nn x0 fun r6 =>
  if x3 < (hI h 75 r6 0) then
    nn x0 fun r7 =>
    nn (hR h 68 r7 0) fun r8 =>
    ix x3 (hL h 18 r8) fun j9 =>
    nn (hR h 1152 r8 j9) fun r10 =>
    if (hI h 320 r10 0) = x2 then
      cI (c_X2_goesOnAt x0 (hR h 1152 r8 j9) x1 h) fun v12 h11 =>
      if v12 = 0 then
        g59 x0 x1 x2 x3 h11
      else
        bz 0 <|
        some (some (.inl 0), h11)
    else
      g59 x0 x1 x2 x3 h
  else
    bz 1 <|
    some (some (.inl 1), h)
set_option maxRecDepth 100000 in
theorem X2_isDropped_l22 (c_X2_goesOnAt : Nat → Nat → Int32 → PH → Option Rs) (g59 : Nat → Int32 → Int32 → Int32 → PH → Option Rs) (x0 : Nat) (x1 : Int32) (x2 : Int32) (x3 : Int32) (h : PH) : X2_isDropped_b22 c_X2_goesOnAt (X2_isDropped_u59 g59) [some (.inr (1, x0)), some (.inl x1), some (.inl x2), some (.inl x3), none] [] h = X2_isDropped_f22 c_X2_goesOnAt g59 x0 x1 x2 x3 h := rfl
theorem X2_isDropped_m22 {c_X2_goesOnAt : Nat → Nat → Int32 → PH → Option Rs} {g59 G59 : Nat → Int32 → Int32 → Int32 → PH → Option Rs} (hg59 : ∀ a0 a1 a2 a3 a4, Mo (g59 a0 a1 a2 a3 a4) (G59 a0 a1 a2 a3 a4)) (x0 : Nat) (x1 : Int32) (x2 : Int32) (x3 : Int32) (h : PH) : Mo (X2_isDropped_f22 c_X2_goesOnAt g59 x0 x1 x2 x3 h) (X2_isDropped_f22 c_X2_goesOnAt G59 x0 x1 x2 x3 h) := (mo_nn fun r6 => (mo_if (mo_nn fun r7 => (mo_nn fun r8 => (mo_ix fun j9 => (mo_nn fun r10 => (mo_if (mo_cI fun v12 h11 => (mo_if (hg59 x0 x1 x2 x3 h11) (mo_bz mo_rf))) (hg59 x0 x1 x2 x3 h)))))) (mo_bz mo_rf)))
theorem X2_isDropped_w22 {z : CZ} {g59 : Nat → Int32 → Int32 → Int32 → PH → Option Rs} (hk59 : SK (X2_isDropped_x z) 59 (X2_isDropped_u59 g59)) : SK (X2_isDropped_x z) 22 (X2_isDropped_u22 (X2_isDropped_f22 X2_goesOnAt g59)) := by
  intro ls st h r e
  obtain ⟨hst, e⟩ := gL_of e
  obtain ⟨x0, q0, e⟩ := gR_of e
  obtain ⟨x1, q1, e⟩ := gI_of e
  obtain ⟨x2, q2, e⟩ := gI_of e
  obtain ⟨x3, q3, e⟩ := gI_of e
  rw [st_0 hst]
  exact WK.sub (canon := [some (.inr (1, x0)), some (.inl x1), some (.inl x2), some (.inl x3), none]) rfl ⟨q0, q1, q2, q3, trivial⟩ (X2_isDropped_s22 hk59 _ _ _ _ ((X2_isDropped_l22 X2_goesOnAt g59 x0 x1 x2 x3 h).trans e))
noncomputable def X2_isDropped_f59 (g22 : Nat → Int32 → Int32 → Int32 → PH → Option Rs) (x0 : Nat) (x1 : Int32) (x2 : Int32) (x3 : Int32) (h : PH) : Option Rs :=
  g22 x0 x1 x2 (x3 + 1) h
set_option maxRecDepth 100000 in
theorem X2_isDropped_l59 (g22 : Nat → Int32 → Int32 → Int32 → PH → Option Rs) (x0 : Nat) (x1 : Int32) (x2 : Int32) (x3 : Int32) (h : PH) : X2_isDropped_b59 (X2_isDropped_u22 g22) [some (.inr (1, x0)), some (.inl x1), some (.inl x2), some (.inl x3), none] [] h = X2_isDropped_f59 g22 x0 x1 x2 x3 h := rfl
theorem X2_isDropped_m59 {g22 G22 : Nat → Int32 → Int32 → Int32 → PH → Option Rs} (hg22 : ∀ a0 a1 a2 a3 a4, Mo (g22 a0 a1 a2 a3 a4) (G22 a0 a1 a2 a3 a4)) (x0 : Nat) (x1 : Int32) (x2 : Int32) (x3 : Int32) (h : PH) : Mo (X2_isDropped_f59 g22 x0 x1 x2 x3 h) (X2_isDropped_f59 G22 x0 x1 x2 x3 h) := (hg22 x0 x1 x2 (x3 + 1) h)
theorem X2_isDropped_w59 {z : CZ} {g22 : Nat → Int32 → Int32 → Int32 → PH → Option Rs} (hk22 : SK (X2_isDropped_x z) 22 (X2_isDropped_u22 g22)) : SK (X2_isDropped_x z) 59 (X2_isDropped_u59 (X2_isDropped_f59 g22)) := by
  intro ls st h r e
  obtain ⟨hst, e⟩ := gL_of e
  obtain ⟨x0, q0, e⟩ := gR_of e
  obtain ⟨x1, q1, e⟩ := gI_of e
  obtain ⟨x2, q2, e⟩ := gI_of e
  obtain ⟨x3, q3, e⟩ := gI_of e
  rw [st_0 hst]
  exact WK.sub (canon := [some (.inr (1, x0)), some (.inl x1), some (.inl x2), some (.inl x3), none]) rfl ⟨q0, q1, q2, q3, trivial⟩ (X2_isDropped_s59 hk22 _ _ _ _ ((X2_isDropped_l59 g22 x0 x1 x2 x3 h).trans e))
noncomputable def X2_isDropped_g0 (G : (Nat → Int32 → Int32 → Int32 → PH → Option Rs)) (x0 : Nat) (x1 : Int32) (x2 : Int32) (h : PH) : Option Rs := X2_isDropped_f0 X1_waysFrom X2_isThere (G) x0 x1 x2 h
noncomputable def X2_isDropped_g59 (G : (Nat → Int32 → Int32 → Int32 → PH → Option Rs)) (x0 : Nat) (x1 : Int32) (x2 : Int32) (x3 : Int32) (h : PH) : Option Rs := X2_isDropped_f59 (G) x0 x1 x2 x3 h
noncomputable def X2_isDropped_g22 (G : (Nat → Int32 → Int32 → Int32 → PH → Option Rs)) (x0 : Nat) (x1 : Int32) (x2 : Int32) (x3 : Int32) (h : PH) : Option Rs := X2_isDropped_f22 X2_goesOnAt (X2_isDropped_g59 G) x0 x1 x2 x3 h
theorem X2_isDropped_v59 {z : CZ} {G : (Nat → Int32 → Int32 → Int32 → PH → Option Rs)} (hG22 : SK (X2_isDropped_x z) 22 (X2_isDropped_u22 (G))) : SK (X2_isDropped_x z) 59 (X2_isDropped_u59 (X2_isDropped_g59 G)) := X2_isDropped_w59 hG22
theorem X2_isDropped_v22 {z : CZ} {G : (Nat → Int32 → Int32 → Int32 → PH → Option Rs)} (hG22 : SK (X2_isDropped_x z) 22 (X2_isDropped_u22 (G))) : SK (X2_isDropped_x z) 22 (X2_isDropped_u22 (X2_isDropped_g22 G)) := X2_isDropped_w22 (X2_isDropped_v59 hG22)
noncomputable def X2_isDropped_fam : Nat → (Nat → Int32 → Int32 → Int32 → PH → Option Rs)
  | 0 => fun _ _ _ _ _ => none
  | n + 1 => X2_isDropped_g22 (X2_isDropped_fam n)
theorem X2_isDropped_k {z : CZ} : ∀ n, SK (X2_isDropped_x z) 22 (X2_isDropped_u22 (X2_isDropped_fam n))
  | 0 => (fun ls st h r e => by
      obtain ⟨_, e⟩ := gL_of e
      obtain ⟨_, _, e⟩ := gR_of e
      obtain ⟨_, _, e⟩ := gI_of e
      obtain ⟨_, _, e⟩ := gI_of e
      obtain ⟨_, _, e⟩ := gI_of e
      cases e)
  | n + 1 => by
    obtain ih22 := X2_isDropped_k n
    exact X2_isDropped_v22 ih22
theorem X2_isDropped_n0 {G G' : (Nat → Int32 → Int32 → Int32 → PH → Option Rs)} (hg22 : ∀ a0 a1 a2 a3 a4, Mo ((G) a0 a1 a2 a3 a4) ((G') a0 a1 a2 a3 a4)) (x0 : Nat) (x1 : Int32) (x2 : Int32) (h : PH) : Mo (X2_isDropped_g0 G x0 x1 x2 h) (X2_isDropped_g0 G' x0 x1 x2 h) := X2_isDropped_m0 hg22 x0 x1 x2 h
theorem X2_isDropped_n59 {G G' : (Nat → Int32 → Int32 → Int32 → PH → Option Rs)} (hg22 : ∀ a0 a1 a2 a3 a4, Mo ((G) a0 a1 a2 a3 a4) ((G') a0 a1 a2 a3 a4)) (x0 : Nat) (x1 : Int32) (x2 : Int32) (x3 : Int32) (h : PH) : Mo (X2_isDropped_g59 G x0 x1 x2 x3 h) (X2_isDropped_g59 G' x0 x1 x2 x3 h) := X2_isDropped_m59 hg22 x0 x1 x2 x3 h
theorem X2_isDropped_n22 {G G' : (Nat → Int32 → Int32 → Int32 → PH → Option Rs)} (hg22 : ∀ a0 a1 a2 a3 a4, Mo ((G) a0 a1 a2 a3 a4) ((G') a0 a1 a2 a3 a4)) (x0 : Nat) (x1 : Int32) (x2 : Int32) (x3 : Int32) (h : PH) : Mo (X2_isDropped_g22 G x0 x1 x2 x3 h) (X2_isDropped_g22 G' x0 x1 x2 x3 h) := X2_isDropped_m22 (fun a0 a1 a2 a3 a4 => X2_isDropped_n59 hg22 a0 a1 a2 a3 a4) x0 x1 x2 x3 h
theorem X2_isDropped_fm : ∀ n, (∀ a0 a1 a2 a3 a4, Mo ((X2_isDropped_fam n) a0 a1 a2 a3 a4) ((X2_isDropped_fam (n + 1)) a0 a1 a2 a3 a4))
  | 0 => fun _ _ _ _ _ => mo_no
  | n + 1 => by
    obtain ih22 := X2_isDropped_fm n
    exact fun a0 a1 a2 a3 a4 => X2_isDropped_n22 ih22 a0 a1 a2 a3 a4
noncomputable def X2_isDropped (x0 : Nat) (x1 : Int32) (x2 : Int32) (h : PH) : Option Rs := lim (fun n => X2_isDropped_g0 (X2_isDropped_fam n) x0 x1 x2 h)
theorem X2_isDropped_iff {x0 : Nat} {x1 : Int32} {x2 : Int32} {h : PH} {r : Rs} : X2_isDropped x0 x1 x2 h = some r ↔ ∃ n, X2_isDropped_g0 (X2_isDropped_fam n) x0 x1 x2 h = some r := lim_iff (fun n => by
  obtain ih22 := X2_isDropped_fm n
  exact X2_isDropped_n0 ih22 x0 x1 x2 h)
noncomputable abbrev X2_isDropped_F : List PV → PH → Option Rs := FW_R1II (X2_isDropped)
set_option maxRecDepth 100000 in
theorem X2_isDropped_gd (l : Launch) : Gd l 4 yX2_isDropped cX2_isDropped 5 (some .boolean) (X2_isDropped_F)   := Gd_of (by decide +kernel) (fun z hzl as h r e => by
  obtain ⟨hst, e⟩ := gL_of e
  obtain ⟨x0, q0, e⟩ := gR_of e
  obtain ⟨x1, q1, e⟩ := gI_of e
  obtain ⟨x2, q2, e⟩ := gI_of e
  rw [st_3 hst q0 q1 q2]
  obtain ⟨n, e⟩ := lim_of e
  obtain hG22 := X2_isDropped_k (z := z) n
  exact ⟨show 3 ≤ 5 by decide, X2_isDropped_s0 hG22 _ _ _ _ ((X2_isDropped_l0 X1_waysFrom X2_isThere (X2_isDropped_fam n) x0 x1 x2 h).trans e)⟩)
abbrev X2_isBroken_x (z : CZ) : CX := mx RX2 cX2_isBroken 6 31 (some .boolean) "isBroken" z
noncomputable def X2_isBroken_b0 (c_X1_wayFrom : Nat → Int32 → Int32 → PH → Option Rs) (c_mo3 : List PV → PH → Option Rs) (c_X2_isQuarrel : Nat → Int32 → Int32 → PH → Option Rs) (c_X10_endFrom : Nat → Int32 → PH → Option Rs) (c_X2_isDropped : Nat → Int32 → Int32 → PH → Option Rs) : Kn := (a_al 0 (a_gR 1 68 18 (a_il 1 (a_rald 18 1152 5 (a_as 4 (a_al 0 (a_al 4 (a_gI 5 320 (a_al 4 (a_gR 5 326 28 (a_il 2 (a_ald 28 1792 (a_vI 1 2 (FW_T1II c_X1_wayFrom) (a_is 5 (a_il 3 (a_sw [(1, (a_il 2 (a_al 4 (a_gI 5 321 (a_sI 1 c_mo3 (a_lt (a_ic 0 a_zr) (a_ic 1 a_zr))))))), (2, (a_al 0 (a_il 1 (a_il 2 (a_sI 3 (FW_R1II c_X2_isQuarrel) a_zr))))), (3, (a_il 5 (a_ic (-1) (a_eq (a_ic 1 a_zr) (a_ic 0 a_zr))))), (4, (a_il 5 (a_ic (-1) (a_eq (a_ic 0 a_zr) (a_al 0 (a_al 4 (a_gR 5 325 27 (a_il 2 (a_ald 27 1728 (a_al 0 (a_gR 1 64 14 (a_il 5 (a_rald 14 896 9 (a_al 4 (a_gI 5 320 (a_vI 9 1 (FW_T9I c_X10_endFrom) (a_sI 3 (FW_R1II c_X2_isDropped) (a_z (a_ic 0 a_zr) (a_ic 1 a_zr)))))))))))))))))))] (a_ic 0 a_zr)))))))))))))))))
set_option maxRecDepth 100000 in
theorem X2_isBroken_s0 {z : CZ} : SK (X2_isBroken_x z) 0 (X2_isBroken_b0 X1_wayFrom mo3 X2_isQuarrel X10_endFrom X2_isDropped) := (s_aloadn (pc := 0) dX2_isBroken_0 rfl (s_gR (pc := 1) (f := 4) ko_1 (by decide) rfl rfl w_230 dX2_isBroken_1 (s_iloadn (pc := 4) dX2_isBroken_4 rfl (s_rald (pc := 5) (by decide) (by decide) rfl rfl rfl dX2_isBroken_5 (s_astore (pc := 6) dX2_isBroken_6 (show 4 < 6 by decide) (s_aloadn (pc := 8) dX2_isBroken_8 rfl (s_aload (pc := 9) dX2_isBroken_9 (s_gI (pc := 11) (f := 0) ko_5 (by decide) rfl rfl w_167 dX2_isBroken_11 (s_aload (pc := 14) dX2_isBroken_14 (s_gR (pc := 16) (f := 6) ko_5 (by decide) rfl rfl w_191 dX2_isBroken_16 (s_iloadn (pc := 19) dX2_isBroken_19 rfl (s_iald (pc := 20) (by decide) (by decide) rfl rfl rfl dX2_isBroken_20 (s_vI (pc := 21) (run_virtual (X1_wayFrom_gd _) (show 0 < 31 by decide) cy_X1_wayFrom (by decide) rfl w_557 w_558 w_1063 dX2_isBroken_21) (s_istore (pc := 24) dX2_isBroken_24 (show 5 < 6 by decide) (s_iloadn (pc := 26) dX2_isBroken_26 rfl (s_table (pc := 27) dX2_isBroken_27 (by decide) (by decide) ⟨c_ti_1, ⟨_, by decide, (s_iloadn (pc := 56) dX2_isBroken_56 rfl (s_aload (pc := 57) dX2_isBroken_57 (s_gI (pc := 59) (f := 1) ko_5 (by decide) rfl rfl w_172 dX2_isBroken_59 (s_sI (pc := 62) (run_staticN (mo3_gd _) (show 30 < 31 by decide) cy_X6_mostOf w_637 nw_1064 dX2_isBroken_62) (s_cmplt (pc := 65) dX2_isBroken_65 (by decide) (s_iconst (pc := 72) dX2_isBroken_72 c_ic_0 (s_zr (pc := 73) rfl dX2_isBroken_73)) (s_iconst (pc := 68) dX2_isBroken_68 c_ic_1 (s_goto (pc := 69) dX2_isBroken_69 (by decide) (s_zr (pc := 73) rfl dX2_isBroken_73))))))))⟩, ⟨c_ti_2, ⟨_, by decide, (s_aloadn (pc := 74) dX2_isBroken_74 rfl (s_iloadn (pc := 75) dX2_isBroken_75 rfl (s_iloadn (pc := 76) dX2_isBroken_76 rfl (s_sI (pc := 77) (run_static (X2_isQuarrel_gd _) (show 1 < 31 by decide) cy_X2_isQuarrel w_1066 w_1065 dX2_isBroken_77) (s_zr (pc := 80) rfl dX2_isBroken_80)))))⟩, ⟨c_ti_3, ⟨_, by decide, (s_iload (pc := 81) dX2_isBroken_81 (s_iconst (pc := 83) dX2_isBroken_83 c_ic_m1 (s_cmpne (pc := 84) dX2_isBroken_84 (by decide) (s_iconst (pc := 91) dX2_isBroken_91 c_ic_0 (s_zr (pc := 92) rfl dX2_isBroken_92)) (s_iconst (pc := 87) dX2_isBroken_87 c_ic_1 (s_goto (pc := 88) dX2_isBroken_88 (by decide) (s_zr (pc := 92) rfl dX2_isBroken_92))))))⟩, ⟨c_ti_4, ⟨_, by decide, (s_iload (pc := 93) dX2_isBroken_93 (s_iconst (pc := 95) dX2_isBroken_95 c_ic_m1 (s_cmpeq (pc := 96) dX2_isBroken_96 (by decide) (s_iconst (pc := 132) dX2_isBroken_132 c_ic_0 (s_zr (pc := 133) rfl dX2_isBroken_133)) (s_aloadn (pc := 99) dX2_isBroken_99 rfl (s_aload (pc := 100) dX2_isBroken_100 (s_gR (pc := 102) (f := 5) ko_5 (by decide) rfl rfl w_187 dX2_isBroken_102 (s_iloadn (pc := 105) dX2_isBroken_105 rfl (s_iald (pc := 106) (by decide) (by decide) rfl rfl rfl dX2_isBroken_106 (s_aloadn (pc := 107) dX2_isBroken_107 rfl (s_gR (pc := 108) (f := 0) ko_1 (by decide) rfl rfl w_215 dX2_isBroken_108 (s_iload (pc := 111) dX2_isBroken_111 (s_rald (pc := 113) (by decide) (by decide) rfl rfl rfl dX2_isBroken_113 (s_aload (pc := 114) dX2_isBroken_114 (s_gI (pc := 116) (f := 0) ko_5 (by decide) rfl rfl w_167 dX2_isBroken_116 (s_vI (pc := 119) (run_virtual (X10_endFrom_gd _) (show 0 < 31 by decide) cy_X10_endFrom (by decide) rfl w_1007 w_1008 w_1072 dX2_isBroken_119) (s_sI (pc := 122) (run_static (X2_isDropped_gd _) (show 4 < 31 by decide) cy_X2_isDropped w_1074 w_1073 dX2_isBroken_122) (s_ifeq (pc := 125) dX2_isBroken_125 (by decide) (s_iconst (pc := 132) dX2_isBroken_132 c_ic_0 (s_zr (pc := 133) rfl dX2_isBroken_133)) (s_iconst (pc := 128) dX2_isBroken_128 c_ic_1 (s_goto (pc := 129) dX2_isBroken_129 (by decide) (s_zr (pc := 133) rfl dX2_isBroken_133))))))))))))))))))))⟩, trivial⟩⟩⟩⟩ (s_iconst (pc := 134) dX2_isBroken_134 c_ic_0 (s_zr (pc := 135) rfl dX2_isBroken_135))))))))))))))))))
noncomputable def X2_isBroken_f0 (c_X1_wayFrom : Nat → Int32 → Int32 → PH → Option Rs) (c_mo3 : List PV → PH → Option Rs) (c_X2_isQuarrel : Nat → Int32 → Int32 → PH → Option Rs) (c_X10_endFrom : Nat → Int32 → PH → Option Rs) (c_X2_isDropped : Nat → Int32 → Int32 → PH → Option Rs) (x0 : Nat) (x1 : Int32) (x2 : Int32) (x3 : Int32) (h : PH) : Option Rs :=
  nn x0 fun r1 =>
  nn (hR h 68 r1 0) fun r2 =>
  ix x1 (hL h 18 r2) fun j3 =>
  nn (hR h 1152 r2 j3) fun r4 =>
  nn (hR h 1152 r2 j3) fun r5 =>
  nn (hR h 326 r5 0) fun r6 =>
  ix x2 (hL h 28 r6) fun j7 =>
  nn x0 fun r8 =>
  cI (c_X1_wayFrom r8 (hI h 320 r4 0) (hI h 1792 r6 j7) h) fun v10 h9 =>
  if x3 = 1 then
    nn (hR h 1152 r2 j3) fun r11 =>
    cI (c_mo3 [.inl (hI h9 321 r11 0)] h9) fun v13 h12 =>
    if x2 < v13 then
      bz 0 <|
      some (some (.inl 0), h12)
    else
      bz 1 <|
      some (some (.inl 1), h12)
  else
  if x3 = 2 then
    cI (c_X2_isQuarrel x0 x1 x2 h9) fun v15 h14 =>
    bz v15 <|
    some (some (.inl v15), h14)
  else
  if x3 = 3 then
    if v10 = (-1) then
      bz 1 <|
      some (some (.inl 1), h9)
    else
      bz 0 <|
      some (some (.inl 0), h9)
  else
  if x3 = 4 then
    if v10 = (-1) then
      bz 0 <|
      some (some (.inl 0), h9)
    else
      nn (hR h 1152 r2 j3) fun r16 =>
      nn (hR h9 325 r16 0) fun r17 =>
      ix x2 (hL h9 27 r17) fun j18 =>
      nn x0 fun r19 =>
      nn (hR h9 64 r19 0) fun r20 =>
      ix v10 (hL h9 14 r20) fun j21 =>
      nn (hR h 1152 r2 j3) fun r22 =>
      nn (hR h9 896 r20 j21) fun r23 =>
      cI (c_X10_endFrom r23 (hI h9 320 r22 0) h9) fun v25 h24 =>
      cI (c_X2_isDropped x0 (hI h9 1728 r17 j18) v25 h24) fun v27 h26 =>
      if v27 = 0 then
        bz 0 <|
        some (some (.inl 0), h26)
      else
        bz 1 <|
        some (some (.inl 1), h26)
  else
    bz 0 <|
    some (some (.inl 0), h9)
set_option maxRecDepth 100000 in
theorem X2_isBroken_l0 (c_X1_wayFrom : Nat → Int32 → Int32 → PH → Option Rs) (c_mo3 : List PV → PH → Option Rs) (c_X2_isQuarrel : Nat → Int32 → Int32 → PH → Option Rs) (c_X10_endFrom : Nat → Int32 → PH → Option Rs) (c_X2_isDropped : Nat → Int32 → Int32 → PH → Option Rs) (x0 : Nat) (x1 : Int32) (x2 : Int32) (x3 : Int32) (h : PH) : X2_isBroken_b0 c_X1_wayFrom c_mo3 c_X2_isQuarrel c_X10_endFrom c_X2_isDropped [some (.inr (1, x0)), some (.inl x1), some (.inl x2), some (.inl x3), none, none] [] h = X2_isBroken_f0 c_X1_wayFrom c_mo3 c_X2_isQuarrel c_X10_endFrom c_X2_isDropped x0 x1 x2 x3 h := rfl
noncomputable def X2_isBroken_g0 (x0 : Nat) (x1 : Int32) (x2 : Int32) (x3 : Int32) (h : PH) : Option Rs := X2_isBroken_f0 X1_wayFrom mo3 X2_isQuarrel X10_endFrom X2_isDropped x0 x1 x2 x3 h
noncomputable def X2_isBroken (x0 : Nat) (x1 : Int32) (x2 : Int32) (x3 : Int32) (h : PH) : Option Rs := X2_isBroken_g0 x0 x1 x2 x3 h
noncomputable abbrev X2_isBroken_F : List PV → PH → Option Rs := FW_R1III (X2_isBroken)
set_option maxRecDepth 100000 in
theorem X2_isBroken_gd (l : Launch) : Gd l 31 yX2_isBroken cX2_isBroken 6 (some .boolean) (X2_isBroken_F)   := Gd_of (by decide +kernel) (fun z hzl as h r e => by
  obtain ⟨hst, e⟩ := gL_of e
  obtain ⟨x0, q0, e⟩ := gR_of e
  obtain ⟨x1, q1, e⟩ := gI_of e
  obtain ⟨x2, q2, e⟩ := gI_of e
  obtain ⟨x3, q3, e⟩ := gI_of e
  rw [st_4 hst q0 q1 q2 q3]
  exact ⟨show 4 ≤ 6 by decide, X2_isBroken_s0 _ _ _ _ ((X2_isBroken_l0 X1_wayFrom mo3 X2_isQuarrel X10_endFrom X2_isDropped x0 x1 x2 x3 h).trans e)⟩)
