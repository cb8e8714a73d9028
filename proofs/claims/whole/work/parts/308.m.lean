abbrev X11_breaches_x (z : CZ) : CX := mx RX11 cX11_breaches 6 32 (some .int) "breaches" z
noncomputable def X11_breaches_b0 (k16 : Kn) : Kn := (a_il 1 (a_n (a_ic (-1000000001) a_ir) (a_il 1 (a_ic 4 (a_gt (a_ic (-1000000001) a_ir) (a_ic 0 (a_is 2 (a_ic 0 (a_is 3 k16)))))))))
set_option maxRecDepth 100000 in
theorem X11_breaches_s0 {z : CZ} {k16 : Kn} (hk16 : SK (X11_breaches_x z) 16 k16) : SK (X11_breaches_x z) 0 (X11_breaches_b0 k16) := (s_iloadn (pc := 0) dX11_breaches_0 rfl (s_iflt (pc := 1) dX11_breaches_1 (by decide) (s_ldc (pc := 9) w_551 dX11_breaches_9 (s_ir (pc := 11) rfl dX11_breaches_11)) (s_iloadn (pc := 4) dX11_breaches_4 rfl (s_iconst (pc := 5) dX11_breaches_5 c_ic_4 (s_cmple (pc := 6) dX11_breaches_6 (by decide) (s_iconst (pc := 12) dX11_breaches_12 c_ic_0 (s_istoren (pc := 13) dX11_breaches_13 rfl (show 2 < 6 by decide) (s_iconst (pc := 14) dX11_breaches_14 c_ic_0 (s_istoren (pc := 15) dX11_breaches_15 rfl (show 3 < 6 by decide) hk16)))) (s_ldc (pc := 9) w_551 dX11_breaches_9 (s_ir (pc := 11) rfl dX11_breaches_11)))))))
noncomputable def X11_breaches_b16 (k30 : Kn) : Kn := (a_il 3 (a_al 0 (a_gR 10 640 1 (a_gI 1 75 (a_lt (a_ic 0 (a_is 4 k30)) (a_il 2 a_ir))))))
set_option maxRecDepth 100000 in
theorem X11_breaches_s16 {z : CZ} {k30 : Kn} (hk30 : SK (X11_breaches_x z) 30 k30) : SK (X11_breaches_x z) 16 (X11_breaches_b16 k30) := (s_iloadn (pc := 16) dX11_breaches_16 rfl (s_aloadn (pc := 17) dX11_breaches_17 rfl (s_gR (pc := 18) (f := 0) ko_10 (by decide) rfl rfl w_504 dX11_breaches_18 (s_gI (pc := 21) (f := 11) ko_1 (by decide) rfl rfl w_255 dX11_breaches_21 (s_cmpge (pc := 24) dX11_breaches_24 (by decide) (s_iloadn (pc := 102) dX11_breaches_102 rfl (s_ir (pc := 103) rfl dX11_breaches_103)) (s_iconst (pc := 27) dX11_breaches_27 c_ic_0 (s_istore (pc := 28) dX11_breaches_28 (show 4 < 6 by decide) hk30)))))))
noncomputable def X11_breaches_b30 (k16 k50 : Kn) : Kn := (a_il 4 (a_al 0 (a_gR 10 640 1 (a_gR 1 68 18 (a_il 3 (a_rald 18 1152 5 (a_gI 5 324 (a_lt (a_ic 1 (a_is 5 k50)) (a_inc 3 1 k16)))))))))
set_option maxRecDepth 100000 in
theorem X11_breaches_s30 {z : CZ} {k16 k50 : Kn} (hk16 : SK (X11_breaches_x z) 16 k16) (hk50 : SK (X11_breaches_x z) 50 k50) : SK (X11_breaches_x z) 30 (X11_breaches_b30 k16 k50) := (s_iload (pc := 30) dX11_breaches_30 (s_aloadn (pc := 32) dX11_breaches_32 rfl (s_gR (pc := 33) (f := 0) ko_10 (by decide) rfl rfl w_504 dX11_breaches_33 (s_gR (pc := 36) (f := 4) ko_1 (by decide) rfl rfl w_233 dX11_breaches_36 (s_iloadn (pc := 39) dX11_breaches_39 rfl (s_rald (pc := 40) (by decide) (by decide) rfl rfl rfl dX11_breaches_40 (s_gI (pc := 41) (f := 4) ko_5 (by decide) rfl rfl w_185 dX11_breaches_41 (s_cmpge (pc := 44) dX11_breaches_44 (by decide) (s_iinc (pc := 96) dX11_breaches_96 c_ic_1 (show 3 < 6 by decide) (s_goto (pc := 99) dX11_breaches_99 (by decide) hk16)) (s_iconst (pc := 47) dX11_breaches_47 c_ic_1 (s_istore (pc := 48) dX11_breaches_48 (show 5 < 6 by decide) hk50))))))))))
noncomputable def X11_breaches_b50 (k30 k66 k84 : Kn) : Kn := (a_il 5 (a_ic 4 (a_gt (a_inc 4 1 k30) (a_il 1 (a_z k66 (a_il 1 (a_il 5 (a_eq k66 k84))))))))
set_option maxRecDepth 100000 in
theorem X11_breaches_s50 {z : CZ} {k30 k66 k84 : Kn} (hk30 : SK (X11_breaches_x z) 30 k30) (hk66 : SK (X11_breaches_x z) 66 k66) (hk84 : SK (X11_breaches_x z) 84 k84) : SK (X11_breaches_x z) 50 (X11_breaches_b50 k30 k66 k84) := (s_iload (pc := 50) dX11_breaches_50 (s_iconst (pc := 52) dX11_breaches_52 c_ic_4 (s_cmpgt (pc := 53) dX11_breaches_53 (by decide) (s_iinc (pc := 90) dX11_breaches_90 c_ic_1 (show 4 < 6 by decide) (s_goto (pc := 93) dX11_breaches_93 (by decide) hk30)) (s_iloadn (pc := 56) dX11_breaches_56 rfl (s_ifeq (pc := 57) dX11_breaches_57 (by decide) hk66 (s_iloadn (pc := 60) dX11_breaches_60 rfl (s_iload (pc := 61) dX11_breaches_61 (s_cmpne (pc := 63) dX11_breaches_63 (by decide) hk84 hk66))))))))
noncomputable def X11_breaches_b66 (c_X2_isBroken : Nat → Int32 → Int32 → Int32 → PH → Option Rs) (k84 : Kn) : Kn := (a_al 0 (a_gR 10 640 1 (a_il 3 (a_il 4 (a_il 5 (a_sI 4 (FW_R1III c_X2_isBroken) (a_z k84 (a_inc 2 1 k84))))))))
set_option maxRecDepth 100000 in
theorem X11_breaches_s66 {z : CZ} {k84 : Kn} (hk84 : SK (X11_breaches_x z) 84 k84) : SK (X11_breaches_x z) 66 (X11_breaches_b66 X2_isBroken k84) := (s_aloadn (pc := 66) dX11_breaches_66 rfl (s_gR (pc := 67) (f := 0) ko_10 (by decide) rfl rfl w_504 dX11_breaches_67 (s_iloadn (pc := 70) dX11_breaches_70 rfl (s_iload (pc := 71) dX11_breaches_71 (s_iload (pc := 73) dX11_breaches_73 (s_sI (pc := 75) (run_static (X2_isBroken_gd _) (show 31 < 32 by decide) cy_X2_isBroken w_1061 w_1060 dX11_breaches_75) (s_ifeq (pc := 78) dX11_breaches_78 (by decide) hk84 (s_iinc (pc := 81) dX11_breaches_81 c_ic_1 (show 2 < 6 by decide) hk84))))))))
noncomputable def X11_breaches_b84 (k50 : Kn) : Kn := (a_inc 5 1 k50)
set_option maxRecDepth 100000 in
theorem X11_breaches_s84 {z : CZ} {k50 : Kn} (hk50 : SK (X11_breaches_x z) 50 k50) : SK (X11_breaches_x z) 84 (X11_breaches_b84 k50) := (s_iinc (pc := 84) dX11_breaches_84 c_ic_1 (show 5 < 6 by decide) (s_goto (pc := 87) dX11_breaches_87 (by decide) hk50))
noncomputable def X11_breaches_u16 (g : Nat → Int32 → Int32 → Int32 → PH → Option Rs) : Kn := fun ls st h => gL 0 st (gT 10 ls 0 fun t => gI ls 1 fun x1 => gI ls 2 fun x2 => gI ls 3 fun x3 => g t x1 x2 x3 h)
noncomputable def X11_breaches_u30 (g : Nat → Int32 → Int32 → Int32 → Int32 → PH → Option Rs) : Kn := fun ls st h => gL 0 st (gT 10 ls 0 fun t => gI ls 1 fun x1 => gI ls 2 fun x2 => gI ls 3 fun x3 => gI ls 4 fun x4 => g t x1 x2 x3 x4 h)
noncomputable def X11_breaches_u50 (g : Nat → Int32 → Int32 → Int32 → Int32 → Int32 → PH → Option Rs) : Kn := fun ls st h => gL 0 st (gT 10 ls 0 fun t => gI ls 1 fun x1 => gI ls 2 fun x2 => gI ls 3 fun x3 => gI ls 4 fun x4 => gI ls 5 fun x5 => g t x1 x2 x3 x4 x5 h)
noncomputable def X11_breaches_u66 (g : Nat → Int32 → Int32 → Int32 → Int32 → Int32 → PH → Option Rs) : Kn := fun ls st h => gL 0 st (gT 10 ls 0 fun t => gI ls 1 fun x1 => gI ls 2 fun x2 => gI ls 3 fun x3 => gI ls 4 fun x4 => gI ls 5 fun x5 => g t x1 x2 x3 x4 x5 h)
noncomputable def X11_breaches_u84 (g : Nat → Int32 → Int32 → Int32 → Int32 → Int32 → PH → Option Rs) : Kn := fun ls st h => gL 0 st (gT 10 ls 0 fun t => gI ls 1 fun x1 => gI ls 2 fun x2 => gI ls 3 fun x3 => gI ls 4 fun x4 => gI ls 5 fun x5 => g t x1 x2 x3 x4 x5 h)
noncomputable def X11_breaches_f0 (g16 : Nat → Int32 → Int32 → Int32 → PH → Option Rs) (t : Nat) (x1 : Int32) (h : PH) : Option Rs :=
  if x1 < 0 then
    some (some (.inl (-1000000001)), h)
  else
    if 4 < x1 then
      some (some (.inl (-1000000001)), h)
    else
      g16 t x1 0 0 h
set_option maxRecDepth 100000 in
theorem X11_breaches_l0 (g16 : Nat → Int32 → Int32 → Int32 → PH → Option Rs) (t : Nat) (x1 : Int32) (h : PH) : X11_breaches_b0 (X11_breaches_u16 g16) [some (.inr (10, t + 1)), some (.inl x1), none, none, none, none] [] h = X11_breaches_f0 g16 t x1 h := rfl
theorem X11_breaches_m0 {g16 G16 : Nat → Int32 → Int32 → Int32 → PH → Option Rs} (hg16 : ∀ a0 a1 a2 a3 a4, Mo (g16 a0 a1 a2 a3 a4) (G16 a0 a1 a2 a3 a4)) (t : Nat) (x1 : Int32) (h : PH) : Mo (X11_breaches_f0 g16 t x1 h) (X11_breaches_f0 G16 t x1 h) := (mo_if mo_rf (mo_if mo_rf (hg16 t x1 0 0 h)))
noncomputable def X11_breaches_f16 (g30 : Nat → Int32 → Int32 → Int32 → Int32 → PH → Option Rs) (t : Nat) (x1 : Int32) (x2 : Int32) (x3 : Int32) (h : PH) : Option Rs :=
  nn (hR h 640 t 0) fun r1 =>
  if x3 < (hI h 75 r1 0) then
    g30 t x1 x2 x3 0 h
  else
    some (some (.inl x2), h)
set_option maxRecDepth 100000 in
theorem X11_breaches_l16 (g30 : Nat → Int32 → Int32 → Int32 → Int32 → PH → Option Rs) (t : Nat) (x1 : Int32) (x2 : Int32) (x3 : Int32) (h : PH) : X11_breaches_b16 (X11_breaches_u30 g30) [some (.inr (10, t + 1)), some (.inl x1), some (.inl x2), some (.inl x3), none, none] [] h = X11_breaches_f16 g30 t x1 x2 x3 h := rfl
theorem X11_breaches_m16 {g30 G30 : Nat → Int32 → Int32 → Int32 → Int32 → PH → Option Rs} (hg30 : ∀ a0 a1 a2 a3 a4 a5, Mo (g30 a0 a1 a2 a3 a4 a5) (G30 a0 a1 a2 a3 a4 a5)) (t : Nat) (x1 : Int32) (x2 : Int32) (x3 : Int32) (h : PH) : Mo (X11_breaches_f16 g30 t x1 x2 x3 h) (X11_breaches_f16 G30 t x1 x2 x3 h) := (mo_nn fun r1 => (mo_if (hg30 t x1 x2 x3 0 h) mo_rf))
theorem X11_breaches_w16 {z : CZ} {g30 : Nat → Int32 → Int32 → Int32 → Int32 → PH → Option Rs} (hk30 : SK (X11_breaches_x z) 30 (X11_breaches_u30 g30)) : SK (X11_breaches_x z) 16 (X11_breaches_u16 (X11_breaches_f16 g30)) := by
  intro ls st h r e
  obtain ⟨hst, e⟩ := gL_of e
  obtain ⟨t, q0, e⟩ := gT_of e
  obtain ⟨x1, q1, e⟩ := gI_of e
  obtain ⟨x2, q2, e⟩ := gI_of e
  obtain ⟨x3, q3, e⟩ := gI_of e
  rw [st_0 hst]
  exact WK.sub (canon := [some (.inr (10, t + 1)), some (.inl x1), some (.inl x2), some (.inl x3), none, none]) rfl ⟨q0, q1, q2, q3, trivial⟩ (X11_breaches_s16 hk30 _ _ _ _ ((X11_breaches_l16 g30 t x1 x2 x3 h).trans e))
noncomputable def X11_breaches_f30 (g16 : Nat → Int32 → Int32 → Int32 → PH → Option Rs) (g50 : Nat → Int32 → Int32 → Int32 → Int32 → Int32 → PH → Option Rs) (t : Nat) (x1 : Int32) (x2 : Int32) (x3 : Int32) (x4 : Int32) (h : PH) : Option Rs :=
  nn (hR h 640 t 0) fun r2 =>
  nn (hR h 68 r2 0) fun r3 =>
  ix x3 (hL h 18 r3) fun j4 =>
  nn (hR h 1152 r3 j4) fun r5 =>
  if x4 < (hI h 324 r5 0) then
    g50 t x1 x2 x3 x4 1 h
  else
    g16 t x1 x2 (x3 + 1) h
set_option maxRecDepth 100000 in
theorem X11_breaches_l30 (g16 : Nat → Int32 → Int32 → Int32 → PH → Option Rs) (g50 : Nat → Int32 → Int32 → Int32 → Int32 → Int32 → PH → Option Rs) (t : Nat) (x1 : Int32) (x2 : Int32) (x3 : Int32) (x4 : Int32) (h : PH) : X11_breaches_b30 (X11_breaches_u16 g16) (X11_breaches_u50 g50) [some (.inr (10, t + 1)), some (.inl x1), some (.inl x2), some (.inl x3), some (.inl x4), none] [] h = X11_breaches_f30 g16 g50 t x1 x2 x3 x4 h := rfl
theorem X11_breaches_m30 {g16 G16 : Nat → Int32 → Int32 → Int32 → PH → Option Rs} {g50 G50 : Nat → Int32 → Int32 → Int32 → Int32 → Int32 → PH → Option Rs} (hg16 : ∀ a0 a1 a2 a3 a4, Mo (g16 a0 a1 a2 a3 a4) (G16 a0 a1 a2 a3 a4)) (hg50 : ∀ a0 a1 a2 a3 a4 a5 a6, Mo (g50 a0 a1 a2 a3 a4 a5 a6) (G50 a0 a1 a2 a3 a4 a5 a6)) (t : Nat) (x1 : Int32) (x2 : Int32) (x3 : Int32) (x4 : Int32) (h : PH) : Mo (X11_breaches_f30 g16 g50 t x1 x2 x3 x4 h) (X11_breaches_f30 G16 G50 t x1 x2 x3 x4 h) := (mo_nn fun r2 => (mo_nn fun r3 => (mo_ix fun j4 => (mo_nn fun r5 => (mo_if (hg50 t x1 x2 x3 x4 1 h) (hg16 t x1 x2 (x3 + 1) h))))))
theorem X11_breaches_w30 {z : CZ} {g16 : Nat → Int32 → Int32 → Int32 → PH → Option Rs} {g50 : Nat → Int32 → Int32 → Int32 → Int32 → Int32 → PH → Option Rs} (hk16 : SK (X11_breaches_x z) 16 (X11_breaches_u16 g16)) (hk50 : SK (X11_breaches_x z) 50 (X11_breaches_u50 g50)) : SK (X11_breaches_x z) 30 (X11_breaches_u30 (X11_breaches_f30 g16 g50)) := by
  intro ls st h r e
  obtain ⟨hst, e⟩ := gL_of e
  obtain ⟨t, q0, e⟩ := gT_of e
  obtain ⟨x1, q1, e⟩ := gI_of e
  obtain ⟨x2, q2, e⟩ := gI_of e
  obtain ⟨x3, q3, e⟩ := gI_of e
  obtain ⟨x4, q4, e⟩ := gI_of e
  rw [st_0 hst]
  exact WK.sub (canon := [some (.inr (10, t + 1)), some (.inl x1), some (.inl x2), some (.inl x3), some (.inl x4), none]) rfl ⟨q0, q1, q2, q3, q4, trivial⟩ (X11_breaches_s30 hk16 hk50 _ _ _ _ ((X11_breaches_l30 g16 g50 t x1 x2 x3 x4 h).trans e))
noncomputable def X11_breaches_f50 (g30 : Nat → Int32 → Int32 → Int32 → Int32 → PH → Option Rs) (g66 : Nat → Int32 → Int32 → Int32 → Int32 → Int32 → PH → Option Rs) (g84 : Nat → Int32 → Int32 → Int32 → Int32 → Int32 → PH → Option Rs) (t : Nat) (x1 : Int32) (x2 : Int32) (x3 : Int32) (x4 : Int32) (x5 : Int32) (h : PH) : Option Rs :=
  if 4 < x5 then
    g30 t x1 x2 x3 (x4 + 1) h
  else
    if x1 = 0 then
      g66 t x1 x2 x3 x4 x5 h
    else
      if x1 = x5 then
        g66 t x1 x2 x3 x4 x5 h
      else
        g84 t x1 x2 x3 x4 x5 h
set_option maxRecDepth 100000 in
theorem X11_breaches_l50 (g30 : Nat → Int32 → Int32 → Int32 → Int32 → PH → Option Rs) (g66 : Nat → Int32 → Int32 → Int32 → Int32 → Int32 → PH → Option Rs) (g84 : Nat → Int32 → Int32 → Int32 → Int32 → Int32 → PH → Option Rs) (t : Nat) (x1 : Int32) (x2 : Int32) (x3 : Int32) (x4 : Int32) (x5 : Int32) (h : PH) : X11_breaches_b50 (X11_breaches_u30 g30) (X11_breaches_u66 g66) (X11_breaches_u84 g84) [some (.inr (10, t + 1)), some (.inl x1), some (.inl x2), some (.inl x3), some (.inl x4), some (.inl x5)] [] h = X11_breaches_f50 g30 g66 g84 t x1 x2 x3 x4 x5 h := rfl
theorem X11_breaches_m50 {g30 G30 : Nat → Int32 → Int32 → Int32 → Int32 → PH → Option Rs} {g66 G66 : Nat → Int32 → Int32 → Int32 → Int32 → Int32 → PH → Option Rs} {g84 G84 : Nat → Int32 → Int32 → Int32 → Int32 → Int32 → PH → Option Rs} (hg30 : ∀ a0 a1 a2 a3 a4 a5, Mo (g30 a0 a1 a2 a3 a4 a5) (G30 a0 a1 a2 a3 a4 a5)) (hg66 : ∀ a0 a1 a2 a3 a4 a5 a6, Mo (g66 a0 a1 a2 a3 a4 a5 a6) (G66 a0 a1 a2 a3 a4 a5 a6)) (hg84 : ∀ a0 a1 a2 a3 a4 a5 a6, Mo (g84 a0 a1 a2 a3 a4 a5 a6) (G84 a0 a1 a2 a3 a4 a5 a6)) (t : Nat) (x1 : Int32) (x2 : Int32) (x3 : Int32) (x4 : Int32) (x5 : Int32) (h : PH) : Mo (X11_breaches_f50 g30 g66 g84 t x1 x2 x3 x4 x5 h) (X11_breaches_f50 G30 G66 G84 t x1 x2 x3 x4 x5 h) := (mo_if (hg30 t x1 x2 x3 (x4 + 1) h) (mo_if (hg66 t x1 x2 x3 x4 x5 h) (mo_if (hg66 t x1 x2 x3 x4 x5 h) (hg84 t x1 x2 x3 x4 x5 h))))
theorem X11_breaches_w50 {z : CZ} {g30 : Nat → Int32 → Int32 → Int32 → Int32 → PH → Option Rs} {g66 : Nat → Int32 → Int32 → Int32 → Int32 → Int32 → PH → Option Rs} {g84 : Nat → Int32 → Int32 → Int32 → Int32 → Int32 → PH → Option Rs} (hk30 : SK (X11_breaches_x z) 30 (X11_breaches_u30 g30)) (hk66 : SK (X11_breaches_x z) 66 (X11_breaches_u66 g66)) (hk84 : SK (X11_breaches_x z) 84 (X11_breaches_u84 g84)) : SK (X11_breaches_x z) 50 (X11_breaches_u50 (X11_breaches_f50 g30 g66 g84)) := by
  intro ls st h r e
  obtain ⟨hst, e⟩ := gL_of e
  obtain ⟨t, q0, e⟩ := gT_of e
  obtain ⟨x1, q1, e⟩ := gI_of e
  obtain ⟨x2, q2, e⟩ := gI_of e
  obtain ⟨x3, q3, e⟩ := gI_of e
  obtain ⟨x4, q4, e⟩ := gI_of e
  obtain ⟨x5, q5, e⟩ := gI_of e
  rw [st_0 hst]
  exact WK.sub (canon := [some (.inr (10, t + 1)), some (.inl x1), some (.inl x2), some (.inl x3), some (.inl x4), some (.inl x5)]) rfl ⟨q0, q1, q2, q3, q4, q5, trivial⟩ (X11_breaches_s50 hk30 hk66 hk84 _ _ _ _ ((X11_breaches_l50 g30 g66 g84 t x1 x2 x3 x4 x5 h).trans e))
noncomputable def X11_breaches_f66 (c_X2_isBroken : Nat → Int32 → Int32 → Int32 → PH → Option Rs) (g84 : Nat → Int32 → Int32 → Int32 → Int32 → Int32 → PH → Option Rs) (t : Nat) (x1 : Int32) (x2 : Int32) (x3 : Int32) (x4 : Int32) (x5 : Int32) (h : PH) : Option Rs :=
  cI (c_X2_isBroken (hR h 640 t 0) x3 x4 x5 h) fun v7 h6 =>
  if v7 = 0 then
    g84 t x1 x2 x3 x4 x5 h6
  else
    g84 t x1 (x2 + 1) x3 x4 x5 h6
set_option maxRecDepth 100000 in
theorem X11_breaches_l66 (c_X2_isBroken : Nat → Int32 → Int32 → Int32 → PH → Option Rs) (g84 : Nat → Int32 → Int32 → Int32 → Int32 → Int32 → PH → Option Rs) (t : Nat) (x1 : Int32) (x2 : Int32) (x3 : Int32) (x4 : Int32) (x5 : Int32) (h : PH) : X11_breaches_b66 c_X2_isBroken (X11_breaches_u84 g84) [some (.inr (10, t + 1)), some (.inl x1), some (.inl x2), some (.inl x3), some (.inl x4), some (.inl x5)] [] h = X11_breaches_f66 c_X2_isBroken g84 t x1 x2 x3 x4 x5 h := rfl
theorem X11_breaches_m66 {c_X2_isBroken : Nat → Int32 → Int32 → Int32 → PH → Option Rs} {g84 G84 : Nat → Int32 → Int32 → Int32 → Int32 → Int32 → PH → Option Rs} (hg84 : ∀ a0 a1 a2 a3 a4 a5 a6, Mo (g84 a0 a1 a2 a3 a4 a5 a6) (G84 a0 a1 a2 a3 a4 a5 a6)) (t : Nat) (x1 : Int32) (x2 : Int32) (x3 : Int32) (x4 : Int32) (x5 : Int32) (h : PH) : Mo (X11_breaches_f66 c_X2_isBroken g84 t x1 x2 x3 x4 x5 h) (X11_breaches_f66 c_X2_isBroken G84 t x1 x2 x3 x4 x5 h) := (mo_cI fun v7 h6 => (mo_if (hg84 t x1 x2 x3 x4 x5 h6) (hg84 t x1 (x2 + 1) x3 x4 x5 h6)))
theorem X11_breaches_w66 {z : CZ} {g84 : Nat → Int32 → Int32 → Int32 → Int32 → Int32 → PH → Option Rs} (hk84 : SK (X11_breaches_x z) 84 (X11_breaches_u84 g84)) : SK (X11_breaches_x z) 66 (X11_breaches_u66 (X11_breaches_f66 X2_isBroken g84)) := by
  intro ls st h r e
  obtain ⟨hst, e⟩ := gL_of e
  obtain ⟨t, q0, e⟩ := gT_of e
  obtain ⟨x1, q1, e⟩ := gI_of e
  obtain ⟨x2, q2, e⟩ := gI_of e
  obtain ⟨x3, q3, e⟩ := gI_of e
  obtain ⟨x4, q4, e⟩ := gI_of e
  obtain ⟨x5, q5, e⟩ := gI_of e
  rw [st_0 hst]
  exact WK.sub (canon := [some (.inr (10, t + 1)), some (.inl x1), some (.inl x2), some (.inl x3), some (.inl x4), some (.inl x5)]) rfl ⟨q0, q1, q2, q3, q4, q5, trivial⟩ (X11_breaches_s66 hk84 _ _ _ _ ((X11_breaches_l66 X2_isBroken g84 t x1 x2 x3 x4 x5 h).trans e))
noncomputable def X11_breaches_f84 (g50 : Nat → Int32 → Int32 → Int32 → Int32 → Int32 → PH → Option Rs) (t : Nat) (x1 : Int32) (x2 : Int32) (x3 : Int32) (x4 : Int32) (x5 : Int32) (h : PH) : Option Rs :=
  g50 t x1 x2 x3 x4 (x5 + 1) h
set_option maxRecDepth 100000 in
theorem X11_breaches_l84 (g50 : Nat → Int32 → Int32 → Int32 → Int32 → Int32 → PH → Option Rs) (t : Nat) (x1 : Int32) (x2 : Int32) (x3 : Int32) (x4 : Int32) (x5 : Int32) (h : PH) : X11_breaches_b84 (X11_breaches_u50 g50) [some (.inr (10, t + 1)), some (.inl x1), some (.inl x2), some (.inl x3), some (.inl x4), some (.inl x5)] [] h = X11_breaches_f84 g50 t x1 x2 x3 x4 x5 h := rfl
theorem X11_breaches_m84 {g50 G50 : Nat → Int32 → Int32 → Int32 → Int32 → Int32 → PH → Option Rs} (hg50 : ∀ a0 a1 a2 a3 a4 a5 a6, Mo (g50 a0 a1 a2 a3 a4 a5 a6) (G50 a0 a1 a2 a3 a4 a5 a6)) (t : Nat) (x1 : Int32) (x2 : Int32) (x3 : Int32) (x4 : Int32) (x5 : Int32) (h : PH) : Mo (X11_breaches_f84 g50 t x1 x2 x3 x4 x5 h) (X11_breaches_f84 G50 t x1 x2 x3 x4 x5 h) := (hg50 t x1 x2 x3 x4 (x5 + 1) h)
theorem X11_breaches_w84 {z : CZ} {g50 : Nat → Int32 → Int32 → Int32 → Int32 → Int32 → PH → Option Rs} (hk50 : SK (X11_breaches_x z) 50 (X11_breaches_u50 g50)) : SK (X11_breaches_x z) 84 (X11_breaches_u84 (X11_breaches_f84 g50)) := by
  intro ls st h r e
  obtain ⟨hst, e⟩ := gL_of e
  obtain ⟨t, q0, e⟩ := gT_of e
  obtain ⟨x1, q1, e⟩ := gI_of e
  obtain ⟨x2, q2, e⟩ := gI_of e
  obtain ⟨x3, q3, e⟩ := gI_of e
  obtain ⟨x4, q4, e⟩ := gI_of e
  obtain ⟨x5, q5, e⟩ := gI_of e
  rw [st_0 hst]
  exact WK.sub (canon := [some (.inr (10, t + 1)), some (.inl x1), some (.inl x2), some (.inl x3), some (.inl x4), some (.inl x5)]) rfl ⟨q0, q1, q2, q3, q4, q5, trivial⟩ (X11_breaches_s84 hk50 _ _ _ _ ((X11_breaches_l84 g50 t x1 x2 x3 x4 x5 h).trans e))
noncomputable def X11_breaches_g0 (G : (Nat → Int32 → Int32 → Int32 → PH → Option Rs) × (Nat → Int32 → Int32 → Int32 → Int32 → PH → Option Rs) × (Nat → Int32 → Int32 → Int32 → Int32 → Int32 → PH → Option Rs)) (t : Nat) (x1 : Int32) (h : PH) : Option Rs := X11_breaches_f0 (G).1 t x1 h
noncomputable def X11_breaches_g16 (G : (Nat → Int32 → Int32 → Int32 → PH → Option Rs) × (Nat → Int32 → Int32 → Int32 → Int32 → PH → Option Rs) × (Nat → Int32 → Int32 → Int32 → Int32 → Int32 → PH → Option Rs)) (t : Nat) (x1 : Int32) (x2 : Int32) (x3 : Int32) (h : PH) : Option Rs := X11_breaches_f16 (G).2.1 t x1 x2 x3 h
noncomputable def X11_breaches_g30 (G : (Nat → Int32 → Int32 → Int32 → PH → Option Rs) × (Nat → Int32 → Int32 → Int32 → Int32 → PH → Option Rs) × (Nat → Int32 → Int32 → Int32 → Int32 → Int32 → PH → Option Rs)) (t : Nat) (x1 : Int32) (x2 : Int32) (x3 : Int32) (x4 : Int32) (h : PH) : Option Rs := X11_breaches_f30 (G).1 (G).2.2 t x1 x2 x3 x4 h
noncomputable def X11_breaches_g84 (G : (Nat → Int32 → Int32 → Int32 → PH → Option Rs) × (Nat → Int32 → Int32 → Int32 → Int32 → PH → Option Rs) × (Nat → Int32 → Int32 → Int32 → Int32 → Int32 → PH → Option Rs)) (t : Nat) (x1 : Int32) (x2 : Int32) (x3 : Int32) (x4 : Int32) (x5 : Int32) (h : PH) : Option Rs := X11_breaches_f84 (G).2.2 t x1 x2 x3 x4 x5 h
noncomputable def X11_breaches_g66 (G : (Nat → Int32 → Int32 → Int32 → PH → Option Rs) × (Nat → Int32 → Int32 → Int32 → Int32 → PH → Option Rs) × (Nat → Int32 → Int32 → Int32 → Int32 → Int32 → PH → Option Rs)) (t : Nat) (x1 : Int32) (x2 : Int32) (x3 : Int32) (x4 : Int32) (x5 : Int32) (h : PH) : Option Rs := X11_breaches_f66 X2_isBroken (X11_breaches_g84 G) t x1 x2 x3 x4 x5 h
noncomputable def X11_breaches_g50 (G : (Nat → Int32 → Int32 → Int32 → PH → Option Rs) × (Nat → Int32 → Int32 → Int32 → Int32 → PH → Option Rs) × (Nat → Int32 → Int32 → Int32 → Int32 → Int32 → PH → Option Rs)) (t : Nat) (x1 : Int32) (x2 : Int32) (x3 : Int32) (x4 : Int32) (x5 : Int32) (h : PH) : Option Rs := X11_breaches_f50 (G).2.1 (X11_breaches_g66 G) (X11_breaches_g84 G) t x1 x2 x3 x4 x5 h
theorem X11_breaches_v16 {z : CZ} {G : (Nat → Int32 → Int32 → Int32 → PH → Option Rs) × (Nat → Int32 → Int32 → Int32 → Int32 → PH → Option Rs) × (Nat → Int32 → Int32 → Int32 → Int32 → Int32 → PH → Option Rs)} (hG16 : SK (X11_breaches_x z) 16 (X11_breaches_u16 (G).1)) (hG30 : SK (X11_breaches_x z) 30 (X11_breaches_u30 (G).2.1)) (hG50 : SK (X11_breaches_x z) 50 (X11_breaches_u50 (G).2.2)) : SK (X11_breaches_x z) 16 (X11_breaches_u16 (X11_breaches_g16 G)) := X11_breaches_w16 hG30
theorem X11_breaches_v30 {z : CZ} {G : (Nat → Int32 → Int32 → Int32 → PH → Option Rs) × (Nat → Int32 → Int32 → Int32 → Int32 → PH → Option Rs) × (Nat → Int32 → Int32 → Int32 → Int32 → Int32 → PH → Option Rs)} (hG16 : SK (X11_breaches_x z) 16 (X11_breaches_u16 (G).1)) (hG30 : SK (X11_breaches_x z) 30 (X11_breaches_u30 (G).2.1)) (hG50 : SK (X11_breaches_x z) 50 (X11_breaches_u50 (G).2.2)) : SK (X11_breaches_x z) 30 (X11_breaches_u30 (X11_breaches_g30 G)) := X11_breaches_w30 hG16 hG50
theorem X11_breaches_v84 {z : CZ} {G : (Nat → Int32 → Int32 → Int32 → PH → Option Rs) × (Nat → Int32 → Int32 → Int32 → Int32 → PH → Option Rs) × (Nat → Int32 → Int32 → Int32 → Int32 → Int32 → PH → Option Rs)} (hG16 : SK (X11_breaches_x z) 16 (X11_breaches_u16 (G).1)) (hG30 : SK (X11_breaches_x z) 30 (X11_breaches_u30 (G).2.1)) (hG50 : SK (X11_breaches_x z) 50 (X11_breaches_u50 (G).2.2)) : SK (X11_breaches_x z) 84 (X11_breaches_u84 (X11_breaches_g84 G)) := X11_breaches_w84 hG50
theorem X11_breaches_v66 {z : CZ} {G : (Nat → Int32 → Int32 → Int32 → PH → Option Rs) × (Nat → Int32 → Int32 → Int32 → Int32 → PH → Option Rs) × (Nat → Int32 → Int32 → Int32 → Int32 → Int32 → PH → Option Rs)} (hG16 : SK (X11_breaches_x z) 16 (X11_breaches_u16 (G).1)) (hG30 : SK (X11_breaches_x z) 30 (X11_breaches_u30 (G).2.1)) (hG50 : SK (X11_breaches_x z) 50 (X11_breaches_u50 (G).2.2)) : SK (X11_breaches_x z) 66 (X11_breaches_u66 (X11_breaches_g66 G)) := X11_breaches_w66 (X11_breaches_v84 hG16 hG30 hG50)
theorem X11_breaches_v50 {z : CZ} {G : (Nat → Int32 → Int32 → Int32 → PH → Option Rs) × (Nat → Int32 → Int32 → Int32 → Int32 → PH → Option Rs) × (Nat → Int32 → Int32 → Int32 → Int32 → Int32 → PH → Option Rs)} (hG16 : SK (X11_breaches_x z) 16 (X11_breaches_u16 (G).1)) (hG30 : SK (X11_breaches_x z) 30 (X11_breaches_u30 (G).2.1)) (hG50 : SK (X11_breaches_x z) 50 (X11_breaches_u50 (G).2.2)) : SK (X11_breaches_x z) 50 (X11_breaches_u50 (X11_breaches_g50 G)) := X11_breaches_w50 hG30 (X11_breaches_v66 hG16 hG30 hG50) (X11_breaches_v84 hG16 hG30 hG50)
noncomputable def X11_breaches_fam : Nat → (Nat → Int32 → Int32 → Int32 → PH → Option Rs) × (Nat → Int32 → Int32 → Int32 → Int32 → PH → Option Rs) × (Nat → Int32 → Int32 → Int32 → Int32 → Int32 → PH → Option Rs)
  | 0 => (fun _ _ _ _ _ => none, fun _ _ _ _ _ _ => none, fun _ _ _ _ _ _ _ => none)
  | n + 1 => (X11_breaches_g16 (X11_breaches_fam n), X11_breaches_g30 (X11_breaches_fam n), X11_breaches_g50 (X11_breaches_fam n))
theorem X11_breaches_k {z : CZ} : ∀ n, SK (X11_breaches_x z) 16 (X11_breaches_u16 (X11_breaches_fam n).1) ∧ SK (X11_breaches_x z) 30 (X11_breaches_u30 (X11_breaches_fam n).2.1) ∧ SK (X11_breaches_x z) 50 (X11_breaches_u50 (X11_breaches_fam n).2.2)
  | 0 => ⟨(fun ls st h r e => by
      obtain ⟨_, e⟩ := gL_of e
      obtain ⟨_, _, e⟩ := gT_of e
      obtain ⟨_, _, e⟩ := gI_of e
      obtain ⟨_, _, e⟩ := gI_of e
      obtain ⟨_, _, e⟩ := gI_of e
      cases e), (fun ls st h r e => by
      obtain ⟨_, e⟩ := gL_of e
      obtain ⟨_, _, e⟩ := gT_of e
      obtain ⟨_, _, e⟩ := gI_of e
      obtain ⟨_, _, e⟩ := gI_of e
      obtain ⟨_, _, e⟩ := gI_of e
      obtain ⟨_, _, e⟩ := gI_of e
      cases e), (fun ls st h r e => by
      obtain ⟨_, e⟩ := gL_of e
      obtain ⟨_, _, e⟩ := gT_of e
      obtain ⟨_, _, e⟩ := gI_of e
      obtain ⟨_, _, e⟩ := gI_of e
      obtain ⟨_, _, e⟩ := gI_of e
      obtain ⟨_, _, e⟩ := gI_of e
      obtain ⟨_, _, e⟩ := gI_of e
      cases e)⟩
  | n + 1 => by
    obtain ⟨ih16, ih30, ih50⟩ := X11_breaches_k n
    exact ⟨X11_breaches_v16 ih16 ih30 ih50, X11_breaches_v30 ih16 ih30 ih50, X11_breaches_v50 ih16 ih30 ih50⟩
theorem X11_breaches_n0 {G G' : (Nat → Int32 → Int32 → Int32 → PH → Option Rs) × (Nat → Int32 → Int32 → Int32 → Int32 → PH → Option Rs) × (Nat → Int32 → Int32 → Int32 → Int32 → Int32 → PH → Option Rs)} (hg16 : ∀ a0 a1 a2 a3 a4, Mo ((G).1 a0 a1 a2 a3 a4) ((G').1 a0 a1 a2 a3 a4)) (hg30 : ∀ a0 a1 a2 a3 a4 a5, Mo ((G).2.1 a0 a1 a2 a3 a4 a5) ((G').2.1 a0 a1 a2 a3 a4 a5)) (hg50 : ∀ a0 a1 a2 a3 a4 a5 a6, Mo ((G).2.2 a0 a1 a2 a3 a4 a5 a6) ((G').2.2 a0 a1 a2 a3 a4 a5 a6)) (t : Nat) (x1 : Int32) (h : PH) : Mo (X11_breaches_g0 G t x1 h) (X11_breaches_g0 G' t x1 h) := X11_breaches_m0 hg16 t x1 h
theorem X11_breaches_n16 {G G' : (Nat → Int32 → Int32 → Int32 → PH → Option Rs) × (Nat → Int32 → Int32 → Int32 → Int32 → PH → Option Rs) × (Nat → Int32 → Int32 → Int32 → Int32 → Int32 → PH → Option Rs)} (hg16 : ∀ a0 a1 a2 a3 a4, Mo ((G).1 a0 a1 a2 a3 a4) ((G').1 a0 a1 a2 a3 a4)) (hg30 : ∀ a0 a1 a2 a3 a4 a5, Mo ((G).2.1 a0 a1 a2 a3 a4 a5) ((G').2.1 a0 a1 a2 a3 a4 a5)) (hg50 : ∀ a0 a1 a2 a3 a4 a5 a6, Mo ((G).2.2 a0 a1 a2 a3 a4 a5 a6) ((G').2.2 a0 a1 a2 a3 a4 a5 a6)) (t : Nat) (x1 : Int32) (x2 : Int32) (x3 : Int32) (h : PH) : Mo (X11_breaches_g16 G t x1 x2 x3 h) (X11_breaches_g16 G' t x1 x2 x3 h) := X11_breaches_m16 hg30 t x1 x2 x3 h
theorem X11_breaches_n30 {G G' : (Nat → Int32 → Int32 → Int32 → PH → Option Rs) × (Nat → Int32 → Int32 → Int32 → Int32 → PH → Option Rs) × (Nat → Int32 → Int32 → Int32 → Int32 → Int32 → PH → Option Rs)} (hg16 : ∀ a0 a1 a2 a3 a4, Mo ((G).1 a0 a1 a2 a3 a4) ((G').1 a0 a1 a2 a3 a4)) (hg30 : ∀ a0 a1 a2 a3 a4 a5, Mo ((G).2.1 a0 a1 a2 a3 a4 a5) ((G').2.1 a0 a1 a2 a3 a4 a5)) (hg50 : ∀ a0 a1 a2 a3 a4 a5 a6, Mo ((G).2.2 a0 a1 a2 a3 a4 a5 a6) ((G').2.2 a0 a1 a2 a3 a4 a5 a6)) (t : Nat) (x1 : Int32) (x2 : Int32) (x3 : Int32) (x4 : Int32) (h : PH) : Mo (X11_breaches_g30 G t x1 x2 x3 x4 h) (X11_breaches_g30 G' t x1 x2 x3 x4 h) := X11_breaches_m30 hg16 hg50 t x1 x2 x3 x4 h
theorem X11_breaches_n84 {G G' : (Nat → Int32 → Int32 → Int32 → PH → Option Rs) × (Nat → Int32 → Int32 → Int32 → Int32 → PH → Option Rs) × (Nat → Int32 → Int32 → Int32 → Int32 → Int32 → PH → Option Rs)} (hg16 : ∀ a0 a1 a2 a3 a4, Mo ((G).1 a0 a1 a2 a3 a4) ((G').1 a0 a1 a2 a3 a4)) (hg30 : ∀ a0 a1 a2 a3 a4 a5, Mo ((G).2.1 a0 a1 a2 a3 a4 a5) ((G').2.1 a0 a1 a2 a3 a4 a5)) (hg50 : ∀ a0 a1 a2 a3 a4 a5 a6, Mo ((G).2.2 a0 a1 a2 a3 a4 a5 a6) ((G').2.2 a0 a1 a2 a3 a4 a5 a6)) (t : Nat) (x1 : Int32) (x2 : Int32) (x3 : Int32) (x4 : Int32) (x5 : Int32) (h : PH) : Mo (X11_breaches_g84 G t x1 x2 x3 x4 x5 h) (X11_breaches_g84 G' t x1 x2 x3 x4 x5 h) := X11_breaches_m84 hg50 t x1 x2 x3 x4 x5 h
theorem X11_breaches_n66 {G G' : (Nat → Int32 → Int32 → Int32 → PH → Option Rs) × (Nat → Int32 → Int32 → Int32 → Int32 → PH → Option Rs) × (Nat → Int32 → Int32 → Int32 → Int32 → Int32 → PH → Option Rs)} (hg16 : ∀ a0 a1 a2 a3 a4, Mo ((G).1 a0 a1 a2 a3 a4) ((G').1 a0 a1 a2 a3 a4)) (hg30 : ∀ a0 a1 a2 a3 a4 a5, Mo ((G).2.1 a0 a1 a2 a3 a4 a5) ((G').2.1 a0 a1 a2 a3 a4 a5)) (hg50 : ∀ a0 a1 a2 a3 a4 a5 a6, Mo ((G).2.2 a0 a1 a2 a3 a4 a5 a6) ((G').2.2 a0 a1 a2 a3 a4 a5 a6)) (t : Nat) (x1 : Int32) (x2 : Int32) (x3 : Int32) (x4 : Int32) (x5 : Int32) (h : PH) : Mo (X11_breaches_g66 G t x1 x2 x3 x4 x5 h) (X11_breaches_g66 G' t x1 x2 x3 x4 x5 h) := X11_breaches_m66 (fun a0 a1 a2 a3 a4 a5 a6 => X11_breaches_n84 hg16 hg30 hg50 a0 a1 a2 a3 a4 a5 a6) t x1 x2 x3 x4 x5 h
theorem X11_breaches_n50 {G G' : (Nat → Int32 → Int32 → Int32 → PH → Option Rs) × (Nat → Int32 → Int32 → Int32 → Int32 → PH → Option Rs) × (Nat → Int32 → Int32 → Int32 → Int32 → Int32 → PH → Option Rs)} (hg16 : ∀ a0 a1 a2 a3 a4, Mo ((G).1 a0 a1 a2 a3 a4) ((G').1 a0 a1 a2 a3 a4)) (hg30 : ∀ a0 a1 a2 a3 a4 a5, Mo ((G).2.1 a0 a1 a2 a3 a4 a5) ((G').2.1 a0 a1 a2 a3 a4 a5)) (hg50 : ∀ a0 a1 a2 a3 a4 a5 a6, Mo ((G).2.2 a0 a1 a2 a3 a4 a5 a6) ((G').2.2 a0 a1 a2 a3 a4 a5 a6)) (t : Nat) (x1 : Int32) (x2 : Int32) (x3 : Int32) (x4 : Int32) (x5 : Int32) (h : PH) : Mo (X11_breaches_g50 G t x1 x2 x3 x4 x5 h) (X11_breaches_g50 G' t x1 x2 x3 x4 x5 h) := X11_breaches_m50 hg30 (fun a0 a1 a2 a3 a4 a5 a6 => X11_breaches_n66 hg16 hg30 hg50 a0 a1 a2 a3 a4 a5 a6) (fun a0 a1 a2 a3 a4 a5 a6 => X11_breaches_n84 hg16 hg30 hg50 a0 a1 a2 a3 a4 a5 a6) t x1 x2 x3 x4 x5 h
theorem X11_breaches_fm : ∀ n, (∀ a0 a1 a2 a3 a4, Mo ((X11_breaches_fam n).1 a0 a1 a2 a3 a4) ((X11_breaches_fam (n + 1)).1 a0 a1 a2 a3 a4)) ∧ (∀ a0 a1 a2 a3 a4 a5, Mo ((X11_breaches_fam n).2.1 a0 a1 a2 a3 a4 a5) ((X11_breaches_fam (n + 1)).2.1 a0 a1 a2 a3 a4 a5)) ∧ (∀ a0 a1 a2 a3 a4 a5 a6, Mo ((X11_breaches_fam n).2.2 a0 a1 a2 a3 a4 a5 a6) ((X11_breaches_fam (n + 1)).2.2 a0 a1 a2 a3 a4 a5 a6))
  | 0 => ⟨fun _ _ _ _ _ => mo_no, fun _ _ _ _ _ _ => mo_no, fun _ _ _ _ _ _ _ => mo_no⟩
  | n + 1 => by
    obtain ⟨ih16, ih30, ih50⟩ := X11_breaches_fm n
    exact ⟨fun a0 a1 a2 a3 a4 => X11_breaches_n16 ih16 ih30 ih50 a0 a1 a2 a3 a4, fun a0 a1 a2 a3 a4 a5 => X11_breaches_n30 ih16 ih30 ih50 a0 a1 a2 a3 a4 a5, fun a0 a1 a2 a3 a4 a5 a6 => X11_breaches_n50 ih16 ih30 ih50 a0 a1 a2 a3 a4 a5 a6⟩
noncomputable def X11_breaches (t : Nat) (x1 : Int32) (h : PH) : Option Rs := lim (fun n => X11_breaches_g0 (X11_breaches_fam n) t x1 h)
theorem X11_breaches_iff {t : Nat} {x1 : Int32} {h : PH} {r : Rs} : X11_breaches t x1 h = some r ↔ ∃ n, X11_breaches_g0 (X11_breaches_fam n) t x1 h = some r := lim_iff (fun n => by
  obtain ⟨ih16, ih30, ih50⟩ := X11_breaches_fm n
  exact X11_breaches_n0 ih16 ih30 ih50 t x1 h)
noncomputable abbrev X11_breaches_F : List PV → PH → Option Rs := FW_T10I (X11_breaches)
set_option maxRecDepth 100000 in
theorem X11_breaches_gd (l : Launch) : Gd l 32 yX11_breaches cX11_breaches 6 (some .int) (X11_breaches_F)   := Gd_of (by decide +kernel) (fun z hzl as h r e => by
  obtain ⟨hst, e⟩ := gL_of e
  obtain ⟨t, q0, e⟩ := gT_of e
  obtain ⟨x1, q1, e⟩ := gI_of e
  rw [st_2 hst q0 q1]
  obtain ⟨n, e⟩ := lim_of e
  obtain ⟨hG16, hG30, hG50⟩ := X11_breaches_k (z := z) n
  exact ⟨show 2 ≤ 6 by decide, X11_breaches_s0 hG16 _ _ _ _ ((X11_breaches_l0 (X11_breaches_fam n).1 t x1 h).trans e)⟩)
abbrev X11_breach_x (z : CZ) : CX := mx RX11 cX11_breach 7 32 (some .int) "breach" z
noncomputable def X11_breach_b0 (c_X11_isWithin : Int32 → Int32 → PH → Option Rs) (k20 : Kn) : Kn := (a_il 2 (a_ic 3 (a_sI 2 (FW_II c_X11_isWithin) (a_z (a_ic (-1000000001) a_ir) (a_il 1 (a_n (a_ic (-1000000001) a_ir) (a_ic 0 (a_is 3 (a_ic 0 (a_is 4 k20))))))))))
set_option maxRecDepth 100000 in
theorem X11_breach_s0 {z : CZ} {k20 : Kn} (hk20 : SK (X11_breach_x z) 20 k20) : SK (X11_breach_x z) 0 (X11_breach_b0 X11_isWithin k20) := (s_iloadn (pc := 0) dX11_breach_0 rfl (s_iconst (pc := 1) dX11_breach_1 c_ic_3 (s_sI (pc := 2) (run_static (X11_isWithin_gd _) (show 0 < 32 by decide) cy_X11_isWithin w_549 w_552 dX11_breach_2) (s_ifeq (pc := 5) dX11_breach_5 (by decide) (s_ldc (pc := 12) w_551 dX11_breach_12 (s_ir (pc := 14) rfl dX11_breach_14)) (s_iloadn (pc := 8) dX11_breach_8 rfl (s_ifge (pc := 9) dX11_breach_9 (by decide) (s_iconst (pc := 15) dX11_breach_15 c_ic_0 (s_istoren (pc := 16) dX11_breach_16 rfl (show 3 < 7 by decide) (s_iconst (pc := 17) dX11_breach_17 c_ic_0 (s_istore (pc := 18) dX11_breach_18 (show 4 < 7 by decide) hk20)))) (s_ldc (pc := 12) w_551 dX11_breach_12 (s_ir (pc := 14) rfl dX11_breach_14))))))))
noncomputable def X11_breach_b20 (k35 : Kn) : Kn := (a_il 4 (a_al 0 (a_gR 10 640 1 (a_gI 1 75 (a_lt (a_ic 0 (a_is 5 k35)) (a_ic (-1000000005) a_ir))))))
set_option maxRecDepth 100000 in
theorem X11_breach_s20 {z : CZ} {k35 : Kn} (hk35 : SK (X11_breach_x z) 35 k35) : SK (X11_breach_x z) 20 (X11_breach_b20 k35) := (s_iload (pc := 20) dX11_breach_20 (s_aloadn (pc := 22) dX11_breach_22 rfl (s_gR (pc := 23) (f := 0) ko_10 (by decide) rfl rfl w_504 dX11_breach_23 (s_gI (pc := 26) (f := 11) ko_1 (by decide) rfl rfl w_255 dX11_breach_26 (s_cmpge (pc := 29) dX11_breach_29 (by decide) (s_ldc (pc := 129) w_611 dX11_breach_129 (s_ir (pc := 131) rfl dX11_breach_131)) (s_iconst (pc := 32) dX11_breach_32 c_ic_0 (s_istore (pc := 33) dX11_breach_33 (show 5 < 7 by decide) hk35)))))))
noncomputable def X11_breach_b35 (k20 k56 : Kn) : Kn := (a_il 5 (a_al 0 (a_gR 10 640 1 (a_gR 1 68 18 (a_il 4 (a_rald 18 1152 5 (a_gI 5 324 (a_lt (a_ic 1 (a_is 6 k56)) (a_inc 4 1 k20)))))))))
set_option maxRecDepth 100000 in
theorem X11_breach_s35 {z : CZ} {k20 k56 : Kn} (hk20 : SK (X11_breach_x z) 20 k20) (hk56 : SK (X11_breach_x z) 56 k56) : SK (X11_breach_x z) 35 (X11_breach_b35 k20 k56) := (s_iload (pc := 35) dX11_breach_35 (s_aloadn (pc := 37) dX11_breach_37 rfl (s_gR (pc := 38) (f := 0) ko_10 (by decide) rfl rfl w_504 dX11_breach_38 (s_gR (pc := 41) (f := 4) ko_1 (by decide) rfl rfl w_233 dX11_breach_41 (s_iload (pc := 44) dX11_breach_44 (s_rald (pc := 46) (by decide) (by decide) rfl rfl rfl dX11_breach_46 (s_gI (pc := 47) (f := 4) ko_5 (by decide) rfl rfl w_185 dX11_breach_47 (s_cmpge (pc := 50) dX11_breach_50 (by decide) (s_iinc (pc := 123) dX11_breach_123 c_ic_1 (show 4 < 7 by decide) (s_goto (pc := 126) dX11_breach_126 (by decide) hk20)) (s_iconst (pc := 53) dX11_breach_53 c_ic_1 (s_istore (pc := 54) dX11_breach_54 (show 6 < 7 by decide) hk56))))))))))
noncomputable def X11_breach_b56 (c_X2_isBroken : Nat → Int32 → Int32 → Int32 → PH → Option Rs) (k35 k111 : Kn) : Kn := (a_il 6 (a_ic 4 (a_gt (a_inc 5 1 k35) (a_al 0 (a_gR 10 640 1 (a_il 4 (a_il 5 (a_il 6 (a_sI 4 (FW_R1III c_X2_isBroken) (a_z k111 (a_il 3 (a_il 1 (a_eq (a_il 2 (a_z (a_il 4 a_ir) (a_il 2 (a_ic 1 (a_eq (a_il 5 a_ir) (a_il 6 a_ir)))))) (a_inc 3 1 k111))))))))))))))
set_option maxRecDepth 100000 in
theorem X11_breach_s56 {z : CZ} {k35 k111 : Kn} (hk35 : SK (X11_breach_x z) 35 k35) (hk111 : SK (X11_breach_x z) 111 k111) : SK (X11_breach_x z) 56 (X11_breach_b56 X2_isBroken k35 k111) := (s_iload (pc := 56) dX11_breach_56 (s_iconst (pc := 58) dX11_breach_58 c_ic_4 (s_cmpgt (pc := 59) dX11_breach_59 (by decide) (s_iinc (pc := 117) dX11_breach_117 c_ic_1 (show 5 < 7 by decide) (s_goto (pc := 120) dX11_breach_120 (by decide) hk35)) (s_aloadn (pc := 62) dX11_breach_62 rfl (s_gR (pc := 63) (f := 0) ko_10 (by decide) rfl rfl w_504 dX11_breach_63 (s_iload (pc := 66) dX11_breach_66 (s_iload (pc := 68) dX11_breach_68 (s_iload (pc := 70) dX11_breach_70 (s_sI (pc := 72) (run_static (X2_isBroken_gd _) (show 31 < 32 by decide) cy_X2_isBroken w_1061 w_1060 dX11_breach_72) (s_ifne (pc := 75) dX11_breach_75 (by decide) (s_iloadn (pc := 81) dX11_breach_81 rfl (s_iloadn (pc := 82) dX11_breach_82 rfl (s_cmpne (pc := 83) dX11_breach_83 (by decide) (s_iinc (pc := 108) dX11_breach_108 c_ic_1 (show 3 < 7 by decide) hk111) (s_iloadn (pc := 86) dX11_breach_86 rfl (s_ifne (pc := 87) dX11_breach_87 (by decide) (s_iloadn (pc := 95) dX11_breach_95 rfl (s_iconst (pc := 96) dX11_breach_96 c_ic_1 (s_cmpne (pc := 97) dX11_breach_97 (by decide) (s_iload (pc := 105) dX11_breach_105 (s_ir (pc := 107) rfl dX11_breach_107)) (s_iload (pc := 100) dX11_breach_100 (s_goto (pc := 102) dX11_breach_102 (by decide) (s_ir (pc := 107) rfl dX11_breach_107)))))) (s_iload (pc := 90) dX11_breach_90 (s_goto (pc := 92) dX11_breach_92 (by decide) (s_ir (pc := 107) rfl dX11_breach_107)))))))) (s_goto (pc := 78) dX11_breach_78 (by decide) hk111)))))))))))
noncomputable def X11_breach_b111 (k56 : Kn) : Kn := (a_inc 6 1 k56)
set_option maxRecDepth 100000 in
theorem X11_breach_s111 {z : CZ} {k56 : Kn} (hk56 : SK (X11_breach_x z) 56 k56) : SK (X11_breach_x z) 111 (X11_breach_b111 k56) := (s_iinc (pc := 111) dX11_breach_111 c_ic_1 (show 6 < 7 by decide) (s_goto (pc := 114) dX11_breach_114 (by decide) hk56))
noncomputable def X11_breach_u20 (g : Nat → Int32 → Int32 → Int32 → Int32 → PH → Option Rs) : Kn := fun ls st h => gL 0 st (gT 10 ls 0 fun t => gI ls 1 fun x1 => gI ls 2 fun x2 => gI ls 3 fun x3 => gI ls 4 fun x4 => g t x1 x2 x3 x4 h)
noncomputable def X11_breach_u35 (g : Nat → Int32 → Int32 → Int32 → Int32 → Int32 → PH → Option Rs) : Kn := fun ls st h => gL 0 st (gT 10 ls 0 fun t => gI ls 1 fun x1 => gI ls 2 fun x2 => gI ls 3 fun x3 => gI ls 4 fun x4 => gI ls 5 fun x5 => g t x1 x2 x3 x4 x5 h)
noncomputable def X11_breach_u56 (g : Nat → Int32 → Int32 → Int32 → Int32 → Int32 → Int32 → PH → Option Rs) : Kn := fun ls st h => gL 0 st (gT 10 ls 0 fun t => gI ls 1 fun x1 => gI ls 2 fun x2 => gI ls 3 fun x3 => gI ls 4 fun x4 => gI ls 5 fun x5 => gI ls 6 fun x6 => g t x1 x2 x3 x4 x5 x6 h)
noncomputable def X11_breach_u111 (g : Nat → Int32 → Int32 → Int32 → Int32 → Int32 → Int32 → PH → Option Rs) : Kn := fun ls st h => gL 0 st (gT 10 ls 0 fun t => gI ls 1 fun x1 => gI ls 2 fun x2 => gI ls 3 fun x3 => gI ls 4 fun x4 => gI ls 5 fun x5 => gI ls 6 fun x6 => g t x1 x2 x3 x4 x5 x6 h)
noncomputable def X11_breach_f0 (c_X11_isWithin : Int32 → Int32 → PH → Option Rs) (g20 : Nat → Int32 → Int32 → Int32 → Int32 → PH → Option Rs) (t : Nat) (x1 : Int32) (x2 : Int32) (h : PH) : Option Rs :=
  cI (c_X11_isWithin x2 3 h) fun v2 h1 =>
  if v2 = 0 then
    some (some (.inl (-1000000001)), h1)
  else
    if x1 < 0 then
      some (some (.inl (-1000000001)), h1)
    else
      g20 t x1 x2 0 0 h1
set_option maxRecDepth 100000 in
theorem X11_breach_l0 (c_X11_isWithin : Int32 → Int32 → PH → Option Rs) (g20 : Nat → Int32 → Int32 → Int32 → Int32 → PH → Option Rs) (t : Nat) (x1 : Int32) (x2 : Int32) (h : PH) : X11_breach_b0 c_X11_isWithin (X11_breach_u20 g20) [some (.inr (10, t + 1)), some (.inl x1), some (.inl x2), none, none, none, none] [] h = X11_breach_f0 c_X11_isWithin g20 t x1 x2 h := rfl
theorem X11_breach_m0 {c_X11_isWithin : Int32 → Int32 → PH → Option Rs} {g20 G20 : Nat → Int32 → Int32 → Int32 → Int32 → PH → Option Rs} (hg20 : ∀ a0 a1 a2 a3 a4 a5, Mo (g20 a0 a1 a2 a3 a4 a5) (G20 a0 a1 a2 a3 a4 a5)) (t : Nat) (x1 : Int32) (x2 : Int32) (h : PH) : Mo (X11_breach_f0 c_X11_isWithin g20 t x1 x2 h) (X11_breach_f0 c_X11_isWithin G20 t x1 x2 h) := (mo_cI fun v2 h1 => (mo_if mo_rf (mo_if mo_rf (hg20 t x1 x2 0 0 h1))))
noncomputable def X11_breach_f20 (g35 : Nat → Int32 → Int32 → Int32 → Int32 → Int32 → PH → Option Rs) (t : Nat) (x1 : Int32) (x2 : Int32) (x3 : Int32) (x4 : Int32) (h : PH) : Option Rs :=
  nn (hR h 640 t 0) fun r3 =>
  if x4 < (hI h 75 r3 0) then
    g35 t x1 x2 x3 x4 0 h
  else
    some (some (.inl (-1000000005)), h)
set_option maxRecDepth 100000 in
theorem X11_breach_l20 (g35 : Nat → Int32 → Int32 → Int32 → Int32 → Int32 → PH → Option Rs) (t : Nat) (x1 : Int32) (x2 : Int32) (x3 : Int32) (x4 : Int32) (h : PH) : X11_breach_b20 (X11_breach_u35 g35) [some (.inr (10, t + 1)), some (.inl x1), some (.inl x2), some (.inl x3), some (.inl x4), none, none] [] h = X11_breach_f20 g35 t x1 x2 x3 x4 h := rfl
theorem X11_breach_m20 {g35 G35 : Nat → Int32 → Int32 → Int32 → Int32 → Int32 → PH → Option Rs} (hg35 : ∀ a0 a1 a2 a3 a4 a5 a6, Mo (g35 a0 a1 a2 a3 a4 a5 a6) (G35 a0 a1 a2 a3 a4 a5 a6)) (t : Nat) (x1 : Int32) (x2 : Int32) (x3 : Int32) (x4 : Int32) (h : PH) : Mo (X11_breach_f20 g35 t x1 x2 x3 x4 h) (X11_breach_f20 G35 t x1 x2 x3 x4 h) := (mo_nn fun r3 => (mo_if (hg35 t x1 x2 x3 x4 0 h) mo_rf))
theorem X11_breach_w20 {z : CZ} {g35 : Nat → Int32 → Int32 → Int32 → Int32 → Int32 → PH → Option Rs} (hk35 : SK (X11_breach_x z) 35 (X11_breach_u35 g35)) : SK (X11_breach_x z) 20 (X11_breach_u20 (X11_breach_f20 g35)) := by
  intro ls st h r e
  obtain ⟨hst, e⟩ := gL_of e
  obtain ⟨t, q0, e⟩ := gT_of e
  obtain ⟨x1, q1, e⟩ := gI_of e
  obtain ⟨x2, q2, e⟩ := gI_of e
  obtain ⟨x3, q3, e⟩ := gI_of e
  obtain ⟨x4, q4, e⟩ := gI_of e
  rw [st_0 hst]
  exact WK.sub (canon := [some (.inr (10, t + 1)), some (.inl x1), some (.inl x2), some (.inl x3), some (.inl x4), none, none]) rfl ⟨q0, q1, q2, q3, q4, trivial⟩ (X11_breach_s20 hk35 _ _ _ _ ((X11_breach_l20 g35 t x1 x2 x3 x4 h).trans e))
noncomputable def X11_breach_f35 (g20 : Nat → Int32 → Int32 → Int32 → Int32 → PH → Option Rs) (g56 : Nat → Int32 → Int32 → Int32 → Int32 → Int32 → Int32 → PH → Option Rs) (t : Nat) (x1 : Int32) (x2 : Int32) (x3 : Int32) (x4 : Int32) (x5 : Int32) (h : PH) : Option Rs :=
  nn (hR h 640 t 0) fun r4 =>
  nn (hR h 68 r4 0) fun r5 =>
  ix x4 (hL h 18 r5) fun j6 =>
  nn (hR h 1152 r5 j6) fun r7 =>
  if x5 < (hI h 324 r7 0) then
    g56 t x1 x2 x3 x4 x5 1 h
  else
    g20 t x1 x2 x3 (x4 + 1) h
set_option maxRecDepth 100000 in
theorem X11_breach_l35 (g20 : Nat → Int32 → Int32 → Int32 → Int32 → PH → Option Rs) (g56 : Nat → Int32 → Int32 → Int32 → Int32 → Int32 → Int32 → PH → Option Rs) (t : Nat) (x1 : Int32) (x2 : Int32) (x3 : Int32) (x4 : Int32) (x5 : Int32) (h : PH) : X11_breach_b35 (X11_breach_u20 g20) (X11_breach_u56 g56) [some (.inr (10, t + 1)), some (.inl x1), some (.inl x2), some (.inl x3), some (.inl x4), some (.inl x5), none] [] h = X11_breach_f35 g20 g56 t x1 x2 x3 x4 x5 h := rfl
theorem X11_breach_m35 {g20 G20 : Nat → Int32 → Int32 → Int32 → Int32 → PH → Option Rs} {g56 G56 : Nat → Int32 → Int32 → Int32 → Int32 → Int32 → Int32 → PH → Option Rs} (hg20 : ∀ a0 a1 a2 a3 a4 a5, Mo (g20 a0 a1 a2 a3 a4 a5) (G20 a0 a1 a2 a3 a4 a5)) (hg56 : ∀ a0 a1 a2 a3 a4 a5 a6 a7, Mo (g56 a0 a1 a2 a3 a4 a5 a6 a7) (G56 a0 a1 a2 a3 a4 a5 a6 a7)) (t : Nat) (x1 : Int32) (x2 : Int32) (x3 : Int32) (x4 : Int32) (x5 : Int32) (h : PH) : Mo (X11_breach_f35 g20 g56 t x1 x2 x3 x4 x5 h) (X11_breach_f35 G20 G56 t x1 x2 x3 x4 x5 h) := (mo_nn fun r4 => (mo_nn fun r5 => (mo_ix fun j6 => (mo_nn fun r7 => (mo_if (hg56 t x1 x2 x3 x4 x5 1 h) (hg20 t x1 x2 x3 (x4 + 1) h))))))
theorem X11_breach_w35 {z : CZ} {g20 : Nat → Int32 → Int32 → Int32 → Int32 → PH → Option Rs} {g56 : Nat → Int32 → Int32 → Int32 → Int32 → Int32 → Int32 → PH → Option Rs} (hk20 : SK (X11_breach_x z) 20 (X11_breach_u20 g20)) (hk56 : SK (X11_breach_x z) 56 (X11_breach_u56 g56)) : SK (X11_breach_x z) 35 (X11_breach_u35 (X11_breach_f35 g20 g56)) := by
  intro ls st h r e
  obtain ⟨hst, e⟩ := gL_of e
  obtain ⟨t, q0, e⟩ := gT_of e
  obtain ⟨x1, q1, e⟩ := gI_of e
  obtain ⟨x2, q2, e⟩ := gI_of e
  obtain ⟨x3, q3, e⟩ := gI_of e
  obtain ⟨x4, q4, e⟩ := gI_of e
  obtain ⟨x5, q5, e⟩ := gI_of e
  rw [st_0 hst]
  exact WK.sub (canon := [some (.inr (10, t + 1)), some (.inl x1), some (.inl x2), some (.inl x3), some (.inl x4), some (.inl x5), none]) rfl ⟨q0, q1, q2, q3, q4, q5, trivial⟩ (X11_breach_s35 hk20 hk56 _ _ _ _ ((X11_breach_l35 g20 g56 t x1 x2 x3 x4 x5 h).trans e))
noncomputable def X11_breach_f56 (c_X2_isBroken : Nat → Int32 → Int32 → Int32 → PH → Option Rs) (g35 : Nat → Int32 → Int32 → Int32 → Int32 → Int32 → PH → Option Rs) (g111 : Nat → Int32 → Int32 → Int32 → Int32 → Int32 → Int32 → PH → Option Rs) (t : Nat) (x1 : Int32) (x2 : Int32) (x3 : Int32) (x4 : Int32) (x5 : Int32) (x6 : Int32) (h : PH) : Option Rs :=
  if 4 < x6 then
    g35 t x1 x2 x3 x4 (x5 + 1) h
  else
    cI (c_X2_isBroken (hR h 640 t 0) x4 x5 x6 h) fun v9 h8 =>
    if v9 = 0 then
      g111 t x1 x2 x3 x4 x5 x6 h8
    else
      if x3 = x1 then
        if x2 = 0 then
          some (some (.inl x4), h8)
        else
          if x2 = 1 then
            some (some (.inl x5), h8)
          else
            some (some (.inl x6), h8)
      else
        g111 t x1 x2 (x3 + 1) x4 x5 x6 h8
set_option maxRecDepth 100000 in
theorem X11_breach_l56 (c_X2_isBroken : Nat → Int32 → Int32 → Int32 → PH → Option Rs) (g35 : Nat → Int32 → Int32 → Int32 → Int32 → Int32 → PH → Option Rs) (g111 : Nat → Int32 → Int32 → Int32 → Int32 → Int32 → Int32 → PH → Option Rs) (t : Nat) (x1 : Int32) (x2 : Int32) (x3 : Int32) (x4 : Int32) (x5 : Int32) (x6 : Int32) (h : PH) : X11_breach_b56 c_X2_isBroken (X11_breach_u35 g35) (X11_breach_u111 g111) [some (.inr (10, t + 1)), some (.inl x1), some (.inl x2), some (.inl x3), some (.inl x4), some (.inl x5), some (.inl x6)] [] h = X11_breach_f56 c_X2_isBroken g35 g111 t x1 x2 x3 x4 x5 x6 h := rfl
theorem X11_breach_m56 {c_X2_isBroken : Nat → Int32 → Int32 → Int32 → PH → Option Rs} {g35 G35 : Nat → Int32 → Int32 → Int32 → Int32 → Int32 → PH → Option Rs} {g111 G111 : Nat → Int32 → Int32 → Int32 → Int32 → Int32 → Int32 → PH → Option Rs} (hg35 : ∀ a0 a1 a2 a3 a4 a5 a6, Mo (g35 a0 a1 a2 a3 a4 a5 a6) (G35 a0 a1 a2 a3 a4 a5 a6)) (hg111 : ∀ a0 a1 a2 a3 a4 a5 a6 a7, Mo (g111 a0 a1 a2 a3 a4 a5 a6 a7) (G111 a0 a1 a2 a3 a4 a5 a6 a7)) (t : Nat) (x1 : Int32) (x2 : Int32) (x3 : Int32) (x4 : Int32) (x5 : Int32) (x6 : Int32) (h : PH) : Mo (X11_breach_f56 c_X2_isBroken g35 g111 t x1 x2 x3 x4 x5 x6 h) (X11_breach_f56 c_X2_isBroken G35 G111 t x1 x2 x3 x4 x5 x6 h) := (mo_if (hg35 t x1 x2 x3 x4 (x5 + 1) h) (mo_cI fun v9 h8 => (mo_if (hg111 t x1 x2 x3 x4 x5 x6 h8) (mo_if (mo_if mo_rf (mo_if mo_rf mo_rf)) (hg111 t x1 x2 (x3 + 1) x4 x5 x6 h8)))))
theorem X11_breach_w56 {z : CZ} {g35 : Nat → Int32 → Int32 → Int32 → Int32 → Int32 → PH → Option Rs} {g111 : Nat → Int32 → Int32 → Int32 → Int32 → Int32 → Int32 → PH → Option Rs} (hk35 : SK (X11_breach_x z) 35 (X11_breach_u35 g35)) (hk111 : SK (X11_breach_x z) 111 (X11_breach_u111 g111)) : SK (X11_breach_x z) 56 (X11_breach_u56 (X11_breach_f56 X2_isBroken g35 g111)) := by
  intro ls st h r e
  obtain ⟨hst, e⟩ := gL_of e
  obtain ⟨t, q0, e⟩ := gT_of e
  obtain ⟨x1, q1, e⟩ := gI_of e
  obtain ⟨x2, q2, e⟩ := gI_of e
  obtain ⟨x3, q3, e⟩ := gI_of e
  obtain ⟨x4, q4, e⟩ := gI_of e
  obtain ⟨x5, q5, e⟩ := gI_of e
  obtain ⟨x6, q6, e⟩ := gI_of e
  rw [st_0 hst]
  exact WK.sub (canon := [some (.inr (10, t + 1)), some (.inl x1), some (.inl x2), some (.inl x3), some (.inl x4), some (.inl x5), some (.inl x6)]) rfl ⟨q0, q1, q2, q3, q4, q5, q6, trivial⟩ (X11_breach_s56 hk35 hk111 _ _ _ _ ((X11_breach_l56 X2_isBroken g35 g111 t x1 x2 x3 x4 x5 x6 h).trans e))
noncomputable def X11_breach_f111 (g56 : Nat → Int32 → Int32 → Int32 → Int32 → Int32 → Int32 → PH → Option Rs) (t : Nat) (x1 : Int32) (x2 : Int32) (x3 : Int32) (x4 : Int32) (x5 : Int32) (x6 : Int32) (h : PH) : Option Rs :=
  g56 t x1 x2 x3 x4 x5 (x6 + 1) h
set_option maxRecDepth 100000 in
theorem X11_breach_l111 (g56 : Nat → Int32 → Int32 → Int32 → Int32 → Int32 → Int32 → PH → Option Rs) (t : Nat) (x1 : Int32) (x2 : Int32) (x3 : Int32) (x4 : Int32) (x5 : Int32) (x6 : Int32) (h : PH) : X11_breach_b111 (X11_breach_u56 g56) [some (.inr (10, t + 1)), some (.inl x1), some (.inl x2), some (.inl x3), some (.inl x4), some (.inl x5), some (.inl x6)] [] h = X11_breach_f111 g56 t x1 x2 x3 x4 x5 x6 h := rfl
theorem X11_breach_m111 {g56 G56 : Nat → Int32 → Int32 → Int32 → Int32 → Int32 → Int32 → PH → Option Rs} (hg56 : ∀ a0 a1 a2 a3 a4 a5 a6 a7, Mo (g56 a0 a1 a2 a3 a4 a5 a6 a7) (G56 a0 a1 a2 a3 a4 a5 a6 a7)) (t : Nat) (x1 : Int32) (x2 : Int32) (x3 : Int32) (x4 : Int32) (x5 : Int32) (x6 : Int32) (h : PH) : Mo (X11_breach_f111 g56 t x1 x2 x3 x4 x5 x6 h) (X11_breach_f111 G56 t x1 x2 x3 x4 x5 x6 h) := (hg56 t x1 x2 x3 x4 x5 (x6 + 1) h)
theorem X11_breach_w111 {z : CZ} {g56 : Nat → Int32 → Int32 → Int32 → Int32 → Int32 → Int32 → PH → Option Rs} (hk56 : SK (X11_breach_x z) 56 (X11_breach_u56 g56)) : SK (X11_breach_x z) 111 (X11_breach_u111 (X11_breach_f111 g56)) := by
  intro ls st h r e
  obtain ⟨hst, e⟩ := gL_of e
  obtain ⟨t, q0, e⟩ := gT_of e
  obtain ⟨x1, q1, e⟩ := gI_of e
  obtain ⟨x2, q2, e⟩ := gI_of e
  obtain ⟨x3, q3, e⟩ := gI_of e
  obtain ⟨x4, q4, e⟩ := gI_of e
  obtain ⟨x5, q5, e⟩ := gI_of e
  obtain ⟨x6, q6, e⟩ := gI_of e
  rw [st_0 hst]
  exact WK.sub (canon := [some (.inr (10, t + 1)), some (.inl x1), some (.inl x2), some (.inl x3), some (.inl x4), some (.inl x5), some (.inl x6)]) rfl ⟨q0, q1, q2, q3, q4, q5, q6, trivial⟩ (X11_breach_s111 hk56 _ _ _ _ ((X11_breach_l111 g56 t x1 x2 x3 x4 x5 x6 h).trans e))
noncomputable def X11_breach_g0 (G : (Nat → Int32 → Int32 → Int32 → Int32 → PH → Option Rs) × (Nat → Int32 → Int32 → Int32 → Int32 → Int32 → PH → Option Rs) × (Nat → Int32 → Int32 → Int32 → Int32 → Int32 → Int32 → PH → Option Rs)) (t : Nat) (x1 : Int32) (x2 : Int32) (h : PH) : Option Rs := X11_breach_f0 X11_isWithin (G).1 t x1 x2 h
noncomputable def X11_breach_g20 (G : (Nat → Int32 → Int32 → Int32 → Int32 → PH → Option Rs) × (Nat → Int32 → Int32 → Int32 → Int32 → Int32 → PH → Option Rs) × (Nat → Int32 → Int32 → Int32 → Int32 → Int32 → Int32 → PH → Option Rs)) (t : Nat) (x1 : Int32) (x2 : Int32) (x3 : Int32) (x4 : Int32) (h : PH) : Option Rs := X11_breach_f20 (G).2.1 t x1 x2 x3 x4 h
noncomputable def X11_breach_g35 (G : (Nat → Int32 → Int32 → Int32 → Int32 → PH → Option Rs) × (Nat → Int32 → Int32 → Int32 → Int32 → Int32 → PH → Option Rs) × (Nat → Int32 → Int32 → Int32 → Int32 → Int32 → Int32 → PH → Option Rs)) (t : Nat) (x1 : Int32) (x2 : Int32) (x3 : Int32) (x4 : Int32) (x5 : Int32) (h : PH) : Option Rs := X11_breach_f35 (G).1 (G).2.2 t x1 x2 x3 x4 x5 h
noncomputable def X11_breach_g111 (G : (Nat → Int32 → Int32 → Int32 → Int32 → PH → Option Rs) × (Nat → Int32 → Int32 → Int32 → Int32 → Int32 → PH → Option Rs) × (Nat → Int32 → Int32 → Int32 → Int32 → Int32 → Int32 → PH → Option Rs)) (t : Nat) (x1 : Int32) (x2 : Int32) (x3 : Int32) (x4 : Int32) (x5 : Int32) (x6 : Int32) (h : PH) : Option Rs := X11_breach_f111 (G).2.2 t x1 x2 x3 x4 x5 x6 h
noncomputable def X11_breach_g56 (G : (Nat → Int32 → Int32 → Int32 → Int32 → PH → Option Rs) × (Nat → Int32 → Int32 → Int32 → Int32 → Int32 → PH → Option Rs) × (Nat → Int32 → Int32 → Int32 → Int32 → Int32 → Int32 → PH → Option Rs)) (t : Nat) (x1 : Int32) (x2 : Int32) (x3 : Int32) (x4 : Int32) (x5 : Int32) (x6 : Int32) (h : PH) : Option Rs := X11_breach_f56 X2_isBroken (G).2.1 (X11_breach_g111 G) t x1 x2 x3 x4 x5 x6 h
theorem X11_breach_v20 {z : CZ} {G : (Nat → Int32 → Int32 → Int32 → Int32 → PH → Option Rs) × (Nat → Int32 → Int32 → Int32 → Int32 → Int32 → PH → Option Rs) × (Nat → Int32 → Int32 → Int32 → Int32 → Int32 → Int32 → PH → Option Rs)} (hG20 : SK (X11_breach_x z) 20 (X11_breach_u20 (G).1)) (hG35 : SK (X11_breach_x z) 35 (X11_breach_u35 (G).2.1)) (hG56 : SK (X11_breach_x z) 56 (X11_breach_u56 (G).2.2)) : SK (X11_breach_x z) 20 (X11_breach_u20 (X11_breach_g20 G)) := X11_breach_w20 hG35
theorem X11_breach_v35 {z : CZ} {G : (Nat → Int32 → Int32 → Int32 → Int32 → PH → Option Rs) × (Nat → Int32 → Int32 → Int32 → Int32 → Int32 → PH → Option Rs) × (Nat → Int32 → Int32 → Int32 → Int32 → Int32 → Int32 → PH → Option Rs)} (hG20 : SK (X11_breach_x z) 20 (X11_breach_u20 (G).1)) (hG35 : SK (X11_breach_x z) 35 (X11_breach_u35 (G).2.1)) (hG56 : SK (X11_breach_x z) 56 (X11_breach_u56 (G).2.2)) : SK (X11_breach_x z) 35 (X11_breach_u35 (X11_breach_g35 G)) := X11_breach_w35 hG20 hG56
theorem X11_breach_v111 {z : CZ} {G : (Nat → Int32 → Int32 → Int32 → Int32 → PH → Option Rs) × (Nat → Int32 → Int32 → Int32 → Int32 → Int32 → PH → Option Rs) × (Nat → Int32 → Int32 → Int32 → Int32 → Int32 → Int32 → PH → Option Rs)} (hG20 : SK (X11_breach_x z) 20 (X11_breach_u20 (G).1)) (hG35 : SK (X11_breach_x z) 35 (X11_breach_u35 (G).2.1)) (hG56 : SK (X11_breach_x z) 56 (X11_breach_u56 (G).2.2)) : SK (X11_breach_x z) 111 (X11_breach_u111 (X11_breach_g111 G)) := X11_breach_w111 hG56
theorem X11_breach_v56 {z : CZ} {G : (Nat → Int32 → Int32 → Int32 → Int32 → PH → Option Rs) × (Nat → Int32 → Int32 → Int32 → Int32 → Int32 → PH → Option Rs) × (Nat → Int32 → Int32 → Int32 → Int32 → Int32 → Int32 → PH → Option Rs)} (hG20 : SK (X11_breach_x z) 20 (X11_breach_u20 (G).1)) (hG35 : SK (X11_breach_x z) 35 (X11_breach_u35 (G).2.1)) (hG56 : SK (X11_breach_x z) 56 (X11_breach_u56 (G).2.2)) : SK (X11_breach_x z) 56 (X11_breach_u56 (X11_breach_g56 G)) := X11_breach_w56 hG35 (X11_breach_v111 hG20 hG35 hG56)
noncomputable def X11_breach_fam : Nat → (Nat → Int32 → Int32 → Int32 → Int32 → PH → Option Rs) × (Nat → Int32 → Int32 → Int32 → Int32 → Int32 → PH → Option Rs) × (Nat → Int32 → Int32 → Int32 → Int32 → Int32 → Int32 → PH → Option Rs)
  | 0 => (fun _ _ _ _ _ _ => none, fun _ _ _ _ _ _ _ => none, fun _ _ _ _ _ _ _ _ => none)
  | n + 1 => (X11_breach_g20 (X11_breach_fam n), X11_breach_g35 (X11_breach_fam n), X11_breach_g56 (X11_breach_fam n))
theorem X11_breach_k {z : CZ} : ∀ n, SK (X11_breach_x z) 20 (X11_breach_u20 (X11_breach_fam n).1) ∧ SK (X11_breach_x z) 35 (X11_breach_u35 (X11_breach_fam n).2.1) ∧ SK (X11_breach_x z) 56 (X11_breach_u56 (X11_breach_fam n).2.2)
  | 0 => ⟨(fun ls st h r e => by
      obtain ⟨_, e⟩ := gL_of e
      obtain ⟨_, _, e⟩ := gT_of e
      obtain ⟨_, _, e⟩ := gI_of e
      obtain ⟨_, _, e⟩ := gI_of e
      obtain ⟨_, _, e⟩ := gI_of e
      obtain ⟨_, _, e⟩ := gI_of e
      cases e), (fun ls st h r e => by
      obtain ⟨_, e⟩ := gL_of e
      obtain ⟨_, _, e⟩ := gT_of e
      obtain ⟨_, _, e⟩ := gI_of e
      obtain ⟨_, _, e⟩ := gI_of e
      obtain ⟨_, _, e⟩ := gI_of e
      obtain ⟨_, _, e⟩ := gI_of e
      obtain ⟨_, _, e⟩ := gI_of e
      cases e), (fun ls st h r e => by
      obtain ⟨_, e⟩ := gL_of e
      obtain ⟨_, _, e⟩ := gT_of e
      obtain ⟨_, _, e⟩ := gI_of e
      obtain ⟨_, _, e⟩ := gI_of e
      obtain ⟨_, _, e⟩ := gI_of e
      obtain ⟨_, _, e⟩ := gI_of e
      obtain ⟨_, _, e⟩ := gI_of e
      obtain ⟨_, _, e⟩ := gI_of e
      cases e)⟩
  | n + 1 => by
    obtain ⟨ih20, ih35, ih56⟩ := X11_breach_k n
    exact ⟨X11_breach_v20 ih20 ih35 ih56, X11_breach_v35 ih20 ih35 ih56, X11_breach_v56 ih20 ih35 ih56⟩
theorem X11_breach_n0 {G G' : (Nat → Int32 → Int32 → Int32 → Int32 → PH → Option Rs) × (Nat → Int32 → Int32 → Int32 → Int32 → Int32 → PH → Option Rs) × (Nat → Int32 → Int32 → Int32 → Int32 → Int32 → Int32 → PH → Option Rs)} (hg20 : ∀ a0 a1 a2 a3 a4 a5, Mo ((G).1 a0 a1 a2 a3 a4 a5) ((G').1 a0 a1 a2 a3 a4 a5)) (hg35 : ∀ a0 a1 a2 a3 a4 a5 a6, Mo ((G).2.1 a0 a1 a2 a3 a4 a5 a6) ((G').2.1 a0 a1 a2 a3 a4 a5 a6)) (hg56 : ∀ a0 a1 a2 a3 a4 a5 a6 a7, Mo ((G).2.2 a0 a1 a2 a3 a4 a5 a6 a7) ((G').2.2 a0 a1 a2 a3 a4 a5 a6 a7)) (t : Nat) (x1 : Int32) (x2 : Int32) (h : PH) : Mo (X11_breach_g0 G t x1 x2 h) (X11_breach_g0 G' t x1 x2 h) := X11_breach_m0 hg20 t x1 x2 h
theorem X11_breach_n20 {G G' : (Nat → Int32 → Int32 → Int32 → Int32 → PH → Option Rs) × (Nat → Int32 → Int32 → Int32 → Int32 → Int32 → PH → Option Rs) × (Nat → Int32 → Int32 → Int32 → Int32 → Int32 → Int32 → PH → Option Rs)} (hg20 : ∀ a0 a1 a2 a3 a4 a5, Mo ((G).1 a0 a1 a2 a3 a4 a5) ((G').1 a0 a1 a2 a3 a4 a5)) (hg35 : ∀ a0 a1 a2 a3 a4 a5 a6, Mo ((G).2.1 a0 a1 a2 a3 a4 a5 a6) ((G').2.1 a0 a1 a2 a3 a4 a5 a6)) (hg56 : ∀ a0 a1 a2 a3 a4 a5 a6 a7, Mo ((G).2.2 a0 a1 a2 a3 a4 a5 a6 a7) ((G').2.2 a0 a1 a2 a3 a4 a5 a6 a7)) (t : Nat) (x1 : Int32) (x2 : Int32) (x3 : Int32) (x4 : Int32) (h : PH) : Mo (X11_breach_g20 G t x1 x2 x3 x4 h) (X11_breach_g20 G' t x1 x2 x3 x4 h) := X11_breach_m20 hg35 t x1 x2 x3 x4 h
theorem X11_breach_n35 {G G' : (Nat → Int32 → Int32 → Int32 → Int32 → PH → Option Rs) × (Nat → Int32 → Int32 → Int32 → Int32 → Int32 → PH → Option Rs) × (Nat → Int32 → Int32 → Int32 → Int32 → Int32 → Int32 → PH → Option Rs)} (hg20 : ∀ a0 a1 a2 a3 a4 a5, Mo ((G).1 a0 a1 a2 a3 a4 a5) ((G').1 a0 a1 a2 a3 a4 a5)) (hg35 : ∀ a0 a1 a2 a3 a4 a5 a6, Mo ((G).2.1 a0 a1 a2 a3 a4 a5 a6) ((G').2.1 a0 a1 a2 a3 a4 a5 a6)) (hg56 : ∀ a0 a1 a2 a3 a4 a5 a6 a7, Mo ((G).2.2 a0 a1 a2 a3 a4 a5 a6 a7) ((G').2.2 a0 a1 a2 a3 a4 a5 a6 a7)) (t : Nat) (x1 : Int32) (x2 : Int32) (x3 : Int32) (x4 : Int32) (x5 : Int32) (h : PH) : Mo (X11_breach_g35 G t x1 x2 x3 x4 x5 h) (X11_breach_g35 G' t x1 x2 x3 x4 x5 h) := X11_breach_m35 hg20 hg56 t x1 x2 x3 x4 x5 h
theorem X11_breach_n111 {G G' : (Nat → Int32 → Int32 → Int32 → Int32 → PH → Option Rs) × (Nat → Int32 → Int32 → Int32 → Int32 → Int32 → PH → Option Rs) × (Nat → Int32 → Int32 → Int32 → Int32 → Int32 → Int32 → PH → Option Rs)} (hg20 : ∀ a0 a1 a2 a3 a4 a5, Mo ((G).1 a0 a1 a2 a3 a4 a5) ((G').1 a0 a1 a2 a3 a4 a5)) (hg35 : ∀ a0 a1 a2 a3 a4 a5 a6, Mo ((G).2.1 a0 a1 a2 a3 a4 a5 a6) ((G').2.1 a0 a1 a2 a3 a4 a5 a6)) (hg56 : ∀ a0 a1 a2 a3 a4 a5 a6 a7, Mo ((G).2.2 a0 a1 a2 a3 a4 a5 a6 a7) ((G').2.2 a0 a1 a2 a3 a4 a5 a6 a7)) (t : Nat) (x1 : Int32) (x2 : Int32) (x3 : Int32) (x4 : Int32) (x5 : Int32) (x6 : Int32) (h : PH) : Mo (X11_breach_g111 G t x1 x2 x3 x4 x5 x6 h) (X11_breach_g111 G' t x1 x2 x3 x4 x5 x6 h) := X11_breach_m111 hg56 t x1 x2 x3 x4 x5 x6 h
theorem X11_breach_n56 {G G' : (Nat → Int32 → Int32 → Int32 → Int32 → PH → Option Rs) × (Nat → Int32 → Int32 → Int32 → Int32 → Int32 → PH → Option Rs) × (Nat → Int32 → Int32 → Int32 → Int32 → Int32 → Int32 → PH → Option Rs)} (hg20 : ∀ a0 a1 a2 a3 a4 a5, Mo ((G).1 a0 a1 a2 a3 a4 a5) ((G').1 a0 a1 a2 a3 a4 a5)) (hg35 : ∀ a0 a1 a2 a3 a4 a5 a6, Mo ((G).2.1 a0 a1 a2 a3 a4 a5 a6) ((G').2.1 a0 a1 a2 a3 a4 a5 a6)) (hg56 : ∀ a0 a1 a2 a3 a4 a5 a6 a7, Mo ((G).2.2 a0 a1 a2 a3 a4 a5 a6 a7) ((G').2.2 a0 a1 a2 a3 a4 a5 a6 a7)) (t : Nat) (x1 : Int32) (x2 : Int32) (x3 : Int32) (x4 : Int32) (x5 : Int32) (x6 : Int32) (h : PH) : Mo (X11_breach_g56 G t x1 x2 x3 x4 x5 x6 h) (X11_breach_g56 G' t x1 x2 x3 x4 x5 x6 h) := X11_breach_m56 hg35 (fun a0 a1 a2 a3 a4 a5 a6 a7 => X11_breach_n111 hg20 hg35 hg56 a0 a1 a2 a3 a4 a5 a6 a7) t x1 x2 x3 x4 x5 x6 h
theorem X11_breach_fm : ∀ n, (∀ a0 a1 a2 a3 a4 a5, Mo ((X11_breach_fam n).1 a0 a1 a2 a3 a4 a5) ((X11_breach_fam (n + 1)).1 a0 a1 a2 a3 a4 a5)) ∧ (∀ a0 a1 a2 a3 a4 a5 a6, Mo ((X11_breach_fam n).2.1 a0 a1 a2 a3 a4 a5 a6) ((X11_breach_fam (n + 1)).2.1 a0 a1 a2 a3 a4 a5 a6)) ∧ (∀ a0 a1 a2 a3 a4 a5 a6 a7, Mo ((X11_breach_fam n).2.2 a0 a1 a2 a3 a4 a5 a6 a7) ((X11_breach_fam (n + 1)).2.2 a0 a1 a2 a3 a4 a5 a6 a7))
  | 0 => ⟨fun _ _ _ _ _ _ => mo_no, fun _ _ _ _ _ _ _ => mo_no, fun _ _ _ _ _ _ _ _ => mo_no⟩
  | n + 1 => by
    obtain ⟨ih20, ih35, ih56⟩ := X11_breach_fm n
    exact ⟨fun a0 a1 a2 a3 a4 a5 => X11_breach_n20 ih20 ih35 ih56 a0 a1 a2 a3 a4 a5, fun a0 a1 a2 a3 a4 a5 a6 => X11_breach_n35 ih20 ih35 ih56 a0 a1 a2 a3 a4 a5 a6, fun a0 a1 a2 a3 a4 a5 a6 a7 => X11_breach_n56 ih20 ih35 ih56 a0 a1 a2 a3 a4 a5 a6 a7⟩
noncomputable def X11_breach (t : Nat) (x1 : Int32) (x2 : Int32) (h : PH) : Option Rs := lim (fun n => X11_breach_g0 (X11_breach_fam n) t x1 x2 h)
theorem X11_breach_iff {t : Nat} {x1 : Int32} {x2 : Int32} {h : PH} {r : Rs} : X11_breach t x1 x2 h = some r ↔ ∃ n, X11_breach_g0 (X11_breach_fam n) t x1 x2 h = some r := lim_iff (fun n => by
  obtain ⟨ih20, ih35, ih56⟩ := X11_breach_fm n
  exact X11_breach_n0 ih20 ih35 ih56 t x1 x2 h)
noncomputable abbrev X11_breach_F : List PV → PH → Option Rs := FW_T10II (X11_breach)
set_option maxRecDepth 100000 in
theorem X11_breach_gd (l : Launch) : Gd l 32 yX11_breach cX11_breach 7 (some .int) (X11_breach_F)   := Gd_of (by decide +kernel) (fun z hzl as h r e => by
  obtain ⟨hst, e⟩ := gL_of e
  obtain ⟨t, q0, e⟩ := gT_of e
  obtain ⟨x1, q1, e⟩ := gI_of e
  obtain ⟨x2, q2, e⟩ := gI_of e
  rw [st_3 hst q0 q1 q2]
  obtain ⟨n, e⟩ := lim_of e
  obtain ⟨hG20, hG35, hG56⟩ := X11_breach_k (z := z) n
  exact ⟨show 3 ≤ 7 by decide, X11_breach_s0 hG20 _ _ _ _ ((X11_breach_l0 X11_isWithin (X11_breach_fam n).1 t x1 x2 h).trans e)⟩)
abbrev X4_measureAll_x (z : CZ) : CX := mx RX4 cX4_measureAll 2 3 none "measureAll" z
noncomputable def X4_measureAll_b0 (k2 : Kn) : Kn := (a_ic 0 (a_is 1 k2))
set_option maxRecDepth 100000 in
theorem X4_measureAll_s0 {z : CZ} {k2 : Kn} (hk2 : SK (X4_measureAll_x z) 2 k2) : SK (X4_measureAll_x z) 0 (X4_measureAll_b0 k2) := (s_iconst (pc := 0) dX4_measureAll_0 c_ic_0 (s_istoren (pc := 1) dX4_measureAll_1 rfl (show 1 < 2 by decide) hk2))
noncomputable def X4_measureAll_b2 (c_X4_measure : Nat → Int32 → PH → Option Rs) (k2 : Kn) : Kn := (a_il 1 (a_al 0 (a_gR 3 193 1 (a_gI 1 74 (a_lt (a_al 0 (a_il 1 (a_vV 3 1 (FW_T3I c_X4_measure) (a_inc 1 1 k2)))) a_vr)))))
set_option maxRecDepth 100000 in
theorem X4_measureAll_s2 {z : CZ} {k2 : Kn} (hk2 : SK (X4_measureAll_x z) 2 k2) : SK (X4_measureAll_x z) 2 (X4_measureAll_b2 X4_measure k2) := (s_iloadn (pc := 2) dX4_measureAll_2 rfl (s_aloadn (pc := 3) dX4_measureAll_3 rfl (s_gR (pc := 4) (f := 1) ko_3 (by decide) rfl rfl w_313 dX4_measureAll_4 (s_gI (pc := 7) (f := 10) ko_1 (by decide) rfl rfl w_249 dX4_measureAll_7 (s_cmpge (pc := 10) dX4_measureAll_10 (by decide) (s_vr (pc := 24) rfl dX4_measureAll_24) (s_aloadn (pc := 13) dX4_measureAll_13 rfl (s_iloadn (pc := 14) dX4_measureAll_14 rfl (s_vV (pc := 15) (run_virtual (X4_measure_gd _) (show 2 < 3 by decide) cy_X4_measure (by decide) rfl w_1024 w_1025 w_1104 dX4_measureAll_15) (s_iinc (pc := 18) dX4_measureAll_18 c_ic_1 (show 1 < 2 by decide) (s_goto (pc := 21) dX4_measureAll_21 (by decide) hk2))))))))))
noncomputable def X4_measureAll_u2 (g : Nat → Int32 → PH → Option Rs) : Kn := fun ls st h => gL 0 st (gT 3 ls 0 fun t => gI ls 1 fun x1 => g t x1 h)
noncomputable def X4_measureAll_f0 (g2 : Nat → Int32 → PH → Option Rs) (t : Nat) (h : PH) : Option Rs :=
  g2 t 0 h
set_option maxRecDepth 100000 in
theorem X4_measureAll_l0 (g2 : Nat → Int32 → PH → Option Rs) (t : Nat) (h : PH) : X4_measureAll_b0 (X4_measureAll_u2 g2) [some (.inr (3, t + 1)), none] [] h = X4_measureAll_f0 g2 t h := rfl
theorem X4_measureAll_m0 {g2 G2 : Nat → Int32 → PH → Option Rs} (hg2 : ∀ a0 a1 a2, Mo (g2 a0 a1 a2) (G2 a0 a1 a2)) (t : Nat) (h : PH) : Mo (X4_measureAll_f0 g2 t h) (X4_measureAll_f0 G2 t h) := (hg2 t 0 h)
noncomputable def X4_measureAll_f2 (c_X4_measure : Nat → Int32 → PH → Option Rs) (g2 : Nat → Int32 → PH → Option Rs) (t : Nat) (x1 : Int32) (h : PH) : Option Rs :=
  nn (hR h 193 t 0) fun r1 =>
  if x1 < (hI h 74 r1 0) then
    cV (c_X4_measure t x1 h) fun h2 =>
    g2 t (x1 + 1) h2
  else
    some (none, h)
set_option maxRecDepth 100000 in
theorem X4_measureAll_l2 (c_X4_measure : Nat → Int32 → PH → Option Rs) (g2 : Nat → Int32 → PH → Option Rs) (t : Nat) (x1 : Int32) (h : PH) : X4_measureAll_b2 c_X4_measure (X4_measureAll_u2 g2) [some (.inr (3, t + 1)), some (.inl x1)] [] h = X4_measureAll_f2 c_X4_measure g2 t x1 h := rfl
theorem X4_measureAll_m2 {c_X4_measure : Nat → Int32 → PH → Option Rs} {g2 G2 : Nat → Int32 → PH → Option Rs} (hg2 : ∀ a0 a1 a2, Mo (g2 a0 a1 a2) (G2 a0 a1 a2)) (t : Nat) (x1 : Int32) (h : PH) : Mo (X4_measureAll_f2 c_X4_measure g2 t x1 h) (X4_measureAll_f2 c_X4_measure G2 t x1 h) := (mo_nn fun r1 => (mo_if (mo_cV fun h2 => (hg2 t (x1 + 1) h2)) mo_rf))
theorem X4_measureAll_w2 {z : CZ} {g2 : Nat → Int32 → PH → Option Rs} (hk2 : SK (X4_measureAll_x z) 2 (X4_measureAll_u2 g2)) : SK (X4_measureAll_x z) 2 (X4_measureAll_u2 (X4_measureAll_f2 X4_measure g2)) := by
  intro ls st h r e
  obtain ⟨hst, e⟩ := gL_of e
  obtain ⟨t, q0, e⟩ := gT_of e
  obtain ⟨x1, q1, e⟩ := gI_of e
  rw [st_0 hst]
  exact WK.sub (canon := [some (.inr (3, t + 1)), some (.inl x1)]) rfl ⟨q0, q1, trivial⟩ (X4_measureAll_s2 hk2 _ _ _ _ ((X4_measureAll_l2 X4_measure g2 t x1 h).trans e))
noncomputable def X4_measureAll_g0 (G : (Nat → Int32 → PH → Option Rs)) (t : Nat) (h : PH) : Option Rs := X4_measureAll_f0 (G) t h
noncomputable def X4_measureAll_g2 (G : (Nat → Int32 → PH → Option Rs)) (t : Nat) (x1 : Int32) (h : PH) : Option Rs := X4_measureAll_f2 X4_measure (G) t x1 h
theorem X4_measureAll_v2 {z : CZ} {G : (Nat → Int32 → PH → Option Rs)} (hG2 : SK (X4_measureAll_x z) 2 (X4_measureAll_u2 (G))) : SK (X4_measureAll_x z) 2 (X4_measureAll_u2 (X4_measureAll_g2 G)) := X4_measureAll_w2 hG2
noncomputable def X4_measureAll_fam : Nat → (Nat → Int32 → PH → Option Rs)
  | 0 => fun _ _ _ => none
  | n + 1 => X4_measureAll_g2 (X4_measureAll_fam n)
theorem X4_measureAll_k {z : CZ} : ∀ n, SK (X4_measureAll_x z) 2 (X4_measureAll_u2 (X4_measureAll_fam n))
  | 0 => (fun ls st h r e => by
      obtain ⟨_, e⟩ := gL_of e
      obtain ⟨_, _, e⟩ := gT_of e
      obtain ⟨_, _, e⟩ := gI_of e
      cases e)
  | n + 1 => by
    obtain ih2 := X4_measureAll_k n
    exact X4_measureAll_v2 ih2
theorem X4_measureAll_n0 {G G' : (Nat → Int32 → PH → Option Rs)} (hg2 : ∀ a0 a1 a2, Mo ((G) a0 a1 a2) ((G') a0 a1 a2)) (t : Nat) (h : PH) : Mo (X4_measureAll_g0 G t h) (X4_measureAll_g0 G' t h) := X4_measureAll_m0 hg2 t h
theorem X4_measureAll_n2 {G G' : (Nat → Int32 → PH → Option Rs)} (hg2 : ∀ a0 a1 a2, Mo ((G) a0 a1 a2) ((G') a0 a1 a2)) (t : Nat) (x1 : Int32) (h : PH) : Mo (X4_measureAll_g2 G t x1 h) (X4_measureAll_g2 G' t x1 h) := X4_measureAll_m2 hg2 t x1 h
theorem X4_measureAll_fm : ∀ n, (∀ a0 a1 a2, Mo ((X4_measureAll_fam n) a0 a1 a2) ((X4_measureAll_fam (n + 1)) a0 a1 a2))
  | 0 => fun _ _ _ => mo_no
  | n + 1 => by
    obtain ih2 := X4_measureAll_fm n
    exact fun a0 a1 a2 => X4_measureAll_n2 ih2 a0 a1 a2
noncomputable def X4_measureAll (t : Nat) (h : PH) : Option Rs := lim (fun n => X4_measureAll_g0 (X4_measureAll_fam n) t h)
theorem X4_measureAll_iff {t : Nat} {h : PH} {r : Rs} : X4_measureAll t h = some r ↔ ∃ n, X4_measureAll_g0 (X4_measureAll_fam n) t h = some r := lim_iff (fun n => by
  obtain ih2 := X4_measureAll_fm n
  exact X4_measureAll_n0 ih2 t h)
noncomputable abbrev X4_measureAll_F : List PV → PH → Option Rs := FW_T3 (X4_measureAll)
set_option maxRecDepth 100000 in
theorem X4_measureAll_gd (l : Launch) : Gd l 3 yX4_measureAll cX4_measureAll 2 none (X4_measureAll_F)   := Gd_of (by decide +kernel) (fun z hzl as h r e => by
  obtain ⟨hst, e⟩ := gL_of e
  obtain ⟨t, q0, e⟩ := gT_of e
  rw [st_1 hst q0]
  obtain ⟨n, e⟩ := lim_of e
  obtain hG2 := X4_measureAll_k (z := z) n
  exact ⟨show 1 ≤ 2 by decide, X4_measureAll_s0 hG2 _ _ _ _ ((X4_measureAll_l0 (X4_measureAll_fam n) t h).trans e)⟩)
abbrev X4_needsOf_x (z : CZ) : CX := mx RX4 cX4_needsOf 8 3 (some .int) "needsOf" z
noncomputable def X4_needsOf_b0 (k15 : Kn) : Kn := (a_ic 0 (a_is 3 (a_ic (-1) (a_is 4 (a_il 2 (a_ic (-1) (a_eq (a_ic 0 k15) (a_ic 1 k15))))))))
set_option maxRecDepth 100000 in
theorem X4_needsOf_s0 {z : CZ} {k15 : Kn} (hk15 : SK (X4_needsOf_x z) 15 k15) : SK (X4_needsOf_x z) 0 (X4_needsOf_b0 k15) := (s_iconst (pc := 0) dX4_needsOf_0 c_ic_0 (s_istoren (pc := 1) dX4_needsOf_1 rfl (show 3 < 8 by decide) (s_iconst (pc := 2) dX4_needsOf_2 c_ic_m1 (s_istore (pc := 3) dX4_needsOf_3 (show 4 < 8 by decide) (s_iloadn (pc := 5) dX4_needsOf_5 rfl (s_iconst (pc := 6) dX4_needsOf_6 c_ic_m1 (s_cmpeq (pc := 7) dX4_needsOf_7 (by decide) (s_iconst (pc := 14) dX4_needsOf_14 c_ic_0 hk15) (s_iconst (pc := 10) dX4_needsOf_10 c_ic_1 (s_goto (pc := 11) dX4_needsOf_11 (by decide) hk15)))))))))
noncomputable def X4_needsOf_b15 (k20 : Kn) : Kn := (a_is 5 (a_ic 0 (a_is 6 k20)))
set_option maxRecDepth 100000 in
theorem X4_needsOf_s15 {z : CZ} {k20 : Kn} (hk20 : SK (X4_needsOf_x z) 20 k20) : SK (X4_needsOf_x z) 15 (X4_needsOf_b15 k20) := (s_istore (pc := 15) dX4_needsOf_15 (show 5 < 8 by decide) (s_iconst (pc := 17) dX4_needsOf_17 c_ic_0 (s_istore (pc := 18) dX4_needsOf_18 (show 6 < 8 by decide) hk20)))
noncomputable def X4_needsOf_b20 (c_X4_heading : Nat → Int32 → Int32 → PH → Option Rs) (k57 : Kn) : Kn := (a_il 6 (a_al 0 (a_gR 3 193 1 (a_gI 1 74 (a_lt (a_al 0 (a_gR 3 193 1 (a_gR 1 67 17 (a_il 6 (a_ald 17 1088 (a_il 2 (a_eq (a_al 0 (a_il 1 (a_il 6 (a_vI 3 2 (FW_T3II c_X4_heading) k57)))) (a_ic (-1) k57)))))))) (a_il 5 (a_z (a_il 3 a_ir) (a_il 3 (a_ic 1 (a_min a_ir))))))))))
set_option maxRecDepth 100000 in
theorem X4_needsOf_s20 {z : CZ} {k57 : Kn} (hk57 : SK (X4_needsOf_x z) 57 k57) : SK (X4_needsOf_x z) 20 (X4_needsOf_b20 X4_heading k57) := (s_iload (pc := 20) dX4_needsOf_20 (s_aloadn (pc := 22) dX4_needsOf_22 rfl (s_gR (pc := 23) (f := 1) ko_3 (by decide) rfl rfl w_313 dX4_needsOf_23 (s_gI (pc := 26) (f := 10) ko_1 (by decide) rfl rfl w_249 dX4_needsOf_26 (s_cmpge (pc := 29) dX4_needsOf_29 (by decide) (s_iload (pc := 106) dX4_needsOf_106 (s_ifeq (pc := 108) dX4_needsOf_108 (by decide) (s_iloadn (pc := 119) dX4_needsOf_119 rfl (s_ir (pc := 120) rfl dX4_needsOf_120)) (s_iloadn (pc := 111) dX4_needsOf_111 rfl (s_iconst (pc := 112) dX4_needsOf_112 c_ic_1 (s_min (pc := 113) w_1110 w_681 w_92 w_682 dX4_needsOf_113 (s_goto (pc := 116) dX4_needsOf_116 (by decide) (s_ir (pc := 120) rfl dX4_needsOf_120))))))) (s_aloadn (pc := 32) dX4_needsOf_32 rfl (s_gR (pc := 33) (f := 1) ko_3 (by decide) rfl rfl w_313 dX4_needsOf_33 (s_gR (pc := 36) (f := 3) ko_1 (by decide) rfl rfl w_228 dX4_needsOf_36 (s_iload (pc := 39) dX4_needsOf_39 (s_iald (pc := 41) (by decide) (by decide) rfl rfl rfl dX4_needsOf_41 (s_iloadn (pc := 42) dX4_needsOf_42 rfl (s_cmpne (pc := 43) dX4_needsOf_43 (by decide) (s_iconst (pc := 56) dX4_needsOf_56 c_ic_m1 hk57) (s_aloadn (pc := 46) dX4_needsOf_46 rfl (s_iloadn (pc := 47) dX4_needsOf_47 rfl (s_iload (pc := 48) dX4_needsOf_48 (s_vI (pc := 50) (run_virtual (X4_heading_gd _) (show 2 < 3 by decide) cy_X4_heading (by decide) rfl w_1046 w_1047 w_1109 dX4_needsOf_50) (s_goto (pc := 53) dX4_needsOf_53 (by decide) hk57)))))))))))))))))
noncomputable def X4_needsOf_b57 (k76 k100 : Kn) : Kn := (a_is 7 (a_il 7 (a_ic (-1) (a_eq k100 (a_il 3 (a_z (a_il 7 k76) (a_il 4 k76)))))))
set_option maxRecDepth 100000 in
theorem X4_needsOf_s57 {z : CZ} {k76 k100 : Kn} (hk76 : SK (X4_needsOf_x z) 76 k76) (hk100 : SK (X4_needsOf_x z) 100 k100) : SK (X4_needsOf_x z) 57 (X4_needsOf_b57 k76 k100) := (s_istore (pc := 57) dX4_needsOf_57 (show 7 < 8 by decide) (s_iload (pc := 59) dX4_needsOf_59 (s_iconst (pc := 61) dX4_needsOf_61 c_ic_m1 (s_cmpeq (pc := 62) dX4_needsOf_62 (by decide) hk100 (s_iloadn (pc := 65) dX4_needsOf_65 rfl (s_ifne (pc := 66) dX4_needsOf_66 (by decide) (s_iload (pc := 74) dX4_needsOf_74 hk76) (s_iload (pc := 69) dX4_needsOf_69 (s_goto (pc := 71) dX4_needsOf_71 (by decide) hk76))))))))
noncomputable def X4_needsOf_b76 (k95 : Kn) : Kn := (a_is 4 (a_il 5 (a_z (a_ic 0 k95) (a_il 7 (a_il 4 (a_eq (a_ic 1 k95) (a_ic 0 k95)))))))
set_option maxRecDepth 100000 in
theorem X4_needsOf_s76 {z : CZ} {k95 : Kn} (hk95 : SK (X4_needsOf_x z) 95 k95) : SK (X4_needsOf_x z) 76 (X4_needsOf_b76 k95) := (s_istore (pc := 76) dX4_needsOf_76 (show 4 < 8 by decide) (s_iload (pc := 78) dX4_needsOf_78 (s_ifeq (pc := 80) dX4_needsOf_80 (by decide) (s_iconst (pc := 94) dX4_needsOf_94 c_ic_0 hk95) (s_iload (pc := 83) dX4_needsOf_83 (s_iload (pc := 85) dX4_needsOf_85 (s_cmpne (pc := 87) dX4_needsOf_87 (by decide) (s_iconst (pc := 94) dX4_needsOf_94 c_ic_0 hk95) (s_iconst (pc := 90) dX4_needsOf_90 c_ic_1 (s_goto (pc := 91) dX4_needsOf_91 (by decide) hk95))))))))
noncomputable def X4_needsOf_b95 (k100 : Kn) : Kn := (a_is 5 (a_inc 3 1 k100))
set_option maxRecDepth 100000 in
theorem X4_needsOf_s95 {z : CZ} {k100 : Kn} (hk100 : SK (X4_needsOf_x z) 100 k100) : SK (X4_needsOf_x z) 95 (X4_needsOf_b95 k100) := (s_istore (pc := 95) dX4_needsOf_95 (show 5 < 8 by decide) (s_iinc (pc := 97) dX4_needsOf_97 c_ic_1 (show 3 < 8 by decide) hk100))
noncomputable def X4_needsOf_b100 (k20 : Kn) : Kn := (a_inc 6 1 k20)
set_option maxRecDepth 100000 in
theorem X4_needsOf_s100 {z : CZ} {k20 : Kn} (hk20 : SK (X4_needsOf_x z) 20 k20) : SK (X4_needsOf_x z) 100 (X4_needsOf_b100 k20) := (s_iinc (pc := 100) dX4_needsOf_100 c_ic_1 (show 6 < 8 by decide) (s_goto (pc := 103) dX4_needsOf_103 (by decide) hk20))
noncomputable def X4_needsOf_u15 (g : Nat → Int32 → Int32 → Int32 → Int32 → Int32 → PH → Option Rs) : Kn := fun ls st h => gL 1 st (gT 3 ls 0 fun t => gI ls 1 fun x1 => gI ls 2 fun x2 => gI ls 3 fun x3 => gI ls 4 fun x4 => gI (st.map some) 0 fun s0 => g t x1 x2 x3 x4 s0 h)
noncomputable def X4_needsOf_u20 (g : Nat → Int32 → Int32 → Int32 → Int32 → Int32 → Int32 → PH → Option Rs) : Kn := fun ls st h => gL 0 st (gT 3 ls 0 fun t => gI ls 1 fun x1 => gI ls 2 fun x2 => gI ls 3 fun x3 => gI ls 4 fun x4 => gI ls 5 fun x5 => gI ls 6 fun x6 => g t x1 x2 x3 x4 x5 x6 h)
noncomputable def X4_needsOf_u57 (g : Nat → Int32 → Int32 → Int32 → Int32 → Int32 → Int32 → Int32 → PH → Option Rs) : Kn := fun ls st h => gL 1 st (gT 3 ls 0 fun t => gI ls 1 fun x1 => gI ls 2 fun x2 => gI ls 3 fun x3 => gI ls 4 fun x4 => gI ls 5 fun x5 => gI ls 6 fun x6 => gI (st.map some) 0 fun s0 => g t x1 x2 x3 x4 x5 x6 s0 h)
noncomputable def X4_needsOf_u76 (g : Nat → Int32 → Int32 → Int32 → Int32 → Int32 → Int32 → Int32 → PH → Option Rs) : Kn := fun ls st h => gL 1 st (gT 3 ls 0 fun t => gI ls 1 fun x1 => gI ls 2 fun x2 => gI ls 3 fun x3 => gI ls 5 fun x5 => gI ls 6 fun x6 => gI ls 7 fun x7 => gI (st.map some) 0 fun s0 => g t x1 x2 x3 x5 x6 x7 s0 h)
noncomputable def X4_needsOf_u95 (g : Nat → Int32 → Int32 → Int32 → Int32 → Int32 → Int32 → PH → Option Rs) : Kn := fun ls st h => gL 1 st (gT 3 ls 0 fun t => gI ls 1 fun x1 => gI ls 2 fun x2 => gI ls 3 fun x3 => gI ls 4 fun x4 => gI ls 6 fun x6 => gI (st.map some) 0 fun s0 => g t x1 x2 x3 x4 x6 s0 h)
noncomputable def X4_needsOf_u100 (g : Nat → Int32 → Int32 → Int32 → Int32 → Int32 → Int32 → PH → Option Rs) : Kn := fun ls st h => gL 0 st (gT 3 ls 0 fun t => gI ls 1 fun x1 => gI ls 2 fun x2 => gI ls 3 fun x3 => gI ls 4 fun x4 => gI ls 5 fun x5 => gI ls 6 fun x6 => g t x1 x2 x3 x4 x5 x6 h)
noncomputable def X4_needsOf_f0 (g15 : Nat → Int32 → Int32 → Int32 → Int32 → Int32 → PH → Option Rs) (t : Nat) (x1 : Int32) (x2 : Int32) (h : PH) : Option Rs :=
  if x2 = (-1) then
    g15 t x1 x2 0 (-1) 0 h
  else
    g15 t x1 x2 0 (-1) 1 h
set_option maxRecDepth 100000 in
theorem X4_needsOf_l0 (g15 : Nat → Int32 → Int32 → Int32 → Int32 → Int32 → PH → Option Rs) (t : Nat) (x1 : Int32) (x2 : Int32) (h : PH) : X4_needsOf_b0 (X4_needsOf_u15 g15) [some (.inr (3, t + 1)), some (.inl x1), some (.inl x2), none, none, none, none, none] [] h = X4_needsOf_f0 g15 t x1 x2 h := rfl
theorem X4_needsOf_m0 {g15 G15 : Nat → Int32 → Int32 → Int32 → Int32 → Int32 → PH → Option Rs} (hg15 : ∀ a0 a1 a2 a3 a4 a5 a6, Mo (g15 a0 a1 a2 a3 a4 a5 a6) (G15 a0 a1 a2 a3 a4 a5 a6)) (t : Nat) (x1 : Int32) (x2 : Int32) (h : PH) : Mo (X4_needsOf_f0 g15 t x1 x2 h) (X4_needsOf_f0 G15 t x1 x2 h) := (mo_if (hg15 t x1 x2 0 (-1) 0 h) (hg15 t x1 x2 0 (-1) 1 h))
noncomputable def X4_needsOf_f15 (g20 : Nat → Int32 → Int32 → Int32 → Int32 → Int32 → Int32 → PH → Option Rs) (t : Nat) (x1 : Int32) (x2 : Int32) (x3 : Int32) (x4 : Int32) (s0 : Int32) (h : PH) : Option Rs :=
  g20 t x1 x2 x3 x4 s0 0 h
set_option maxRecDepth 100000 in
theorem X4_needsOf_l15 (g20 : Nat → Int32 → Int32 → Int32 → Int32 → Int32 → Int32 → PH → Option Rs) (t : Nat) (x1 : Int32) (x2 : Int32) (x3 : Int32) (x4 : Int32) (s0 : Int32) (h : PH) : X4_needsOf_b15 (X4_needsOf_u20 g20) [some (.inr (3, t + 1)), some (.inl x1), some (.inl x2), some (.inl x3), some (.inl x4), none, none, none] [.inl s0] h = X4_needsOf_f15 g20 t x1 x2 x3 x4 s0 h := rfl
theorem X4_needsOf_m15 {g20 G20 : Nat → Int32 → Int32 → Int32 → Int32 → Int32 → Int32 → PH → Option Rs} (hg20 : ∀ a0 a1 a2 a3 a4 a5 a6 a7, Mo (g20 a0 a1 a2 a3 a4 a5 a6 a7) (G20 a0 a1 a2 a3 a4 a5 a6 a7)) (t : Nat) (x1 : Int32) (x2 : Int32) (x3 : Int32) (x4 : Int32) (s0 : Int32) (h : PH) : Mo (X4_needsOf_f15 g20 t x1 x2 x3 x4 s0 h) (X4_needsOf_f15 G20 t x1 x2 x3 x4 s0 h) := (hg20 t x1 x2 x3 x4 s0 0 h)
theorem X4_needsOf_w15 {z : CZ} {g20 : Nat → Int32 → Int32 → Int32 → Int32 → Int32 → Int32 → PH → Option Rs} (hk20 : SK (X4_needsOf_x z) 20 (X4_needsOf_u20 g20)) : SK (X4_needsOf_x z) 15 (X4_needsOf_u15 (X4_needsOf_f15 g20)) := by
  intro ls st h r e
  obtain ⟨hst, e⟩ := gL_of e
  obtain ⟨t, q0, e⟩ := gT_of e
  obtain ⟨x1, q1, e⟩ := gI_of e
  obtain ⟨x2, q2, e⟩ := gI_of e
  obtain ⟨x3, q3, e⟩ := gI_of e
  obtain ⟨x4, q4, e⟩ := gI_of e
  obtain ⟨s0, q5, e⟩ := gI_of e
  rw [st_1 hst q5]
  exact WK.sub (canon := [some (.inr (3, t + 1)), some (.inl x1), some (.inl x2), some (.inl x3), some (.inl x4), none, none, none]) rfl ⟨q0, q1, q2, q3, q4, trivial⟩ (X4_needsOf_s15 hk20 _ _ _ _ ((X4_needsOf_l15 g20 t x1 x2 x3 x4 s0 h).trans e))
noncomputable def X4_needsOf_f20 (c_X4_heading : Nat → Int32 → Int32 → PH → Option Rs) (g57 : Nat → Int32 → Int32 → Int32 → Int32 → Int32 → Int32 → Int32 → PH → Option Rs) (t : Nat) (x1 : Int32) (x2 : Int32) (x3 : Int32) (x4 : Int32) (x5 : Int32) (x6 : Int32) (h : PH) : Option Rs :=
  nn (hR h 193 t 0) fun r1 =>
  if x6 < (hI h 74 r1 0) then
    nn (hR h 193 t 0) fun r2 =>
    nn (hR h 67 r2 0) fun r3 =>
    ix x6 (hL h 17 r3) fun j4 =>
    if (hI h 1088 r3 j4) = x2 then
      cI (c_X4_heading t x1 x6 h) fun v6 h5 =>
      g57 t x1 x2 x3 x4 x5 x6 v6 h5
    else
      g57 t x1 x2 x3 x4 x5 x6 (-1) h
  else
    if x5 = 0 then
      some (some (.inl x3), h)
    else
      some (some (.inl (if 1 < x3 then 1 else x3)), h)
set_option maxRecDepth 100000 in
theorem X4_needsOf_l20 (c_X4_heading : Nat → Int32 → Int32 → PH → Option Rs) (g57 : Nat → Int32 → Int32 → Int32 → Int32 → Int32 → Int32 → Int32 → PH → Option Rs) (t : Nat) (x1 : Int32) (x2 : Int32) (x3 : Int32) (x4 : Int32) (x5 : Int32) (x6 : Int32) (h : PH) : X4_needsOf_b20 c_X4_heading (X4_needsOf_u57 g57) [some (.inr (3, t + 1)), some (.inl x1), some (.inl x2), some (.inl x3), some (.inl x4), some (.inl x5), some (.inl x6), none] [] h = X4_needsOf_f20 c_X4_heading g57 t x1 x2 x3 x4 x5 x6 h := rfl
theorem X4_needsOf_m20 {c_X4_heading : Nat → Int32 → Int32 → PH → Option Rs} {g57 G57 : Nat → Int32 → Int32 → Int32 → Int32 → Int32 → Int32 → Int32 → PH → Option Rs} (hg57 : ∀ a0 a1 a2 a3 a4 a5 a6 a7 a8, Mo (g57 a0 a1 a2 a3 a4 a5 a6 a7 a8) (G57 a0 a1 a2 a3 a4 a5 a6 a7 a8)) (t : Nat) (x1 : Int32) (x2 : Int32) (x3 : Int32) (x4 : Int32) (x5 : Int32) (x6 : Int32) (h : PH) : Mo (X4_needsOf_f20 c_X4_heading g57 t x1 x2 x3 x4 x5 x6 h) (X4_needsOf_f20 c_X4_heading G57 t x1 x2 x3 x4 x5 x6 h) := (mo_nn fun r1 => (mo_if (mo_nn fun r2 => (mo_nn fun r3 => (mo_ix fun j4 => (mo_if (mo_cI fun v6 h5 => (hg57 t x1 x2 x3 x4 x5 x6 v6 h5)) (hg57 t x1 x2 x3 x4 x5 x6 (-1) h))))) (mo_if mo_rf mo_rf)))
theorem X4_needsOf_w20 {z : CZ} {g57 : Nat → Int32 → Int32 → Int32 → Int32 → Int32 → Int32 → Int32 → PH → Option Rs} (hk57 : SK (X4_needsOf_x z) 57 (X4_needsOf_u57 g57)) : SK (X4_needsOf_x z) 20 (X4_needsOf_u20 (X4_needsOf_f20 X4_heading g57)) := by
  intro ls st h r e
  obtain ⟨hst, e⟩ := gL_of e
  obtain ⟨t, q0, e⟩ := gT_of e
  obtain ⟨x1, q1, e⟩ := gI_of e
  obtain ⟨x2, q2, e⟩ := gI_of e
  obtain ⟨x3, q3, e⟩ := gI_of e
  obtain ⟨x4, q4, e⟩ := gI_of e
  obtain ⟨x5, q5, e⟩ := gI_of e
  obtain ⟨x6, q6, e⟩ := gI_of e
  rw [st_0 hst]
  exact WK.sub (canon := [some (.inr (3, t + 1)), some (.inl x1), some (.inl x2), some (.inl x3), some (.inl x4), some (.inl x5), some (.inl x6), none]) rfl ⟨q0, q1, q2, q3, q4, q5, q6, trivial⟩ (X4_needsOf_s20 hk57 _ _ _ _ ((X4_needsOf_l20 X4_heading g57 t x1 x2 x3 x4 x5 x6 h).trans e))
noncomputable def X4_needsOf_f57 (g76 : Nat → Int32 → Int32 → Int32 → Int32 → Int32 → Int32 → Int32 → PH → Option Rs) (g100 : Nat → Int32 → Int32 → Int32 → Int32 → Int32 → Int32 → PH → Option Rs) (t : Nat) (x1 : Int32) (x2 : Int32) (x3 : Int32) (x4 : Int32) (x5 : Int32) (x6 : Int32) (s0 : Int32) (h : PH) : Option Rs :=
  if s0 = (-1) then
    g100 t x1 x2 x3 x4 x5 x6 h
  else
    if x3 = 0 then
      g76 t x1 x2 x3 x5 x6 s0 s0 h
    else
      g76 t x1 x2 x3 x5 x6 s0 x4 h
set_option maxRecDepth 100000 in
theorem X4_needsOf_l57 (g76 : Nat → Int32 → Int32 → Int32 → Int32 → Int32 → Int32 → Int32 → PH → Option Rs) (g100 : Nat → Int32 → Int32 → Int32 → Int32 → Int32 → Int32 → PH → Option Rs) (t : Nat) (x1 : Int32) (x2 : Int32) (x3 : Int32) (x4 : Int32) (x5 : Int32) (x6 : Int32) (s0 : Int32) (h : PH) : X4_needsOf_b57 (X4_needsOf_u76 g76) (X4_needsOf_u100 g100) [some (.inr (3, t + 1)), some (.inl x1), some (.inl x2), some (.inl x3), some (.inl x4), some (.inl x5), some (.inl x6), none] [.inl s0] h = X4_needsOf_f57 g76 g100 t x1 x2 x3 x4 x5 x6 s0 h := rfl
theorem X4_needsOf_m57 {g76 G76 : Nat → Int32 → Int32 → Int32 → Int32 → Int32 → Int32 → Int32 → PH → Option Rs} {g100 G100 : Nat → Int32 → Int32 → Int32 → Int32 → Int32 → Int32 → PH → Option Rs} (hg76 : ∀ a0 a1 a2 a3 a4 a5 a6 a7 a8, Mo (g76 a0 a1 a2 a3 a4 a5 a6 a7 a8) (G76 a0 a1 a2 a3 a4 a5 a6 a7 a8)) (hg100 : ∀ a0 a1 a2 a3 a4 a5 a6 a7, Mo (g100 a0 a1 a2 a3 a4 a5 a6 a7) (G100 a0 a1 a2 a3 a4 a5 a6 a7)) (t : Nat) (x1 : Int32) (x2 : Int32) (x3 : Int32) (x4 : Int32) (x5 : Int32) (x6 : Int32) (s0 : Int32) (h : PH) : Mo (X4_needsOf_f57 g76 g100 t x1 x2 x3 x4 x5 x6 s0 h) (X4_needsOf_f57 G76 G100 t x1 x2 x3 x4 x5 x6 s0 h) := (mo_if (hg100 t x1 x2 x3 x4 x5 x6 h) (mo_if (hg76 t x1 x2 x3 x5 x6 s0 s0 h) (hg76 t x1 x2 x3 x5 x6 s0 x4 h)))
theorem X4_needsOf_w57 {z : CZ} {g76 : Nat → Int32 → Int32 → Int32 → Int32 → Int32 → Int32 → Int32 → PH → Option Rs} {g100 : Nat → Int32 → Int32 → Int32 → Int32 → Int32 → Int32 → PH → Option Rs} (hk76 : SK (X4_needsOf_x z) 76 (X4_needsOf_u76 g76)) (hk100 : SK (X4_needsOf_x z) 100 (X4_needsOf_u100 g100)) : SK (X4_needsOf_x z) 57 (X4_needsOf_u57 (X4_needsOf_f57 g76 g100)) := by
  intro ls st h r e
  obtain ⟨hst, e⟩ := gL_of e
  obtain ⟨t, q0, e⟩ := gT_of e
  obtain ⟨x1, q1, e⟩ := gI_of e
  obtain ⟨x2, q2, e⟩ := gI_of e
  obtain ⟨x3, q3, e⟩ := gI_of e
  obtain ⟨x4, q4, e⟩ := gI_of e
  obtain ⟨x5, q5, e⟩ := gI_of e
  obtain ⟨x6, q6, e⟩ := gI_of e
  obtain ⟨s0, q7, e⟩ := gI_of e
  rw [st_1 hst q7]
  exact WK.sub (canon := [some (.inr (3, t + 1)), some (.inl x1), some (.inl x2), some (.inl x3), some (.inl x4), some (.inl x5), some (.inl x6), none]) rfl ⟨q0, q1, q2, q3, q4, q5, q6, trivial⟩ (X4_needsOf_s57 hk76 hk100 _ _ _ _ ((X4_needsOf_l57 g76 g100 t x1 x2 x3 x4 x5 x6 s0 h).trans e))
noncomputable def X4_needsOf_f76 (g95 : Nat → Int32 → Int32 → Int32 → Int32 → Int32 → Int32 → PH → Option Rs) (t : Nat) (x1 : Int32) (x2 : Int32) (x3 : Int32) (x5 : Int32) (x6 : Int32) (x7 : Int32) (s0 : Int32) (h : PH) : Option Rs :=
  if x5 = 0 then
    g95 t x1 x2 x3 s0 x6 0 h
  else
    if x7 = s0 then
      g95 t x1 x2 x3 s0 x6 1 h
    else
      g95 t x1 x2 x3 s0 x6 0 h
set_option maxRecDepth 100000 in
theorem X4_needsOf_l76 (g95 : Nat → Int32 → Int32 → Int32 → Int32 → Int32 → Int32 → PH → Option Rs) (t : Nat) (x1 : Int32) (x2 : Int32) (x3 : Int32) (x5 : Int32) (x6 : Int32) (x7 : Int32) (s0 : Int32) (h : PH) : X4_needsOf_b76 (X4_needsOf_u95 g95) [some (.inr (3, t + 1)), some (.inl x1), some (.inl x2), some (.inl x3), none, some (.inl x5), some (.inl x6), some (.inl x7)] [.inl s0] h = X4_needsOf_f76 g95 t x1 x2 x3 x5 x6 x7 s0 h := rfl
theorem X4_needsOf_m76 {g95 G95 : Nat → Int32 → Int32 → Int32 → Int32 → Int32 → Int32 → PH → Option Rs} (hg95 : ∀ a0 a1 a2 a3 a4 a5 a6 a7, Mo (g95 a0 a1 a2 a3 a4 a5 a6 a7) (G95 a0 a1 a2 a3 a4 a5 a6 a7)) (t : Nat) (x1 : Int32) (x2 : Int32) (x3 : Int32) (x5 : Int32) (x6 : Int32) (x7 : Int32) (s0 : Int32) (h : PH) : Mo (X4_needsOf_f76 g95 t x1 x2 x3 x5 x6 x7 s0 h) (X4_needsOf_f76 G95 t x1 x2 x3 x5 x6 x7 s0 h) := (mo_if (hg95 t x1 x2 x3 s0 x6 0 h) (mo_if (hg95 t x1 x2 x3 s0 x6 1 h) (hg95 t x1 x2 x3 s0 x6 0 h)))
theorem X4_needsOf_w76 {z : CZ} {g95 : Nat → Int32 → Int32 → Int32 → Int32 → Int32 → Int32 → PH → Option Rs} (hk95 : SK (X4_needsOf_x z) 95 (X4_needsOf_u95 g95)) : SK (X4_needsOf_x z) 76 (X4_needsOf_u76 (X4_needsOf_f76 g95)) := by
  intro ls st h r e
  obtain ⟨hst, e⟩ := gL_of e
  obtain ⟨t, q0, e⟩ := gT_of e
  obtain ⟨x1, q1, e⟩ := gI_of e
  obtain ⟨x2, q2, e⟩ := gI_of e
  obtain ⟨x3, q3, e⟩ := gI_of e
  obtain ⟨x5, q4, e⟩ := gI_of e
  obtain ⟨x6, q5, e⟩ := gI_of e
  obtain ⟨x7, q6, e⟩ := gI_of e
  obtain ⟨s0, q7, e⟩ := gI_of e
  rw [st_1 hst q7]
  exact WK.sub (canon := [some (.inr (3, t + 1)), some (.inl x1), some (.inl x2), some (.inl x3), none, some (.inl x5), some (.inl x6), some (.inl x7)]) rfl ⟨q0, q1, q2, q3, q4, q5, q6, trivial⟩ (X4_needsOf_s76 hk95 _ _ _ _ ((X4_needsOf_l76 g95 t x1 x2 x3 x5 x6 x7 s0 h).trans e))
noncomputable def X4_needsOf_f95 (g100 : Nat → Int32 → Int32 → Int32 → Int32 → Int32 → Int32 → PH → Option Rs) (t : Nat) (x1 : Int32) (x2 : Int32) (x3 : Int32) (x4 : Int32) (x6 : Int32) (s0 : Int32) (h : PH) : Option Rs :=
  g100 t x1 x2 (x3 + 1) x4 s0 x6 h
set_option maxRecDepth 100000 in
theorem X4_needsOf_l95 (g100 : Nat → Int32 → Int32 → Int32 → Int32 → Int32 → Int32 → PH → Option Rs) (t : Nat) (x1 : Int32) (x2 : Int32) (x3 : Int32) (x4 : Int32) (x6 : Int32) (s0 : Int32) (h : PH) : X4_needsOf_b95 (X4_needsOf_u100 g100) [some (.inr (3, t + 1)), some (.inl x1), some (.inl x2), some (.inl x3), some (.inl x4), none, some (.inl x6), none] [.inl s0] h = X4_needsOf_f95 g100 t x1 x2 x3 x4 x6 s0 h := rfl
theorem X4_needsOf_m95 {g100 G100 : Nat → Int32 → Int32 → Int32 → Int32 → Int32 → Int32 → PH → Option Rs} (hg100 : ∀ a0 a1 a2 a3 a4 a5 a6 a7, Mo (g100 a0 a1 a2 a3 a4 a5 a6 a7) (G100 a0 a1 a2 a3 a4 a5 a6 a7)) (t : Nat) (x1 : Int32) (x2 : Int32) (x3 : Int32) (x4 : Int32) (x6 : Int32) (s0 : Int32) (h : PH) : Mo (X4_needsOf_f95 g100 t x1 x2 x3 x4 x6 s0 h) (X4_needsOf_f95 G100 t x1 x2 x3 x4 x6 s0 h) := (hg100 t x1 x2 (x3 + 1) x4 s0 x6 h)
theorem X4_needsOf_w95 {z : CZ} {g100 : Nat → Int32 → Int32 → Int32 → Int32 → Int32 → Int32 → PH → Option Rs} (hk100 : SK (X4_needsOf_x z) 100 (X4_needsOf_u100 g100)) : SK (X4_needsOf_x z) 95 (X4_needsOf_u95 (X4_needsOf_f95 g100)) := by
  intro ls st h r e
  obtain ⟨hst, e⟩ := gL_of e
  obtain ⟨t, q0, e⟩ := gT_of e
  obtain ⟨x1, q1, e⟩ := gI_of e
  obtain ⟨x2, q2, e⟩ := gI_of e
  obtain ⟨x3, q3, e⟩ := gI_of e
  obtain ⟨x4, q4, e⟩ := gI_of e
  obtain ⟨x6, q5, e⟩ := gI_of e
  obtain ⟨s0, q6, e⟩ := gI_of e
  rw [st_1 hst q6]
  exact WK.sub (canon := [some (.inr (3, t + 1)), some (.inl x1), some (.inl x2), some (.inl x3), some (.inl x4), none, some (.inl x6), none]) rfl ⟨q0, q1, q2, q3, q4, q5, trivial⟩ (X4_needsOf_s95 hk100 _ _ _ _ ((X4_needsOf_l95 g100 t x1 x2 x3 x4 x6 s0 h).trans e))
noncomputable def X4_needsOf_f100 (g20 : Nat → Int32 → Int32 → Int32 → Int32 → Int32 → Int32 → PH → Option Rs) (t : Nat) (x1 : Int32) (x2 : Int32) (x3 : Int32) (x4 : Int32) (x5 : Int32) (x6 : Int32) (h : PH) : Option Rs :=
  g20 t x1 x2 x3 x4 x5 (x6 + 1) h
set_option maxRecDepth 100000 in
theorem X4_needsOf_l100 (g20 : Nat → Int32 → Int32 → Int32 → Int32 → Int32 → Int32 → PH → Option Rs) (t : Nat) (x1 : Int32) (x2 : Int32) (x3 : Int32) (x4 : Int32) (x5 : Int32) (x6 : Int32) (h : PH) : X4_needsOf_b100 (X4_needsOf_u20 g20) [some (.inr (3, t + 1)), some (.inl x1), some (.inl x2), some (.inl x3), some (.inl x4), some (.inl x5), some (.inl x6), none] [] h = X4_needsOf_f100 g20 t x1 x2 x3 x4 x5 x6 h := rfl
theorem X4_needsOf_m100 {g20 G20 : Nat → Int32 → Int32 → Int32 → Int32 → Int32 → Int32 → PH → Option Rs} (hg20 : ∀ a0 a1 a2 a3 a4 a5 a6 a7, Mo (g20 a0 a1 a2 a3 a4 a5 a6 a7) (G20 a0 a1 a2 a3 a4 a5 a6 a7)) (t : Nat) (x1 : Int32) (x2 : Int32) (x3 : Int32) (x4 : Int32) (x5 : Int32) (x6 : Int32) (h : PH) : Mo (X4_needsOf_f100 g20 t x1 x2 x3 x4 x5 x6 h) (X4_needsOf_f100 G20 t x1 x2 x3 x4 x5 x6 h) := (hg20 t x1 x2 x3 x4 x5 (x6 + 1) h)
theorem X4_needsOf_w100 {z : CZ} {g20 : Nat → Int32 → Int32 → Int32 → Int32 → Int32 → Int32 → PH → Option Rs} (hk20 : SK (X4_needsOf_x z) 20 (X4_needsOf_u20 g20)) : SK (X4_needsOf_x z) 100 (X4_needsOf_u100 (X4_needsOf_f100 g20)) := by
  intro ls st h r e
  obtain ⟨hst, e⟩ := gL_of e
  obtain ⟨t, q0, e⟩ := gT_of e
  obtain ⟨x1, q1, e⟩ := gI_of e
  obtain ⟨x2, q2, e⟩ := gI_of e
  obtain ⟨x3, q3, e⟩ := gI_of e
  obtain ⟨x4, q4, e⟩ := gI_of e
  obtain ⟨x5, q5, e⟩ := gI_of e
  obtain ⟨x6, q6, e⟩ := gI_of e
  rw [st_0 hst]
  exact WK.sub (canon := [some (.inr (3, t + 1)), some (.inl x1), some (.inl x2), some (.inl x3), some (.inl x4), some (.inl x5), some (.inl x6), none]) rfl ⟨q0, q1, q2, q3, q4, q5, q6, trivial⟩ (X4_needsOf_s100 hk20 _ _ _ _ ((X4_needsOf_l100 g20 t x1 x2 x3 x4 x5 x6 h).trans e))
noncomputable def X4_needsOf_g15 (G : (Nat → Int32 → Int32 → Int32 → Int32 → Int32 → Int32 → PH → Option Rs)) (t : Nat) (x1 : Int32) (x2 : Int32) (x3 : Int32) (x4 : Int32) (s0 : Int32) (h : PH) : Option Rs := X4_needsOf_f15 (G) t x1 x2 x3 x4 s0 h
noncomputable def X4_needsOf_g0 (G : (Nat → Int32 → Int32 → Int32 → Int32 → Int32 → Int32 → PH → Option Rs)) (t : Nat) (x1 : Int32) (x2 : Int32) (h : PH) : Option Rs := X4_needsOf_f0 (X4_needsOf_g15 G) t x1 x2 h
noncomputable def X4_needsOf_g100 (G : (Nat → Int32 → Int32 → Int32 → Int32 → Int32 → Int32 → PH → Option Rs)) (t : Nat) (x1 : Int32) (x2 : Int32) (x3 : Int32) (x4 : Int32) (x5 : Int32) (x6 : Int32) (h : PH) : Option Rs := X4_needsOf_f100 (G) t x1 x2 x3 x4 x5 x6 h
noncomputable def X4_needsOf_g95 (G : (Nat → Int32 → Int32 → Int32 → Int32 → Int32 → Int32 → PH → Option Rs)) (t : Nat) (x1 : Int32) (x2 : Int32) (x3 : Int32) (x4 : Int32) (x6 : Int32) (s0 : Int32) (h : PH) : Option Rs := X4_needsOf_f95 (X4_needsOf_g100 G) t x1 x2 x3 x4 x6 s0 h
noncomputable def X4_needsOf_g76 (G : (Nat → Int32 → Int32 → Int32 → Int32 → Int32 → Int32 → PH → Option Rs)) (t : Nat) (x1 : Int32) (x2 : Int32) (x3 : Int32) (x5 : Int32) (x6 : Int32) (x7 : Int32) (s0 : Int32) (h : PH) : Option Rs := X4_needsOf_f76 (X4_needsOf_g95 G) t x1 x2 x3 x5 x6 x7 s0 h
noncomputable def X4_needsOf_g57 (G : (Nat → Int32 → Int32 → Int32 → Int32 → Int32 → Int32 → PH → Option Rs)) (t : Nat) (x1 : Int32) (x2 : Int32) (x3 : Int32) (x4 : Int32) (x5 : Int32) (x6 : Int32) (s0 : Int32) (h : PH) : Option Rs := X4_needsOf_f57 (X4_needsOf_g76 G) (X4_needsOf_g100 G) t x1 x2 x3 x4 x5 x6 s0 h
noncomputable def X4_needsOf_g20 (G : (Nat → Int32 → Int32 → Int32 → Int32 → Int32 → Int32 → PH → Option Rs)) (t : Nat) (x1 : Int32) (x2 : Int32) (x3 : Int32) (x4 : Int32) (x5 : Int32) (x6 : Int32) (h : PH) : Option Rs := X4_needsOf_f20 X4_heading (X4_needsOf_g57 G) t x1 x2 x3 x4 x5 x6 h
theorem X4_needsOf_v15 {z : CZ} {G : (Nat → Int32 → Int32 → Int32 → Int32 → Int32 → Int32 → PH → Option Rs)} (hG20 : SK (X4_needsOf_x z) 20 (X4_needsOf_u20 (G))) : SK (X4_needsOf_x z) 15 (X4_needsOf_u15 (X4_needsOf_g15 G)) := X4_needsOf_w15 hG20
theorem X4_needsOf_v100 {z : CZ} {G : (Nat → Int32 → Int32 → Int32 → Int32 → Int32 → Int32 → PH → Option Rs)} (hG20 : SK (X4_needsOf_x z) 20 (X4_needsOf_u20 (G))) : SK (X4_needsOf_x z) 100 (X4_needsOf_u100 (X4_needsOf_g100 G)) := X4_needsOf_w100 hG20
theorem X4_needsOf_v95 {z : CZ} {G : (Nat → Int32 → Int32 → Int32 → Int32 → Int32 → Int32 → PH → Option Rs)} (hG20 : SK (X4_needsOf_x z) 20 (X4_needsOf_u20 (G))) : SK (X4_needsOf_x z) 95 (X4_needsOf_u95 (X4_needsOf_g95 G)) := X4_needsOf_w95 (X4_needsOf_v100 hG20)
theorem X4_needsOf_v76 {z : CZ} {G : (Nat → Int32 → Int32 → Int32 → Int32 → Int32 → Int32 → PH → Option Rs)} (hG20 : SK (X4_needsOf_x z) 20 (X4_needsOf_u20 (G))) : SK (X4_needsOf_x z) 76 (X4_needsOf_u76 (X4_needsOf_g76 G)) := X4_needsOf_w76 (X4_needsOf_v95 hG20)
theorem X4_needsOf_v57 {z : CZ} {G : (Nat → Int32 → Int32 → Int32 → Int32 → Int32 → Int32 → PH → Option Rs)} (hG20 : SK (X4_needsOf_x z) 20 (X4_needsOf_u20 (G))) : SK (X4_needsOf_x z) 57 (X4_needsOf_u57 (X4_needsOf_g57 G)) := X4_needsOf_w57 (X4_needsOf_v76 hG20) (X4_needsOf_v100 hG20)
theorem X4_needsOf_v20 {z : CZ} {G : (Nat → Int32 → Int32 → Int32 → Int32 → Int32 → Int32 → PH → Option Rs)} (hG20 : SK (X4_needsOf_x z) 20 (X4_needsOf_u20 (G))) : SK (X4_needsOf_x z) 20 (X4_needsOf_u20 (X4_needsOf_g20 G)) := X4_needsOf_w20 (X4_needsOf_v57 hG20)
noncomputable def X4_needsOf_fam : Nat → (Nat → Int32 → Int32 → Int32 → Int32 → Int32 → Int32 → PH → Option Rs)
  | 0 => fun _ _ _ _ _ _ _ _ => none
  | n + 1 => X4_needsOf_g20 (X4_needsOf_fam n)
theorem X4_needsOf_k {z : CZ} : ∀ n, SK (X4_needsOf_x z) 20 (X4_needsOf_u20 (X4_needsOf_fam n))
  | 0 => (fun ls st h r e => by
      obtain ⟨_, e⟩ := gL_of e
      obtain ⟨_, _, e⟩ := gT_of e
      obtain ⟨_, _, e⟩ := gI_of e
      obtain ⟨_, _, e⟩ := gI_of e
      obtain ⟨_, _, e⟩ := gI_of e
      obtain ⟨_, _, e⟩ := gI_of e
      obtain ⟨_, _, e⟩ := gI_of e
      obtain ⟨_, _, e⟩ := gI_of e
      cases e)
  | n + 1 => by
    obtain ih20 := X4_needsOf_k n
    exact X4_needsOf_v20 ih20
theorem X4_needsOf_n15 {G G' : (Nat → Int32 → Int32 → Int32 → Int32 → Int32 → Int32 → PH → Option Rs)} (hg20 : ∀ a0 a1 a2 a3 a4 a5 a6 a7, Mo ((G) a0 a1 a2 a3 a4 a5 a6 a7) ((G') a0 a1 a2 a3 a4 a5 a6 a7)) (t : Nat) (x1 : Int32) (x2 : Int32) (x3 : Int32) (x4 : Int32) (s0 : Int32) (h : PH) : Mo (X4_needsOf_g15 G t x1 x2 x3 x4 s0 h) (X4_needsOf_g15 G' t x1 x2 x3 x4 s0 h) := X4_needsOf_m15 hg20 t x1 x2 x3 x4 s0 h
theorem X4_needsOf_n0 {G G' : (Nat → Int32 → Int32 → Int32 → Int32 → Int32 → Int32 → PH → Option Rs)} (hg20 : ∀ a0 a1 a2 a3 a4 a5 a6 a7, Mo ((G) a0 a1 a2 a3 a4 a5 a6 a7) ((G') a0 a1 a2 a3 a4 a5 a6 a7)) (t : Nat) (x1 : Int32) (x2 : Int32) (h : PH) : Mo (X4_needsOf_g0 G t x1 x2 h) (X4_needsOf_g0 G' t x1 x2 h) := X4_needsOf_m0 (fun a0 a1 a2 a3 a4 a5 a6 => X4_needsOf_n15 hg20 a0 a1 a2 a3 a4 a5 a6) t x1 x2 h
theorem X4_needsOf_n100 {G G' : (Nat → Int32 → Int32 → Int32 → Int32 → Int32 → Int32 → PH → Option Rs)} (hg20 : ∀ a0 a1 a2 a3 a4 a5 a6 a7, Mo ((G) a0 a1 a2 a3 a4 a5 a6 a7) ((G') a0 a1 a2 a3 a4 a5 a6 a7)) (t : Nat) (x1 : Int32) (x2 : Int32) (x3 : Int32) (x4 : Int32) (x5 : Int32) (x6 : Int32) (h : PH) : Mo (X4_needsOf_g100 G t x1 x2 x3 x4 x5 x6 h) (X4_needsOf_g100 G' t x1 x2 x3 x4 x5 x6 h) := X4_needsOf_m100 hg20 t x1 x2 x3 x4 x5 x6 h
theorem X4_needsOf_n95 {G G' : (Nat → Int32 → Int32 → Int32 → Int32 → Int32 → Int32 → PH → Option Rs)} (hg20 : ∀ a0 a1 a2 a3 a4 a5 a6 a7, Mo ((G) a0 a1 a2 a3 a4 a5 a6 a7) ((G') a0 a1 a2 a3 a4 a5 a6 a7)) (t : Nat) (x1 : Int32) (x2 : Int32) (x3 : Int32) (x4 : Int32) (x6 : Int32) (s0 : Int32) (h : PH) : Mo (X4_needsOf_g95 G t x1 x2 x3 x4 x6 s0 h) (X4_needsOf_g95 G' t x1 x2 x3 x4 x6 s0 h) := X4_needsOf_m95 (fun a0 a1 a2 a3 a4 a5 a6 a7 => X4_needsOf_n100 hg20 a0 a1 a2 a3 a4 a5 a6 a7) t x1 x2 x3 x4 x6 s0 h
theorem X4_needsOf_n76 {G G' : (Nat → Int32 → Int32 → Int32 → Int32 → Int32 → Int32 → PH → Option Rs)} (hg20 : ∀ a0 a1 a2 a3 a4 a5 a6 a7, Mo ((G) a0 a1 a2 a3 a4 a5 a6 a7) ((G') a0 a1 a2 a3 a4 a5 a6 a7)) (t : Nat) (x1 : Int32) (x2 : Int32) (x3 : Int32) (x5 : Int32) (x6 : Int32) (x7 : Int32) (s0 : Int32) (h : PH) : Mo (X4_needsOf_g76 G t x1 x2 x3 x5 x6 x7 s0 h) (X4_needsOf_g76 G' t x1 x2 x3 x5 x6 x7 s0 h) := X4_needsOf_m76 (fun a0 a1 a2 a3 a4 a5 a6 a7 => X4_needsOf_n95 hg20 a0 a1 a2 a3 a4 a5 a6 a7) t x1 x2 x3 x5 x6 x7 s0 h
theorem X4_needsOf_n57 {G G' : (Nat → Int32 → Int32 → Int32 → Int32 → Int32 → Int32 → PH → Option Rs)} (hg20 : ∀ a0 a1 a2 a3 a4 a5 a6 a7, Mo ((G) a0 a1 a2 a3 a4 a5 a6 a7) ((G') a0 a1 a2 a3 a4 a5 a6 a7)) (t : Nat) (x1 : Int32) (x2 : Int32) (x3 : Int32) (x4 : Int32) (x5 : Int32) (x6 : Int32) (s0 : Int32) (h : PH) : Mo (X4_needsOf_g57 G t x1 x2 x3 x4 x5 x6 s0 h) (X4_needsOf_g57 G' t x1 x2 x3 x4 x5 x6 s0 h) := X4_needsOf_m57 (fun a0 a1 a2 a3 a4 a5 a6 a7 a8 => X4_needsOf_n76 hg20 a0 a1 a2 a3 a4 a5 a6 a7 a8) (fun a0 a1 a2 a3 a4 a5 a6 a7 => X4_needsOf_n100 hg20 a0 a1 a2 a3 a4 a5 a6 a7) t x1 x2 x3 x4 x5 x6 s0 h
theorem X4_needsOf_n20 {G G' : (Nat → Int32 → Int32 → Int32 → Int32 → Int32 → Int32 → PH → Option Rs)} (hg20 : ∀ a0 a1 a2 a3 a4 a5 a6 a7, Mo ((G) a0 a1 a2 a3 a4 a5 a6 a7) ((G') a0 a1 a2 a3 a4 a5 a6 a7)) (t : Nat) (x1 : Int32) (x2 : Int32) (x3 : Int32) (x4 : Int32) (x5 : Int32) (x6 : Int32) (h : PH) : Mo (X4_needsOf_g20 G t x1 x2 x3 x4 x5 x6 h) (X4_needsOf_g20 G' t x1 x2 x3 x4 x5 x6 h) := X4_needsOf_m20 (fun a0 a1 a2 a3 a4 a5 a6 a7 a8 => X4_needsOf_n57 hg20 a0 a1 a2 a3 a4 a5 a6 a7 a8) t x1 x2 x3 x4 x5 x6 h
theorem X4_needsOf_fm : ∀ n, (∀ a0 a1 a2 a3 a4 a5 a6 a7, Mo ((X4_needsOf_fam n) a0 a1 a2 a3 a4 a5 a6 a7) ((X4_needsOf_fam (n + 1)) a0 a1 a2 a3 a4 a5 a6 a7))
  | 0 => fun _ _ _ _ _ _ _ _ => mo_no
  | n + 1 => by
    obtain ih20 := X4_needsOf_fm n
    exact fun a0 a1 a2 a3 a4 a5 a6 a7 => X4_needsOf_n20 ih20 a0 a1 a2 a3 a4 a5 a6 a7
noncomputable def X4_needsOf (t : Nat) (x1 : Int32) (x2 : Int32) (h : PH) : Option Rs := lim (fun n => X4_needsOf_g0 (X4_needsOf_fam n) t x1 x2 h)
theorem X4_needsOf_iff {t : Nat} {x1 : Int32} {x2 : Int32} {h : PH} {r : Rs} : X4_needsOf t x1 x2 h = some r ↔ ∃ n, X4_needsOf_g0 (X4_needsOf_fam n) t x1 x2 h = some r := lim_iff (fun n => by
  obtain ih20 := X4_needsOf_fm n
  exact X4_needsOf_n0 ih20 t x1 x2 h)
noncomputable abbrev X4_needsOf_F : List PV → PH → Option Rs := FW_T3II (X4_needsOf)
set_option maxRecDepth 100000 in
theorem X4_needsOf_gd (l : Launch) : Gd l 3 yX4_needsOf cX4_needsOf 8 (some .int) (X4_needsOf_F)   := Gd_of (by decide +kernel) (fun z hzl as h r e => by
  obtain ⟨hst, e⟩ := gL_of e
  obtain ⟨t, q0, e⟩ := gT_of e
  obtain ⟨x1, q1, e⟩ := gI_of e
  obtain ⟨x2, q2, e⟩ := gI_of e
  rw [st_3 hst q0 q1 q2]
  obtain ⟨n, e⟩ := lim_of e
  obtain hG20 := X4_needsOf_k (z := z) n
  exact ⟨show 3 ≤ 8 by decide, X4_needsOf_s0 (X4_needsOf_v15 hG20) _ _ _ _ ((X4_needsOf_l0 (X4_needsOf_g15 (X4_needsOf_fam n)) t x1 x2 h).trans e)⟩)
abbrev X11_needs_x (z : CZ) : CX := mx RX11 cX11_needs 6 5 (some .int) "needs" z
noncomputable def X11_needs_b0 (c_X1_hasPlace : Nat → Int32 → PH → Option Rs) (c_X11_isWithin : Int32 → Int32 → PH → Option Rs) (c_X11_roadsFor : Nat → Int32 → PH → Option Rs) (c_X4_measureAll : Nat → PH → Option Rs) (k38 : Kn) : Kn := (a_al 0 (a_gR 10 640 1 (a_il 1 (a_vI 1 1 (FW_T1I c_X1_hasPlace) (a_z (a_ic (-1000000001) a_ir) (a_il 2 (a_ic 2 (a_sI 2 (FW_II c_X11_isWithin) (a_z (a_ic (-1000000001) a_ir) (a_al 0 (a_il 2 (a_vR 10 3 1 (FW_T10I c_X11_roadsFor) (a_as 3 (a_al 3 (a_vV 3 0 (FW_T3 c_X4_measureAll) (a_ic 0 (a_is 4 (a_ic (-1) (a_is 5 k38)))))))))))))))))))
set_option maxRecDepth 100000 in
theorem X11_needs_s0 {z : CZ} {k38 : Kn} (hk38 : SK (X11_needs_x z) 38 k38) : SK (X11_needs_x z) 0 (X11_needs_b0 X1_hasPlace X11_isWithin X11_roadsFor X4_measureAll k38) := (s_aloadn (pc := 0) dX11_needs_0 rfl (s_gR (pc := 1) (f := 0) ko_10 (by decide) rfl rfl w_504 dX11_needs_1 (s_iloadn (pc := 4) dX11_needs_4 rfl (s_vI (pc := 5) (run_virtual (X1_hasPlace_gd _) (show 1 < 5 by decide) cy_X1_hasPlace (by decide) rfl w_545 w_546 w_544 dX11_needs_5) (s_ifeq (pc := 8) dX11_needs_8 (by decide) (s_ldc (pc := 19) w_551 dX11_needs_19 (s_ir (pc := 21) rfl dX11_needs_21)) (s_iloadn (pc := 11) dX11_needs_11 rfl (s_iconst (pc := 12) dX11_needs_12 c_ic_2 (s_sI (pc := 13) (run_static (X11_isWithin_gd _) (show 0 < 5 by decide) cy_X11_isWithin w_549 w_552 dX11_needs_13) (s_ifne (pc := 16) dX11_needs_16 (by decide) (s_aloadn (pc := 22) dX11_needs_22 rfl (s_iloadn (pc := 23) dX11_needs_23 rfl (s_vR (pc := 24) (run_virtual (X11_roadsFor_gd _) (show 4 < 5 by decide) cy_X11_roadsFor (by decide) rfl w_1020 w_s20 w_1018 dX11_needs_24) (s_astoren (pc := 27) dX11_needs_27 rfl (show 3 < 6 by decide) (s_aloadn (pc := 28) dX11_needs_28 rfl (s_vV (pc := 29) (run_virtual (X4_measureAll_gd _) (show 3 < 5 by decide) cy_X4_measureAll (by decide) rfl w_1101 w_1102 w_1100 dX11_needs_29) (s_iconst (pc := 32) dX11_needs_32 c_ic_0 (s_istore (pc := 33) dX11_needs_33 (show 4 < 6 by decide) (s_iconst (pc := 35) dX11_needs_35 c_ic_m1 (s_istore (pc := 36) dX11_needs_36 (show 5 < 6 by decide) hk38)))))))))) (s_ldc (pc := 19) w_551 dX11_needs_19 (s_ir (pc := 21) rfl dX11_needs_21)))))))))))
noncomputable def X11_needs_b38 (c_X4_needsOf : Nat → Int32 → Int32 → PH → Option Rs) (k38 : Kn) : Kn := (a_il 5 (a_ic 4 (a_lt (a_il 4 (a_al 3 (a_il 1 (a_il 5 (a_vI 3 2 (FW_T3II c_X4_needsOf) (a_b (fun a b => a + b) (a_is 4 (a_inc 5 1 k38)))))))) (a_il 4 a_ir))))
set_option maxRecDepth 100000 in
theorem X11_needs_s38 {z : CZ} {k38 : Kn} (hk38 : SK (X11_needs_x z) 38 k38) : SK (X11_needs_x z) 38 (X11_needs_b38 X4_needsOf k38) := (s_iload (pc := 38) dX11_needs_38 (s_iconst (pc := 40) dX11_needs_40 c_ic_4 (s_cmpge (pc := 41) dX11_needs_41 (by decide) (s_iload (pc := 62) dX11_needs_62 (s_ir (pc := 64) rfl dX11_needs_64)) (s_iload (pc := 44) dX11_needs_44 (s_aloadn (pc := 46) dX11_needs_46 rfl (s_iloadn (pc := 47) dX11_needs_47 rfl (s_iload (pc := 48) dX11_needs_48 (s_vI (pc := 50) (run_virtual (X4_needsOf_gd _) (show 3 < 5 by decide) cy_X4_needsOf (by decide) rfl w_1106 w_1107 w_1105 dX11_needs_50) (s_iadd (pc := 53) dX11_needs_53 (s_istore (pc := 54) dX11_needs_54 (show 4 < 6 by decide) (s_iinc (pc := 56) dX11_needs_56 c_ic_1 (show 5 < 6 by decide) (s_goto (pc := 59) dX11_needs_59 (by decide) hk38))))))))))))
noncomputable def X11_needs_u38 (g : Int32 → Nat → Int32 → Int32 → PH → Option Rs) : Kn := fun ls st h => gL 0 st (gI ls 1 fun x1 => gR 3 ls 3 fun x3 => gI ls 4 fun x4 => gI ls 5 fun x5 => g x1 x3 x4 x5 h)
noncomputable def X11_needs_f0 (c_X1_hasPlace : Nat → Int32 → PH → Option Rs) (c_X11_isWithin : Int32 → Int32 → PH → Option Rs) (c_X11_roadsFor : Nat → Int32 → PH → Option Rs) (c_X4_measureAll : Nat → PH → Option Rs) (g38 : Int32 → Nat → Int32 → Int32 → PH → Option Rs) (t : Nat) (x1 : Int32) (x2 : Int32) (h : PH) : Option Rs :=
  nn (hR h 640 t 0) fun r1 =>
  cI (c_X1_hasPlace r1 x1 h) fun v3 h2 =>
  if v3 = 0 then
    some (some (.inl (-1000000001)), h2)
  else
    cI (c_X11_isWithin x2 2 h2) fun v5 h4 =>
    if v5 = 0 then
      some (some (.inl (-1000000001)), h4)
    else
      cR 3 (c_X11_roadsFor t x2 h4) fun r7 h6 =>
      nn r7 fun r8 =>
      cV (c_X4_measureAll r8 h6) fun h9 =>
      g38 x1 r7 0 (-1) h9
set_option maxRecDepth 100000 in
theorem X11_needs_l0 (c_X1_hasPlace : Nat → Int32 → PH → Option Rs) (c_X11_isWithin : Int32 → Int32 → PH → Option Rs) (c_X11_roadsFor : Nat → Int32 → PH → Option Rs) (c_X4_measureAll : Nat → PH → Option Rs) (g38 : Int32 → Nat → Int32 → Int32 → PH → Option Rs) (t : Nat) (x1 : Int32) (x2 : Int32) (h : PH) : X11_needs_b0 c_X1_hasPlace c_X11_isWithin c_X11_roadsFor c_X4_measureAll (X11_needs_u38 g38) [some (.inr (10, t + 1)), some (.inl x1), some (.inl x2), none, none, none] [] h = X11_needs_f0 c_X1_hasPlace c_X11_isWithin c_X11_roadsFor c_X4_measureAll g38 t x1 x2 h := rfl
theorem X11_needs_m0 {c_X1_hasPlace : Nat → Int32 → PH → Option Rs} {c_X11_isWithin : Int32 → Int32 → PH → Option Rs} {c_X11_roadsFor : Nat → Int32 → PH → Option Rs} {c_X4_measureAll : Nat → PH → Option Rs} {g38 G38 : Int32 → Nat → Int32 → Int32 → PH → Option Rs} (hg38 : ∀ a0 a1 a2 a3 a4, Mo (g38 a0 a1 a2 a3 a4) (G38 a0 a1 a2 a3 a4)) (t : Nat) (x1 : Int32) (x2 : Int32) (h : PH) : Mo (X11_needs_f0 c_X1_hasPlace c_X11_isWithin c_X11_roadsFor c_X4_measureAll g38 t x1 x2 h) (X11_needs_f0 c_X1_hasPlace c_X11_isWithin c_X11_roadsFor c_X4_measureAll G38 t x1 x2 h) := (mo_nn fun r1 => (mo_cI fun v3 h2 => (mo_if mo_rf (mo_cI fun v5 h4 => (mo_if mo_rf (mo_cR fun r7 h6 => (mo_nn fun r8 => (mo_cV fun h9 => (hg38 x1 r7 0 (-1) h9)))))))))
noncomputable def X11_needs_f38 (c_X4_needsOf : Nat → Int32 → Int32 → PH → Option Rs) (g38 : Int32 → Nat → Int32 → Int32 → PH → Option Rs) (x1 : Int32) (x3 : Nat) (x4 : Int32) (x5 : Int32) (h : PH) : Option Rs :=
  if x5 < 4 then
    nn x3 fun r10 =>
    cI (c_X4_needsOf r10 x1 x5 h) fun v12 h11 =>
    g38 x1 x3 (x4 + v12) (x5 + 1) h11
  else
    some (some (.inl x4), h)
set_option maxRecDepth 100000 in
theorem X11_needs_l38 (c_X4_needsOf : Nat → Int32 → Int32 → PH → Option Rs) (g38 : Int32 → Nat → Int32 → Int32 → PH → Option Rs) (x1 : Int32) (x3 : Nat) (x4 : Int32) (x5 : Int32) (h : PH) : X11_needs_b38 c_X4_needsOf (X11_needs_u38 g38) [none, some (.inl x1), none, some (.inr (3, x3)), some (.inl x4), some (.inl x5)] [] h = X11_needs_f38 c_X4_needsOf g38 x1 x3 x4 x5 h := rfl
theorem X11_needs_m38 {c_X4_needsOf : Nat → Int32 → Int32 → PH → Option Rs} {g38 G38 : Int32 → Nat → Int32 → Int32 → PH → Option Rs} (hg38 : ∀ a0 a1 a2 a3 a4, Mo (g38 a0 a1 a2 a3 a4) (G38 a0 a1 a2 a3 a4)) (x1 : Int32) (x3 : Nat) (x4 : Int32) (x5 : Int32) (h : PH) : Mo (X11_needs_f38 c_X4_needsOf g38 x1 x3 x4 x5 h) (X11_needs_f38 c_X4_needsOf G38 x1 x3 x4 x5 h) := (mo_if (mo_nn fun r10 => (mo_cI fun v12 h11 => (hg38 x1 x3 (x4 + v12) (x5 + 1) h11))) mo_rf)
theorem X11_needs_w38 {z : CZ} {g38 : Int32 → Nat → Int32 → Int32 → PH → Option Rs} (hk38 : SK (X11_needs_x z) 38 (X11_needs_u38 g38)) : SK (X11_needs_x z) 38 (X11_needs_u38 (X11_needs_f38 X4_needsOf g38)) := by
  intro ls st h r e
  obtain ⟨hst, e⟩ := gL_of e
  obtain ⟨x1, q0, e⟩ := gI_of e
  obtain ⟨x3, q1, e⟩ := gR_of e
  obtain ⟨x4, q2, e⟩ := gI_of e
  obtain ⟨x5, q3, e⟩ := gI_of e
  rw [st_0 hst]
  exact WK.sub (canon := [none, some (.inl x1), none, some (.inr (3, x3)), some (.inl x4), some (.inl x5)]) rfl ⟨q0, q1, q2, q3, trivial⟩ (X11_needs_s38 hk38 _ _ _ _ ((X11_needs_l38 X4_needsOf g38 x1 x3 x4 x5 h).trans e))
noncomputable def X11_needs_g0 (G : (Int32 → Nat → Int32 → Int32 → PH → Option Rs)) (t : Nat) (x1 : Int32) (x2 : Int32) (h : PH) : Option Rs := X11_needs_f0 X1_hasPlace X11_isWithin X11_roadsFor X4_measureAll (G) t x1 x2 h
noncomputable def X11_needs_g38 (G : (Int32 → Nat → Int32 → Int32 → PH → Option Rs)) (x1 : Int32) (x3 : Nat) (x4 : Int32) (x5 : Int32) (h : PH) : Option Rs := X11_needs_f38 X4_needsOf (G) x1 x3 x4 x5 h
theorem X11_needs_v38 {z : CZ} {G : (Int32 → Nat → Int32 → Int32 → PH → Option Rs)} (hG38 : SK (X11_needs_x z) 38 (X11_needs_u38 (G))) : SK (X11_needs_x z) 38 (X11_needs_u38 (X11_needs_g38 G)) := X11_needs_w38 hG38
noncomputable def X11_needs_fam : Nat → (Int32 → Nat → Int32 → Int32 → PH → Option Rs)
  | 0 => fun _ _ _ _ _ => none
  | n + 1 => X11_needs_g38 (X11_needs_fam n)
theorem X11_needs_k {z : CZ} : ∀ n, SK (X11_needs_x z) 38 (X11_needs_u38 (X11_needs_fam n))
  | 0 => (fun ls st h r e => by
      obtain ⟨_, e⟩ := gL_of e
      obtain ⟨_, _, e⟩ := gI_of e
      obtain ⟨_, _, e⟩ := gR_of e
      obtain ⟨_, _, e⟩ := gI_of e
      obtain ⟨_, _, e⟩ := gI_of e
      cases e)
  | n + 1 => by
    obtain ih38 := X11_needs_k n
    exact X11_needs_v38 ih38
theorem X11_needs_n0 {G G' : (Int32 → Nat → Int32 → Int32 → PH → Option Rs)} (hg38 : ∀ a0 a1 a2 a3 a4, Mo ((G) a0 a1 a2 a3 a4) ((G') a0 a1 a2 a3 a4)) (t : Nat) (x1 : Int32) (x2 : Int32) (h : PH) : Mo (X11_needs_g0 G t x1 x2 h) (X11_needs_g0 G' t x1 x2 h) := X11_needs_m0 hg38 t x1 x2 h
theorem X11_needs_n38 {G G' : (Int32 → Nat → Int32 → Int32 → PH → Option Rs)} (hg38 : ∀ a0 a1 a2 a3 a4, Mo ((G) a0 a1 a2 a3 a4) ((G') a0 a1 a2 a3 a4)) (x1 : Int32) (x3 : Nat) (x4 : Int32) (x5 : Int32) (h : PH) : Mo (X11_needs_g38 G x1 x3 x4 x5 h) (X11_needs_g38 G' x1 x3 x4 x5 h) := X11_needs_m38 hg38 x1 x3 x4 x5 h
theorem X11_needs_fm : ∀ n, (∀ a0 a1 a2 a3 a4, Mo ((X11_needs_fam n) a0 a1 a2 a3 a4) ((X11_needs_fam (n + 1)) a0 a1 a2 a3 a4))
  | 0 => fun _ _ _ _ _ => mo_no
  | n + 1 => by
    obtain ih38 := X11_needs_fm n
    exact fun a0 a1 a2 a3 a4 => X11_needs_n38 ih38 a0 a1 a2 a3 a4
noncomputable def X11_needs (t : Nat) (x1 : Int32) (x2 : Int32) (h : PH) : Option Rs := lim (fun n => X11_needs_g0 (X11_needs_fam n) t x1 x2 h)
theorem X11_needs_iff {t : Nat} {x1 : Int32} {x2 : Int32} {h : PH} {r : Rs} : X11_needs t x1 x2 h = some r ↔ ∃ n, X11_needs_g0 (X11_needs_fam n) t x1 x2 h = some r := lim_iff (fun n => by
  obtain ih38 := X11_needs_fm n
  exact X11_needs_n0 ih38 t x1 x2 h)
noncomputable abbrev X11_needs_F : List PV → PH → Option Rs := FW_T10II (X11_needs)
set_option maxRecDepth 100000 in
theorem X11_needs_gd (l : Launch) : Gd l 5 yX11_needs cX11_needs 6 (some .int) (X11_needs_F)   := Gd_of (by decide +kernel) (fun z hzl as h r e => by
  obtain ⟨hst, e⟩ := gL_of e
  obtain ⟨t, q0, e⟩ := gT_of e
  obtain ⟨x1, q1, e⟩ := gI_of e
  obtain ⟨x2, q2, e⟩ := gI_of e
  rw [st_3 hst q0 q1 q2]
  obtain ⟨n, e⟩ := lim_of e
  obtain hG38 := X11_needs_k (z := z) n
  exact ⟨show 3 ≤ 6 by decide, X11_needs_s0 hG38 _ _ _ _ ((X11_needs_l0 X1_hasPlace X11_isWithin X11_roadsFor X4_measureAll (X11_needs_fam n) t x1 x2 h).trans e)⟩)
abbrev X4_headingOfGroup_x (z : CZ) : CX := mx RX4 cX4_headingOfGroup 7 3 (some .int) "headingOfGroup" z
noncomputable def X4_headingOfGroup_b0 (k9 : Kn) : Kn := (a_ic 1000000 (a_is 3 (a_ic (-1) (a_is 4 (a_ic 0 (a_is 5 k9))))))
set_option maxRecDepth 100000 in
theorem X4_headingOfGroup_s0 {z : CZ} {k9 : Kn} (hk9 : SK (X4_headingOfGroup_x z) 9 k9) : SK (X4_headingOfGroup_x z) 0 (X4_headingOfGroup_b0 k9) := (s_ldc (pc := 0) w_1027 dX4_headingOfGroup_0 (s_istoren (pc := 2) dX4_headingOfGroup_2 rfl (show 3 < 7 by decide) (s_iconst (pc := 3) dX4_headingOfGroup_3 c_ic_m1 (s_istore (pc := 4) dX4_headingOfGroup_4 (show 4 < 7 by decide) (s_iconst (pc := 6) dX4_headingOfGroup_6 c_ic_0 (s_istore (pc := 7) dX4_headingOfGroup_7 (show 5 < 7 by decide) hk9))))))
noncomputable def X4_headingOfGroup_b9 (c_X4_minutesFrom : Nat → Int32 → Int32 → PH → Option Rs) (c_X4_heading : Nat → Int32 → Int32 → PH → Option Rs) (k67 : Kn) : Kn := (a_il 5 (a_al 0 (a_gR 3 193 1 (a_gI 1 74 (a_lt (a_al 0 (a_il 1 (a_il 5 (a_vI 3 2 (FW_T3II c_X4_minutesFrom) (a_is 6 (a_al 0 (a_gR 3 193 1 (a_gR 1 67 17 (a_il 5 (a_ald 17 1088 (a_il 2 (a_eq (a_il 6 (a_p (a_il 6 (a_il 3 (a_lt (a_il 6 (a_is 3 (a_al 0 (a_il 1 (a_il 5 (a_vI 3 2 (FW_T3II c_X4_heading) (a_is 4 k67))))))) k67))) k67)) k67)))))))))))) (a_il 4 a_ir))))))
set_option maxRecDepth 100000 in
theorem X4_headingOfGroup_s9 {z : CZ} {k67 : Kn} (hk67 : SK (X4_headingOfGroup_x z) 67 k67) : SK (X4_headingOfGroup_x z) 9 (X4_headingOfGroup_b9 X4_minutesFrom X4_heading k67) := (s_iload (pc := 9) dX4_headingOfGroup_9 (s_aloadn (pc := 11) dX4_headingOfGroup_11 rfl (s_gR (pc := 12) (f := 1) ko_3 (by decide) rfl rfl w_313 dX4_headingOfGroup_12 (s_gI (pc := 15) (f := 10) ko_1 (by decide) rfl rfl w_249 dX4_headingOfGroup_15 (s_cmpge (pc := 18) dX4_headingOfGroup_18 (by decide) (s_iload (pc := 73) dX4_headingOfGroup_73 (s_ir (pc := 75) rfl dX4_headingOfGroup_75)) (s_aloadn (pc := 21) dX4_headingOfGroup_21 rfl (s_iloadn (pc := 22) dX4_headingOfGroup_22 rfl (s_iload (pc := 23) dX4_headingOfGroup_23 (s_vI (pc := 25) (run_virtual (X4_minutesFrom_gd _) (show 0 < 3 by decide) cy_X4_minutesFrom (by decide) rfl w_1037 w_1038 w_1049 dX4_headingOfGroup_25) (s_istore (pc := 28) dX4_headingOfGroup_28 (show 6 < 7 by decide) (s_aloadn (pc := 30) dX4_headingOfGroup_30 rfl (s_gR (pc := 31) (f := 1) ko_3 (by decide) rfl rfl w_313 dX4_headingOfGroup_31 (s_gR (pc := 34) (f := 3) ko_1 (by decide) rfl rfl w_228 dX4_headingOfGroup_34 (s_iload (pc := 37) dX4_headingOfGroup_37 (s_iald (pc := 39) (by decide) (by decide) rfl rfl rfl dX4_headingOfGroup_39 (s_iloadn (pc := 40) dX4_headingOfGroup_40 rfl (s_cmpne (pc := 41) dX4_headingOfGroup_41 (by decide) hk67 (s_iload (pc := 44) dX4_headingOfGroup_44 (s_ifle (pc := 46) dX4_headingOfGroup_46 (by decide) hk67 (s_iload (pc := 49) dX4_headingOfGroup_49 (s_iloadn (pc := 51) dX4_headingOfGroup_51 rfl (s_cmpge (pc := 52) dX4_headingOfGroup_52 (by decide) hk67 (s_iload (pc := 55) dX4_headingOfGroup_55 (s_istoren (pc := 57) dX4_headingOfGroup_57 rfl (show 3 < 7 by decide) (s_aloadn (pc := 58) dX4_headingOfGroup_58 rfl (s_iloadn (pc := 59) dX4_headingOfGroup_59 rfl (s_iload (pc := 60) dX4_headingOfGroup_60 (s_vI (pc := 62) (run_virtual (X4_heading_gd _) (show 2 < 3 by decide) cy_X4_heading (by decide) rfl w_1046 w_1047 w_1109 dX4_headingOfGroup_62) (s_istore (pc := 65) dX4_headingOfGroup_65 (show 4 < 7 by decide) hk67)))))))))))))))))))))))))))))
noncomputable def X4_headingOfGroup_b67 (k9 : Kn) : Kn := (a_inc 5 1 k9)
set_option maxRecDepth 100000 in
theorem X4_headingOfGroup_s67 {z : CZ} {k9 : Kn} (hk9 : SK (X4_headingOfGroup_x z) 9 k9) : SK (X4_headingOfGroup_x z) 67 (X4_headingOfGroup_b67 k9) := (s_iinc (pc := 67) dX4_headingOfGroup_67 c_ic_1 (show 5 < 7 by decide) (s_goto (pc := 70) dX4_headingOfGroup_70 (by decide) hk9))
noncomputable def X4_headingOfGroup_u9 (g : Nat → Int32 → Int32 → Int32 → Int32 → Int32 → PH → Option Rs) : Kn := fun ls st h => gL 0 st (gT 3 ls 0 fun t => gI ls 1 fun x1 => gI ls 2 fun x2 => gI ls 3 fun x3 => gI ls 4 fun x4 => gI ls 5 fun x5 => g t x1 x2 x3 x4 x5 h)
noncomputable def X4_headingOfGroup_u67 (g : Nat → Int32 → Int32 → Int32 → Int32 → Int32 → PH → Option Rs) : Kn := fun ls st h => gL 0 st (gT 3 ls 0 fun t => gI ls 1 fun x1 => gI ls 2 fun x2 => gI ls 3 fun x3 => gI ls 4 fun x4 => gI ls 5 fun x5 => g t x1 x2 x3 x4 x5 h)
noncomputable def X4_headingOfGroup_f0 (g9 : Nat → Int32 → Int32 → Int32 → Int32 → Int32 → PH → Option Rs) (t : Nat) (x1 : Int32) (x2 : Int32) (h : PH) : Option Rs :=
  g9 t x1 x2 1000000 (-1) 0 h
set_option maxRecDepth 100000 in
theorem X4_headingOfGroup_l0 (g9 : Nat → Int32 → Int32 → Int32 → Int32 → Int32 → PH → Option Rs) (t : Nat) (x1 : Int32) (x2 : Int32) (h : PH) : X4_headingOfGroup_b0 (X4_headingOfGroup_u9 g9) [some (.inr (3, t + 1)), some (.inl x1), some (.inl x2), none, none, none, none] [] h = X4_headingOfGroup_f0 g9 t x1 x2 h := rfl
theorem X4_headingOfGroup_m0 {g9 G9 : Nat → Int32 → Int32 → Int32 → Int32 → Int32 → PH → Option Rs} (hg9 : ∀ a0 a1 a2 a3 a4 a5 a6, Mo (g9 a0 a1 a2 a3 a4 a5 a6) (G9 a0 a1 a2 a3 a4 a5 a6)) (t : Nat) (x1 : Int32) (x2 : Int32) (h : PH) : Mo (X4_headingOfGroup_f0 g9 t x1 x2 h) (X4_headingOfGroup_f0 G9 t x1 x2 h) := (hg9 t x1 x2 1000000 (-1) 0 h)
noncomputable def X4_headingOfGroup_f9 (c_X4_minutesFrom : Nat → Int32 → Int32 → PH → Option Rs) (c_X4_heading : Nat → Int32 → Int32 → PH → Option Rs) (g67 : Nat → Int32 → Int32 → Int32 → Int32 → Int32 → PH → Option Rs) (t : Nat) (x1 : Int32) (x2 : Int32) (x3 : Int32) (x4 : Int32) (x5 : Int32) (h : PH) : Option Rs :=
  nn (hR h 193 t 0) fun r1 =>
  if x5 < (hI h 74 r1 0) then
    cI (c_X4_minutesFrom t x1 x5 h) fun v3 h2 =>
    nn (hR h2 193 t 0) fun r4 =>
    nn (hR h2 67 r4 0) fun r5 =>
    ix x5 (hL h2 17 r5) fun j6 =>
    if (hI h2 1088 r5 j6) = x2 then
      if 0 < v3 then
        if v3 < x3 then
          cI (c_X4_heading t x1 x5 h2) fun v8 h7 =>
          g67 t x1 x2 v3 v8 x5 h7
        else
          g67 t x1 x2 x3 x4 x5 h2
      else
        g67 t x1 x2 x3 x4 x5 h2
    else
      g67 t x1 x2 x3 x4 x5 h2
  else
    some (some (.inl x4), h)
set_option maxRecDepth 100000 in
theorem X4_headingOfGroup_l9 (c_X4_minutesFrom : Nat → Int32 → Int32 → PH → Option Rs) (c_X4_heading : Nat → Int32 → Int32 → PH → Option Rs) (g67 : Nat → Int32 → Int32 → Int32 → Int32 → Int32 → PH → Option Rs) (t : Nat) (x1 : Int32) (x2 : Int32) (x3 : Int32) (x4 : Int32) (x5 : Int32) (h : PH) : X4_headingOfGroup_b9 c_X4_minutesFrom c_X4_heading (X4_headingOfGroup_u67 g67) [some (.inr (3, t + 1)), some (.inl x1), some (.inl x2), some (.inl x3), some (.inl x4), some (.inl x5), none] [] h = X4_headingOfGroup_f9 c_X4_minutesFrom c_X4_heading g67 t x1 x2 x3 x4 x5 h := rfl
theorem X4_headingOfGroup_m9 {c_X4_minutesFrom : Nat → Int32 → Int32 → PH → Option Rs} {c_X4_heading : Nat → Int32 → Int32 → PH → Option Rs} {g67 G67 : Nat → Int32 → Int32 → Int32 → Int32 → Int32 → PH → Option Rs} (hg67 : ∀ a0 a1 a2 a3 a4 a5 a6, Mo (g67 a0 a1 a2 a3 a4 a5 a6) (G67 a0 a1 a2 a3 a4 a5 a6)) (t : Nat) (x1 : Int32) (x2 : Int32) (x3 : Int32) (x4 : Int32) (x5 : Int32) (h : PH) : Mo (X4_headingOfGroup_f9 c_X4_minutesFrom c_X4_heading g67 t x1 x2 x3 x4 x5 h) (X4_headingOfGroup_f9 c_X4_minutesFrom c_X4_heading G67 t x1 x2 x3 x4 x5 h) := (mo_nn fun r1 => (mo_if (mo_cI fun v3 h2 => (mo_nn fun r4 => (mo_nn fun r5 => (mo_ix fun j6 => (mo_if (mo_if (mo_if (mo_cI fun v8 h7 => (hg67 t x1 x2 v3 v8 x5 h7)) (hg67 t x1 x2 x3 x4 x5 h2)) (hg67 t x1 x2 x3 x4 x5 h2)) (hg67 t x1 x2 x3 x4 x5 h2)))))) mo_rf))
theorem X4_headingOfGroup_w9 {z : CZ} {g67 : Nat → Int32 → Int32 → Int32 → Int32 → Int32 → PH → Option Rs} (hk67 : SK (X4_headingOfGroup_x z) 67 (X4_headingOfGroup_u67 g67)) : SK (X4_headingOfGroup_x z) 9 (X4_headingOfGroup_u9 (X4_headingOfGroup_f9 X4_minutesFrom X4_heading g67)) := by
  intro ls st h r e
  obtain ⟨hst, e⟩ := gL_of e
  obtain ⟨t, q0, e⟩ := gT_of e
  obtain ⟨x1, q1, e⟩ := gI_of e
  obtain ⟨x2, q2, e⟩ := gI_of e
  obtain ⟨x3, q3, e⟩ := gI_of e
  obtain ⟨x4, q4, e⟩ := gI_of e
  obtain ⟨x5, q5, e⟩ := gI_of e
  rw [st_0 hst]
  exact WK.sub (canon := [some (.inr (3, t + 1)), some (.inl x1), some (.inl x2), some (.inl x3), some (.inl x4), some (.inl x5), none]) rfl ⟨q0, q1, q2, q3, q4, q5, trivial⟩ (X4_headingOfGroup_s9 hk67 _ _ _ _ ((X4_headingOfGroup_l9 X4_minutesFrom X4_heading g67 t x1 x2 x3 x4 x5 h).trans e))
noncomputable def X4_headingOfGroup_f67 (g9 : Nat → Int32 → Int32 → Int32 → Int32 → Int32 → PH → Option Rs) (t : Nat) (x1 : Int32) (x2 : Int32) (x3 : Int32) (x4 : Int32) (x5 : Int32) (h : PH) : Option Rs :=
  g9 t x1 x2 x3 x4 (x5 + 1) h
set_option maxRecDepth 100000 in
theorem X4_headingOfGroup_l67 (g9 : Nat → Int32 → Int32 → Int32 → Int32 → Int32 → PH → Option Rs) (t : Nat) (x1 : Int32) (x2 : Int32) (x3 : Int32) (x4 : Int32) (x5 : Int32) (h : PH) : X4_headingOfGroup_b67 (X4_headingOfGroup_u9 g9) [some (.inr (3, t + 1)), some (.inl x1), some (.inl x2), some (.inl x3), some (.inl x4), some (.inl x5), none] [] h = X4_headingOfGroup_f67 g9 t x1 x2 x3 x4 x5 h := rfl
theorem X4_headingOfGroup_m67 {g9 G9 : Nat → Int32 → Int32 → Int32 → Int32 → Int32 → PH → Option Rs} (hg9 : ∀ a0 a1 a2 a3 a4 a5 a6, Mo (g9 a0 a1 a2 a3 a4 a5 a6) (G9 a0 a1 a2 a3 a4 a5 a6)) (t : Nat) (x1 : Int32) (x2 : Int32) (x3 : Int32) (x4 : Int32) (x5 : Int32) (h : PH) : Mo (X4_headingOfGroup_f67 g9 t x1 x2 x3 x4 x5 h) (X4_headingOfGroup_f67 G9 t x1 x2 x3 x4 x5 h) := (hg9 t x1 x2 x3 x4 (x5 + 1) h)
theorem X4_headingOfGroup_w67 {z : CZ} {g9 : Nat → Int32 → Int32 → Int32 → Int32 → Int32 → PH → Option Rs} (hk9 : SK (X4_headingOfGroup_x z) 9 (X4_headingOfGroup_u9 g9)) : SK (X4_headingOfGroup_x z) 67 (X4_headingOfGroup_u67 (X4_headingOfGroup_f67 g9)) := by
  intro ls st h r e
  obtain ⟨hst, e⟩ := gL_of e
  obtain ⟨t, q0, e⟩ := gT_of e
  obtain ⟨x1, q1, e⟩ := gI_of e
  obtain ⟨x2, q2, e⟩ := gI_of e
  obtain ⟨x3, q3, e⟩ := gI_of e
  obtain ⟨x4, q4, e⟩ := gI_of e
  obtain ⟨x5, q5, e⟩ := gI_of e
  rw [st_0 hst]
  exact WK.sub (canon := [some (.inr (3, t + 1)), some (.inl x1), some (.inl x2), some (.inl x3), some (.inl x4), some (.inl x5), none]) rfl ⟨q0, q1, q2, q3, q4, q5, trivial⟩ (X4_headingOfGroup_s67 hk9 _ _ _ _ ((X4_headingOfGroup_l67 g9 t x1 x2 x3 x4 x5 h).trans e))
noncomputable def X4_headingOfGroup_g0 (G : (Nat → Int32 → Int32 → Int32 → Int32 → Int32 → PH → Option Rs)) (t : Nat) (x1 : Int32) (x2 : Int32) (h : PH) : Option Rs := X4_headingOfGroup_f0 (G) t x1 x2 h
noncomputable def X4_headingOfGroup_g67 (G : (Nat → Int32 → Int32 → Int32 → Int32 → Int32 → PH → Option Rs)) (t : Nat) (x1 : Int32) (x2 : Int32) (x3 : Int32) (x4 : Int32) (x5 : Int32) (h : PH) : Option Rs := X4_headingOfGroup_f67 (G) t x1 x2 x3 x4 x5 h
noncomputable def X4_headingOfGroup_g9 (G : (Nat → Int32 → Int32 → Int32 → Int32 → Int32 → PH → Option Rs)) (t : Nat) (x1 : Int32) (x2 : Int32) (x3 : Int32) (x4 : Int32) (x5 : Int32) (h : PH) : Option Rs := X4_headingOfGroup_f9 X4_minutesFrom X4_heading (X4_headingOfGroup_g67 G) t x1 x2 x3 x4 x5 h
theorem X4_headingOfGroup_v67 {z : CZ} {G : (Nat → Int32 → Int32 → Int32 → Int32 → Int32 → PH → Option Rs)} (hG9 : SK (X4_headingOfGroup_x z) 9 (X4_headingOfGroup_u9 (G))) : SK (X4_headingOfGroup_x z) 67 (X4_headingOfGroup_u67 (X4_headingOfGroup_g67 G)) := X4_headingOfGroup_w67 hG9
theorem X4_headingOfGroup_v9 {z : CZ} {G : (Nat → Int32 → Int32 → Int32 → Int32 → Int32 → PH → Option Rs)} (hG9 : SK (X4_headingOfGroup_x z) 9 (X4_headingOfGroup_u9 (G))) : SK (X4_headingOfGroup_x z) 9 (X4_headingOfGroup_u9 (X4_headingOfGroup_g9 G)) := X4_headingOfGroup_w9 (X4_headingOfGroup_v67 hG9)
noncomputable def X4_headingOfGroup_fam : Nat → (Nat → Int32 → Int32 → Int32 → Int32 → Int32 → PH → Option Rs)
  | 0 => fun _ _ _ _ _ _ _ => none
  | n + 1 => X4_headingOfGroup_g9 (X4_headingOfGroup_fam n)
theorem X4_headingOfGroup_k {z : CZ} : ∀ n, SK (X4_headingOfGroup_x z) 9 (X4_headingOfGroup_u9 (X4_headingOfGroup_fam n))
  | 0 => (fun ls st h r e => by
      obtain ⟨_, e⟩ := gL_of e
      obtain ⟨_, _, e⟩ := gT_of e
      obtain ⟨_, _, e⟩ := gI_of e
      obtain ⟨_, _, e⟩ := gI_of e
      obtain ⟨_, _, e⟩ := gI_of e
      obtain ⟨_, _, e⟩ := gI_of e
      obtain ⟨_, _, e⟩ := gI_of e
      cases e)
  | n + 1 => by
    obtain ih9 := X4_headingOfGroup_k n
    exact X4_headingOfGroup_v9 ih9
theorem X4_headingOfGroup_n0 {G G' : (Nat → Int32 → Int32 → Int32 → Int32 → Int32 → PH → Option Rs)} (hg9 : ∀ a0 a1 a2 a3 a4 a5 a6, Mo ((G) a0 a1 a2 a3 a4 a5 a6) ((G') a0 a1 a2 a3 a4 a5 a6)) (t : Nat) (x1 : Int32) (x2 : Int32) (h : PH) : Mo (X4_headingOfGroup_g0 G t x1 x2 h) (X4_headingOfGroup_g0 G' t x1 x2 h) := X4_headingOfGroup_m0 hg9 t x1 x2 h
theorem X4_headingOfGroup_n67 {G G' : (Nat → Int32 → Int32 → Int32 → Int32 → Int32 → PH → Option Rs)} (hg9 : ∀ a0 a1 a2 a3 a4 a5 a6, Mo ((G) a0 a1 a2 a3 a4 a5 a6) ((G') a0 a1 a2 a3 a4 a5 a6)) (t : Nat) (x1 : Int32) (x2 : Int32) (x3 : Int32) (x4 : Int32) (x5 : Int32) (h : PH) : Mo (X4_headingOfGroup_g67 G t x1 x2 x3 x4 x5 h) (X4_headingOfGroup_g67 G' t x1 x2 x3 x4 x5 h) := X4_headingOfGroup_m67 hg9 t x1 x2 x3 x4 x5 h
theorem X4_headingOfGroup_n9 {G G' : (Nat → Int32 → Int32 → Int32 → Int32 → Int32 → PH → Option Rs)} (hg9 : ∀ a0 a1 a2 a3 a4 a5 a6, Mo ((G) a0 a1 a2 a3 a4 a5 a6) ((G') a0 a1 a2 a3 a4 a5 a6)) (t : Nat) (x1 : Int32) (x2 : Int32) (x3 : Int32) (x4 : Int32) (x5 : Int32) (h : PH) : Mo (X4_headingOfGroup_g9 G t x1 x2 x3 x4 x5 h) (X4_headingOfGroup_g9 G' t x1 x2 x3 x4 x5 h) := X4_headingOfGroup_m9 (fun a0 a1 a2 a3 a4 a5 a6 => X4_headingOfGroup_n67 hg9 a0 a1 a2 a3 a4 a5 a6) t x1 x2 x3 x4 x5 h
theorem X4_headingOfGroup_fm : ∀ n, (∀ a0 a1 a2 a3 a4 a5 a6, Mo ((X4_headingOfGroup_fam n) a0 a1 a2 a3 a4 a5 a6) ((X4_headingOfGroup_fam (n + 1)) a0 a1 a2 a3 a4 a5 a6))
  | 0 => fun _ _ _ _ _ _ _ => mo_no
  | n + 1 => by
    obtain ih9 := X4_headingOfGroup_fm n
    exact fun a0 a1 a2 a3 a4 a5 a6 => X4_headingOfGroup_n9 ih9 a0 a1 a2 a3 a4 a5 a6
noncomputable def X4_headingOfGroup (t : Nat) (x1 : Int32) (x2 : Int32) (h : PH) : Option Rs := lim (fun n => X4_headingOfGroup_g0 (X4_headingOfGroup_fam n) t x1 x2 h)
theorem X4_headingOfGroup_iff {t : Nat} {x1 : Int32} {x2 : Int32} {h : PH} {r : Rs} : X4_headingOfGroup t x1 x2 h = some r ↔ ∃ n, X4_headingOfGroup_g0 (X4_headingOfGroup_fam n) t x1 x2 h = some r := lim_iff (fun n => by
  obtain ih9 := X4_headingOfGroup_fm n
  exact X4_headingOfGroup_n0 ih9 t x1 x2 h)
noncomputable abbrev X4_headingOfGroup_F : List PV → PH → Option Rs := FW_T3II (X4_headingOfGroup)
set_option maxRecDepth 100000 in
theorem X4_headingOfGroup_gd (l : Launch) : Gd l 3 yX4_headingOfGroup cX4_headingOfGroup 7 (some .int) (X4_headingOfGroup_F)   := Gd_of (by decide +kernel) (fun z hzl as h r e => by
  obtain ⟨hst, e⟩ := gL_of e
  obtain ⟨t, q0, e⟩ := gT_of e
  obtain ⟨x1, q1, e⟩ := gI_of e
  obtain ⟨x2, q2, e⟩ := gI_of e
  rw [st_3 hst q0 q1 q2]
  obtain ⟨n, e⟩ := lim_of e
  obtain hG9 := X4_headingOfGroup_k (z := z) n
  exact ⟨show 3 ≤ 7 by decide, X4_headingOfGroup_s0 hG9 _ _ _ _ ((X4_headingOfGroup_l0 (X4_headingOfGroup_fam n) t x1 x2 h).trans e)⟩)
abbrev X4_headingOfName_x (z : CZ) : CX := mx RX4 cX4_headingOfName 3 4 (some .int) "headingOfName" z
noncomputable def X4_headingOfName_b0 (c_X1_hasGoal : Nat → Int32 → PH → Option Rs) (c_X4_heading : Nat → Int32 → Int32 → PH → Option Rs) (c_X4_headingOfGroup : Nat → Int32 → Int32 → PH → Option Rs) : Kn := (a_il 2 (a_ic 10 (a_lt (a_al 0 (a_gR 3 193 1 (a_il 2 (a_vI 1 1 (FW_T1I c_X1_hasGoal) (a_z (a_ic (-1) a_ir) (a_al 0 (a_il 1 (a_il 2 (a_vI 3 2 (FW_T3II c_X4_heading) a_ir))))))))) (a_al 0 (a_il 1 (a_il 2 (a_ic 10 (a_b (fun a b => a - b) (a_vI 3 2 (FW_T3II c_X4_headingOfGroup) a_ir)))))))))
set_option maxRecDepth 100000 in
theorem X4_headingOfName_s0 {z : CZ} : SK (X4_headingOfName_x z) 0 (X4_headingOfName_b0 X1_hasGoal X4_heading X4_headingOfGroup) := (s_iloadn (pc := 0) dX4_headingOfName_0 rfl (s_bipush (pc := 1) dX4_headingOfName_1 c_bp_10 (s_cmplt (pc := 3) dX4_headingOfName_3 (by decide) (s_aloadn (pc := 16) dX4_headingOfName_16 rfl (s_gR (pc := 17) (f := 1) ko_3 (by decide) rfl rfl w_313 dX4_headingOfName_17 (s_iloadn (pc := 20) dX4_headingOfName_20 rfl (s_vI (pc := 21) (run_virtual (X1_hasGoal_gd _) (show 1 < 4 by decide) cy_X1_hasGoal (by decide) rfl w_605 w_606 w_1127 dX4_headingOfName_21) (s_ifeq (pc := 24) dX4_headingOfName_24 (by decide) (s_iconst (pc := 36) dX4_headingOfName_36 c_ic_m1 (s_ir (pc := 37) rfl dX4_headingOfName_37)) (s_aloadn (pc := 27) dX4_headingOfName_27 rfl (s_iloadn (pc := 28) dX4_headingOfName_28 rfl (s_iloadn (pc := 29) dX4_headingOfName_29 rfl (s_vI (pc := 30) (run_virtual (X4_heading_gd _) (show 2 < 4 by decide) cy_X4_heading (by decide) rfl w_1046 w_1047 w_1109 dX4_headingOfName_30) (s_goto (pc := 33) dX4_headingOfName_33 (by decide) (s_ir (pc := 37) rfl dX4_headingOfName_37))))))))))) (s_aloadn (pc := 6) dX4_headingOfName_6 rfl (s_iloadn (pc := 7) dX4_headingOfName_7 rfl (s_iloadn (pc := 8) dX4_headingOfName_8 rfl (s_bipush (pc := 9) dX4_headingOfName_9 c_bp_10 (s_isub (pc := 11) dX4_headingOfName_11 (s_vI (pc := 12) (run_virtual (X4_headingOfGroup_gd _) (show 3 < 4 by decide) cy_X4_headingOfGroup (by decide) rfl w_1125 w_s25 w_1123 dX4_headingOfName_12) (s_ir (pc := 15) rfl dX4_headingOfName_15))))))))))
noncomputable def X4_headingOfName_f0 (c_X1_hasGoal : Nat → Int32 → PH → Option Rs) (c_X4_heading : Nat → Int32 → Int32 → PH → Option Rs) (c_X4_headingOfGroup : Nat → Int32 → Int32 → PH → Option Rs) (t : Nat) (x1 : Int32) (x2 : Int32) (h : PH) : Option Rs :=
  if x2 < 10 then
    nn (hR h 193 t 0) fun r1 =>
    cI (c_X1_hasGoal r1 x2 h) fun v3 h2 =>
    if v3 = 0 then
      some (some (.inl (-1)), h2)
    else
      cI (c_X4_heading t x1 x2 h2) fun v5 h4 =>
      some (some (.inl v5), h4)
  else
    cI (c_X4_headingOfGroup t x1 (x2 - 10) h) fun v7 h6 =>
    some (some (.inl v7), h6)
set_option maxRecDepth 100000 in
theorem X4_headingOfName_l0 (c_X1_hasGoal : Nat → Int32 → PH → Option Rs) (c_X4_heading : Nat → Int32 → Int32 → PH → Option Rs) (c_X4_headingOfGroup : Nat → Int32 → Int32 → PH → Option Rs) (t : Nat) (x1 : Int32) (x2 : Int32) (h : PH) : X4_headingOfName_b0 c_X1_hasGoal c_X4_heading c_X4_headingOfGroup [some (.inr (3, t + 1)), some (.inl x1), some (.inl x2)] [] h = X4_headingOfName_f0 c_X1_hasGoal c_X4_heading c_X4_headingOfGroup t x1 x2 h := rfl
noncomputable def X4_headingOfName_g0 (t : Nat) (x1 : Int32) (x2 : Int32) (h : PH) : Option Rs := X4_headingOfName_f0 X1_hasGoal X4_heading X4_headingOfGroup t x1 x2 h
noncomputable def X4_headingOfName (t : Nat) (x1 : Int32) (x2 : Int32) (h : PH) : Option Rs := X4_headingOfName_g0 t x1 x2 h
noncomputable abbrev X4_headingOfName_F : List PV → PH → Option Rs := FW_T3II (X4_headingOfName)
set_option maxRecDepth 100000 in
theorem X4_headingOfName_gd (l : Launch) : Gd l 4 yX4_headingOfName cX4_headingOfName 3 (some .int) (X4_headingOfName_F)   := Gd_of (by decide +kernel) (fun z hzl as h r e => by
  obtain ⟨hst, e⟩ := gL_of e
  obtain ⟨t, q0, e⟩ := gT_of e
  obtain ⟨x1, q1, e⟩ := gI_of e
  obtain ⟨x2, q2, e⟩ := gI_of e
  rw [st_3 hst q0 q1 q2]
  exact ⟨show 3 ≤ 3 by decide, X4_headingOfName_s0 _ _ _ _ ((X4_headingOfName_l0 X1_hasGoal X4_heading X4_headingOfGroup t x1 x2 h).trans e)⟩)
abbrev X11_wrongRows_x (z : CZ) : CX := mx RX11 cX11_wrongRows 9 5 (some .int) "wrongRows" z
noncomputable def X11_wrongRows_b0 (c_X11_roadsFor : Nat → Int32 → PH → Option Rs) (c_X4_measureAll : Nat → PH → Option Rs) (k16 : Kn) : Kn := (a_al 0 (a_il 1 (a_vR 10 3 1 (FW_T10I c_X11_roadsFor) (a_as 3 (a_al 3 (a_vV 3 0 (FW_T3 c_X4_measureAll) (a_ic 0 (a_is 4 (a_ic 0 (a_is 5 k16))))))))))
set_option maxRecDepth 100000 in
theorem X11_wrongRows_s0 {z : CZ} {k16 : Kn} (hk16 : SK (X11_wrongRows_x z) 16 k16) : SK (X11_wrongRows_x z) 0 (X11_wrongRows_b0 X11_roadsFor X4_measureAll k16) := (s_aloadn (pc := 0) dX11_wrongRows_0 rfl (s_iloadn (pc := 1) dX11_wrongRows_1 rfl (s_vR (pc := 2) (run_virtual (X11_roadsFor_gd _) (show 4 < 5 by decide) cy_X11_roadsFor (by decide) rfl w_1020 w_s20 w_1018 dX11_wrongRows_2) (s_astoren (pc := 5) dX11_wrongRows_5 rfl (show 3 < 9 by decide) (s_aloadn (pc := 6) dX11_wrongRows_6 rfl (s_vV (pc := 7) (run_virtual (X4_measureAll_gd _) (show 3 < 5 by decide) cy_X4_measureAll (by decide) rfl w_1101 w_1102 w_1100 dX11_wrongRows_7) (s_iconst (pc := 10) dX11_wrongRows_10 c_ic_0 (s_istore (pc := 11) dX11_wrongRows_11 (show 4 < 9 by decide) (s_iconst (pc := 13) dX11_wrongRows_13 c_ic_0 (s_istore (pc := 14) dX11_wrongRows_14 (show 5 < 9 by decide) hk16))))))))))
noncomputable def X11_wrongRows_b16 (k43 : Kn) : Kn := (a_il 5 (a_al 0 (a_gR 10 640 1 (a_gI 1 75 (a_lt (a_al 0 (a_gR 10 640 1 (a_gR 1 68 18 (a_il 5 (a_rald 18 1152 5 (a_as 6 (a_ic 0 (a_is 7 k43)))))))) (a_il 4 a_ir))))))
set_option maxRecDepth 100000 in
theorem X11_wrongRows_s16 {z : CZ} {k43 : Kn} (hk43 : SK (X11_wrongRows_x z) 43 k43) : SK (X11_wrongRows_x z) 16 (X11_wrongRows_b16 k43) := (s_iload (pc := 16) dX11_wrongRows_16 (s_aloadn (pc := 18) dX11_wrongRows_18 rfl (s_gR (pc := 19) (f := 0) ko_10 (by decide) rfl rfl w_504 dX11_wrongRows_19 (s_gI (pc := 22) (f := 11) ko_1 (by decide) rfl rfl w_255 dX11_wrongRows_22 (s_cmpge (pc := 25) dX11_wrongRows_25 (by decide) (s_iload (pc := 131) dX11_wrongRows_131 (s_ir (pc := 133) rfl dX11_wrongRows_133)) (s_aloadn (pc := 28) dX11_wrongRows_28 rfl (s_gR (pc := 29) (f := 0) ko_10 (by decide) rfl rfl w_504 dX11_wrongRows_29 (s_gR (pc := 32) (f := 4) ko_1 (by decide) rfl rfl w_233 dX11_wrongRows_32 (s_iload (pc := 35) dX11_wrongRows_35 (s_rald (pc := 37) (by decide) (by decide) rfl rfl rfl dX11_wrongRows_37 (s_astore (pc := 38) dX11_wrongRows_38 (show 6 < 9 by decide) (s_iconst (pc := 40) dX11_wrongRows_40 c_ic_0 (s_istore (pc := 41) dX11_wrongRows_41 (show 7 < 9 by decide) hk43)))))))))))))
noncomputable def X11_wrongRows_b43 (c_X4_headingOfName : Nat → Int32 → Int32 → PH → Option Rs) (k16 k118 k119 : Kn) : Kn := (a_il 7 (a_al 6 (a_gI 5 324 (a_lt (a_al 3 (a_al 6 (a_gI 5 320 (a_al 6 (a_gR 5 325 27 (a_il 7 (a_ald 27 1728 (a_vI 3 2 (FW_T3II c_X4_headingOfName) (a_is 8 (a_il 8 (a_ic (-1) (a_eq k119 (a_il 8 (a_al 6 (a_gR 5 326 28 (a_il 7 (a_ald 28 1792 (a_eq k119 (a_inc 4 1 (a_al 6 (a_gR 5 326 28 (a_il 7 (a_il 2 (a_z (a_al 6 (a_gR 5 326 28 (a_il 7 (a_ald 28 1792 k118)))) (a_il 8 k118))))))))))))))))))))))))) (a_inc 5 1 k16)))))
set_option maxRecDepth 100000 in
theorem X11_wrongRows_s43 {z : CZ} {k16 k118 k119 : Kn} (hk16 : SK (X11_wrongRows_x z) 16 k16) (hk118 : SK (X11_wrongRows_x z) 118 k118) (hk119 : SK (X11_wrongRows_x z) 119 k119) : SK (X11_wrongRows_x z) 43 (X11_wrongRows_b43 X4_headingOfName k16 k118 k119) := (s_iload (pc := 43) dX11_wrongRows_43 (s_aload (pc := 45) dX11_wrongRows_45 (s_gI (pc := 47) (f := 4) ko_5 (by decide) rfl rfl w_185 dX11_wrongRows_47 (s_cmpge (pc := 50) dX11_wrongRows_50 (by decide) (s_iinc (pc := 125) dX11_wrongRows_125 c_ic_1 (show 5 < 9 by decide) (s_goto (pc := 128) dX11_wrongRows_128 (by decide) hk16)) (s_aloadn (pc := 53) dX11_wrongRows_53 rfl (s_aload (pc := 54) dX11_wrongRows_54 (s_gI (pc := 56) (f := 0) ko_5 (by decide) rfl rfl w_170 dX11_wrongRows_56 (s_aload (pc := 59) dX11_wrongRows_59 (s_gR (pc := 61) (f := 5) ko_5 (by decide) rfl rfl w_189 dX11_wrongRows_61 (s_iload (pc := 64) dX11_wrongRows_64 (s_iald (pc := 66) (by decide) (by decide) rfl rfl rfl dX11_wrongRows_66 (s_vI (pc := 67) (run_virtual (X4_headingOfName_gd _) (show 4 < 5 by decide) cy_X4_headingOfName (by decide) rfl w_1120 w_1121 w_1119 dX11_wrongRows_67) (s_istore (pc := 70) dX11_wrongRows_70 (show 8 < 9 by decide) (s_iload (pc := 72) dX11_wrongRows_72 (s_iconst (pc := 74) dX11_wrongRows_74 c_ic_m1 (s_cmpeq (pc := 75) dX11_wrongRows_75 (by decide) hk119 (s_iload (pc := 78) dX11_wrongRows_78 (s_aload (pc := 80) dX11_wrongRows_80 (s_gR (pc := 82) (f := 6) ko_5 (by decide) rfl rfl w_194 dX11_wrongRows_82 (s_iload (pc := 85) dX11_wrongRows_85 (s_iald (pc := 87) (by decide) (by decide) rfl rfl rfl dX11_wrongRows_87 (s_cmpeq (pc := 88) dX11_wrongRows_88 (by decide) hk119 (s_iinc (pc := 91) dX11_wrongRows_91 c_ic_1 (show 4 < 9 by decide) (s_aload (pc := 94) dX11_wrongRows_94 (s_gR (pc := 96) (f := 6) ko_5 (by decide) rfl rfl w_194 dX11_wrongRows_96 (s_iload (pc := 99) dX11_wrongRows_99 (s_iloadn (pc := 101) dX11_wrongRows_101 rfl (s_ifeq (pc := 102) dX11_wrongRows_102 (by decide) (s_aload (pc := 110) dX11_wrongRows_110 (s_gR (pc := 112) (f := 6) ko_5 (by decide) rfl rfl w_194 dX11_wrongRows_112 (s_iload (pc := 115) dX11_wrongRows_115 (s_iald (pc := 117) (by decide) (by decide) rfl rfl rfl dX11_wrongRows_117 hk118)))) (s_iload (pc := 105) dX11_wrongRows_105 (s_goto (pc := 107) dX11_wrongRows_107 (by decide) hk118))))))))))))))))))))))))))))))
noncomputable def X11_wrongRows_b118 (k119 : Kn) : Kn := (a_ast 28 1792 (fun a => a) k119)
set_option maxRecDepth 100000 in
theorem X11_wrongRows_s118 {z : CZ} {k119 : Kn} (hk119 : SK (X11_wrongRows_x z) 119 k119) : SK (X11_wrongRows_x z) 118 (X11_wrongRows_b118 k119) := (s_iast (pc := 118) (by decide) (by decide) rfl rfl rfl dX11_wrongRows_118 hk119)
noncomputable def X11_wrongRows_b119 (k43 : Kn) : Kn := (a_inc 7 1 k43)
set_option maxRecDepth 100000 in
theorem X11_wrongRows_s119 {z : CZ} {k43 : Kn} (hk43 : SK (X11_wrongRows_x z) 43 k43) : SK (X11_wrongRows_x z) 119 (X11_wrongRows_b119 k43) := (s_iinc (pc := 119) dX11_wrongRows_119 c_ic_1 (show 7 < 9 by decide) (s_goto (pc := 122) dX11_wrongRows_122 (by decide) hk43))
noncomputable def X11_wrongRows_u16 (g : Nat → Int32 → Nat → Int32 → Int32 → PH → Option Rs) : Kn := fun ls st h => gL 0 st (gT 10 ls 0 fun t => gI ls 2 fun x2 => gR 3 ls 3 fun x3 => gI ls 4 fun x4 => gI ls 5 fun x5 => g t x2 x3 x4 x5 h)
noncomputable def X11_wrongRows_u43 (g : Nat → Int32 → Nat → Int32 → Int32 → Nat → Int32 → PH → Option Rs) : Kn := fun ls st h => gL 0 st (gT 10 ls 0 fun t => gI ls 2 fun x2 => gR 3 ls 3 fun x3 => gI ls 4 fun x4 => gI ls 5 fun x5 => gR 5 ls 6 fun x6 => gI ls 7 fun x7 => g t x2 x3 x4 x5 x6 x7 h)
noncomputable def X11_wrongRows_u118 (g : Nat → Int32 → Nat → Int32 → Int32 → Nat → Int32 → Int32 → Int32 → Nat → PH → Option Rs) : Kn := fun ls st h => gL 3 st (gT 10 ls 0 fun t => gI ls 2 fun x2 => gR 3 ls 3 fun x3 => gI ls 4 fun x4 => gI ls 5 fun x5 => gR 5 ls 6 fun x6 => gI ls 7 fun x7 => gI (st.map some) 0 fun s0 => gI (st.map some) 1 fun s1 => gR 28 (st.map some) 2 fun s2 => g t x2 x3 x4 x5 x6 x7 s0 s1 s2 h)
noncomputable def X11_wrongRows_u119 (g : Nat → Int32 → Nat → Int32 → Int32 → Nat → Int32 → PH → Option Rs) : Kn := fun ls st h => gL 0 st (gT 10 ls 0 fun t => gI ls 2 fun x2 => gR 3 ls 3 fun x3 => gI ls 4 fun x4 => gI ls 5 fun x5 => gR 5 ls 6 fun x6 => gI ls 7 fun x7 => g t x2 x3 x4 x5 x6 x7 h)
noncomputable def X11_wrongRows_f0 (c_X11_roadsFor : Nat → Int32 → PH → Option Rs) (c_X4_measureAll : Nat → PH → Option Rs) (g16 : Nat → Int32 → Nat → Int32 → Int32 → PH → Option Rs) (t : Nat) (x1 : Int32) (x2 : Int32) (h : PH) : Option Rs :=
  cR 3 (c_X11_roadsFor t x1 h) fun r2 h1 =>
  nn r2 fun r3 =>
  cV (c_X4_measureAll r3 h1) fun h4 =>
  g16 t x2 r2 0 0 h4
set_option maxRecDepth 100000 in
theorem X11_wrongRows_l0 (c_X11_roadsFor : Nat → Int32 → PH → Option Rs) (c_X4_measureAll : Nat → PH → Option Rs) (g16 : Nat → Int32 → Nat → Int32 → Int32 → PH → Option Rs) (t : Nat) (x1 : Int32) (x2 : Int32) (h : PH) : X11_wrongRows_b0 c_X11_roadsFor c_X4_measureAll (X11_wrongRows_u16 g16) [some (.inr (10, t + 1)), some (.inl x1), some (.inl x2), none, none, none, none, none, none] [] h = X11_wrongRows_f0 c_X11_roadsFor c_X4_measureAll g16 t x1 x2 h := rfl
theorem X11_wrongRows_m0 {c_X11_roadsFor : Nat → Int32 → PH → Option Rs} {c_X4_measureAll : Nat → PH → Option Rs} {g16 G16 : Nat → Int32 → Nat → Int32 → Int32 → PH → Option Rs} (hg16 : ∀ a0 a1 a2 a3 a4 a5, Mo (g16 a0 a1 a2 a3 a4 a5) (G16 a0 a1 a2 a3 a4 a5)) (t : Nat) (x1 : Int32) (x2 : Int32) (h : PH) : Mo (X11_wrongRows_f0 c_X11_roadsFor c_X4_measureAll g16 t x1 x2 h) (X11_wrongRows_f0 c_X11_roadsFor c_X4_measureAll G16 t x1 x2 h) := (mo_cR fun r2 h1 => (mo_nn fun r3 => (mo_cV fun h4 => (hg16 t x2 r2 0 0 h4))))
noncomputable def X11_wrongRows_f16 (g43 : Nat → Int32 → Nat → Int32 → Int32 → Nat → Int32 → PH → Option Rs) (t : Nat) (x2 : Int32) (x3 : Nat) (x4 : Int32) (x5 : Int32) (h : PH) : Option Rs :=
  nn (hR h 640 t 0) fun r5 =>
  if x5 < (hI h 75 r5 0) then
    nn (hR h 640 t 0) fun r6 =>
    nn (hR h 68 r6 0) fun r7 =>
    ix x5 (hL h 18 r7) fun j8 =>
    g43 t x2 x3 x4 x5 (hR h 1152 r7 j8) 0 h
  else
    some (some (.inl x4), h)
set_option maxRecDepth 100000 in
theorem X11_wrongRows_l16 (g43 : Nat → Int32 → Nat → Int32 → Int32 → Nat → Int32 → PH → Option Rs) (t : Nat) (x2 : Int32) (x3 : Nat) (x4 : Int32) (x5 : Int32) (h : PH) : X11_wrongRows_b16 (X11_wrongRows_u43 g43) [some (.inr (10, t + 1)), none, some (.inl x2), some (.inr (3, x3)), some (.inl x4), some (.inl x5), none, none, none] [] h = X11_wrongRows_f16 g43 t x2 x3 x4 x5 h := rfl
theorem X11_wrongRows_m16 {g43 G43 : Nat → Int32 → Nat → Int32 → Int32 → Nat → Int32 → PH → Option Rs} (hg43 : ∀ a0 a1 a2 a3 a4 a5 a6 a7, Mo (g43 a0 a1 a2 a3 a4 a5 a6 a7) (G43 a0 a1 a2 a3 a4 a5 a6 a7)) (t : Nat) (x2 : Int32) (x3 : Nat) (x4 : Int32) (x5 : Int32) (h : PH) : Mo (X11_wrongRows_f16 g43 t x2 x3 x4 x5 h) (X11_wrongRows_f16 G43 t x2 x3 x4 x5 h) := (mo_nn fun r5 => (mo_if (mo_nn fun r6 => (mo_nn fun r7 => (mo_ix fun j8 => (hg43 t x2 x3 x4 x5 (hR h 1152 r7 j8) 0 h)))) mo_rf))
theorem X11_wrongRows_w16 {z : CZ} {g43 : Nat → Int32 → Nat → Int32 → Int32 → Nat → Int32 → PH → Option Rs} (hk43 : SK (X11_wrongRows_x z) 43 (X11_wrongRows_u43 g43)) : SK (X11_wrongRows_x z) 16 (X11_wrongRows_u16 (X11_wrongRows_f16 g43)) := by
  intro ls st h r e
  obtain ⟨hst, e⟩ := gL_of e
  obtain ⟨t, q0, e⟩ := gT_of e
  obtain ⟨x2, q1, e⟩ := gI_of e
  obtain ⟨x3, q2, e⟩ := gR_of e
  obtain ⟨x4, q3, e⟩ := gI_of e
  obtain ⟨x5, q4, e⟩ := gI_of e
  rw [st_0 hst]
  exact WK.sub (canon := [some (.inr (10, t + 1)), none, some (.inl x2), some (.inr (3, x3)), some (.inl x4), some (.inl x5), none, none, none]) rfl ⟨q0, q1, q2, q3, q4, trivial⟩ (X11_wrongRows_s16 hk43 _ _ _ _ ((X11_wrongRows_l16 g43 t x2 x3 x4 x5 h).trans e))
noncomputable def X11_wrongRows_f43 (c_X4_headingOfName : Nat → Int32 → Int32 → PH → Option Rs) (g16 : Nat → Int32 → Nat → Int32 → Int32 → PH → Option Rs) (g118 : Nat → Int32 → Nat → Int32 → Int32 → Nat → Int32 → Int32 → Int32 → Nat → PH → Option Rs) (g119 : Nat → Int32 → Nat → Int32 → Int32 → Nat → Int32 → PH → Option Rs) (t : Nat) (x2 : Int32) (x3 : Nat) (x4 : Int32) (x5 : Int32) (x6 : Nat) (x7 : Int32) (h : PH) : Option Rs :=
  nn x6 fun r9 =>
  if x7 < (hI h 324 r9 0) then
    nn x6 fun r10 =>
    nn x6 fun r11 =>
    nn (hR h 325 r11 0) fun r12 =>
    ix x7 (hL h 27 r12) fun j13 =>
    nn x3 fun r14 =>
    cI (c_X4_headingOfName r14 (hI h 320 r10 0) (hI h 1728 r12 j13) h) fun v16 h15 =>
    if v16 = (-1) then
      g119 t x2 x3 x4 x5 x6 x7 h15
    else
      nn x6 fun r17 =>
      nn (hR h15 326 r17 0) fun r18 =>
      ix x7 (hL h15 28 r18) fun j19 =>
      if v16 = (hI h15 1792 r18 j19) then
        g119 t x2 x3 x4 x5 x6 x7 h15
      else
        nn x6 fun r20 =>
        if x2 = 0 then
          nn x6 fun r21 =>
          nn (hR h15 326 r21 0) fun r22 =>
          ix x7 (hL h15 28 r22) fun j23 =>
          g118 t x2 x3 (x4 + 1) x5 x6 x7 (hI h15 1792 r22 j23) x7 (hR h15 326 r20 0) h15
        else
          g118 t x2 x3 (x4 + 1) x5 x6 x7 v16 x7 (hR h15 326 r20 0) h15
  else
    g16 t x2 x3 x4 (x5 + 1) h
set_option maxRecDepth 100000 in
theorem X11_wrongRows_l43 (c_X4_headingOfName : Nat → Int32 → Int32 → PH → Option Rs) (g16 : Nat → Int32 → Nat → Int32 → Int32 → PH → Option Rs) (g118 : Nat → Int32 → Nat → Int32 → Int32 → Nat → Int32 → Int32 → Int32 → Nat → PH → Option Rs) (g119 : Nat → Int32 → Nat → Int32 → Int32 → Nat → Int32 → PH → Option Rs) (t : Nat) (x2 : Int32) (x3 : Nat) (x4 : Int32) (x5 : Int32) (x6 : Nat) (x7 : Int32) (h : PH) : X11_wrongRows_b43 c_X4_headingOfName (X11_wrongRows_u16 g16) (X11_wrongRows_u118 g118) (X11_wrongRows_u119 g119) [some (.inr (10, t + 1)), none, some (.inl x2), some (.inr (3, x3)), some (.inl x4), some (.inl x5), some (.inr (5, x6)), some (.inl x7), none] [] h = X11_wrongRows_f43 c_X4_headingOfName g16 g118 g119 t x2 x3 x4 x5 x6 x7 h := rfl
theorem X11_wrongRows_m43 {c_X4_headingOfName : Nat → Int32 → Int32 → PH → Option Rs} {g16 G16 : Nat → Int32 → Nat → Int32 → Int32 → PH → Option Rs} {g118 G118 : Nat → Int32 → Nat → Int32 → Int32 → Nat → Int32 → Int32 → Int32 → Nat → PH → Option Rs} {g119 G119 : Nat → Int32 → Nat → Int32 → Int32 → Nat → Int32 → PH → Option Rs} (hg16 : ∀ a0 a1 a2 a3 a4 a5, Mo (g16 a0 a1 a2 a3 a4 a5) (G16 a0 a1 a2 a3 a4 a5)) (hg118 : ∀ a0 a1 a2 a3 a4 a5 a6 a7 a8 a9 a10, Mo (g118 a0 a1 a2 a3 a4 a5 a6 a7 a8 a9 a10) (G118 a0 a1 a2 a3 a4 a5 a6 a7 a8 a9 a10)) (hg119 : ∀ a0 a1 a2 a3 a4 a5 a6 a7, Mo (g119 a0 a1 a2 a3 a4 a5 a6 a7) (G119 a0 a1 a2 a3 a4 a5 a6 a7)) (t : Nat) (x2 : Int32) (x3 : Nat) (x4 : Int32) (x5 : Int32) (x6 : Nat) (x7 : Int32) (h : PH) : Mo (X11_wrongRows_f43 c_X4_headingOfName g16 g118 g119 t x2 x3 x4 x5 x6 x7 h) (X11_wrongRows_f43 c_X4_headingOfName G16 G118 G119 t x2 x3 x4 x5 x6 x7 h) := (mo_nn fun r9 => (mo_if (mo_nn fun r10 => (mo_nn fun r11 => (mo_nn fun r12 => (mo_ix fun j13 => (mo_nn fun r14 => (mo_cI fun v16 h15 => (mo_if (hg119 t x2 x3 x4 x5 x6 x7 h15) (mo_nn fun r17 => (mo_nn fun r18 => (mo_ix fun j19 => (mo_if (hg119 t x2 x3 x4 x5 x6 x7 h15) (mo_nn fun r20 => (mo_if (mo_nn fun r21 => (mo_nn fun r22 => (mo_ix fun j23 => (hg118 t x2 x3 (x4 + 1) x5 x6 x7 (hI h15 1792 r22 j23) x7 (hR h15 326 r20 0) h15)))) (hg118 t x2 x3 (x4 + 1) x5 x6 x7 v16 x7 (hR h15 326 r20 0) h15)))))))))))))) (hg16 t x2 x3 x4 (x5 + 1) h)))
theorem X11_wrongRows_w43 {z : CZ} {g16 : Nat → Int32 → Nat → Int32 → Int32 → PH → Option Rs} {g118 : Nat → Int32 → Nat → Int32 → Int32 → Nat → Int32 → Int32 → Int32 → Nat → PH → Option Rs} {g119 : Nat → Int32 → Nat → Int32 → Int32 → Nat → Int32 → PH → Option Rs} (hk16 : SK (X11_wrongRows_x z) 16 (X11_wrongRows_u16 g16)) (hk118 : SK (X11_wrongRows_x z) 118 (X11_wrongRows_u118 g118)) (hk119 : SK (X11_wrongRows_x z) 119 (X11_wrongRows_u119 g119)) : SK (X11_wrongRows_x z) 43 (X11_wrongRows_u43 (X11_wrongRows_f43 X4_headingOfName g16 g118 g119)) := by
  intro ls st h r e
  obtain ⟨hst, e⟩ := gL_of e
  obtain ⟨t, q0, e⟩ := gT_of e
  obtain ⟨x2, q1, e⟩ := gI_of e
  obtain ⟨x3, q2, e⟩ := gR_of e
  obtain ⟨x4, q3, e⟩ := gI_of e
  obtain ⟨x5, q4, e⟩ := gI_of e
  obtain ⟨x6, q5, e⟩ := gR_of e
  obtain ⟨x7, q6, e⟩ := gI_of e
  rw [st_0 hst]
  exact WK.sub (canon := [some (.inr (10, t + 1)), none, some (.inl x2), some (.inr (3, x3)), some (.inl x4), some (.inl x5), some (.inr (5, x6)), some (.inl x7), none]) rfl ⟨q0, q1, q2, q3, q4, q5, q6, trivial⟩ (X11_wrongRows_s43 hk16 hk118 hk119 _ _ _ _ ((X11_wrongRows_l43 X4_headingOfName g16 g118 g119 t x2 x3 x4 x5 x6 x7 h).trans e))
noncomputable def X11_wrongRows_f118 (g119 : Nat → Int32 → Nat → Int32 → Int32 → Nat → Int32 → PH → Option Rs) (t : Nat) (x2 : Int32) (x3 : Nat) (x4 : Int32) (x5 : Int32) (x6 : Nat) (x7 : Int32) (s0 : Int32) (s1 : Int32) (s2 : Nat) (h : PH) : Option Rs :=
  nn s2 fun r24 =>
  ix s1 (hL h 28 r24) fun j25 =>
  wr (pI h 1792 r24 j25 s0) fun h26 =>
  g119 t x2 x3 x4 x5 x6 x7 h26
set_option maxRecDepth 100000 in
theorem X11_wrongRows_l118 (g119 : Nat → Int32 → Nat → Int32 → Int32 → Nat → Int32 → PH → Option Rs) (t : Nat) (x2 : Int32) (x3 : Nat) (x4 : Int32) (x5 : Int32) (x6 : Nat) (x7 : Int32) (s0 : Int32) (s1 : Int32) (s2 : Nat) (h : PH) : X11_wrongRows_b118 (X11_wrongRows_u119 g119) [some (.inr (10, t + 1)), none, some (.inl x2), some (.inr (3, x3)), some (.inl x4), some (.inl x5), some (.inr (5, x6)), some (.inl x7), none] [.inl s0, .inl s1, .inr (28, s2)] h = X11_wrongRows_f118 g119 t x2 x3 x4 x5 x6 x7 s0 s1 s2 h := rfl
theorem X11_wrongRows_m118 {g119 G119 : Nat → Int32 → Nat → Int32 → Int32 → Nat → Int32 → PH → Option Rs} (hg119 : ∀ a0 a1 a2 a3 a4 a5 a6 a7, Mo (g119 a0 a1 a2 a3 a4 a5 a6 a7) (G119 a0 a1 a2 a3 a4 a5 a6 a7)) (t : Nat) (x2 : Int32) (x3 : Nat) (x4 : Int32) (x5 : Int32) (x6 : Nat) (x7 : Int32) (s0 : Int32) (s1 : Int32) (s2 : Nat) (h : PH) : Mo (X11_wrongRows_f118 g119 t x2 x3 x4 x5 x6 x7 s0 s1 s2 h) (X11_wrongRows_f118 G119 t x2 x3 x4 x5 x6 x7 s0 s1 s2 h) := (mo_nn fun r24 => (mo_ix fun j25 => (mo_wr fun h26 => (hg119 t x2 x3 x4 x5 x6 x7 h26))))
theorem X11_wrongRows_w118 {z : CZ} {g119 : Nat → Int32 → Nat → Int32 → Int32 → Nat → Int32 → PH → Option Rs} (hk119 : SK (X11_wrongRows_x z) 119 (X11_wrongRows_u119 g119)) : SK (X11_wrongRows_x z) 118 (X11_wrongRows_u118 (X11_wrongRows_f118 g119)) := by
  intro ls st h r e
  obtain ⟨hst, e⟩ := gL_of e
  obtain ⟨t, q0, e⟩ := gT_of e
  obtain ⟨x2, q1, e⟩ := gI_of e
  obtain ⟨x3, q2, e⟩ := gR_of e
  obtain ⟨x4, q3, e⟩ := gI_of e
  obtain ⟨x5, q4, e⟩ := gI_of e
  obtain ⟨x6, q5, e⟩ := gR_of e
  obtain ⟨x7, q6, e⟩ := gI_of e
  obtain ⟨s0, q7, e⟩ := gI_of e
  obtain ⟨s1, q8, e⟩ := gI_of e
  obtain ⟨s2, q9, e⟩ := gR_of e
  rw [st_3 hst q7 q8 q9]
  exact WK.sub (canon := [some (.inr (10, t + 1)), none, some (.inl x2), some (.inr (3, x3)), some (.inl x4), some (.inl x5), some (.inr (5, x6)), some (.inl x7), none]) rfl ⟨q0, q1, q2, q3, q4, q5, q6, trivial⟩ (X11_wrongRows_s118 hk119 _ _ _ _ ((X11_wrongRows_l118 g119 t x2 x3 x4 x5 x6 x7 s0 s1 s2 h).trans e))
noncomputable def X11_wrongRows_f119 (g43 : Nat → Int32 → Nat → Int32 → Int32 → Nat → Int32 → PH → Option Rs) (t : Nat) (x2 : Int32) (x3 : Nat) (x4 : Int32) (x5 : Int32) (x6 : Nat) (x7 : Int32) (h : PH) : Option Rs :=
  g43 t x2 x3 x4 x5 x6 (x7 + 1) h
set_option maxRecDepth 100000 in
theorem X11_wrongRows_l119 (g43 : Nat → Int32 → Nat → Int32 → Int32 → Nat → Int32 → PH → Option Rs) (t : Nat) (x2 : Int32) (x3 : Nat) (x4 : Int32) (x5 : Int32) (x6 : Nat) (x7 : Int32) (h : PH) : X11_wrongRows_b119 (X11_wrongRows_u43 g43) [some (.inr (10, t + 1)), none, some (.inl x2), some (.inr (3, x3)), some (.inl x4), some (.inl x5), some (.inr (5, x6)), some (.inl x7), none] [] h = X11_wrongRows_f119 g43 t x2 x3 x4 x5 x6 x7 h := rfl
theorem X11_wrongRows_m119 {g43 G43 : Nat → Int32 → Nat → Int32 → Int32 → Nat → Int32 → PH → Option Rs} (hg43 : ∀ a0 a1 a2 a3 a4 a5 a6 a7, Mo (g43 a0 a1 a2 a3 a4 a5 a6 a7) (G43 a0 a1 a2 a3 a4 a5 a6 a7)) (t : Nat) (x2 : Int32) (x3 : Nat) (x4 : Int32) (x5 : Int32) (x6 : Nat) (x7 : Int32) (h : PH) : Mo (X11_wrongRows_f119 g43 t x2 x3 x4 x5 x6 x7 h) (X11_wrongRows_f119 G43 t x2 x3 x4 x5 x6 x7 h) := (hg43 t x2 x3 x4 x5 x6 (x7 + 1) h)
theorem X11_wrongRows_w119 {z : CZ} {g43 : Nat → Int32 → Nat → Int32 → Int32 → Nat → Int32 → PH → Option Rs} (hk43 : SK (X11_wrongRows_x z) 43 (X11_wrongRows_u43 g43)) : SK (X11_wrongRows_x z) 119 (X11_wrongRows_u119 (X11_wrongRows_f119 g43)) := by
  intro ls st h r e
  obtain ⟨hst, e⟩ := gL_of e
  obtain ⟨t, q0, e⟩ := gT_of e
  obtain ⟨x2, q1, e⟩ := gI_of e
  obtain ⟨x3, q2, e⟩ := gR_of e
  obtain ⟨x4, q3, e⟩ := gI_of e
  obtain ⟨x5, q4, e⟩ := gI_of e
  obtain ⟨x6, q5, e⟩ := gR_of e
  obtain ⟨x7, q6, e⟩ := gI_of e
  rw [st_0 hst]
  exact WK.sub (canon := [some (.inr (10, t + 1)), none, some (.inl x2), some (.inr (3, x3)), some (.inl x4), some (.inl x5), some (.inr (5, x6)), some (.inl x7), none]) rfl ⟨q0, q1, q2, q3, q4, q5, q6, trivial⟩ (X11_wrongRows_s119 hk43 _ _ _ _ ((X11_wrongRows_l119 g43 t x2 x3 x4 x5 x6 x7 h).trans e))
noncomputable def X11_wrongRows_g0 (G : (Nat → Int32 → Nat → Int32 → Int32 → PH → Option Rs) × (Nat → Int32 → Nat → Int32 → Int32 → Nat → Int32 → PH → Option Rs)) (t : Nat) (x1 : Int32) (x2 : Int32) (h : PH) : Option Rs := X11_wrongRows_f0 X11_roadsFor X4_measureAll (G).1 t x1 x2 h
noncomputable def X11_wrongRows_g16 (G : (Nat → Int32 → Nat → Int32 → Int32 → PH → Option Rs) × (Nat → Int32 → Nat → Int32 → Int32 → Nat → Int32 → PH → Option Rs)) (t : Nat) (x2 : Int32) (x3 : Nat) (x4 : Int32) (x5 : Int32) (h : PH) : Option Rs := X11_wrongRows_f16 (G).2 t x2 x3 x4 x5 h
noncomputable def X11_wrongRows_g119 (G : (Nat → Int32 → Nat → Int32 → Int32 → PH → Option Rs) × (Nat → Int32 → Nat → Int32 → Int32 → Nat → Int32 → PH → Option Rs)) (t : Nat) (x2 : Int32) (x3 : Nat) (x4 : Int32) (x5 : Int32) (x6 : Nat) (x7 : Int32) (h : PH) : Option Rs := X11_wrongRows_f119 (G).2 t x2 x3 x4 x5 x6 x7 h
noncomputable def X11_wrongRows_g118 (G : (Nat → Int32 → Nat → Int32 → Int32 → PH → Option Rs) × (Nat → Int32 → Nat → Int32 → Int32 → Nat → Int32 → PH → Option Rs)) (t : Nat) (x2 : Int32) (x3 : Nat) (x4 : Int32) (x5 : Int32) (x6 : Nat) (x7 : Int32) (s0 : Int32) (s1 : Int32) (s2 : Nat) (h : PH) : Option Rs := X11_wrongRows_f118 (X11_wrongRows_g119 G) t x2 x3 x4 x5 x6 x7 s0 s1 s2 h
noncomputable def X11_wrongRows_g43 (G : (Nat → Int32 → Nat → Int32 → Int32 → PH → Option Rs) × (Nat → Int32 → Nat → Int32 → Int32 → Nat → Int32 → PH → Option Rs)) (t : Nat) (x2 : Int32) (x3 : Nat) (x4 : Int32) (x5 : Int32) (x6 : Nat) (x7 : Int32) (h : PH) : Option Rs := X11_wrongRows_f43 X4_headingOfName (G).1 (X11_wrongRows_g118 G) (X11_wrongRows_g119 G) t x2 x3 x4 x5 x6 x7 h
theorem X11_wrongRows_v16 {z : CZ} {G : (Nat → Int32 → Nat → Int32 → Int32 → PH → Option Rs) × (Nat → Int32 → Nat → Int32 → Int32 → Nat → Int32 → PH → Option Rs)} (hG16 : SK (X11_wrongRows_x z) 16 (X11_wrongRows_u16 (G).1)) (hG43 : SK (X11_wrongRows_x z) 43 (X11_wrongRows_u43 (G).2)) : SK (X11_wrongRows_x z) 16 (X11_wrongRows_u16 (X11_wrongRows_g16 G)) := X11_wrongRows_w16 hG43
theorem X11_wrongRows_v119 {z : CZ} {G : (Nat → Int32 → Nat → Int32 → Int32 → PH → Option Rs) × (Nat → Int32 → Nat → Int32 → Int32 → Nat → Int32 → PH → Option Rs)} (hG16 : SK (X11_wrongRows_x z) 16 (X11_wrongRows_u16 (G).1)) (hG43 : SK (X11_wrongRows_x z) 43 (X11_wrongRows_u43 (G).2)) : SK (X11_wrongRows_x z) 119 (X11_wrongRows_u119 (X11_wrongRows_g119 G)) := X11_wrongRows_w119 hG43
theorem X11_wrongRows_v118 {z : CZ} {G : (Nat → Int32 → Nat → Int32 → Int32 → PH → Option Rs) × (Nat → Int32 → Nat → Int32 → Int32 → Nat → Int32 → PH → Option Rs)} (hG16 : SK (X11_wrongRows_x z) 16 (X11_wrongRows_u16 (G).1)) (hG43 : SK (X11_wrongRows_x z) 43 (X11_wrongRows_u43 (G).2)) : SK (X11_wrongRows_x z) 118 (X11_wrongRows_u118 (X11_wrongRows_g118 G)) := X11_wrongRows_w118 (X11_wrongRows_v119 hG16 hG43)
theorem X11_wrongRows_v43 {z : CZ} {G : (Nat → Int32 → Nat → Int32 → Int32 → PH → Option Rs) × (Nat → Int32 → Nat → Int32 → Int32 → Nat → Int32 → PH → Option Rs)} (hG16 : SK (X11_wrongRows_x z) 16 (X11_wrongRows_u16 (G).1)) (hG43 : SK (X11_wrongRows_x z) 43 (X11_wrongRows_u43 (G).2)) : SK (X11_wrongRows_x z) 43 (X11_wrongRows_u43 (X11_wrongRows_g43 G)) := X11_wrongRows_w43 hG16 (X11_wrongRows_v118 hG16 hG43) (X11_wrongRows_v119 hG16 hG43)
noncomputable def X11_wrongRows_fam : Nat → (Nat → Int32 → Nat → Int32 → Int32 → PH → Option Rs) × (Nat → Int32 → Nat → Int32 → Int32 → Nat → Int32 → PH → Option Rs)
  | 0 => (fun _ _ _ _ _ _ => none, fun _ _ _ _ _ _ _ _ => none)
  | n + 1 => (X11_wrongRows_g16 (X11_wrongRows_fam n), X11_wrongRows_g43 (X11_wrongRows_fam n))
theorem X11_wrongRows_k {z : CZ} : ∀ n, SK (X11_wrongRows_x z) 16 (X11_wrongRows_u16 (X11_wrongRows_fam n).1) ∧ SK (X11_wrongRows_x z) 43 (X11_wrongRows_u43 (X11_wrongRows_fam n).2)
  | 0 => ⟨(fun ls st h r e => by
      obtain ⟨_, e⟩ := gL_of e
      obtain ⟨_, _, e⟩ := gT_of e
      obtain ⟨_, _, e⟩ := gI_of e
      obtain ⟨_, _, e⟩ := gR_of e
      obtain ⟨_, _, e⟩ := gI_of e
      obtain ⟨_, _, e⟩ := gI_of e
      cases e), (fun ls st h r e => by
      obtain ⟨_, e⟩ := gL_of e
      obtain ⟨_, _, e⟩ := gT_of e
      obtain ⟨_, _, e⟩ := gI_of e
      obtain ⟨_, _, e⟩ := gR_of e
      obtain ⟨_, _, e⟩ := gI_of e
      obtain ⟨_, _, e⟩ := gI_of e
      obtain ⟨_, _, e⟩ := gR_of e
      obtain ⟨_, _, e⟩ := gI_of e
      cases e)⟩
  | n + 1 => by
    obtain ⟨ih16, ih43⟩ := X11_wrongRows_k n
    exact ⟨X11_wrongRows_v16 ih16 ih43, X11_wrongRows_v43 ih16 ih43⟩
theorem X11_wrongRows_n0 {G G' : (Nat → Int32 → Nat → Int32 → Int32 → PH → Option Rs) × (Nat → Int32 → Nat → Int32 → Int32 → Nat → Int32 → PH → Option Rs)} (hg16 : ∀ a0 a1 a2 a3 a4 a5, Mo ((G).1 a0 a1 a2 a3 a4 a5) ((G').1 a0 a1 a2 a3 a4 a5)) (hg43 : ∀ a0 a1 a2 a3 a4 a5 a6 a7, Mo ((G).2 a0 a1 a2 a3 a4 a5 a6 a7) ((G').2 a0 a1 a2 a3 a4 a5 a6 a7)) (t : Nat) (x1 : Int32) (x2 : Int32) (h : PH) : Mo (X11_wrongRows_g0 G t x1 x2 h) (X11_wrongRows_g0 G' t x1 x2 h) := X11_wrongRows_m0 hg16 t x1 x2 h
theorem X11_wrongRows_n16 {G G' : (Nat → Int32 → Nat → Int32 → Int32 → PH → Option Rs) × (Nat → Int32 → Nat → Int32 → Int32 → Nat → Int32 → PH → Option Rs)} (hg16 : ∀ a0 a1 a2 a3 a4 a5, Mo ((G).1 a0 a1 a2 a3 a4 a5) ((G').1 a0 a1 a2 a3 a4 a5)) (hg43 : ∀ a0 a1 a2 a3 a4 a5 a6 a7, Mo ((G).2 a0 a1 a2 a3 a4 a5 a6 a7) ((G').2 a0 a1 a2 a3 a4 a5 a6 a7)) (t : Nat) (x2 : Int32) (x3 : Nat) (x4 : Int32) (x5 : Int32) (h : PH) : Mo (X11_wrongRows_g16 G t x2 x3 x4 x5 h) (X11_wrongRows_g16 G' t x2 x3 x4 x5 h) := X11_wrongRows_m16 hg43 t x2 x3 x4 x5 h
theorem X11_wrongRows_n119 {G G' : (Nat → Int32 → Nat → Int32 → Int32 → PH → Option Rs) × (Nat → Int32 → Nat → Int32 → Int32 → Nat → Int32 → PH → Option Rs)} (hg16 : ∀ a0 a1 a2 a3 a4 a5, Mo ((G).1 a0 a1 a2 a3 a4 a5) ((G').1 a0 a1 a2 a3 a4 a5)) (hg43 : ∀ a0 a1 a2 a3 a4 a5 a6 a7, Mo ((G).2 a0 a1 a2 a3 a4 a5 a6 a7) ((G').2 a0 a1 a2 a3 a4 a5 a6 a7)) (t : Nat) (x2 : Int32) (x3 : Nat) (x4 : Int32) (x5 : Int32) (x6 : Nat) (x7 : Int32) (h : PH) : Mo (X11_wrongRows_g119 G t x2 x3 x4 x5 x6 x7 h) (X11_wrongRows_g119 G' t x2 x3 x4 x5 x6 x7 h) := X11_wrongRows_m119 hg43 t x2 x3 x4 x5 x6 x7 h
theorem X11_wrongRows_n118 {G G' : (Nat → Int32 → Nat → Int32 → Int32 → PH → Option Rs) × (Nat → Int32 → Nat → Int32 → Int32 → Nat → Int32 → PH → Option Rs)} (hg16 : ∀ a0 a1 a2 a3 a4 a5, Mo ((G).1 a0 a1 a2 a3 a4 a5) ((G').1 a0 a1 a2 a3 a4 a5)) (hg43 : ∀ a0 a1 a2 a3 a4 a5 a6 a7, Mo ((G).2 a0 a1 a2 a3 a4 a5 a6 a7) ((G').2 a0 a1 a2 a3 a4 a5 a6 a7)) (t : Nat) (x2 : Int32) (x3 : Nat) (x4 : Int32) (x5 : Int32) (x6 : Nat) (x7 : Int32) (s0 : Int32) (s1 : Int32) (s2 : Nat) (h : PH) : Mo (X11_wrongRows_g118 G t x2 x3 x4 x5 x6 x7 s0 s1 s2 h) (X11_wrongRows_g118 G' t x2 x3 x4 x5 x6 x7 s0 s1 s2 h) := X11_wrongRows_m118 (fun a0 a1 a2 a3 a4 a5 a6 a7 => X11_wrongRows_n119 hg16 hg43 a0 a1 a2 a3 a4 a5 a6 a7) t x2 x3 x4 x5 x6 x7 s0 s1 s2 h
theorem X11_wrongRows_n43 {G G' : (Nat → Int32 → Nat → Int32 → Int32 → PH → Option Rs) × (Nat → Int32 → Nat → Int32 → Int32 → Nat → Int32 → PH → Option Rs)} (hg16 : ∀ a0 a1 a2 a3 a4 a5, Mo ((G).1 a0 a1 a2 a3 a4 a5) ((G').1 a0 a1 a2 a3 a4 a5)) (hg43 : ∀ a0 a1 a2 a3 a4 a5 a6 a7, Mo ((G).2 a0 a1 a2 a3 a4 a5 a6 a7) ((G').2 a0 a1 a2 a3 a4 a5 a6 a7)) (t : Nat) (x2 : Int32) (x3 : Nat) (x4 : Int32) (x5 : Int32) (x6 : Nat) (x7 : Int32) (h : PH) : Mo (X11_wrongRows_g43 G t x2 x3 x4 x5 x6 x7 h) (X11_wrongRows_g43 G' t x2 x3 x4 x5 x6 x7 h) := X11_wrongRows_m43 hg16 (fun a0 a1 a2 a3 a4 a5 a6 a7 a8 a9 a10 => X11_wrongRows_n118 hg16 hg43 a0 a1 a2 a3 a4 a5 a6 a7 a8 a9 a10) (fun a0 a1 a2 a3 a4 a5 a6 a7 => X11_wrongRows_n119 hg16 hg43 a0 a1 a2 a3 a4 a5 a6 a7) t x2 x3 x4 x5 x6 x7 h
theorem X11_wrongRows_fm : ∀ n, (∀ a0 a1 a2 a3 a4 a5, Mo ((X11_wrongRows_fam n).1 a0 a1 a2 a3 a4 a5) ((X11_wrongRows_fam (n + 1)).1 a0 a1 a2 a3 a4 a5)) ∧ (∀ a0 a1 a2 a3 a4 a5 a6 a7, Mo ((X11_wrongRows_fam n).2 a0 a1 a2 a3 a4 a5 a6 a7) ((X11_wrongRows_fam (n + 1)).2 a0 a1 a2 a3 a4 a5 a6 a7))
  | 0 => ⟨fun _ _ _ _ _ _ => mo_no, fun _ _ _ _ _ _ _ _ => mo_no⟩
  | n + 1 => by
    obtain ⟨ih16, ih43⟩ := X11_wrongRows_fm n
    exact ⟨fun a0 a1 a2 a3 a4 a5 => X11_wrongRows_n16 ih16 ih43 a0 a1 a2 a3 a4 a5, fun a0 a1 a2 a3 a4 a5 a6 a7 => X11_wrongRows_n43 ih16 ih43 a0 a1 a2 a3 a4 a5 a6 a7⟩
noncomputable def X11_wrongRows (t : Nat) (x1 : Int32) (x2 : Int32) (h : PH) : Option Rs := lim (fun n => X11_wrongRows_g0 (X11_wrongRows_fam n) t x1 x2 h)
theorem X11_wrongRows_iff {t : Nat} {x1 : Int32} {x2 : Int32} {h : PH} {r : Rs} : X11_wrongRows t x1 x2 h = some r ↔ ∃ n, X11_wrongRows_g0 (X11_wrongRows_fam n) t x1 x2 h = some r := lim_iff (fun n => by
  obtain ⟨ih16, ih43⟩ := X11_wrongRows_fm n
  exact X11_wrongRows_n0 ih16 ih43 t x1 x2 h)
noncomputable abbrev X11_wrongRows_F : List PV → PH → Option Rs := FW_T10II (X11_wrongRows)
set_option maxRecDepth 100000 in
theorem X11_wrongRows_gd (l : Launch) : Gd l 5 yX11_wrongRows cX11_wrongRows 9 (some .int) (X11_wrongRows_F)   := Gd_of (by decide +kernel) (fun z hzl as h r e => by
  obtain ⟨hst, e⟩ := gL_of e
  obtain ⟨t, q0, e⟩ := gT_of e
  obtain ⟨x1, q1, e⟩ := gI_of e
  obtain ⟨x2, q2, e⟩ := gI_of e
  rw [st_3 hst q0 q1 q2]
  obtain ⟨n, e⟩ := lim_of e
  obtain ⟨hG16, hG43⟩ := X11_wrongRows_k (z := z) n
  exact ⟨show 3 ≤ 9 by decide, X11_wrongRows_s0 hG16 _ _ _ _ ((X11_wrongRows_l0 X11_roadsFor X4_measureAll (X11_wrongRows_fam n).1 t x1 x2 h).trans e)⟩)
abbrev X11_wrong_x (z : CZ) : CX := mx RX11 cX11_wrong 2 6 (some .int) "wrong" z
noncomputable def X11_wrong_b0 (c_X11_isWithin : Int32 → Int32 → PH → Option Rs) (c_X11_wrongRows : Nat → Int32 → Int32 → PH → Option Rs) : Kn := (a_il 1 (a_ic 2 (a_sI 2 (FW_II c_X11_isWithin) (a_z (a_ic (-1000000001) a_ir) (a_al 0 (a_il 1 (a_ic 0 (a_vI 10 2 (FW_T10II c_X11_wrongRows) a_ir))))))))
set_option maxRecDepth 100000 in
theorem X11_wrong_s0 {z : CZ} : SK (X11_wrong_x z) 0 (X11_wrong_b0 X11_isWithin X11_wrongRows) := (s_iloadn (pc := 0) dX11_wrong_0 rfl (s_iconst (pc := 1) dX11_wrong_1 c_ic_2 (s_sI (pc := 2) (run_static (X11_isWithin_gd _) (show 0 < 6 by decide) cy_X11_isWithin w_549 w_552 dX11_wrong_2) (s_ifeq (pc := 5) dX11_wrong_5 (by decide) (s_ldc (pc := 17) w_551 dX11_wrong_17 (s_ir (pc := 19) rfl dX11_wrong_19)) (s_aloadn (pc := 8) dX11_wrong_8 rfl (s_iloadn (pc := 9) dX11_wrong_9 rfl (s_iconst (pc := 10) dX11_wrong_10 c_ic_0 (s_vI (pc := 11) (run_virtual (X11_wrongRows_gd _) (show 5 < 6 by decide) cy_X11_wrongRows (by decide) rfl w_1117 w_s24 w_1115 dX11_wrong_11) (s_goto (pc := 14) dX11_wrong_14 (by decide) (s_ir (pc := 19) rfl dX11_wrong_19))))))))))
noncomputable def X11_wrong_f0 (c_X11_isWithin : Int32 → Int32 → PH → Option Rs) (c_X11_wrongRows : Nat → Int32 → Int32 → PH → Option Rs) (t : Nat) (x1 : Int32) (h : PH) : Option Rs :=
  cI (c_X11_isWithin x1 2 h) fun v2 h1 =>
  if v2 = 0 then
    some (some (.inl (-1000000001)), h1)
  else
    cI (c_X11_wrongRows t x1 0 h1) fun v4 h3 =>
    some (some (.inl v4), h3)
set_option maxRecDepth 100000 in
theorem X11_wrong_l0 (c_X11_isWithin : Int32 → Int32 → PH → Option Rs) (c_X11_wrongRows : Nat → Int32 → Int32 → PH → Option Rs) (t : Nat) (x1 : Int32) (h : PH) : X11_wrong_b0 c_X11_isWithin c_X11_wrongRows [some (.inr (10, t + 1)), some (.inl x1)] [] h = X11_wrong_f0 c_X11_isWithin c_X11_wrongRows t x1 h := rfl
noncomputable def X11_wrong_g0 (t : Nat) (x1 : Int32) (h : PH) : Option Rs := X11_wrong_f0 X11_isWithin X11_wrongRows t x1 h
noncomputable def X11_wrong (t : Nat) (x1 : Int32) (h : PH) : Option Rs := X11_wrong_g0 t x1 h
noncomputable abbrev X11_wrong_F : List PV → PH → Option Rs := FW_T10I (X11_wrong)
set_option maxRecDepth 100000 in
theorem X11_wrong_gd (l : Launch) : Gd l 6 yX11_wrong cX11_wrong 2 (some .int) (X11_wrong_F)   := Gd_of (by decide +kernel) (fun z hzl as h r e => by
  obtain ⟨hst, e⟩ := gL_of e
  obtain ⟨t, q0, e⟩ := gT_of e
  obtain ⟨x1, q1, e⟩ := gI_of e
  rw [st_2 hst q0 q1]
  exact ⟨show 2 ≤ 2 by decide, X11_wrong_s0 _ _ _ _ ((X11_wrong_l0 X11_isWithin X11_wrongRows t x1 h).trans e)⟩)
abbrev X11_mend_x (z : CZ) : CX := mx RX11 cX11_mend 2 6 (some .int) "mend" z
noncomputable def X11_mend_b0 (c_X11_isWithin : Int32 → Int32 → PH → Option Rs) (c_X0_note : Nat → Nat → PH → Option Rs) (c_X11_wrongRows : Nat → Int32 → Int32 → PH → Option Rs) : Kn := (a_il 1 (a_ic 2 (a_sI 2 (FW_II c_X11_isWithin) (a_z (a_ic (-1000000001) a_ir) (a_al 0 (a_gR 10 644 0 (a_al 0 (a_gR 10 640 1 (a_vV 0 1 (FW_T0R1 c_X0_note) (a_al 0 (a_il 1 (a_ic 1 (a_vI 10 2 (FW_T10II c_X11_wrongRows) a_ir)))))))))))))
set_option maxRecDepth 100000 in
theorem X11_mend_s0 {z : CZ} : SK (X11_mend_x z) 0 (X11_mend_b0 X11_isWithin X0_note X11_wrongRows) := (s_iloadn (pc := 0) dX11_mend_0 rfl (s_iconst (pc := 1) dX11_mend_1 c_ic_2 (s_sI (pc := 2) (run_static (X11_isWithin_gd _) (show 0 < 6 by decide) cy_X11_isWithin w_549 w_552 dX11_mend_2) (s_ifne (pc := 5) dX11_mend_5 (by decide) (s_aloadn (pc := 11) dX11_mend_11 rfl (s_gR (pc := 12) (f := 4) ko_10 (by decide) rfl rfl w_508 dX11_mend_12 (s_aloadn (pc := 15) dX11_mend_15 rfl (s_gR (pc := 16) (f := 0) ko_10 (by decide) rfl rfl w_504 dX11_mend_16 (s_vV (pc := 19) (run_virtual (X0_note_gd _) (show 0 < 6 by decide) cy_X0_note (by decide) rfl w_677 w_678 w_676 dX11_mend_19) (s_aloadn (pc := 22) dX11_mend_22 rfl (s_iloadn (pc := 23) dX11_mend_23 rfl (s_iconst (pc := 24) dX11_mend_24 c_ic_1 (s_vI (pc := 25) (run_virtual (X11_wrongRows_gd _) (show 5 < 6 by decide) cy_X11_wrongRows (by decide) rfl w_1117 w_s24 w_1115 dX11_mend_25) (s_ir (pc := 28) rfl dX11_mend_28)))))))))) (s_ldc (pc := 8) w_551 dX11_mend_8 (s_ir (pc := 10) rfl dX11_mend_10))))))
noncomputable def X11_mend_f0 (c_X11_isWithin : Int32 → Int32 → PH → Option Rs) (c_X0_note : Nat → Nat → PH → Option Rs) (c_X11_wrongRows : Nat → Int32 → Int32 → PH → Option Rs) (t : Nat) (x1 : Int32) (h : PH) : Option Rs :=
  cI (c_X11_isWithin x1 2 h) fun v2 h1 =>
  if v2 = 0 then
    some (some (.inl (-1000000001)), h1)
  else
    nn (hR h1 644 t 0) fun r3 =>
    cV (c_X0_note r3 (hR h1 640 t 0) h1) fun h4 =>
    cI (c_X11_wrongRows t x1 1 h4) fun v6 h5 =>
    some (some (.inl v6), h5)
set_option maxRecDepth 100000 in
theorem X11_mend_l0 (c_X11_isWithin : Int32 → Int32 → PH → Option Rs) (c_X0_note : Nat → Nat → PH → Option Rs) (c_X11_wrongRows : Nat → Int32 → Int32 → PH → Option Rs) (t : Nat) (x1 : Int32) (h : PH) : X11_mend_b0 c_X11_isWithin c_X0_note c_X11_wrongRows [some (.inr (10, t + 1)), some (.inl x1)] [] h = X11_mend_f0 c_X11_isWithin c_X0_note c_X11_wrongRows t x1 h := rfl
noncomputable def X11_mend_g0 (t : Nat) (x1 : Int32) (h : PH) : Option Rs := X11_mend_f0 X11_isWithin X0_note X11_wrongRows t x1 h
noncomputable def X11_mend (t : Nat) (x1 : Int32) (h : PH) : Option Rs := X11_mend_g0 t x1 h
noncomputable abbrev X11_mend_F : List PV → PH → Option Rs := FW_T10I (X11_mend)
set_option maxRecDepth 100000 in
theorem X11_mend_gd (l : Launch) : Gd l 6 yX11_mend cX11_mend 2 (some .int) (X11_mend_F)   := Gd_of (by decide +kernel) (fun z hzl as h r e => by
  obtain ⟨hst, e⟩ := gL_of e
  obtain ⟨t, q0, e⟩ := gT_of e
  obtain ⟨x1, q1, e⟩ := gI_of e
  rw [st_2 hst q0 q1]
  exact ⟨show 2 ≤ 2 by decide, X11_mend_s0 _ _ _ _ ((X11_mend_l0 X11_isWithin X0_note X11_wrongRows t x1 h).trans e)⟩)
abbrev X11_choose_x (z : CZ) : CX := mx RX11 cX11_choose 3 2 (some .int) "choose" z
noncomputable def X11_choose_b0 (c_X1_hasPlace : Nat → Int32 → PH → Option Rs) (k16 : Kn) : Kn := (a_al 0 (a_gR 10 640 1 (a_il 1 (a_vI 1 1 (FW_T1I c_X1_hasPlace) (a_z (a_ic (-1000000001) a_ir) (a_ic 0 (a_is 2 k16)))))))
set_option maxRecDepth 100000 in
theorem X11_choose_s0 {z : CZ} {k16 : Kn} (hk16 : SK (X11_choose_x z) 16 k16) : SK (X11_choose_x z) 0 (X11_choose_b0 X1_hasPlace k16) := (s_aloadn (pc := 0) dX11_choose_0 rfl (s_gR (pc := 1) (f := 0) ko_10 (by decide) rfl rfl w_504 dX11_choose_1 (s_iloadn (pc := 4) dX11_choose_4 rfl (s_vI (pc := 5) (run_virtual (X1_hasPlace_gd _) (show 1 < 2 by decide) cy_X1_hasPlace (by decide) rfl w_545 w_546 w_544 dX11_choose_5) (s_ifne (pc := 8) dX11_choose_8 (by decide) (s_iconst (pc := 14) dX11_choose_14 c_ic_0 (s_istoren (pc := 15) dX11_choose_15 rfl (show 2 < 3 by decide) hk16)) (s_ldc (pc := 11) w_551 dX11_choose_11 (s_ir (pc := 13) rfl dX11_choose_13)))))))
noncomputable def X11_choose_b16 (k16 : Kn) : Kn := (a_il 2 (a_al 0 (a_gR 10 640 1 (a_gI 1 77 (a_lt (a_al 0 (a_gR 10 640 1 (a_gR 1 71 21 (a_il 2 (a_ald 21 1344 (a_il 1 (a_eq (a_ic (-1000000002) a_ir) (a_inc 2 1 k16)))))))) (a_al 0 (a_gR 10 640 1 (a_gI 1 77 (a_ic 6 (a_lt (a_al 0 (a_gR 10 640 1 (a_gR 1 71 21 (a_al 0 (a_gR 10 640 1 (a_gI 1 77 (a_il 1 (a_ast 21 1344 (fun a => a) (a_al 0 (a_gR 10 640 1 (a_dup (a_gI 1 77 (a_ic 1 (a_b (fun a b => a + b) (a_pI 1 77 (a_al 0 (a_gR 10 640 1 (a_gI 1 77 a_ir)))))))))))))))))) (a_ic (-1000000003) a_ir)))))))))))
set_option maxRecDepth 100000 in
theorem X11_choose_s16 {z : CZ} {k16 : Kn} (hk16 : SK (X11_choose_x z) 16 k16) : SK (X11_choose_x z) 16 (X11_choose_b16 k16) := (s_iloadn (pc := 16) dX11_choose_16 rfl (s_aloadn (pc := 17) dX11_choose_17 rfl (s_gR (pc := 18) (f := 0) ko_10 (by decide) rfl rfl w_504 dX11_choose_18 (s_gI (pc := 21) (f := 13) ko_1 (by decide) rfl rfl w_260 dX11_choose_21 (s_cmpge (pc := 24) dX11_choose_24 (by decide) (s_aloadn (pc := 49) dX11_choose_49 rfl (s_gR (pc := 50) (f := 0) ko_10 (by decide) rfl rfl w_504 dX11_choose_50 (s_gI (pc := 53) (f := 13) ko_1 (by decide) rfl rfl w_260 dX11_choose_53 (s_bipush (pc := 56) dX11_choose_56 c_bp_6 (s_cmplt (pc := 58) dX11_choose_58 (by decide) (s_aloadn (pc := 64) dX11_choose_64 rfl (s_gR (pc := 65) (f := 0) ko_10 (by decide) rfl rfl w_504 dX11_choose_65 (s_gR (pc := 68) (f := 7) ko_1 (by decide) rfl rfl w_240 dX11_choose_68 (s_aloadn (pc := 71) dX11_choose_71 rfl (s_gR (pc := 72) (f := 0) ko_10 (by decide) rfl rfl w_504 dX11_choose_72 (s_gI (pc := 75) (f := 13) ko_1 (by decide) rfl rfl w_260 dX11_choose_75 (s_iloadn (pc := 78) dX11_choose_78 rfl (s_iast (pc := 79) (by decide) (by decide) rfl rfl rfl dX11_choose_79 (s_aloadn (pc := 80) dX11_choose_80 rfl (s_gR (pc := 81) (f := 0) ko_10 (by decide) rfl rfl w_504 dX11_choose_81 (s_dup (pc := 84) dX11_choose_84 (s_gI (pc := 85) (f := 13) ko_1 (by decide) rfl rfl w_260 dX11_choose_85 (s_iconst (pc := 88) dX11_choose_88 c_ic_1 (s_iadd (pc := 89) dX11_choose_89 (s_pI (pc := 90) (f := 13) ko_1 (by decide) rfl rfl rfl (by decide +kernel) w_260 dX11_choose_90 (s_aloadn (pc := 93) dX11_choose_93 rfl (s_gR (pc := 94) (f := 0) ko_10 (by decide) rfl rfl w_504 dX11_choose_94 (s_gI (pc := 97) (f := 13) ko_1 (by decide) rfl rfl w_260 dX11_choose_97 (s_ir (pc := 100) rfl dX11_choose_100))))))))))))))))))) (s_ldc (pc := 61) w_539 dX11_choose_61 (s_ir (pc := 63) rfl dX11_choose_63))))))) (s_aloadn (pc := 27) dX11_choose_27 rfl (s_gR (pc := 28) (f := 0) ko_10 (by decide) rfl rfl w_504 dX11_choose_28 (s_gR (pc := 31) (f := 7) ko_1 (by decide) rfl rfl w_240 dX11_choose_31 (s_iloadn (pc := 34) dX11_choose_34 rfl (s_iald (pc := 35) (by decide) (by decide) rfl rfl rfl dX11_choose_35 (s_iloadn (pc := 36) dX11_choose_36 rfl (s_cmpne (pc := 37) dX11_choose_37 (by decide) (s_iinc (pc := 43) dX11_choose_43 c_ic_1 (show 2 < 3 by decide) (s_goto (pc := 46) dX11_choose_46 (by decide) hk16)) (s_ldc (pc := 40) w_563 dX11_choose_40 (s_ir (pc := 42) rfl dX11_choose_42))))))))))))))
noncomputable def X11_choose_u16 (g : Nat → Int32 → Int32 → PH → Option Rs) : Kn := fun ls st h => gL 0 st (gT 10 ls 0 fun t => gI ls 1 fun x1 => gI ls 2 fun x2 => g t x1 x2 h)
noncomputable def X11_choose_f0 (c_X1_hasPlace : Nat → Int32 → PH → Option Rs) (g16 : Nat → Int32 → Int32 → PH → Option Rs) (t : Nat) (x1 : Int32) (h : PH) : Option Rs :=
  nn (hR h 640 t 0) fun r1 =>
  cI (c_X1_hasPlace r1 x1 h) fun v3 h2 =>
  if v3 = 0 then
    some (some (.inl (-1000000001)), h2)
  else
    g16 t x1 0 h2
set_option maxRecDepth 100000 in
theorem X11_choose_l0 (c_X1_hasPlace : Nat → Int32 → PH → Option Rs) (g16 : Nat → Int32 → Int32 → PH → Option Rs) (t : Nat) (x1 : Int32) (h : PH) : X11_choose_b0 c_X1_hasPlace (X11_choose_u16 g16) [some (.inr (10, t + 1)), some (.inl x1), none] [] h = X11_choose_f0 c_X1_hasPlace g16 t x1 h := rfl
theorem X11_choose_m0 {c_X1_hasPlace : Nat → Int32 → PH → Option Rs} {g16 G16 : Nat → Int32 → Int32 → PH → Option Rs} (hg16 : ∀ a0 a1 a2 a3, Mo (g16 a0 a1 a2 a3) (G16 a0 a1 a2 a3)) (t : Nat) (x1 : Int32) (h : PH) : Mo (X11_choose_f0 c_X1_hasPlace g16 t x1 h) (X11_choose_f0 c_X1_hasPlace G16 t x1 h) := (mo_nn fun r1 => (mo_cI fun v3 h2 => (mo_if mo_rf (hg16 t x1 0 h2))))
noncomputable def X11_choose_f16 (g16 : Nat → Int32 → Int32 → PH → Option Rs) (t : Nat) (x1 : Int32) (x2 : Int32) (h : PH) : Option Rs :=
  nn (hR h 640 t 0) fun r4 =>
  if x2 < (hI h 77 r4 0) then
    nn (hR h 640 t 0) fun r15 =>
    nn (hR h 71 r15 0) fun r16 =>
    ix x2 (hL h 21 r16) fun j17 =>
    if (hI h 1344 r16 j17) = x1 then
      some (some (.inl (-1000000002)), h)
    else
      g16 t x1 (x2 + 1) h
  else
    nn (hR h 640 t 0) fun r5 =>
    if (hI h 77 r5 0) < 6 then
      nn (hR h 640 t 0) fun r6 =>
      nn (hR h 640 t 0) fun r7 =>
      nn (hR h 71 r6 0) fun r8 =>
      ix (hI h 77 r7 0) (hL h 21 r8) fun j9 =>
      wr (pI h 1344 r8 j9 x1) fun h10 =>
      nn (hR h10 640 t 0) fun r11 =>
      nn (hR h10 640 t 0) fun r12 =>
      wr (pI h10 77 r12 0 ((hI h10 77 r11 0) + 1)) fun h13 =>
      nn (hR h13 640 t 0) fun r14 =>
      some (some (.inl (hI h13 77 r14 0)), h13)
    else
      some (some (.inl (-1000000003)), h)
set_option maxRecDepth 100000 in
theorem X11_choose_l16 (g16 : Nat → Int32 → Int32 → PH → Option Rs) (t : Nat) (x1 : Int32) (x2 : Int32) (h : PH) : X11_choose_b16 (X11_choose_u16 g16) [some (.inr (10, t + 1)), some (.inl x1), some (.inl x2)] [] h = X11_choose_f16 g16 t x1 x2 h := rfl
theorem X11_choose_m16 {g16 G16 : Nat → Int32 → Int32 → PH → Option Rs} (hg16 : ∀ a0 a1 a2 a3, Mo (g16 a0 a1 a2 a3) (G16 a0 a1 a2 a3)) (t : Nat) (x1 : Int32) (x2 : Int32) (h : PH) : Mo (X11_choose_f16 g16 t x1 x2 h) (X11_choose_f16 G16 t x1 x2 h) := (mo_nn fun r4 => (mo_if (mo_nn fun r15 => (mo_nn fun r16 => (mo_ix fun j17 => (mo_if mo_rf (hg16 t x1 (x2 + 1) h))))) (mo_nn fun r5 => (mo_if (mo_nn fun r6 => (mo_nn fun r7 => (mo_nn fun r8 => (mo_ix fun j9 => (mo_wr fun h10 => (mo_nn fun r11 => (mo_nn fun r12 => (mo_wr fun h13 => (mo_nn fun r14 => mo_rf))))))))) mo_rf))))
theorem X11_choose_w16 {z : CZ} {g16 : Nat → Int32 → Int32 → PH → Option Rs} (hk16 : SK (X11_choose_x z) 16 (X11_choose_u16 g16)) : SK (X11_choose_x z) 16 (X11_choose_u16 (X11_choose_f16 g16)) := by
  intro ls st h r e
  obtain ⟨hst, e⟩ := gL_of e
  obtain ⟨t, q0, e⟩ := gT_of e
  obtain ⟨x1, q1, e⟩ := gI_of e
  obtain ⟨x2, q2, e⟩ := gI_of e
  rw [st_0 hst]
  exact WK.sub (canon := [some (.inr (10, t + 1)), some (.inl x1), some (.inl x2)]) rfl ⟨q0, q1, q2, trivial⟩ (X11_choose_s16 hk16 _ _ _ _ ((X11_choose_l16 g16 t x1 x2 h).trans e))
noncomputable def X11_choose_g0 (G : (Nat → Int32 → Int32 → PH → Option Rs)) (t : Nat) (x1 : Int32) (h : PH) : Option Rs := X11_choose_f0 X1_hasPlace (G) t x1 h
noncomputable def X11_choose_g16 (G : (Nat → Int32 → Int32 → PH → Option Rs)) (t : Nat) (x1 : Int32) (x2 : Int32) (h : PH) : Option Rs := X11_choose_f16 (G) t x1 x2 h
theorem X11_choose_v16 {z : CZ} {G : (Nat → Int32 → Int32 → PH → Option Rs)} (hG16 : SK (X11_choose_x z) 16 (X11_choose_u16 (G))) : SK (X11_choose_x z) 16 (X11_choose_u16 (X11_choose_g16 G)) := X11_choose_w16 hG16
noncomputable def X11_choose_fam : Nat → (Nat → Int32 → Int32 → PH → Option Rs)
  | 0 => fun _ _ _ _ => none
  | n + 1 => X11_choose_g16 (X11_choose_fam n)
theorem X11_choose_k {z : CZ} : ∀ n, SK (X11_choose_x z) 16 (X11_choose_u16 (X11_choose_fam n))
  | 0 => (fun ls st h r e => by
      obtain ⟨_, e⟩ := gL_of e
      obtain ⟨_, _, e⟩ := gT_of e
      obtain ⟨_, _, e⟩ := gI_of e
      obtain ⟨_, _, e⟩ := gI_of e
      cases e)
  | n + 1 => by
    obtain ih16 := X11_choose_k n
    exact X11_choose_v16 ih16
theorem X11_choose_n0 {G G' : (Nat → Int32 → Int32 → PH → Option Rs)} (hg16 : ∀ a0 a1 a2 a3, Mo ((G) a0 a1 a2 a3) ((G') a0 a1 a2 a3)) (t : Nat) (x1 : Int32) (h : PH) : Mo (X11_choose_g0 G t x1 h) (X11_choose_g0 G' t x1 h) := X11_choose_m0 hg16 t x1 h
theorem X11_choose_n16 {G G' : (Nat → Int32 → Int32 → PH → Option Rs)} (hg16 : ∀ a0 a1 a2 a3, Mo ((G) a0 a1 a2 a3) ((G') a0 a1 a2 a3)) (t : Nat) (x1 : Int32) (x2 : Int32) (h : PH) : Mo (X11_choose_g16 G t x1 x2 h) (X11_choose_g16 G' t x1 x2 h) := X11_choose_m16 hg16 t x1 x2 h
theorem X11_choose_fm : ∀ n, (∀ a0 a1 a2 a3, Mo ((X11_choose_fam n) a0 a1 a2 a3) ((X11_choose_fam (n + 1)) a0 a1 a2 a3))
  | 0 => fun _ _ _ _ => mo_no
  | n + 1 => by
    obtain ih16 := X11_choose_fm n
    exact fun a0 a1 a2 a3 => X11_choose_n16 ih16 a0 a1 a2 a3
noncomputable def X11_choose (t : Nat) (x1 : Int32) (h : PH) : Option Rs := lim (fun n => X11_choose_g0 (X11_choose_fam n) t x1 h)
theorem X11_choose_iff {t : Nat} {x1 : Int32} {h : PH} {r : Rs} : X11_choose t x1 h = some r ↔ ∃ n, X11_choose_g0 (X11_choose_fam n) t x1 h = some r := lim_iff (fun n => by
  obtain ih16 := X11_choose_fm n
  exact X11_choose_n0 ih16 t x1 h)
noncomputable abbrev X11_choose_F : List PV → PH → Option Rs := FW_T10I (X11_choose)
set_option maxRecDepth 100000 in
theorem X11_choose_gd (l : Launch) : Gd l 2 yX11_choose cX11_choose 3 (some .int) (X11_choose_F)   := Gd_of (by decide +kernel) (fun z hzl as h r e => by
  obtain ⟨hst, e⟩ := gL_of e
  obtain ⟨t, q0, e⟩ := gT_of e
  obtain ⟨x1, q1, e⟩ := gI_of e
  rw [st_2 hst q0 q1]
  obtain ⟨n, e⟩ := lim_of e
  obtain hG16 := X11_choose_k (z := z) n
  exact ⟨show 2 ≤ 3 by decide, X11_choose_s0 hG16 _ _ _ _ ((X11_choose_l0 X1_hasPlace (X11_choose_fam n) t x1 h).trans e)⟩)
abbrev X11_clear_x (z : CZ) : CX := mx RX11 cX11_clear 2 0 (some .int) "clear" z
noncomputable def X11_clear_b0 : Kn := (a_al 0 (a_gR 10 640 1 (a_gI 1 77 (a_is 1 (a_al 0 (a_gR 10 640 1 (a_ic 0 (a_pI 1 77 (a_il 1 a_ir)))))))))
set_option maxRecDepth 100000 in
theorem X11_clear_s0 {z : CZ} : SK (X11_clear_x z) 0 (X11_clear_b0) := (s_aloadn (pc := 0) dX11_clear_0 rfl (s_gR (pc := 1) (f := 0) ko_10 (by decide) rfl rfl w_504 dX11_clear_1 (s_gI (pc := 4) (f := 13) ko_1 (by decide) rfl rfl w_260 dX11_clear_4 (s_istoren (pc := 7) dX11_clear_7 rfl (show 1 < 2 by decide) (s_aloadn (pc := 8) dX11_clear_8 rfl (s_gR (pc := 9) (f := 0) ko_10 (by decide) rfl rfl w_504 dX11_clear_9 (s_iconst (pc := 12) dX11_clear_12 c_ic_0 (s_pI (pc := 13) (f := 13) ko_1 (by decide) rfl rfl rfl (by decide +kernel) w_260 dX11_clear_13 (s_iloadn (pc := 16) dX11_clear_16 rfl (s_ir (pc := 17) rfl dX11_clear_17))))))))))
noncomputable def X11_clear_f0 (t : Nat) (h : PH) : Option Rs :=
  nn (hR h 640 t 0) fun r1 =>
  nn (hR h 640 t 0) fun r2 =>
  wr (pI h 77 r2 0 0) fun h3 =>
  some (some (.inl (hI h 77 r1 0)), h3)
set_option maxRecDepth 100000 in
theorem X11_clear_l0 (t : Nat) (h : PH) : X11_clear_b0 [some (.inr (10, t + 1)), none] [] h = X11_clear_f0 t h := rfl
noncomputable def X11_clear_g0 (t : Nat) (h : PH) : Option Rs := X11_clear_f0 t h
noncomputable def X11_clear (t : Nat) (h : PH) : Option Rs := X11_clear_g0 t h
noncomputable abbrev X11_clear_F : List PV → PH → Option Rs := FW_T10 (X11_clear)
set_option maxRecDepth 100000 in
theorem X11_clear_gd (l : Launch) : Gd l 0 yX11_clear cX11_clear 2 (some .int) (X11_clear_F)   := Gd_of (by decide +kernel) (fun z hzl as h r e => by
  obtain ⟨hst, e⟩ := gL_of e
  obtain ⟨t, q0, e⟩ := gT_of e
  rw [st_1 hst q0]
  exact ⟨show 1 ≤ 2 by decide, X11_clear_s0 _ _ _ _ ((X11_clear_l0 t h).trans e)⟩)
abbrev J6_bitCount_0f7a4_x (z : CZ) : CX := mx RJ6 cJ6_bitCount_0f7a4 1 0 (some .int) "bitCount" z
noncomputable def J6_bitCount_0f7a4_b0 : Kn := (a_il 0 (a_il 0 (a_ic 1 (a_b jushr (a_ic 1431655765 (a_b (fun a b => a &&& b) (a_b (fun a b => a - b) (a_is 0 (a_il 0 (a_ic 858993459 (a_b (fun a b => a &&& b) (a_il 0 (a_ic 2 (a_b jushr (a_ic 858993459 (a_b (fun a b => a &&& b) (a_b (fun a b => a + b) (a_is 0 (a_il 0 (a_il 0 (a_ic 4 (a_b jushr (a_b (fun a b => a + b) (a_ic 252645135 (a_b (fun a b => a &&& b) (a_is 0 (a_il 0 (a_il 0 (a_ic 8 (a_b jushr (a_b (fun a b => a + b) (a_is 0 (a_il 0 (a_il 0 (a_ic 16 (a_b jushr (a_b (fun a b => a + b) (a_is 0 (a_il 0 (a_ic 63 (a_b (fun a b => a &&& b) a_ir)))))))))))))))))))))))))))))))))))))))))
set_option maxRecDepth 100000 in
theorem J6_bitCount_0f7a4_s0 {z : CZ} : SK (J6_bitCount_0f7a4_x z) 0 (J6_bitCount_0f7a4_b0) := (s_iloadn (pc := 0) dJ6_bitCount_0f7a4_0 rfl (s_iloadn (pc := 1) dJ6_bitCount_0f7a4_1 rfl (s_iconst (pc := 2) dJ6_bitCount_0f7a4_2 c_ic_1 (s_iushr (pc := 3) dJ6_bitCount_0f7a4_3 (s_ldcw (pc := 4) w_1147 dJ6_bitCount_0f7a4_4 (s_iand (pc := 7) dJ6_bitCount_0f7a4_7 (s_isub (pc := 8) dJ6_bitCount_0f7a4_8 (s_istoren (pc := 9) dJ6_bitCount_0f7a4_9 rfl (show 0 < 1 by decide) (s_iloadn (pc := 10) dJ6_bitCount_0f7a4_10 rfl (s_ldcw (pc := 11) w_1148 dJ6_bitCount_0f7a4_11 (s_iand (pc := 14) dJ6_bitCount_0f7a4_14 (s_iloadn (pc := 15) dJ6_bitCount_0f7a4_15 rfl (s_iconst (pc := 16) dJ6_bitCount_0f7a4_16 c_ic_2 (s_iushr (pc := 17) dJ6_bitCount_0f7a4_17 (s_ldcw (pc := 18) w_1148 dJ6_bitCount_0f7a4_18 (s_iand (pc := 21) dJ6_bitCount_0f7a4_21 (s_iadd (pc := 22) dJ6_bitCount_0f7a4_22 (s_istoren (pc := 23) dJ6_bitCount_0f7a4_23 rfl (show 0 < 1 by decide) (s_iloadn (pc := 24) dJ6_bitCount_0f7a4_24 rfl (s_iloadn (pc := 25) dJ6_bitCount_0f7a4_25 rfl (s_iconst (pc := 26) dJ6_bitCount_0f7a4_26 c_ic_4 (s_iushr (pc := 27) dJ6_bitCount_0f7a4_27 (s_iadd (pc := 28) dJ6_bitCount_0f7a4_28 (s_ldcw (pc := 29) w_1149 dJ6_bitCount_0f7a4_29 (s_iand (pc := 32) dJ6_bitCount_0f7a4_32 (s_istoren (pc := 33) dJ6_bitCount_0f7a4_33 rfl (show 0 < 1 by decide) (s_iloadn (pc := 34) dJ6_bitCount_0f7a4_34 rfl (s_iloadn (pc := 35) dJ6_bitCount_0f7a4_35 rfl (s_bipush (pc := 36) dJ6_bitCount_0f7a4_36 c_bp_8 (s_iushr (pc := 38) dJ6_bitCount_0f7a4_38 (s_iadd (pc := 39) dJ6_bitCount_0f7a4_39 (s_istoren (pc := 40) dJ6_bitCount_0f7a4_40 rfl (show 0 < 1 by decide) (s_iloadn (pc := 41) dJ6_bitCount_0f7a4_41 rfl (s_iloadn (pc := 42) dJ6_bitCount_0f7a4_42 rfl (s_bipush (pc := 43) dJ6_bitCount_0f7a4_43 c_bp_16 (s_iushr (pc := 45) dJ6_bitCount_0f7a4_45 (s_iadd (pc := 46) dJ6_bitCount_0f7a4_46 (s_istoren (pc := 47) dJ6_bitCount_0f7a4_47 rfl (show 0 < 1 by decide) (s_iloadn (pc := 48) dJ6_bitCount_0f7a4_48 rfl (s_bipush (pc := 49) dJ6_bitCount_0f7a4_49 c_bp_63 (s_iand (pc := 51) dJ6_bitCount_0f7a4_51 (s_ir (pc := 52) rfl dJ6_bitCount_0f7a4_52))))))))))))))))))))))))))))))))))))))))))
noncomputable def J6_bitCount_0f7a4_f0 (x0 : Int32) (h : PH) : Option Rs :=
  wi (((x0 - ((jushr x0 1) &&& 1431655765)) &&& 858993459) + ((jushr (x0 - ((jushr x0 1) &&& 1431655765)) 2) &&& 858993459)) fun v1 =>
  wi (((v1 + (jushr v1 4)) &&& 252645135) + (jushr ((v1 + (jushr v1 4)) &&& 252645135) 8)) fun v2 =>
  some (some (.inl ((v2 + (jushr v2 16)) &&& 63)), h)
set_option maxRecDepth 100000 in
theorem J6_bitCount_0f7a4_l0 (x0 : Int32) (h : PH) : J6_bitCount_0f7a4_b0 [some (.inl x0)] [] h = J6_bitCount_0f7a4_f0 x0 h := rfl
noncomputable def J6_bitCount_0f7a4_g0 (x0 : Int32) (h : PH) : Option Rs := J6_bitCount_0f7a4_f0 x0 h
noncomputable def J6_bitCount_0f7a4 (x0 : Int32) (h : PH) : Option Rs := J6_bitCount_0f7a4_g0 x0 h
noncomputable abbrev J6_bitCount_0f7a4_F : List PV → PH → Option Rs := FW_I (J6_bitCount_0f7a4)
set_option maxRecDepth 100000 in
theorem J6_bitCount_0f7a4_gd (l : Launch) : Gd l 0 yJ6_bitCount_0f7a4 cJ6_bitCount_0f7a4 1 (some .int) (J6_bitCount_0f7a4_F)   := Gd_of (by decide +kernel) (fun z hzl as h r e => by
  obtain ⟨hst, e⟩ := gL_of e
  obtain ⟨x0, q0, e⟩ := gI_of e
  rw [st_1 hst q0]
  exact ⟨show 1 ≤ 1 by decide, J6_bitCount_0f7a4_s0 _ _ _ _ ((J6_bitCount_0f7a4_l0 x0 h).trans e)⟩)
