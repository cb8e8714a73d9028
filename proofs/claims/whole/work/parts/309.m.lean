abbrev X9_allArriveWith_x (z : CZ) : CX := mx RX9 cX9_allArriveWith 3 5 (some .boolean) "allArriveWith" z
noncomputable def X9_allArriveWith_b0 (c_J7_fill_53178_34 : Nat → Int32 → PH → Option Rs) (k10 : Kn) : Kn := (a_al 0 (a_gR 8 519 34 (a_ic (-1) (a_sV 2 (FW_R34I c_J7_fill_53178_34) (a_ic 0 (a_is 2 k10))))))
set_option maxRecDepth 100000 in
theorem X9_allArriveWith_s0 {z : CZ} {k10 : Kn} (hk10 : SK (X9_allArriveWith_x z) 10 k10) : SK (X9_allArriveWith_x z) 0 (X9_allArriveWith_b0 J7_fill_53178_34 k10) := (s_aloadn (pc := 0) dX9_allArriveWith_0 rfl (s_gR (pc := 1) (f := 7) ko_8 (by decide) rfl rfl w_339 dX9_allArriveWith_1 (s_iconst (pc := 4) dX9_allArriveWith_4 c_ic_m1 (s_sV (pc := 5) (run_static (J7_fill_53178_34_gd _) (show 0 < 5 by decide) cy_J7_fill_53178 w_211 w_975 dX9_allArriveWith_5) (s_iconst (pc := 8) dX9_allArriveWith_8 c_ic_0 (s_istoren (pc := 9) dX9_allArriveWith_9 rfl (show 2 < 3 by decide) hk10))))))
noncomputable def X9_allArriveWith_b10 (c_X4_heading : Nat → Int32 → Int32 → PH → Option Rs) (k64 k72 : Kn) : Kn := (a_il 2 (a_al 0 (a_gR 8 513 1 (a_gI 1 77 (a_lt (a_il 1 (a_il 2 (a_b jshr (a_ic 1 (a_b (fun a b => a &&& b) (a_ic 1 (a_eq (a_al 0 (a_gR 8 519 34 (a_al 0 (a_gR 8 513 1 (a_gR 1 71 21 (a_il 2 (a_ald 21 1344 (a_al 0 (a_gR 8 512 3 (a_al 0 (a_gR 8 513 1 (a_gR 1 71 21 (a_il 2 (a_ald 21 1344 (a_al 0 (a_gI 8 516 (a_vI 3 2 (FW_T3II c_X4_heading) (a_ast 34 2176 (fun a => a) k64)))))))))))))))))) k64))))))) (a_ic 0 (a_is 2 k72)))))))
set_option maxRecDepth 100000 in
theorem X9_allArriveWith_s10 {z : CZ} {k64 k72 : Kn} (hk64 : SK (X9_allArriveWith_x z) 64 k64) (hk72 : SK (X9_allArriveWith_x z) 72 k72) : SK (X9_allArriveWith_x z) 10 (X9_allArriveWith_b10 X4_heading k64 k72) := (s_iloadn (pc := 10) dX9_allArriveWith_10 rfl (s_aloadn (pc := 11) dX9_allArriveWith_11 rfl (s_gR (pc := 12) (f := 1) ko_8 (by decide) rfl rfl w_333 dX9_allArriveWith_12 (s_gI (pc := 15) (f := 13) ko_1 (by decide) rfl rfl w_259 dX9_allArriveWith_15 (s_cmpge (pc := 18) dX9_allArriveWith_18 (by decide) (s_iconst (pc := 70) dX9_allArriveWith_70 c_ic_0 (s_istoren (pc := 71) dX9_allArriveWith_71 rfl (show 2 < 3 by decide) hk72)) (s_iloadn (pc := 21) dX9_allArriveWith_21 rfl (s_iloadn (pc := 22) dX9_allArriveWith_22 rfl (s_ishr (pc := 23) dX9_allArriveWith_23 (s_iconst (pc := 24) dX9_allArriveWith_24 c_ic_1 (s_iand (pc := 25) dX9_allArriveWith_25 (s_iconst (pc := 26) dX9_allArriveWith_26 c_ic_1 (s_cmpne (pc := 27) dX9_allArriveWith_27 (by decide) hk64 (s_aloadn (pc := 30) dX9_allArriveWith_30 rfl (s_gR (pc := 31) (f := 7) ko_8 (by decide) rfl rfl w_339 dX9_allArriveWith_31 (s_aloadn (pc := 34) dX9_allArriveWith_34 rfl (s_gR (pc := 35) (f := 1) ko_8 (by decide) rfl rfl w_333 dX9_allArriveWith_35 (s_gR (pc := 38) (f := 7) ko_1 (by decide) rfl rfl w_239 dX9_allArriveWith_38 (s_iloadn (pc := 41) dX9_allArriveWith_41 rfl (s_iald (pc := 42) (by decide) (by decide) rfl rfl rfl dX9_allArriveWith_42 (s_aloadn (pc := 43) dX9_allArriveWith_43 rfl (s_gR (pc := 44) (f := 0) ko_8 (by decide) rfl rfl w_331 dX9_allArriveWith_44 (s_aloadn (pc := 47) dX9_allArriveWith_47 rfl (s_gR (pc := 48) (f := 1) ko_8 (by decide) rfl rfl w_333 dX9_allArriveWith_48 (s_gR (pc := 51) (f := 7) ko_1 (by decide) rfl rfl w_239 dX9_allArriveWith_51 (s_iloadn (pc := 54) dX9_allArriveWith_54 rfl (s_iald (pc := 55) (by decide) (by decide) rfl rfl rfl dX9_allArriveWith_55 (s_aloadn (pc := 56) dX9_allArriveWith_56 rfl (s_gI (pc := 57) (f := 4) ko_8 (by decide) rfl rfl w_336 dX9_allArriveWith_57 (s_vI (pc := 60) (run_virtual (X4_heading_gd _) (show 2 < 5 by decide) cy_X4_heading (by decide) rfl w_1046 w_1047 w_1154 dX9_allArriveWith_60) (s_iast (pc := 63) (by decide) (by decide) rfl rfl rfl dX9_allArriveWith_63 hk64))))))))))))))))))))))))))))))
noncomputable def X9_allArriveWith_b64 (k10 : Kn) : Kn := (a_inc 2 1 k10)
set_option maxRecDepth 100000 in
theorem X9_allArriveWith_s64 {z : CZ} {k10 : Kn} (hk10 : SK (X9_allArriveWith_x z) 10 k10) : SK (X9_allArriveWith_x z) 64 (X9_allArriveWith_b64 k10) := (s_iinc (pc := 64) dX9_allArriveWith_64 c_ic_1 (show 2 < 3 by decide) (s_goto (pc := 67) dX9_allArriveWith_67 (by decide) hk10))
noncomputable def X9_allArriveWith_b72 (c_X4_heading : Nat → Int32 → Int32 → PH → Option Rs) (c_X9_go : Nat → Int32 → PH → Option Rs) (k110 : Kn) : Kn := (a_il 2 (a_al 0 (a_gR 8 513 1 (a_gI 1 72 (a_lt (a_al 0 (a_gR 8 512 3 (a_il 2 (a_al 0 (a_gI 8 516 (a_vI 3 2 (FW_T3II c_X4_heading) (a_ic (-1) (a_eq k110 (a_al 0 (a_il 2 (a_vI 8 1 (FW_T8I c_X9_go) (a_ic 1 (a_eq k110 (a_ic 0 a_zr)))))))))))))) (a_ic 1 a_zr))))))
set_option maxRecDepth 100000 in
theorem X9_allArriveWith_s72 {z : CZ} {k110 : Kn} (hk110 : SK (X9_allArriveWith_x z) 110 k110) : SK (X9_allArriveWith_x z) 72 (X9_allArriveWith_b72 X4_heading X9_go k110) := (s_iloadn (pc := 72) dX9_allArriveWith_72 rfl (s_aloadn (pc := 73) dX9_allArriveWith_73 rfl (s_gR (pc := 74) (f := 1) ko_8 (by decide) rfl rfl w_333 dX9_allArriveWith_74 (s_gI (pc := 77) (f := 8) ko_1 (by decide) rfl rfl w_243 dX9_allArriveWith_77 (s_cmpge (pc := 80) dX9_allArriveWith_80 (by decide) (s_iconst (pc := 116) dX9_allArriveWith_116 c_ic_1 (s_zr (pc := 117) rfl dX9_allArriveWith_117)) (s_aloadn (pc := 83) dX9_allArriveWith_83 rfl (s_gR (pc := 84) (f := 0) ko_8 (by decide) rfl rfl w_331 dX9_allArriveWith_84 (s_iloadn (pc := 87) dX9_allArriveWith_87 rfl (s_aloadn (pc := 88) dX9_allArriveWith_88 rfl (s_gI (pc := 89) (f := 4) ko_8 (by decide) rfl rfl w_336 dX9_allArriveWith_89 (s_vI (pc := 92) (run_virtual (X4_heading_gd _) (show 2 < 5 by decide) cy_X4_heading (by decide) rfl w_1046 w_1047 w_1154 dX9_allArriveWith_92) (s_iconst (pc := 95) dX9_allArriveWith_95 c_ic_m1 (s_cmpeq (pc := 96) dX9_allArriveWith_96 (by decide) hk110 (s_aloadn (pc := 99) dX9_allArriveWith_99 rfl (s_iloadn (pc := 100) dX9_allArriveWith_100 rfl (s_vI (pc := 101) (run_virtual (X9_go_gd _) (show 4 < 5 by decide) cy_X9_go (by decide) rfl w_985 w_986 w_1155 dX9_allArriveWith_101) (s_iconst (pc := 104) dX9_allArriveWith_104 c_ic_1 (s_cmpeq (pc := 105) dX9_allArriveWith_105 (by decide) hk110 (s_iconst (pc := 108) dX9_allArriveWith_108 c_ic_0 (s_zr (pc := 109) rfl dX9_allArriveWith_109))))))))))))))))))))
noncomputable def X9_allArriveWith_b110 (k72 : Kn) : Kn := (a_inc 2 1 k72)
set_option maxRecDepth 100000 in
theorem X9_allArriveWith_s110 {z : CZ} {k72 : Kn} (hk72 : SK (X9_allArriveWith_x z) 72 k72) : SK (X9_allArriveWith_x z) 110 (X9_allArriveWith_b110 k72) := (s_iinc (pc := 110) dX9_allArriveWith_110 c_ic_1 (show 2 < 3 by decide) (s_goto (pc := 113) dX9_allArriveWith_113 (by decide) hk72))
noncomputable def X9_allArriveWith_u10 (g : Nat → Int32 → Int32 → PH → Option Rs) : Kn := fun ls st h => gL 0 st (gT 8 ls 0 fun t => gI ls 1 fun x1 => gI ls 2 fun x2 => g t x1 x2 h)
noncomputable def X9_allArriveWith_u64 (g : Nat → Int32 → Int32 → PH → Option Rs) : Kn := fun ls st h => gL 0 st (gT 8 ls 0 fun t => gI ls 1 fun x1 => gI ls 2 fun x2 => g t x1 x2 h)
noncomputable def X9_allArriveWith_u72 (g : Nat → Int32 → PH → Option Rs) : Kn := fun ls st h => gL 0 st (gT 8 ls 0 fun t => gI ls 2 fun x2 => g t x2 h)
noncomputable def X9_allArriveWith_u110 (g : Nat → Int32 → PH → Option Rs) : Kn := fun ls st h => gL 0 st (gT 8 ls 0 fun t => gI ls 2 fun x2 => g t x2 h)
noncomputable def X9_allArriveWith_f0 (c_J7_fill_53178_34 : Nat → Int32 → PH → Option Rs) (g10 : Nat → Int32 → Int32 → PH → Option Rs) (t : Nat) (x1 : Int32) (h : PH) : Option Rs :=
  cV (c_J7_fill_53178_34 (hR h 519 t 0) (-1) h) fun h1 =>
  g10 t x1 0 h1
set_option maxRecDepth 100000 in
theorem X9_allArriveWith_l0 (c_J7_fill_53178_34 : Nat → Int32 → PH → Option Rs) (g10 : Nat → Int32 → Int32 → PH → Option Rs) (t : Nat) (x1 : Int32) (h : PH) : X9_allArriveWith_b0 c_J7_fill_53178_34 (X9_allArriveWith_u10 g10) [some (.inr (8, t + 1)), some (.inl x1), none] [] h = X9_allArriveWith_f0 c_J7_fill_53178_34 g10 t x1 h := rfl
theorem X9_allArriveWith_m0 {c_J7_fill_53178_34 : Nat → Int32 → PH → Option Rs} {g10 G10 : Nat → Int32 → Int32 → PH → Option Rs} (hg10 : ∀ a0 a1 a2 a3, Mo (g10 a0 a1 a2 a3) (G10 a0 a1 a2 a3)) (t : Nat) (x1 : Int32) (h : PH) : Mo (X9_allArriveWith_f0 c_J7_fill_53178_34 g10 t x1 h) (X9_allArriveWith_f0 c_J7_fill_53178_34 G10 t x1 h) := (mo_cV fun h1 => (hg10 t x1 0 h1))
noncomputable def X9_allArriveWith_f10 (c_X4_heading : Nat → Int32 → Int32 → PH → Option Rs) (g64 : Nat → Int32 → Int32 → PH → Option Rs) (g72 : Nat → Int32 → PH → Option Rs) (t : Nat) (x1 : Int32) (x2 : Int32) (h : PH) : Option Rs :=
  nn (hR h 513 t 0) fun r2 =>
  if x2 < (hI h 77 r2 0) then
    if ((jshr x1 x2) &&& 1) = 1 then
      nn (hR h 513 t 0) fun r3 =>
      nn (hR h 71 r3 0) fun r4 =>
      ix x2 (hL h 21 r4) fun j5 =>
      nn (hR h 513 t 0) fun r6 =>
      nn (hR h 71 r6 0) fun r7 =>
      ix x2 (hL h 21 r7) fun j8 =>
      nn (hR h 512 t 0) fun r9 =>
      cI (c_X4_heading r9 (hI h 1344 r7 j8) (hI h 516 t 0) h) fun v11 h10 =>
      nn (hR h 519 t 0) fun r12 =>
      ix (hI h 1344 r4 j5) (hL h10 34 r12) fun j13 =>
      wr (pI h10 2176 r12 j13 v11) fun h14 =>
      g64 t x1 x2 h14
    else
      g64 t x1 x2 h
  else
    g72 t 0 h
set_option maxRecDepth 100000 in
theorem X9_allArriveWith_l10 (c_X4_heading : Nat → Int32 → Int32 → PH → Option Rs) (g64 : Nat → Int32 → Int32 → PH → Option Rs) (g72 : Nat → Int32 → PH → Option Rs) (t : Nat) (x1 : Int32) (x2 : Int32) (h : PH) : X9_allArriveWith_b10 c_X4_heading (X9_allArriveWith_u64 g64) (X9_allArriveWith_u72 g72) [some (.inr (8, t + 1)), some (.inl x1), some (.inl x2)] [] h = X9_allArriveWith_f10 c_X4_heading g64 g72 t x1 x2 h := rfl
theorem X9_allArriveWith_m10 {c_X4_heading : Nat → Int32 → Int32 → PH → Option Rs} {g64 G64 : Nat → Int32 → Int32 → PH → Option Rs} {g72 G72 : Nat → Int32 → PH → Option Rs} (hg64 : ∀ a0 a1 a2 a3, Mo (g64 a0 a1 a2 a3) (G64 a0 a1 a2 a3)) (hg72 : ∀ a0 a1 a2, Mo (g72 a0 a1 a2) (G72 a0 a1 a2)) (t : Nat) (x1 : Int32) (x2 : Int32) (h : PH) : Mo (X9_allArriveWith_f10 c_X4_heading g64 g72 t x1 x2 h) (X9_allArriveWith_f10 c_X4_heading G64 G72 t x1 x2 h) := (mo_nn fun r2 => (mo_if (mo_if (mo_nn fun r3 => (mo_nn fun r4 => (mo_ix fun j5 => (mo_nn fun r6 => (mo_nn fun r7 => (mo_ix fun j8 => (mo_nn fun r9 => (mo_cI fun v11 h10 => (mo_nn fun r12 => (mo_ix fun j13 => (mo_wr fun h14 => (hg64 t x1 x2 h14)))))))))))) (hg64 t x1 x2 h)) (hg72 t 0 h)))
theorem X9_allArriveWith_w10 {z : CZ} {g64 : Nat → Int32 → Int32 → PH → Option Rs} {g72 : Nat → Int32 → PH → Option Rs} (hk64 : SK (X9_allArriveWith_x z) 64 (X9_allArriveWith_u64 g64)) (hk72 : SK (X9_allArriveWith_x z) 72 (X9_allArriveWith_u72 g72)) : SK (X9_allArriveWith_x z) 10 (X9_allArriveWith_u10 (X9_allArriveWith_f10 X4_heading g64 g72)) := by
  intro ls st h r e
  obtain ⟨hst, e⟩ := gL_of e
  obtain ⟨t, q0, e⟩ := gT_of e
  obtain ⟨x1, q1, e⟩ := gI_of e
  obtain ⟨x2, q2, e⟩ := gI_of e
  rw [st_0 hst]
  exact WK.sub (canon := [some (.inr (8, t + 1)), some (.inl x1), some (.inl x2)]) rfl ⟨q0, q1, q2, trivial⟩ (X9_allArriveWith_s10 hk64 hk72 _ _ _ _ ((X9_allArriveWith_l10 X4_heading g64 g72 t x1 x2 h).trans e))
noncomputable def X9_allArriveWith_f64 (g10 : Nat → Int32 → Int32 → PH → Option Rs) (t : Nat) (x1 : Int32) (x2 : Int32) (h : PH) : Option Rs :=
  g10 t x1 (x2 + 1) h
set_option maxRecDepth 100000 in
theorem X9_allArriveWith_l64 (g10 : Nat → Int32 → Int32 → PH → Option Rs) (t : Nat) (x1 : Int32) (x2 : Int32) (h : PH) : X9_allArriveWith_b64 (X9_allArriveWith_u10 g10) [some (.inr (8, t + 1)), some (.inl x1), some (.inl x2)] [] h = X9_allArriveWith_f64 g10 t x1 x2 h := rfl
theorem X9_allArriveWith_m64 {g10 G10 : Nat → Int32 → Int32 → PH → Option Rs} (hg10 : ∀ a0 a1 a2 a3, Mo (g10 a0 a1 a2 a3) (G10 a0 a1 a2 a3)) (t : Nat) (x1 : Int32) (x2 : Int32) (h : PH) : Mo (X9_allArriveWith_f64 g10 t x1 x2 h) (X9_allArriveWith_f64 G10 t x1 x2 h) := (hg10 t x1 (x2 + 1) h)
theorem X9_allArriveWith_w64 {z : CZ} {g10 : Nat → Int32 → Int32 → PH → Option Rs} (hk10 : SK (X9_allArriveWith_x z) 10 (X9_allArriveWith_u10 g10)) : SK (X9_allArriveWith_x z) 64 (X9_allArriveWith_u64 (X9_allArriveWith_f64 g10)) := by
  intro ls st h r e
  obtain ⟨hst, e⟩ := gL_of e
  obtain ⟨t, q0, e⟩ := gT_of e
  obtain ⟨x1, q1, e⟩ := gI_of e
  obtain ⟨x2, q2, e⟩ := gI_of e
  rw [st_0 hst]
  exact WK.sub (canon := [some (.inr (8, t + 1)), some (.inl x1), some (.inl x2)]) rfl ⟨q0, q1, q2, trivial⟩ (X9_allArriveWith_s64 hk10 _ _ _ _ ((X9_allArriveWith_l64 g10 t x1 x2 h).trans e))
noncomputable def X9_allArriveWith_f72 (c_X4_heading : Nat → Int32 → Int32 → PH → Option Rs) (c_X9_go : Nat → Int32 → PH → Option Rs) (g110 : Nat → Int32 → PH → Option Rs) (t : Nat) (x2 : Int32) (h : PH) : Option Rs :=
  nn (hR h 513 t 0) fun r15 =>
  if x2 < (hI h 72 r15 0) then
    nn (hR h 512 t 0) fun r16 =>
    cI (c_X4_heading r16 x2 (hI h 516 t 0) h) fun v18 h17 =>
    if v18 = (-1) then
      g110 t x2 h17
    else
      cI (c_X9_go t x2 h17) fun v20 h19 =>
      if v20 = 1 then
        g110 t x2 h19
      else
        bz 0 <|
        some (some (.inl 0), h19)
  else
    bz 1 <|
    some (some (.inl 1), h)
set_option maxRecDepth 100000 in
theorem X9_allArriveWith_l72 (c_X4_heading : Nat → Int32 → Int32 → PH → Option Rs) (c_X9_go : Nat → Int32 → PH → Option Rs) (g110 : Nat → Int32 → PH → Option Rs) (t : Nat) (x2 : Int32) (h : PH) : X9_allArriveWith_b72 c_X4_heading c_X9_go (X9_allArriveWith_u110 g110) [some (.inr (8, t + 1)), none, some (.inl x2)] [] h = X9_allArriveWith_f72 c_X4_heading c_X9_go g110 t x2 h := rfl
theorem X9_allArriveWith_m72 {c_X4_heading : Nat → Int32 → Int32 → PH → Option Rs} {c_X9_go : Nat → Int32 → PH → Option Rs} {g110 G110 : Nat → Int32 → PH → Option Rs} (hg110 : ∀ a0 a1 a2, Mo (g110 a0 a1 a2) (G110 a0 a1 a2)) (t : Nat) (x2 : Int32) (h : PH) : Mo (X9_allArriveWith_f72 c_X4_heading c_X9_go g110 t x2 h) (X9_allArriveWith_f72 c_X4_heading c_X9_go G110 t x2 h) := (mo_nn fun r15 => (mo_if (mo_nn fun r16 => (mo_cI fun v18 h17 => (mo_if (hg110 t x2 h17) (mo_cI fun v20 h19 => (mo_if (hg110 t x2 h19) (mo_bz mo_rf)))))) (mo_bz mo_rf)))
theorem X9_allArriveWith_w72 {z : CZ} {g110 : Nat → Int32 → PH → Option Rs} (hk110 : SK (X9_allArriveWith_x z) 110 (X9_allArriveWith_u110 g110)) : SK (X9_allArriveWith_x z) 72 (X9_allArriveWith_u72 (X9_allArriveWith_f72 X4_heading X9_go g110)) := by
  intro ls st h r e
  obtain ⟨hst, e⟩ := gL_of e
  obtain ⟨t, q0, e⟩ := gT_of e
  obtain ⟨x2, q1, e⟩ := gI_of e
  rw [st_0 hst]
  exact WK.sub (canon := [some (.inr (8, t + 1)), none, some (.inl x2)]) rfl ⟨q0, q1, trivial⟩ (X9_allArriveWith_s72 hk110 _ _ _ _ ((X9_allArriveWith_l72 X4_heading X9_go g110 t x2 h).trans e))
noncomputable def X9_allArriveWith_f110 (g72 : Nat → Int32 → PH → Option Rs) (t : Nat) (x2 : Int32) (h : PH) : Option Rs :=
  g72 t (x2 + 1) h
set_option maxRecDepth 100000 in
theorem X9_allArriveWith_l110 (g72 : Nat → Int32 → PH → Option Rs) (t : Nat) (x2 : Int32) (h : PH) : X9_allArriveWith_b110 (X9_allArriveWith_u72 g72) [some (.inr (8, t + 1)), none, some (.inl x2)] [] h = X9_allArriveWith_f110 g72 t x2 h := rfl
theorem X9_allArriveWith_m110 {g72 G72 : Nat → Int32 → PH → Option Rs} (hg72 : ∀ a0 a1 a2, Mo (g72 a0 a1 a2) (G72 a0 a1 a2)) (t : Nat) (x2 : Int32) (h : PH) : Mo (X9_allArriveWith_f110 g72 t x2 h) (X9_allArriveWith_f110 G72 t x2 h) := (hg72 t (x2 + 1) h)
theorem X9_allArriveWith_w110 {z : CZ} {g72 : Nat → Int32 → PH → Option Rs} (hk72 : SK (X9_allArriveWith_x z) 72 (X9_allArriveWith_u72 g72)) : SK (X9_allArriveWith_x z) 110 (X9_allArriveWith_u110 (X9_allArriveWith_f110 g72)) := by
  intro ls st h r e
  obtain ⟨hst, e⟩ := gL_of e
  obtain ⟨t, q0, e⟩ := gT_of e
  obtain ⟨x2, q1, e⟩ := gI_of e
  rw [st_0 hst]
  exact WK.sub (canon := [some (.inr (8, t + 1)), none, some (.inl x2)]) rfl ⟨q0, q1, trivial⟩ (X9_allArriveWith_s110 hk72 _ _ _ _ ((X9_allArriveWith_l110 g72 t x2 h).trans e))
noncomputable def X9_allArriveWith_g0 (G : (Nat → Int32 → Int32 → PH → Option Rs) × (Nat → Int32 → PH → Option Rs)) (t : Nat) (x1 : Int32) (h : PH) : Option Rs := X9_allArriveWith_f0 J7_fill_53178_34 (G).1 t x1 h
noncomputable def X9_allArriveWith_g64 (G : (Nat → Int32 → Int32 → PH → Option Rs) × (Nat → Int32 → PH → Option Rs)) (t : Nat) (x1 : Int32) (x2 : Int32) (h : PH) : Option Rs := X9_allArriveWith_f64 (G).1 t x1 x2 h
noncomputable def X9_allArriveWith_g10 (G : (Nat → Int32 → Int32 → PH → Option Rs) × (Nat → Int32 → PH → Option Rs)) (t : Nat) (x1 : Int32) (x2 : Int32) (h : PH) : Option Rs := X9_allArriveWith_f10 X4_heading (X9_allArriveWith_g64 G) (G).2 t x1 x2 h
noncomputable def X9_allArriveWith_g110 (G : (Nat → Int32 → Int32 → PH → Option Rs) × (Nat → Int32 → PH → Option Rs)) (t : Nat) (x2 : Int32) (h : PH) : Option Rs := X9_allArriveWith_f110 (G).2 t x2 h
noncomputable def X9_allArriveWith_g72 (G : (Nat → Int32 → Int32 → PH → Option Rs) × (Nat → Int32 → PH → Option Rs)) (t : Nat) (x2 : Int32) (h : PH) : Option Rs := X9_allArriveWith_f72 X4_heading X9_go (X9_allArriveWith_g110 G) t x2 h
theorem X9_allArriveWith_v64 {z : CZ} {G : (Nat → Int32 → Int32 → PH → Option Rs) × (Nat → Int32 → PH → Option Rs)} (hG10 : SK (X9_allArriveWith_x z) 10 (X9_allArriveWith_u10 (G).1)) (hG72 : SK (X9_allArriveWith_x z) 72 (X9_allArriveWith_u72 (G).2)) : SK (X9_allArriveWith_x z) 64 (X9_allArriveWith_u64 (X9_allArriveWith_g64 G)) := X9_allArriveWith_w64 hG10
theorem X9_allArriveWith_v10 {z : CZ} {G : (Nat → Int32 → Int32 → PH → Option Rs) × (Nat → Int32 → PH → Option Rs)} (hG10 : SK (X9_allArriveWith_x z) 10 (X9_allArriveWith_u10 (G).1)) (hG72 : SK (X9_allArriveWith_x z) 72 (X9_allArriveWith_u72 (G).2)) : SK (X9_allArriveWith_x z) 10 (X9_allArriveWith_u10 (X9_allArriveWith_g10 G)) := X9_allArriveWith_w10 (X9_allArriveWith_v64 hG10 hG72) hG72
theorem X9_allArriveWith_v110 {z : CZ} {G : (Nat → Int32 → Int32 → PH → Option Rs) × (Nat → Int32 → PH → Option Rs)} (hG10 : SK (X9_allArriveWith_x z) 10 (X9_allArriveWith_u10 (G).1)) (hG72 : SK (X9_allArriveWith_x z) 72 (X9_allArriveWith_u72 (G).2)) : SK (X9_allArriveWith_x z) 110 (X9_allArriveWith_u110 (X9_allArriveWith_g110 G)) := X9_allArriveWith_w110 hG72
theorem X9_allArriveWith_v72 {z : CZ} {G : (Nat → Int32 → Int32 → PH → Option Rs) × (Nat → Int32 → PH → Option Rs)} (hG10 : SK (X9_allArriveWith_x z) 10 (X9_allArriveWith_u10 (G).1)) (hG72 : SK (X9_allArriveWith_x z) 72 (X9_allArriveWith_u72 (G).2)) : SK (X9_allArriveWith_x z) 72 (X9_allArriveWith_u72 (X9_allArriveWith_g72 G)) := X9_allArriveWith_w72 (X9_allArriveWith_v110 hG10 hG72)
noncomputable def X9_allArriveWith_fam : Nat → (Nat → Int32 → Int32 → PH → Option Rs) × (Nat → Int32 → PH → Option Rs)
  | 0 => (fun _ _ _ _ => none, fun _ _ _ => none)
  | n + 1 => (X9_allArriveWith_g10 (X9_allArriveWith_fam n), X9_allArriveWith_g72 (X9_allArriveWith_fam n))
theorem X9_allArriveWith_k {z : CZ} : ∀ n, SK (X9_allArriveWith_x z) 10 (X9_allArriveWith_u10 (X9_allArriveWith_fam n).1) ∧ SK (X9_allArriveWith_x z) 72 (X9_allArriveWith_u72 (X9_allArriveWith_fam n).2)
  | 0 => ⟨(fun ls st h r e => by
      obtain ⟨_, e⟩ := gL_of e
      obtain ⟨_, _, e⟩ := gT_of e
      obtain ⟨_, _, e⟩ := gI_of e
      obtain ⟨_, _, e⟩ := gI_of e
      cases e), (fun ls st h r e => by
      obtain ⟨_, e⟩ := gL_of e
      obtain ⟨_, _, e⟩ := gT_of e
      obtain ⟨_, _, e⟩ := gI_of e
      cases e)⟩
  | n + 1 => by
    obtain ⟨ih10, ih72⟩ := X9_allArriveWith_k n
    exact ⟨X9_allArriveWith_v10 ih10 ih72, X9_allArriveWith_v72 ih10 ih72⟩
theorem X9_allArriveWith_n0 {G G' : (Nat → Int32 → Int32 → PH → Option Rs) × (Nat → Int32 → PH → Option Rs)} (hg10 : ∀ a0 a1 a2 a3, Mo ((G).1 a0 a1 a2 a3) ((G').1 a0 a1 a2 a3)) (hg72 : ∀ a0 a1 a2, Mo ((G).2 a0 a1 a2) ((G').2 a0 a1 a2)) (t : Nat) (x1 : Int32) (h : PH) : Mo (X9_allArriveWith_g0 G t x1 h) (X9_allArriveWith_g0 G' t x1 h) := X9_allArriveWith_m0 hg10 t x1 h
theorem X9_allArriveWith_n64 {G G' : (Nat → Int32 → Int32 → PH → Option Rs) × (Nat → Int32 → PH → Option Rs)} (hg10 : ∀ a0 a1 a2 a3, Mo ((G).1 a0 a1 a2 a3) ((G').1 a0 a1 a2 a3)) (hg72 : ∀ a0 a1 a2, Mo ((G).2 a0 a1 a2) ((G').2 a0 a1 a2)) (t : Nat) (x1 : Int32) (x2 : Int32) (h : PH) : Mo (X9_allArriveWith_g64 G t x1 x2 h) (X9_allArriveWith_g64 G' t x1 x2 h) := X9_allArriveWith_m64 hg10 t x1 x2 h
theorem X9_allArriveWith_n10 {G G' : (Nat → Int32 → Int32 → PH → Option Rs) × (Nat → Int32 → PH → Option Rs)} (hg10 : ∀ a0 a1 a2 a3, Mo ((G).1 a0 a1 a2 a3) ((G').1 a0 a1 a2 a3)) (hg72 : ∀ a0 a1 a2, Mo ((G).2 a0 a1 a2) ((G').2 a0 a1 a2)) (t : Nat) (x1 : Int32) (x2 : Int32) (h : PH) : Mo (X9_allArriveWith_g10 G t x1 x2 h) (X9_allArriveWith_g10 G' t x1 x2 h) := X9_allArriveWith_m10 (fun a0 a1 a2 a3 => X9_allArriveWith_n64 hg10 hg72 a0 a1 a2 a3) hg72 t x1 x2 h
theorem X9_allArriveWith_n110 {G G' : (Nat → Int32 → Int32 → PH → Option Rs) × (Nat → Int32 → PH → Option Rs)} (hg10 : ∀ a0 a1 a2 a3, Mo ((G).1 a0 a1 a2 a3) ((G').1 a0 a1 a2 a3)) (hg72 : ∀ a0 a1 a2, Mo ((G).2 a0 a1 a2) ((G').2 a0 a1 a2)) (t : Nat) (x2 : Int32) (h : PH) : Mo (X9_allArriveWith_g110 G t x2 h) (X9_allArriveWith_g110 G' t x2 h) := X9_allArriveWith_m110 hg72 t x2 h
theorem X9_allArriveWith_n72 {G G' : (Nat → Int32 → Int32 → PH → Option Rs) × (Nat → Int32 → PH → Option Rs)} (hg10 : ∀ a0 a1 a2 a3, Mo ((G).1 a0 a1 a2 a3) ((G').1 a0 a1 a2 a3)) (hg72 : ∀ a0 a1 a2, Mo ((G).2 a0 a1 a2) ((G').2 a0 a1 a2)) (t : Nat) (x2 : Int32) (h : PH) : Mo (X9_allArriveWith_g72 G t x2 h) (X9_allArriveWith_g72 G' t x2 h) := X9_allArriveWith_m72 (fun a0 a1 a2 => X9_allArriveWith_n110 hg10 hg72 a0 a1 a2) t x2 h
theorem X9_allArriveWith_fm : ∀ n, (∀ a0 a1 a2 a3, Mo ((X9_allArriveWith_fam n).1 a0 a1 a2 a3) ((X9_allArriveWith_fam (n + 1)).1 a0 a1 a2 a3)) ∧ (∀ a0 a1 a2, Mo ((X9_allArriveWith_fam n).2 a0 a1 a2) ((X9_allArriveWith_fam (n + 1)).2 a0 a1 a2))
  | 0 => ⟨fun _ _ _ _ => mo_no, fun _ _ _ => mo_no⟩
  | n + 1 => by
    obtain ⟨ih10, ih72⟩ := X9_allArriveWith_fm n
    exact ⟨fun a0 a1 a2 a3 => X9_allArriveWith_n10 ih10 ih72 a0 a1 a2 a3, fun a0 a1 a2 => X9_allArriveWith_n72 ih10 ih72 a0 a1 a2⟩
noncomputable def X9_allArriveWith (t : Nat) (x1 : Int32) (h : PH) : Option Rs := lim (fun n => X9_allArriveWith_g0 (X9_allArriveWith_fam n) t x1 h)
theorem X9_allArriveWith_iff {t : Nat} {x1 : Int32} {h : PH} {r : Rs} : X9_allArriveWith t x1 h = some r ↔ ∃ n, X9_allArriveWith_g0 (X9_allArriveWith_fam n) t x1 h = some r := lim_iff (fun n => by
  obtain ⟨ih10, ih72⟩ := X9_allArriveWith_fm n
  exact X9_allArriveWith_n0 ih10 ih72 t x1 h)
noncomputable abbrev X9_allArriveWith_F : List PV → PH → Option Rs := FW_T8I (X9_allArriveWith)
set_option maxRecDepth 100000 in
theorem X9_allArriveWith_gd (l : Launch) : Gd l 5 yX9_allArriveWith cX9_allArriveWith 3 (some .boolean) (X9_allArriveWith_F)   := Gd_of (by decide +kernel) (fun z hzl as h r e => by
  obtain ⟨hst, e⟩ := gL_of e
  obtain ⟨t, q0, e⟩ := gT_of e
  obtain ⟨x1, q1, e⟩ := gI_of e
  rw [st_2 hst q0 q1]
  obtain ⟨n, e⟩ := lim_of e
  obtain ⟨hG10, hG72⟩ := X9_allArriveWith_k (z := z) n
  exact ⟨show 2 ≤ 3 by decide, X9_allArriveWith_s0 hG10 _ _ _ _ ((X9_allArriveWith_l0 J7_fill_53178_34 (X9_allArriveWith_fam n).1 t x1 h).trans e)⟩)
abbrev X11_fewest_x (z : CZ) : CX := mx RX11 cX11_fewest 7 33 (some .int) "fewest" z
noncomputable def X11_fewest_b0 (c_X1_hasGoal : Nat → Int32 → PH → Option Rs) (c_X11_isWithin : Int32 → Int32 → PH → Option Rs) (c_X9_enter : Nat → Nat → PH → Option Rs) (c_X9_headFor : Nat → Int32 → PH → Option Rs) (c_X4_measure : Nat → Int32 → PH → Option Rs) (k64 : Kn) : Kn := (a_al 0 (a_gR 10 640 1 (a_il 1 (a_vI 1 1 (FW_T1I c_X1_hasGoal) (a_z (a_ic (-1000000001) a_ir) (a_il 2 (a_ic 2 (a_sI 2 (FW_II c_X11_isWithin) (a_z (a_ic (-1000000001) a_ir) (a_al 0 (a_gR 10 643 37 (a_il 2 (a_rald 37 2368 8 (a_as 3 (a_al 3 (a_al 0 (a_gR 10 640 1 (a_vV 8 1 (FW_T8R1 c_X9_enter) (a_al 3 (a_il 1 (a_vV 8 1 (FW_T8I c_X9_headFor) (a_al 3 (a_gR 8 512 3 (a_il 1 (a_vV 3 1 (FW_T3I c_X4_measure) (a_ic 1 (a_al 0 (a_gR 10 640 1 (a_gI 1 77 (a_b jshl (a_is 4 (a_ic 0 (a_is 5 k64)))))))))))))))))))))))))))))))))
set_option maxRecDepth 100000 in
theorem X11_fewest_s0 {z : CZ} {k64 : Kn} (hk64 : SK (X11_fewest_x z) 64 k64) : SK (X11_fewest_x z) 0 (X11_fewest_b0 X1_hasGoal X11_isWithin X9_enter X9_headFor X4_measure k64) := (s_aloadn (pc := 0) dX11_fewest_0 rfl (s_gR (pc := 1) (f := 0) ko_10 (by decide) rfl rfl w_504 dX11_fewest_1 (s_iloadn (pc := 4) dX11_fewest_4 rfl (s_vI (pc := 5) (run_virtual (X1_hasGoal_gd _) (show 1 < 33 by decide) cy_X1_hasGoal (by decide) rfl w_605 w_606 w_604 dX11_fewest_5) (s_ifeq (pc := 8) dX11_fewest_8 (by decide) (s_ldc (pc := 19) w_551 dX11_fewest_19 (s_ir (pc := 21) rfl dX11_fewest_21)) (s_iloadn (pc := 11) dX11_fewest_11 rfl (s_iconst (pc := 12) dX11_fewest_12 c_ic_2 (s_sI (pc := 13) (run_static (X11_isWithin_gd _) (show 0 < 33 by decide) cy_X11_isWithin w_549 w_552 dX11_fewest_13) (s_ifne (pc := 16) dX11_fewest_16 (by decide) (s_aloadn (pc := 22) dX11_fewest_22 rfl (s_gR (pc := 23) (f := 3) ko_10 (by decide) rfl rfl w_507 dX11_fewest_23 (s_iloadn (pc := 26) dX11_fewest_26 rfl (s_rald (pc := 27) (by decide) (by decide) rfl rfl rfl dX11_fewest_27 (s_astoren (pc := 28) dX11_fewest_28 rfl (show 3 < 7 by decide) (s_aloadn (pc := 29) dX11_fewest_29 rfl (s_aloadn (pc := 30) dX11_fewest_30 rfl (s_gR (pc := 31) (f := 0) ko_10 (by decide) rfl rfl w_504 dX11_fewest_31 (s_vV (pc := 34) (run_virtual (X9_enter_gd _) (show 32 < 33 by decide) cy_X9_enter (by decide) rfl w_960 w_961 w_959 dX11_fewest_34) (s_aloadn (pc := 37) dX11_fewest_37 rfl (s_iloadn (pc := 38) dX11_fewest_38 rfl (s_vV (pc := 39) (run_virtual (X9_headFor_gd _) (show 2 < 33 by decide) cy_X9_headFor (by decide) rfl w_972 w_973 w_971 dX11_fewest_39) (s_aloadn (pc := 42) dX11_fewest_42 rfl (s_gR (pc := 43) (f := 0) ko_8 (by decide) rfl rfl w_332 dX11_fewest_43 (s_iloadn (pc := 46) dX11_fewest_46 rfl (s_vV (pc := 47) (run_virtual (X4_measure_gd _) (show 2 < 33 by decide) cy_X4_measure (by decide) rfl w_1024 w_1025 w_1023 dX11_fewest_47) (s_iconst (pc := 50) dX11_fewest_50 c_ic_1 (s_aloadn (pc := 51) dX11_fewest_51 rfl (s_gR (pc := 52) (f := 0) ko_10 (by decide) rfl rfl w_504 dX11_fewest_52 (s_gI (pc := 55) (f := 13) ko_1 (by decide) rfl rfl w_260 dX11_fewest_55 (s_ishl (pc := 58) dX11_fewest_58 (s_istore (pc := 59) dX11_fewest_59 (show 4 < 7 by decide) (s_iconst (pc := 61) dX11_fewest_61 c_ic_0 (s_istore (pc := 62) dX11_fewest_62 (show 5 < 7 by decide) hk64)))))))))))))))))))))))) (s_ldc (pc := 19) w_551 dX11_fewest_19 (s_ir (pc := 21) rfl dX11_fewest_21)))))))))))
noncomputable def X11_fewest_b64 (k79 : Kn) : Kn := (a_il 5 (a_al 0 (a_gR 10 640 1 (a_gI 1 77 (a_gt (a_ic (-1000000005) a_ir) (a_ic 0 (a_is 6 k79)))))))
set_option maxRecDepth 100000 in
theorem X11_fewest_s64 {z : CZ} {k79 : Kn} (hk79 : SK (X11_fewest_x z) 79 k79) : SK (X11_fewest_x z) 64 (X11_fewest_b64 k79) := (s_iload (pc := 64) dX11_fewest_64 (s_aloadn (pc := 66) dX11_fewest_66 rfl (s_gR (pc := 67) (f := 0) ko_10 (by decide) rfl rfl w_504 dX11_fewest_67 (s_gI (pc := 70) (f := 13) ko_1 (by decide) rfl rfl w_260 dX11_fewest_70 (s_cmpgt (pc := 73) dX11_fewest_73 (by decide) (s_ldc (pc := 120) w_611 dX11_fewest_120 (s_ir (pc := 122) rfl dX11_fewest_122)) (s_iconst (pc := 76) dX11_fewest_76 c_ic_0 (s_istore (pc := 77) dX11_fewest_77 (show 6 < 7 by decide) hk79)))))))
noncomputable def X11_fewest_b79 (c_J6_bitCount_0f7a4 : Int32 → PH → Option Rs) (c_X9_allArriveWith : Nat → Int32 → PH → Option Rs) (k64 k108 : Kn) : Kn := (a_il 6 (a_il 4 (a_lt (a_il 6 (a_sI 1 (FW_I c_J6_bitCount_0f7a4) (a_il 5 (a_eq (a_al 3 (a_il 6 (a_vI 8 1 (FW_T8I c_X9_allArriveWith) (a_z k108 (a_il 6 a_ir))))) k108)))) (a_inc 5 1 k64))))
set_option maxRecDepth 100000 in
theorem X11_fewest_s79 {z : CZ} {k64 k108 : Kn} (hk64 : SK (X11_fewest_x z) 64 k64) (hk108 : SK (X11_fewest_x z) 108 k108) : SK (X11_fewest_x z) 79 (X11_fewest_b79 J6_bitCount_0f7a4 X9_allArriveWith k64 k108) := (s_iload (pc := 79) dX11_fewest_79 (s_iload (pc := 81) dX11_fewest_81 (s_cmpge (pc := 83) dX11_fewest_83 (by decide) (s_iinc (pc := 114) dX11_fewest_114 c_ic_1 (show 5 < 7 by decide) (s_goto (pc := 117) dX11_fewest_117 (by decide) hk64)) (s_iload (pc := 86) dX11_fewest_86 (s_sI (pc := 88) (run_static (J6_bitCount_0f7a4_gd _) (show 0 < 33 by decide) cy_J6_bitCount_0f7a4 w_1145 w_1144 dX11_fewest_88) (s_iload (pc := 91) dX11_fewest_91 (s_cmpne (pc := 93) dX11_fewest_93 (by decide) hk108 (s_aloadn (pc := 96) dX11_fewest_96 rfl (s_iload (pc := 97) dX11_fewest_97 (s_vI (pc := 99) (run_virtual (X9_allArriveWith_gd _) (show 5 < 33 by decide) cy_X9_allArriveWith (by decide) rfl w_1151 w_1152 w_1150 dX11_fewest_99) (s_ifeq (pc := 102) dX11_fewest_102 (by decide) hk108 (s_iload (pc := 105) dX11_fewest_105 (s_ir (pc := 107) rfl dX11_fewest_107)))))))))))))
noncomputable def X11_fewest_b108 (k79 : Kn) : Kn := (a_inc 6 1 k79)
set_option maxRecDepth 100000 in
theorem X11_fewest_s108 {z : CZ} {k79 : Kn} (hk79 : SK (X11_fewest_x z) 79 k79) : SK (X11_fewest_x z) 108 (X11_fewest_b108 k79) := (s_iinc (pc := 108) dX11_fewest_108 c_ic_1 (show 6 < 7 by decide) (s_goto (pc := 111) dX11_fewest_111 (by decide) hk79))
noncomputable def X11_fewest_u64 (g : Nat → Nat → Int32 → Int32 → PH → Option Rs) : Kn := fun ls st h => gL 0 st (gT 10 ls 0 fun t => gR 8 ls 3 fun x3 => gI ls 4 fun x4 => gI ls 5 fun x5 => g t x3 x4 x5 h)
noncomputable def X11_fewest_u79 (g : Nat → Nat → Int32 → Int32 → Int32 → PH → Option Rs) : Kn := fun ls st h => gL 0 st (gT 10 ls 0 fun t => gR 8 ls 3 fun x3 => gI ls 4 fun x4 => gI ls 5 fun x5 => gI ls 6 fun x6 => g t x3 x4 x5 x6 h)
noncomputable def X11_fewest_u108 (g : Nat → Nat → Int32 → Int32 → Int32 → PH → Option Rs) : Kn := fun ls st h => gL 0 st (gT 10 ls 0 fun t => gR 8 ls 3 fun x3 => gI ls 4 fun x4 => gI ls 5 fun x5 => gI ls 6 fun x6 => g t x3 x4 x5 x6 h)
noncomputable def X11_fewest_f0 (c_X1_hasGoal : Nat → Int32 → PH → Option Rs) (c_X11_isWithin : Int32 → Int32 → PH → Option Rs) (c_X9_enter : Nat → Nat → PH → Option Rs) (c_X9_headFor : Nat → Int32 → PH → Option Rs) (c_X4_measure : Nat → Int32 → PH → Option Rs) (g64 : Nat → Nat → Int32 → Int32 → PH → Option Rs) (t : Nat) (x1 : Int32) (x2 : Int32) (h : PH) : Option Rs :=
  nn (hR h 640 t 0) fun r1 =>
  cI (c_X1_hasGoal r1 x1 h) fun v3 h2 =>
  if v3 = 0 then
    some (some (.inl (-1000000001)), h2)
  else
    cI (c_X11_isWithin x2 2 h2) fun v5 h4 =>
    if v5 = 0 then
      some (some (.inl (-1000000001)), h4)
    else
      nn (hR h4 643 t 0) fun r6 =>
      ix x2 (hL h4 37 r6) fun j7 =>
      nn (hR h4 2368 r6 j7) fun r8 =>
      cV (c_X9_enter r8 (hR h4 640 t 0) h4) fun h9 =>
      nn (hR h4 2368 r6 j7) fun r10 =>
      cV (c_X9_headFor r10 x1 h9) fun h11 =>
      nn (hR h4 2368 r6 j7) fun r12 =>
      nn (hR h11 512 r12 0) fun r13 =>
      cV (c_X4_measure r13 x1 h11) fun h14 =>
      nn (hR h14 640 t 0) fun r15 =>
      g64 t (hR h4 2368 r6 j7) (jshl 1 (hI h14 77 r15 0)) 0 h14
set_option maxRecDepth 100000 in
theorem X11_fewest_l0 (c_X1_hasGoal : Nat → Int32 → PH → Option Rs) (c_X11_isWithin : Int32 → Int32 → PH → Option Rs) (c_X9_enter : Nat → Nat → PH → Option Rs) (c_X9_headFor : Nat → Int32 → PH → Option Rs) (c_X4_measure : Nat → Int32 → PH → Option Rs) (g64 : Nat → Nat → Int32 → Int32 → PH → Option Rs) (t : Nat) (x1 : Int32) (x2 : Int32) (h : PH) : X11_fewest_b0 c_X1_hasGoal c_X11_isWithin c_X9_enter c_X9_headFor c_X4_measure (X11_fewest_u64 g64) [some (.inr (10, t + 1)), some (.inl x1), some (.inl x2), none, none, none, none] [] h = X11_fewest_f0 c_X1_hasGoal c_X11_isWithin c_X9_enter c_X9_headFor c_X4_measure g64 t x1 x2 h := rfl
theorem X11_fewest_m0 {c_X1_hasGoal : Nat → Int32 → PH → Option Rs} {c_X11_isWithin : Int32 → Int32 → PH → Option Rs} {c_X9_enter : Nat → Nat → PH → Option Rs} {c_X9_headFor : Nat → Int32 → PH → Option Rs} {c_X4_measure : Nat → Int32 → PH → Option Rs} {g64 G64 : Nat → Nat → Int32 → Int32 → PH → Option Rs} (hg64 : ∀ a0 a1 a2 a3 a4, Mo (g64 a0 a1 a2 a3 a4) (G64 a0 a1 a2 a3 a4)) (t : Nat) (x1 : Int32) (x2 : Int32) (h : PH) : Mo (X11_fewest_f0 c_X1_hasGoal c_X11_isWithin c_X9_enter c_X9_headFor c_X4_measure g64 t x1 x2 h) (X11_fewest_f0 c_X1_hasGoal c_X11_isWithin c_X9_enter c_X9_headFor c_X4_measure G64 t x1 x2 h) := (mo_nn fun r1 => (mo_cI fun v3 h2 => (mo_if mo_rf (mo_cI fun v5 h4 => (mo_if mo_rf (mo_nn fun r6 => (mo_ix fun j7 => (mo_nn fun r8 => (mo_cV fun h9 => (mo_nn fun r10 => (mo_cV fun h11 => (mo_nn fun r12 => (mo_nn fun r13 => (mo_cV fun h14 => (mo_nn fun r15 => (hg64 t (hR h4 2368 r6 j7) (jshl 1 (hI h14 77 r15 0)) 0 h14))))))))))))))))
noncomputable def X11_fewest_f64 (g79 : Nat → Nat → Int32 → Int32 → Int32 → PH → Option Rs) (t : Nat) (x3 : Nat) (x4 : Int32) (x5 : Int32) (h : PH) : Option Rs :=
  nn (hR h 640 t 0) fun r16 =>
  if (hI h 77 r16 0) < x5 then
    some (some (.inl (-1000000005)), h)
  else
    g79 t x3 x4 x5 0 h
set_option maxRecDepth 100000 in
theorem X11_fewest_l64 (g79 : Nat → Nat → Int32 → Int32 → Int32 → PH → Option Rs) (t : Nat) (x3 : Nat) (x4 : Int32) (x5 : Int32) (h : PH) : X11_fewest_b64 (X11_fewest_u79 g79) [some (.inr (10, t + 1)), none, none, some (.inr (8, x3)), some (.inl x4), some (.inl x5), none] [] h = X11_fewest_f64 g79 t x3 x4 x5 h := rfl
theorem X11_fewest_m64 {g79 G79 : Nat → Nat → Int32 → Int32 → Int32 → PH → Option Rs} (hg79 : ∀ a0 a1 a2 a3 a4 a5, Mo (g79 a0 a1 a2 a3 a4 a5) (G79 a0 a1 a2 a3 a4 a5)) (t : Nat) (x3 : Nat) (x4 : Int32) (x5 : Int32) (h : PH) : Mo (X11_fewest_f64 g79 t x3 x4 x5 h) (X11_fewest_f64 G79 t x3 x4 x5 h) := (mo_nn fun r16 => (mo_if mo_rf (hg79 t x3 x4 x5 0 h)))
theorem X11_fewest_w64 {z : CZ} {g79 : Nat → Nat → Int32 → Int32 → Int32 → PH → Option Rs} (hk79 : SK (X11_fewest_x z) 79 (X11_fewest_u79 g79)) : SK (X11_fewest_x z) 64 (X11_fewest_u64 (X11_fewest_f64 g79)) := by
  intro ls st h r e
  obtain ⟨hst, e⟩ := gL_of e
  obtain ⟨t, q0, e⟩ := gT_of e
  obtain ⟨x3, q1, e⟩ := gR_of e
  obtain ⟨x4, q2, e⟩ := gI_of e
  obtain ⟨x5, q3, e⟩ := gI_of e
  rw [st_0 hst]
  exact WK.sub (canon := [some (.inr (10, t + 1)), none, none, some (.inr (8, x3)), some (.inl x4), some (.inl x5), none]) rfl ⟨q0, q1, q2, q3, trivial⟩ (X11_fewest_s64 hk79 _ _ _ _ ((X11_fewest_l64 g79 t x3 x4 x5 h).trans e))
noncomputable def X11_fewest_f79 (c_J6_bitCount_0f7a4 : Int32 → PH → Option Rs) (c_X9_allArriveWith : Nat → Int32 → PH → Option Rs) (g64 : Nat → Nat → Int32 → Int32 → PH → Option Rs) (g108 : Nat → Nat → Int32 → Int32 → Int32 → PH → Option Rs) (t : Nat) (x3 : Nat) (x4 : Int32) (x5 : Int32) (x6 : Int32) (h : PH) : Option Rs :=
  if x6 < x4 then
    cI (c_J6_bitCount_0f7a4 x6 h) fun v18 h17 =>
    if v18 = x5 then
      nn x3 fun r19 =>
      cI (c_X9_allArriveWith r19 x6 h17) fun v21 h20 =>
      if v21 = 0 then
        g108 t x3 x4 x5 x6 h20
      else
        some (some (.inl x6), h20)
    else
      g108 t x3 x4 x5 x6 h17
  else
    g64 t x3 x4 (x5 + 1) h
set_option maxRecDepth 100000 in
theorem X11_fewest_l79 (c_J6_bitCount_0f7a4 : Int32 → PH → Option Rs) (c_X9_allArriveWith : Nat → Int32 → PH → Option Rs) (g64 : Nat → Nat → Int32 → Int32 → PH → Option Rs) (g108 : Nat → Nat → Int32 → Int32 → Int32 → PH → Option Rs) (t : Nat) (x3 : Nat) (x4 : Int32) (x5 : Int32) (x6 : Int32) (h : PH) : X11_fewest_b79 c_J6_bitCount_0f7a4 c_X9_allArriveWith (X11_fewest_u64 g64) (X11_fewest_u108 g108) [some (.inr (10, t + 1)), none, none, some (.inr (8, x3)), some (.inl x4), some (.inl x5), some (.inl x6)] [] h = X11_fewest_f79 c_J6_bitCount_0f7a4 c_X9_allArriveWith g64 g108 t x3 x4 x5 x6 h := rfl
theorem X11_fewest_m79 {c_J6_bitCount_0f7a4 : Int32 → PH → Option Rs} {c_X9_allArriveWith : Nat → Int32 → PH → Option Rs} {g64 G64 : Nat → Nat → Int32 → Int32 → PH → Option Rs} {g108 G108 : Nat → Nat → Int32 → Int32 → Int32 → PH → Option Rs} (hg64 : ∀ a0 a1 a2 a3 a4, Mo (g64 a0 a1 a2 a3 a4) (G64 a0 a1 a2 a3 a4)) (hg108 : ∀ a0 a1 a2 a3 a4 a5, Mo (g108 a0 a1 a2 a3 a4 a5) (G108 a0 a1 a2 a3 a4 a5)) (t : Nat) (x3 : Nat) (x4 : Int32) (x5 : Int32) (x6 : Int32) (h : PH) : Mo (X11_fewest_f79 c_J6_bitCount_0f7a4 c_X9_allArriveWith g64 g108 t x3 x4 x5 x6 h) (X11_fewest_f79 c_J6_bitCount_0f7a4 c_X9_allArriveWith G64 G108 t x3 x4 x5 x6 h) := (mo_if (mo_cI fun v18 h17 => (mo_if (mo_nn fun r19 => (mo_cI fun v21 h20 => (mo_if (hg108 t x3 x4 x5 x6 h20) mo_rf))) (hg108 t x3 x4 x5 x6 h17))) (hg64 t x3 x4 (x5 + 1) h))
theorem X11_fewest_w79 {z : CZ} {g64 : Nat → Nat → Int32 → Int32 → PH → Option Rs} {g108 : Nat → Nat → Int32 → Int32 → Int32 → PH → Option Rs} (hk64 : SK (X11_fewest_x z) 64 (X11_fewest_u64 g64)) (hk108 : SK (X11_fewest_x z) 108 (X11_fewest_u108 g108)) : SK (X11_fewest_x z) 79 (X11_fewest_u79 (X11_fewest_f79 J6_bitCount_0f7a4 X9_allArriveWith g64 g108)) := by
  intro ls st h r e
  obtain ⟨hst, e⟩ := gL_of e
  obtain ⟨t, q0, e⟩ := gT_of e
  obtain ⟨x3, q1, e⟩ := gR_of e
  obtain ⟨x4, q2, e⟩ := gI_of e
  obtain ⟨x5, q3, e⟩ := gI_of e
  obtain ⟨x6, q4, e⟩ := gI_of e
  rw [st_0 hst]
  exact WK.sub (canon := [some (.inr (10, t + 1)), none, none, some (.inr (8, x3)), some (.inl x4), some (.inl x5), some (.inl x6)]) rfl ⟨q0, q1, q2, q3, q4, trivial⟩ (X11_fewest_s79 hk64 hk108 _ _ _ _ ((X11_fewest_l79 J6_bitCount_0f7a4 X9_allArriveWith g64 g108 t x3 x4 x5 x6 h).trans e))
noncomputable def X11_fewest_f108 (g79 : Nat → Nat → Int32 → Int32 → Int32 → PH → Option Rs) (t : Nat) (x3 : Nat) (x4 : Int32) (x5 : Int32) (x6 : Int32) (h : PH) : Option Rs :=
  g79 t x3 x4 x5 (x6 + 1) h
set_option maxRecDepth 100000 in
theorem X11_fewest_l108 (g79 : Nat → Nat → Int32 → Int32 → Int32 → PH → Option Rs) (t : Nat) (x3 : Nat) (x4 : Int32) (x5 : Int32) (x6 : Int32) (h : PH) : X11_fewest_b108 (X11_fewest_u79 g79) [some (.inr (10, t + 1)), none, none, some (.inr (8, x3)), some (.inl x4), some (.inl x5), some (.inl x6)] [] h = X11_fewest_f108 g79 t x3 x4 x5 x6 h := rfl
theorem X11_fewest_m108 {g79 G79 : Nat → Nat → Int32 → Int32 → Int32 → PH → Option Rs} (hg79 : ∀ a0 a1 a2 a3 a4 a5, Mo (g79 a0 a1 a2 a3 a4 a5) (G79 a0 a1 a2 a3 a4 a5)) (t : Nat) (x3 : Nat) (x4 : Int32) (x5 : Int32) (x6 : Int32) (h : PH) : Mo (X11_fewest_f108 g79 t x3 x4 x5 x6 h) (X11_fewest_f108 G79 t x3 x4 x5 x6 h) := (hg79 t x3 x4 x5 (x6 + 1) h)
theorem X11_fewest_w108 {z : CZ} {g79 : Nat → Nat → Int32 → Int32 → Int32 → PH → Option Rs} (hk79 : SK (X11_fewest_x z) 79 (X11_fewest_u79 g79)) : SK (X11_fewest_x z) 108 (X11_fewest_u108 (X11_fewest_f108 g79)) := by
  intro ls st h r e
  obtain ⟨hst, e⟩ := gL_of e
  obtain ⟨t, q0, e⟩ := gT_of e
  obtain ⟨x3, q1, e⟩ := gR_of e
  obtain ⟨x4, q2, e⟩ := gI_of e
  obtain ⟨x5, q3, e⟩ := gI_of e
  obtain ⟨x6, q4, e⟩ := gI_of e
  rw [st_0 hst]
  exact WK.sub (canon := [some (.inr (10, t + 1)), none, none, some (.inr (8, x3)), some (.inl x4), some (.inl x5), some (.inl x6)]) rfl ⟨q0, q1, q2, q3, q4, trivial⟩ (X11_fewest_s108 hk79 _ _ _ _ ((X11_fewest_l108 g79 t x3 x4 x5 x6 h).trans e))
noncomputable def X11_fewest_g0 (G : (Nat → Nat → Int32 → Int32 → PH → Option Rs) × (Nat → Nat → Int32 → Int32 → Int32 → PH → Option Rs)) (t : Nat) (x1 : Int32) (x2 : Int32) (h : PH) : Option Rs := X11_fewest_f0 X1_hasGoal X11_isWithin X9_enter X9_headFor X4_measure (G).1 t x1 x2 h
noncomputable def X11_fewest_g64 (G : (Nat → Nat → Int32 → Int32 → PH → Option Rs) × (Nat → Nat → Int32 → Int32 → Int32 → PH → Option Rs)) (t : Nat) (x3 : Nat) (x4 : Int32) (x5 : Int32) (h : PH) : Option Rs := X11_fewest_f64 (G).2 t x3 x4 x5 h
noncomputable def X11_fewest_g108 (G : (Nat → Nat → Int32 → Int32 → PH → Option Rs) × (Nat → Nat → Int32 → Int32 → Int32 → PH → Option Rs)) (t : Nat) (x3 : Nat) (x4 : Int32) (x5 : Int32) (x6 : Int32) (h : PH) : Option Rs := X11_fewest_f108 (G).2 t x3 x4 x5 x6 h
noncomputable def X11_fewest_g79 (G : (Nat → Nat → Int32 → Int32 → PH → Option Rs) × (Nat → Nat → Int32 → Int32 → Int32 → PH → Option Rs)) (t : Nat) (x3 : Nat) (x4 : Int32) (x5 : Int32) (x6 : Int32) (h : PH) : Option Rs := X11_fewest_f79 J6_bitCount_0f7a4 X9_allArriveWith (G).1 (X11_fewest_g108 G) t x3 x4 x5 x6 h
theorem X11_fewest_v64 {z : CZ} {G : (Nat → Nat → Int32 → Int32 → PH → Option Rs) × (Nat → Nat → Int32 → Int32 → Int32 → PH → Option Rs)} (hG64 : SK (X11_fewest_x z) 64 (X11_fewest_u64 (G).1)) (hG79 : SK (X11_fewest_x z) 79 (X11_fewest_u79 (G).2)) : SK (X11_fewest_x z) 64 (X11_fewest_u64 (X11_fewest_g64 G)) := X11_fewest_w64 hG79
theorem X11_fewest_v108 {z : CZ} {G : (Nat → Nat → Int32 → Int32 → PH → Option Rs) × (Nat → Nat → Int32 → Int32 → Int32 → PH → Option Rs)} (hG64 : SK (X11_fewest_x z) 64 (X11_fewest_u64 (G).1)) (hG79 : SK (X11_fewest_x z) 79 (X11_fewest_u79 (G).2)) : SK (X11_fewest_x z) 108 (X11_fewest_u108 (X11_fewest_g108 G)) := X11_fewest_w108 hG79
theorem X11_fewest_v79 {z : CZ} {G : (Nat → Nat → Int32 → Int32 → PH → Option Rs) × (Nat → Nat → Int32 → Int32 → Int32 → PH → Option Rs)} (hG64 : SK (X11_fewest_x z) 64 (X11_fewest_u64 (G).1)) (hG79 : SK (X11_fewest_x z) 79 (X11_fewest_u79 (G).2)) : SK (X11_fewest_x z) 79 (X11_fewest_u79 (X11_fewest_g79 G)) := X11_fewest_w79 hG64 (X11_fewest_v108 hG64 hG79)
noncomputable def X11_fewest_fam : Nat → (Nat → Nat → Int32 → Int32 → PH → Option Rs) × (Nat → Nat → Int32 → Int32 → Int32 → PH → Option Rs)
  | 0 => (fun _ _ _ _ _ => none, fun _ _ _ _ _ _ => none)
  | n + 1 => (X11_fewest_g64 (X11_fewest_fam n), X11_fewest_g79 (X11_fewest_fam n))
theorem X11_fewest_k {z : CZ} : ∀ n, SK (X11_fewest_x z) 64 (X11_fewest_u64 (X11_fewest_fam n).1) ∧ SK (X11_fewest_x z) 79 (X11_fewest_u79 (X11_fewest_fam n).2)
  | 0 => ⟨(fun ls st h r e => by
      obtain ⟨_, e⟩ := gL_of e
      obtain ⟨_, _, e⟩ := gT_of e
      obtain ⟨_, _, e⟩ := gR_of e
      obtain ⟨_, _, e⟩ := gI_of e
      obtain ⟨_, _, e⟩ := gI_of e
      cases e), (fun ls st h r e => by
      obtain ⟨_, e⟩ := gL_of e
      obtain ⟨_, _, e⟩ := gT_of e
      obtain ⟨_, _, e⟩ := gR_of e
      obtain ⟨_, _, e⟩ := gI_of e
      obtain ⟨_, _, e⟩ := gI_of e
      obtain ⟨_, _, e⟩ := gI_of e
      cases e)⟩
  | n + 1 => by
    obtain ⟨ih64, ih79⟩ := X11_fewest_k n
    exact ⟨X11_fewest_v64 ih64 ih79, X11_fewest_v79 ih64 ih79⟩
theorem X11_fewest_n0 {G G' : (Nat → Nat → Int32 → Int32 → PH → Option Rs) × (Nat → Nat → Int32 → Int32 → Int32 → PH → Option Rs)} (hg64 : ∀ a0 a1 a2 a3 a4, Mo ((G).1 a0 a1 a2 a3 a4) ((G').1 a0 a1 a2 a3 a4)) (hg79 : ∀ a0 a1 a2 a3 a4 a5, Mo ((G).2 a0 a1 a2 a3 a4 a5) ((G').2 a0 a1 a2 a3 a4 a5)) (t : Nat) (x1 : Int32) (x2 : Int32) (h : PH) : Mo (X11_fewest_g0 G t x1 x2 h) (X11_fewest_g0 G' t x1 x2 h) := X11_fewest_m0 hg64 t x1 x2 h
theorem X11_fewest_n64 {G G' : (Nat → Nat → Int32 → Int32 → PH → Option Rs) × (Nat → Nat → Int32 → Int32 → Int32 → PH → Option Rs)} (hg64 : ∀ a0 a1 a2 a3 a4, Mo ((G).1 a0 a1 a2 a3 a4) ((G').1 a0 a1 a2 a3 a4)) (hg79 : ∀ a0 a1 a2 a3 a4 a5, Mo ((G).2 a0 a1 a2 a3 a4 a5) ((G').2 a0 a1 a2 a3 a4 a5)) (t : Nat) (x3 : Nat) (x4 : Int32) (x5 : Int32) (h : PH) : Mo (X11_fewest_g64 G t x3 x4 x5 h) (X11_fewest_g64 G' t x3 x4 x5 h) := X11_fewest_m64 hg79 t x3 x4 x5 h
theorem X11_fewest_n108 {G G' : (Nat → Nat → Int32 → Int32 → PH → Option Rs) × (Nat → Nat → Int32 → Int32 → Int32 → PH → Option Rs)} (hg64 : ∀ a0 a1 a2 a3 a4, Mo ((G).1 a0 a1 a2 a3 a4) ((G').1 a0 a1 a2 a3 a4)) (hg79 : ∀ a0 a1 a2 a3 a4 a5, Mo ((G).2 a0 a1 a2 a3 a4 a5) ((G').2 a0 a1 a2 a3 a4 a5)) (t : Nat) (x3 : Nat) (x4 : Int32) (x5 : Int32) (x6 : Int32) (h : PH) : Mo (X11_fewest_g108 G t x3 x4 x5 x6 h) (X11_fewest_g108 G' t x3 x4 x5 x6 h) := X11_fewest_m108 hg79 t x3 x4 x5 x6 h
theorem X11_fewest_n79 {G G' : (Nat → Nat → Int32 → Int32 → PH → Option Rs) × (Nat → Nat → Int32 → Int32 → Int32 → PH → Option Rs)} (hg64 : ∀ a0 a1 a2 a3 a4, Mo ((G).1 a0 a1 a2 a3 a4) ((G').1 a0 a1 a2 a3 a4)) (hg79 : ∀ a0 a1 a2 a3 a4 a5, Mo ((G).2 a0 a1 a2 a3 a4 a5) ((G').2 a0 a1 a2 a3 a4 a5)) (t : Nat) (x3 : Nat) (x4 : Int32) (x5 : Int32) (x6 : Int32) (h : PH) : Mo (X11_fewest_g79 G t x3 x4 x5 x6 h) (X11_fewest_g79 G' t x3 x4 x5 x6 h) := X11_fewest_m79 hg64 (fun a0 a1 a2 a3 a4 a5 => X11_fewest_n108 hg64 hg79 a0 a1 a2 a3 a4 a5) t x3 x4 x5 x6 h
theorem X11_fewest_fm : ∀ n, (∀ a0 a1 a2 a3 a4, Mo ((X11_fewest_fam n).1 a0 a1 a2 a3 a4) ((X11_fewest_fam (n + 1)).1 a0 a1 a2 a3 a4)) ∧ (∀ a0 a1 a2 a3 a4 a5, Mo ((X11_fewest_fam n).2 a0 a1 a2 a3 a4 a5) ((X11_fewest_fam (n + 1)).2 a0 a1 a2 a3 a4 a5))
  | 0 => ⟨fun _ _ _ _ _ => mo_no, fun _ _ _ _ _ _ => mo_no⟩
  | n + 1 => by
    obtain ⟨ih64, ih79⟩ := X11_fewest_fm n
    exact ⟨fun a0 a1 a2 a3 a4 => X11_fewest_n64 ih64 ih79 a0 a1 a2 a3 a4, fun a0 a1 a2 a3 a4 a5 => X11_fewest_n79 ih64 ih79 a0 a1 a2 a3 a4 a5⟩
noncomputable def X11_fewest (t : Nat) (x1 : Int32) (x2 : Int32) (h : PH) : Option Rs := lim (fun n => X11_fewest_g0 (X11_fewest_fam n) t x1 x2 h)
theorem X11_fewest_iff {t : Nat} {x1 : Int32} {x2 : Int32} {h : PH} {r : Rs} : X11_fewest t x1 x2 h = some r ↔ ∃ n, X11_fewest_g0 (X11_fewest_fam n) t x1 x2 h = some r := lim_iff (fun n => by
  obtain ⟨ih64, ih79⟩ := X11_fewest_fm n
  exact X11_fewest_n0 ih64 ih79 t x1 x2 h)
noncomputable abbrev X11_fewest_F : List PV → PH → Option Rs := FW_T10II (X11_fewest)
set_option maxRecDepth 100000 in
theorem X11_fewest_gd (l : Launch) : Gd l 33 yX11_fewest cX11_fewest 7 (some .int) (X11_fewest_F)   := Gd_of (by decide +kernel) (fun z hzl as h r e => by
  obtain ⟨hst, e⟩ := gL_of e
  obtain ⟨t, q0, e⟩ := gT_of e
  obtain ⟨x1, q1, e⟩ := gI_of e
  obtain ⟨x2, q2, e⟩ := gI_of e
  rw [st_3 hst q0 q1 q2]
  obtain ⟨n, e⟩ := lim_of e
  obtain ⟨hG64, hG79⟩ := X11_fewest_k (z := z) n
  exact ⟨show 3 ≤ 7 by decide, X11_fewest_s0 hG64 _ _ _ _ ((X11_fewest_l0 X1_hasGoal X11_isWithin X9_enter X9_headFor X4_measure (X11_fewest_fam n).1 t x1 x2 h).trans e)⟩)
abbrev X11_seed_x (z : CZ) : CX := mx RX11 cX11_seed 3 0 (some .int) "seed" z
noncomputable def X11_seed_b0 : Kn := (a_al 0 (a_gR 10 640 1 (a_gI 1 80 (a_is 2 (a_al 0 (a_gR 10 640 1 (a_il 1 (a_pI 1 80 (a_il 2 a_ir)))))))))
set_option maxRecDepth 100000 in
theorem X11_seed_s0 {z : CZ} : SK (X11_seed_x z) 0 (X11_seed_b0) := (s_aloadn (pc := 0) dX11_seed_0 rfl (s_gR (pc := 1) (f := 0) ko_10 (by decide) rfl rfl w_504 dX11_seed_1 (s_gI (pc := 4) (f := 16) ko_1 (by decide) rfl rfl w_266 dX11_seed_4 (s_istoren (pc := 7) dX11_seed_7 rfl (show 2 < 3 by decide) (s_aloadn (pc := 8) dX11_seed_8 rfl (s_gR (pc := 9) (f := 0) ko_10 (by decide) rfl rfl w_504 dX11_seed_9 (s_iloadn (pc := 12) dX11_seed_12 rfl (s_pI (pc := 13) (f := 16) ko_1 (by decide) rfl rfl rfl (by decide +kernel) w_266 dX11_seed_13 (s_iloadn (pc := 16) dX11_seed_16 rfl (s_ir (pc := 17) rfl dX11_seed_17))))))))))
noncomputable def X11_seed_f0 (t : Nat) (x1 : Int32) (h : PH) : Option Rs :=
  nn (hR h 640 t 0) fun r1 =>
  nn (hR h 640 t 0) fun r2 =>
  wr (pI h 80 r2 0 x1) fun h3 =>
  some (some (.inl (hI h 80 r1 0)), h3)
set_option maxRecDepth 100000 in
theorem X11_seed_l0 (t : Nat) (x1 : Int32) (h : PH) : X11_seed_b0 [some (.inr (10, t + 1)), some (.inl x1), none] [] h = X11_seed_f0 t x1 h := rfl
noncomputable def X11_seed_g0 (t : Nat) (x1 : Int32) (h : PH) : Option Rs := X11_seed_f0 t x1 h
noncomputable def X11_seed (t : Nat) (x1 : Int32) (h : PH) : Option Rs := X11_seed_g0 t x1 h
noncomputable abbrev X11_seed_F : List PV → PH → Option Rs := FW_T10I (X11_seed)
set_option maxRecDepth 100000 in
theorem X11_seed_gd (l : Launch) : Gd l 0 yX11_seed cX11_seed 3 (some .int) (X11_seed_F)   := Gd_of (by decide +kernel) (fun z hzl as h r e => by
  obtain ⟨hst, e⟩ := gL_of e
  obtain ⟨t, q0, e⟩ := gT_of e
  obtain ⟨x1, q1, e⟩ := gI_of e
  rw [st_2 hst q0 q1]
  exact ⟨show 2 ≤ 3 by decide, X11_seed_s0 _ _ _ _ ((X11_seed_l0 t x1 h).trans e)⟩)
abbrev X11_enterBoth_x (z : CZ) : CX := mx RX11 cX11_enterBoth 2 33 none "enterBoth" z
noncomputable def X11_enterBoth_b0 (c_X9_enter : Nat → Nat → PH → Option Rs) : Kn := (a_al 0 (a_gR 10 643 37 (a_ic 0 (a_rald 37 2368 8 (a_al 1 (a_vV 8 1 (FW_T8R1 c_X9_enter) (a_al 0 (a_gR 10 643 37 (a_ic 1 (a_rald 37 2368 8 (a_al 1 (a_vV 8 1 (FW_T8R1 c_X9_enter) a_vr))))))))))))
set_option maxRecDepth 100000 in
theorem X11_enterBoth_s0 {z : CZ} : SK (X11_enterBoth_x z) 0 (X11_enterBoth_b0 X9_enter) := (s_aloadn (pc := 0) dX11_enterBoth_0 rfl (s_gR (pc := 1) (f := 3) ko_10 (by decide) rfl rfl w_507 dX11_enterBoth_1 (s_iconst (pc := 4) dX11_enterBoth_4 c_ic_0 (s_rald (pc := 5) (by decide) (by decide) rfl rfl rfl dX11_enterBoth_5 (s_aloadn (pc := 6) dX11_enterBoth_6 rfl (s_vV (pc := 7) (run_virtual (X9_enter_gd _) (show 32 < 33 by decide) cy_X9_enter (by decide) rfl w_960 w_961 w_959 dX11_enterBoth_7) (s_aloadn (pc := 10) dX11_enterBoth_10 rfl (s_gR (pc := 11) (f := 3) ko_10 (by decide) rfl rfl w_507 dX11_enterBoth_11 (s_iconst (pc := 14) dX11_enterBoth_14 c_ic_1 (s_rald (pc := 15) (by decide) (by decide) rfl rfl rfl dX11_enterBoth_15 (s_aloadn (pc := 16) dX11_enterBoth_16 rfl (s_vV (pc := 17) (run_virtual (X9_enter_gd _) (show 32 < 33 by decide) cy_X9_enter (by decide) rfl w_960 w_961 w_959 dX11_enterBoth_17) (s_vr (pc := 20) rfl dX11_enterBoth_20)))))))))))))
noncomputable def X11_enterBoth_f0 (c_X9_enter : Nat → Nat → PH → Option Rs) (t : Nat) (x1 : Nat) (h : PH) : Option Rs :=
  nn (hR h 643 t 0) fun r1 =>
  ix 0 (hL h 37 r1) fun j2 =>
  nn (hR h 2368 r1 j2) fun r3 =>
  cV (c_X9_enter r3 x1 h) fun h4 =>
  nn (hR h4 643 t 0) fun r5 =>
  ix 1 (hL h4 37 r5) fun j6 =>
  nn (hR h4 2368 r5 j6) fun r7 =>
  cV (c_X9_enter r7 x1 h4) fun h8 =>
  some (none, h8)
set_option maxRecDepth 100000 in
theorem X11_enterBoth_l0 (c_X9_enter : Nat → Nat → PH → Option Rs) (t : Nat) (x1 : Nat) (h : PH) : X11_enterBoth_b0 c_X9_enter [some (.inr (10, t + 1)), some (.inr (1, x1))] [] h = X11_enterBoth_f0 c_X9_enter t x1 h := rfl
noncomputable def X11_enterBoth_g0 (t : Nat) (x1 : Nat) (h : PH) : Option Rs := X11_enterBoth_f0 X9_enter t x1 h
noncomputable def X11_enterBoth (t : Nat) (x1 : Nat) (h : PH) : Option Rs := X11_enterBoth_g0 t x1 h
noncomputable abbrev X11_enterBoth_F : List PV → PH → Option Rs := FW_T10R1 (X11_enterBoth)
set_option maxRecDepth 100000 in
theorem X11_enterBoth_gd (l : Launch) : Gd l 33 yX11_enterBoth cX11_enterBoth 2 none (X11_enterBoth_F)   := Gd_of (by decide +kernel) (fun z hzl as h r e => by
  obtain ⟨hst, e⟩ := gL_of e
  obtain ⟨t, q0, e⟩ := gT_of e
  obtain ⟨x1, q1, e⟩ := gR_of e
  rw [st_2 hst q0 q1]
  exact ⟨show 2 ≤ 2 by decide, X11_enterBoth_s0 _ _ _ _ ((X11_enterBoth_l0 X9_enter t x1 h).trans e)⟩)
abbrev X1_draw_x (z : CZ) : CX := mx RX1 cX1_draw 2 0 (some .int) "draw" z
noncomputable def X1_draw_b0 : Kn := (a_al 0 (a_al 0 (a_gI 1 80 (a_ic 1103515245 (a_b (fun a b => a * b) (a_ic 12345 (a_b (fun a b => a + b) (a_pI 1 80 (a_il 1 (a_ic 1 (a_lt (a_ic 0 a_ir) (a_al 0 (a_gI 1 80 (a_ic 8 (a_b jushr (a_il 1 (a_rem a_ir)))))))))))))))))
set_option maxRecDepth 100000 in
theorem X1_draw_s0 {z : CZ} : SK (X1_draw_x z) 0 (X1_draw_b0) := (s_aloadn (pc := 0) dX1_draw_0 rfl (s_aloadn (pc := 1) dX1_draw_1 rfl (s_gI (pc := 2) (f := 16) ko_1 (by decide) rfl rfl w_265 dX1_draw_2 (s_ldc (pc := 5) w_1176 dX1_draw_5 (s_imul (pc := 7) dX1_draw_7 (s_sipush (pc := 8) dX1_draw_8 c_sp_12345 (s_iadd (pc := 11) dX1_draw_11 (s_pI (pc := 12) (f := 16) ko_1 (by decide) rfl rfl rfl (by decide +kernel) w_265 dX1_draw_12 (s_iloadn (pc := 15) dX1_draw_15 rfl (s_iconst (pc := 16) dX1_draw_16 c_ic_1 (s_cmpge (pc := 17) dX1_draw_17 (by decide) (s_aloadn (pc := 24) dX1_draw_24 rfl (s_gI (pc := 25) (f := 16) ko_1 (by decide) rfl rfl w_265 dX1_draw_25 (s_bipush (pc := 28) dX1_draw_28 c_bp_8 (s_iushr (pc := 30) dX1_draw_30 (s_iloadn (pc := 31) dX1_draw_31 rfl (s_irem (pc := 32) dX1_draw_32 (s_ir (pc := 33) rfl dX1_draw_33))))))) (s_iconst (pc := 20) dX1_draw_20 c_ic_0 (s_goto (pc := 21) dX1_draw_21 (by decide) (s_ir (pc := 33) rfl dX1_draw_33))))))))))))))
noncomputable def X1_draw_f0 (t : Nat) (x1 : Int32) (h : PH) : Option Rs :=
  wr (pI h 80 t 0 (((hI h 80 t 0) * 1103515245) + 12345)) fun h1 =>
  if x1 < 1 then
    some (some (.inl 0), h1)
  else
    dv x1 <|
    some (some (.inl (jrem (jushr (hI h1 80 t 0) 8) x1)), h1)
set_option maxRecDepth 100000 in
theorem X1_draw_l0 (t : Nat) (x1 : Int32) (h : PH) : X1_draw_b0 [some (.inr (1, t + 1)), some (.inl x1)] [] h = X1_draw_f0 t x1 h := rfl
noncomputable def X1_draw_g0 (t : Nat) (x1 : Int32) (h : PH) : Option Rs := X1_draw_f0 t x1 h
noncomputable def X1_draw (t : Nat) (x1 : Int32) (h : PH) : Option Rs := X1_draw_g0 t x1 h
noncomputable abbrev X1_draw_F : List PV → PH → Option Rs := FW_T1I (X1_draw)
set_option maxRecDepth 100000 in
theorem X1_draw_gd (l : Launch) : Gd l 0 yX1_draw cX1_draw 2 (some .int) (X1_draw_F)   := Gd_of (by decide +kernel) (fun z hzl as h r e => by
  obtain ⟨hst, e⟩ := gL_of e
  obtain ⟨t, q0, e⟩ := gT_of e
  obtain ⟨x1, q1, e⟩ := gI_of e
  rw [st_2 hst q0 q1]
  exact ⟨show 2 ≤ 2 by decide, X1_draw_s0 _ _ _ _ ((X1_draw_l0 t x1 h).trans e)⟩)
abbrev X11_walkStranger_x (z : CZ) : CX := mx RX11 cX11_walkStranger 5 5 (some (.object "StrangerSigns$Walker")) "walkStranger" z
noncomputable def X11_walkStranger_b0 (c_X1_draw : Nat → Int32 → PH → Option Rs) (k41 : Kn) : Kn := (a_al 1 (a_al 1 (a_gI 1 72 (a_vI 1 1 (FW_T1I c_X1_draw) (a_is 2 (a_al 1 (a_al 1 (a_gI 1 74 (a_vI 1 1 (FW_T1I c_X1_draw) (a_is 3 (a_al 1 (a_ic 4 (a_vI 1 1 (FW_T1I c_X1_draw) (a_z (a_al 0 (a_gR 10 643 37 (a_ic 1 (a_rald 37 2368 8 k41)))) (a_al 0 (a_gR 10 643 37 (a_ic 0 (a_rald 37 2368 8 k41))))))))))))))))))
set_option maxRecDepth 100000 in
theorem X11_walkStranger_s0 {z : CZ} {k41 : Kn} (hk41 : SK (X11_walkStranger_x z) 41 k41) : SK (X11_walkStranger_x z) 0 (X11_walkStranger_b0 X1_draw k41) := (s_aloadn (pc := 0) dX11_walkStranger_0 rfl (s_aloadn (pc := 1) dX11_walkStranger_1 rfl (s_gI (pc := 2) (f := 8) ko_1 (by decide) rfl rfl w_242 dX11_walkStranger_2 (s_vI (pc := 5) (run_virtual (X1_draw_gd _) (show 0 < 5 by decide) cy_X1_draw (by decide) rfl w_1173 w_1174 w_1172 dX11_walkStranger_5) (s_istoren (pc := 8) dX11_walkStranger_8 rfl (show 2 < 5 by decide) (s_aloadn (pc := 9) dX11_walkStranger_9 rfl (s_aloadn (pc := 10) dX11_walkStranger_10 rfl (s_gI (pc := 11) (f := 10) ko_1 (by decide) rfl rfl w_250 dX11_walkStranger_11 (s_vI (pc := 14) (run_virtual (X1_draw_gd _) (show 0 < 5 by decide) cy_X1_draw (by decide) rfl w_1173 w_1174 w_1172 dX11_walkStranger_14) (s_istoren (pc := 17) dX11_walkStranger_17 rfl (show 3 < 5 by decide) (s_aloadn (pc := 18) dX11_walkStranger_18 rfl (s_iconst (pc := 19) dX11_walkStranger_19 c_ic_4 (s_vI (pc := 20) (run_virtual (X1_draw_gd _) (show 0 < 5 by decide) cy_X1_draw (by decide) rfl w_1173 w_1174 w_1172 dX11_walkStranger_20) (s_ifne (pc := 23) dX11_walkStranger_23 (by decide) (s_aloadn (pc := 35) dX11_walkStranger_35 rfl (s_gR (pc := 36) (f := 3) ko_10 (by decide) rfl rfl w_507 dX11_walkStranger_36 (s_iconst (pc := 39) dX11_walkStranger_39 c_ic_0 (s_rald (pc := 40) (by decide) (by decide) rfl rfl rfl dX11_walkStranger_40 hk41)))) (s_aloadn (pc := 26) dX11_walkStranger_26 rfl (s_gR (pc := 27) (f := 3) ko_10 (by decide) rfl rfl w_507 dX11_walkStranger_27 (s_iconst (pc := 30) dX11_walkStranger_30 c_ic_1 (s_rald (pc := 31) (by decide) (by decide) rfl rfl rfl dX11_walkStranger_31 (s_goto (pc := 32) dX11_walkStranger_32 (by decide) hk41)))))))))))))))))))
noncomputable def X11_walkStranger_b41 (c_X9_headFor : Nat → Int32 → PH → Option Rs) (c_X9_go : Nat → Int32 → PH → Option Rs) : Kn := (a_as 4 (a_al 4 (a_il 3 (a_vV 8 1 (FW_T8I c_X9_headFor) (a_al 4 (a_il 2 (a_vI 8 1 (FW_T8I c_X9_go) (a_pop (a_al 4 a_ar)))))))))
set_option maxRecDepth 100000 in
theorem X11_walkStranger_s41 {z : CZ} : SK (X11_walkStranger_x z) 41 (X11_walkStranger_b41 X9_headFor X9_go) := (s_astore (pc := 41) dX11_walkStranger_41 (show 4 < 5 by decide) (s_aload (pc := 43) dX11_walkStranger_43 (s_iloadn (pc := 45) dX11_walkStranger_45 rfl (s_vV (pc := 46) (run_virtual (X9_headFor_gd _) (show 2 < 5 by decide) cy_X9_headFor (by decide) rfl w_972 w_973 w_971 dX11_walkStranger_46) (s_aload (pc := 49) dX11_walkStranger_49 (s_iloadn (pc := 51) dX11_walkStranger_51 rfl (s_vI (pc := 52) (run_virtual (X9_go_gd _) (show 4 < 5 by decide) cy_X9_go (by decide) rfl w_985 w_986 w_984 dX11_walkStranger_52) (s_pop (pc := 55) dX11_walkStranger_55 (s_aload (pc := 56) dX11_walkStranger_56 (s_ar (pc := 58) (Or.inl ⟨_, rfl⟩) dX11_walkStranger_58))))))))))
noncomputable def X11_walkStranger_u41 (g : Int32 → Int32 → Nat → PH → Option Rs) : Kn := fun ls st h => gL 1 st (gI ls 2 fun x2 => gI ls 3 fun x3 => gR 8 (st.map some) 0 fun s0 => g x2 x3 s0 h)
noncomputable def X11_walkStranger_f0 (c_X1_draw : Nat → Int32 → PH → Option Rs) (g41 : Int32 → Int32 → Nat → PH → Option Rs) (t : Nat) (x1 : Nat) (h : PH) : Option Rs :=
  nn x1 fun r1 =>
  nn x1 fun r2 =>
  cI (c_X1_draw r2 (hI h 72 r1 0) h) fun v4 h3 =>
  nn x1 fun r5 =>
  nn x1 fun r6 =>
  cI (c_X1_draw r6 (hI h3 74 r5 0) h3) fun v8 h7 =>
  nn x1 fun r9 =>
  cI (c_X1_draw r9 4 h7) fun v11 h10 =>
  if v11 = 0 then
    nn (hR h10 643 t 0) fun r14 =>
    ix 1 (hL h10 37 r14) fun j15 =>
    g41 v4 v8 (hR h10 2368 r14 j15) h10
  else
    nn (hR h10 643 t 0) fun r12 =>
    ix 0 (hL h10 37 r12) fun j13 =>
    g41 v4 v8 (hR h10 2368 r12 j13) h10
set_option maxRecDepth 100000 in
theorem X11_walkStranger_l0 (c_X1_draw : Nat → Int32 → PH → Option Rs) (g41 : Int32 → Int32 → Nat → PH → Option Rs) (t : Nat) (x1 : Nat) (h : PH) : X11_walkStranger_b0 c_X1_draw (X11_walkStranger_u41 g41) [some (.inr (10, t + 1)), some (.inr (1, x1)), none, none, none] [] h = X11_walkStranger_f0 c_X1_draw g41 t x1 h := rfl
theorem X11_walkStranger_m0 {c_X1_draw : Nat → Int32 → PH → Option Rs} {g41 G41 : Int32 → Int32 → Nat → PH → Option Rs} (hg41 : ∀ a0 a1 a2 a3, Mo (g41 a0 a1 a2 a3) (G41 a0 a1 a2 a3)) (t : Nat) (x1 : Nat) (h : PH) : Mo (X11_walkStranger_f0 c_X1_draw g41 t x1 h) (X11_walkStranger_f0 c_X1_draw G41 t x1 h) := (mo_nn fun r1 => (mo_nn fun r2 => (mo_cI fun v4 h3 => (mo_nn fun r5 => (mo_nn fun r6 => (mo_cI fun v8 h7 => (mo_nn fun r9 => (mo_cI fun v11 h10 => (mo_if (mo_nn fun r14 => (mo_ix fun j15 => (hg41 v4 v8 (hR h10 2368 r14 j15) h10))) (mo_nn fun r12 => (mo_ix fun j13 => (hg41 v4 v8 (hR h10 2368 r12 j13) h10))))))))))))
noncomputable def X11_walkStranger_f41 (c_X9_headFor : Nat → Int32 → PH → Option Rs) (c_X9_go : Nat → Int32 → PH → Option Rs) (x2 : Int32) (x3 : Int32) (s0 : Nat) (h : PH) : Option Rs :=
  nn s0 fun r16 =>
  cV (c_X9_headFor r16 x3 h) fun h17 =>
  nn s0 fun r18 =>
  cI (c_X9_go r18 x2 h17) fun v20 h19 =>
  some (some (.inr (8, s0)), h19)
set_option maxRecDepth 100000 in
theorem X11_walkStranger_l41 (c_X9_headFor : Nat → Int32 → PH → Option Rs) (c_X9_go : Nat → Int32 → PH → Option Rs) (x2 : Int32) (x3 : Int32) (s0 : Nat) (h : PH) : X11_walkStranger_b41 c_X9_headFor c_X9_go [none, none, some (.inl x2), some (.inl x3), none] [.inr (8, s0)] h = X11_walkStranger_f41 c_X9_headFor c_X9_go x2 x3 s0 h := rfl
theorem X11_walkStranger_w41 {z : CZ} : SK (X11_walkStranger_x z) 41 (X11_walkStranger_u41 (X11_walkStranger_f41 X9_headFor X9_go)) := by
  intro ls st h r e
  obtain ⟨hst, e⟩ := gL_of e
  obtain ⟨x2, q0, e⟩ := gI_of e
  obtain ⟨x3, q1, e⟩ := gI_of e
  obtain ⟨s0, q2, e⟩ := gR_of e
  rw [st_1 hst q2]
  exact WK.sub (canon := [none, none, some (.inl x2), some (.inl x3), none]) rfl ⟨q0, q1, trivial⟩ (X11_walkStranger_s41 _ _ _ _ ((X11_walkStranger_l41 X9_headFor X9_go x2 x3 s0 h).trans e))
noncomputable def X11_walkStranger_g41 (x2 : Int32) (x3 : Int32) (s0 : Nat) (h : PH) : Option Rs := X11_walkStranger_f41 X9_headFor X9_go x2 x3 s0 h
noncomputable def X11_walkStranger_g0 (t : Nat) (x1 : Nat) (h : PH) : Option Rs := X11_walkStranger_f0 X1_draw (X11_walkStranger_g41) t x1 h
theorem X11_walkStranger_v41 {z : CZ} : SK (X11_walkStranger_x z) 41 (X11_walkStranger_u41 (X11_walkStranger_g41)) := X11_walkStranger_w41
noncomputable def X11_walkStranger (t : Nat) (x1 : Nat) (h : PH) : Option Rs := X11_walkStranger_g0 t x1 h
noncomputable abbrev X11_walkStranger_F : List PV → PH → Option Rs := FW_T10R1 (X11_walkStranger)
set_option maxRecDepth 100000 in
theorem X11_walkStranger_gd (l : Launch) : Gd l 5 yX11_walkStranger cX11_walkStranger 5 (some (.object "StrangerSigns$Walker")) (X11_walkStranger_F)   := Gd_of (by decide +kernel) (fun z hzl as h r e => by
  obtain ⟨hst, e⟩ := gL_of e
  obtain ⟨t, q0, e⟩ := gT_of e
  obtain ⟨x1, q1, e⟩ := gR_of e
  rw [st_2 hst q0 q1]
  exact ⟨show 2 ≤ 5 by decide, X11_walkStranger_s0 (X11_walkStranger_v41) _ _ _ _ ((X11_walkStranger_l0 X1_draw (X11_walkStranger_g41) t x1 h).trans e)⟩)
abbrev X6_leadAstray_x (z : CZ) : CX := mx RX6 cX6_leadAstray 1 0 none "leadAstray" z
noncomputable def X6_leadAstray_b0 : Kn := (a_al 0 (a_al 0 (a_gI 5 323 (a_ic 1 (a_b (fun a b => a + b) (a_ic 9999 (a_min (a_pI 5 323 a_vr))))))))
set_option maxRecDepth 100000 in
theorem X6_leadAstray_s0 {z : CZ} : SK (X6_leadAstray_x z) 0 (X6_leadAstray_b0) := (s_aloadn (pc := 0) dX6_leadAstray_0 rfl (s_aloadn (pc := 1) dX6_leadAstray_1 rfl (s_gI (pc := 2) (f := 3) ko_5 (by decide) rfl rfl w_179 dX6_leadAstray_2 (s_iconst (pc := 5) dX6_leadAstray_5 c_ic_1 (s_iadd (pc := 6) dX6_leadAstray_6 (s_sipush (pc := 7) dX6_leadAstray_7 c_sp_9999 (s_min (pc := 10) w_1181 w_681 w_92 w_682 dX6_leadAstray_10 (s_pI (pc := 13) (f := 3) ko_5 (by decide) rfl rfl rfl (by decide +kernel) w_179 dX6_leadAstray_13 (s_vr (pc := 16) rfl dX6_leadAstray_16)))))))))
noncomputable def X6_leadAstray_f0 (t : Nat) (h : PH) : Option Rs :=
  wr (pI h 323 t 0 (if 9999 < ((hI h 323 t 0) + 1) then 9999 else (hI h 323 t 0) + 1)) fun h1 =>
  some (none, h1)
set_option maxRecDepth 100000 in
theorem X6_leadAstray_l0 (t : Nat) (h : PH) : X6_leadAstray_b0 [some (.inr (5, t + 1))] [] h = X6_leadAstray_f0 t h := rfl
noncomputable def X6_leadAstray_g0 (t : Nat) (h : PH) : Option Rs := X6_leadAstray_f0 t h
noncomputable def X6_leadAstray (t : Nat) (h : PH) : Option Rs := X6_leadAstray_g0 t h
noncomputable abbrev X6_leadAstray_F : List PV → PH → Option Rs := FW_T5 (X6_leadAstray)
set_option maxRecDepth 100000 in
theorem X6_leadAstray_gd (l : Launch) : Gd l 0 yX6_leadAstray cX6_leadAstray 1 none (X6_leadAstray_F)   := Gd_of (by decide +kernel) (fun z hzl as h r e => by
  obtain ⟨hst, e⟩ := gL_of e
  obtain ⟨t, q0, e⟩ := gT_of e
  rw [st_1 hst q0]
  exact ⟨show 1 ≤ 1 by decide, X6_leadAstray_s0 _ _ _ _ ((X6_leadAstray_l0 t h).trans e)⟩)
abbrev X11_strangers_x (z : CZ) : CX := mx RX11 cX11_strangers 5 34 (some .int) "strangers" z
noncomputable def X11_strangers_b0 (c_X11_enterBoth : Nat → Nat → PH → Option Rs) (k49 : Kn) : Kn := (a_il 1 (a_ic 1 (a_lt (a_ic (-1000000001) a_ir) (a_il 1 (a_ic 60 (a_gt (a_ic (-1000000001) a_ir) (a_al 0 (a_gR 10 640 1 (a_gI 1 72 (a_z (a_ic (-1000000002) a_ir) (a_al 0 (a_gR 10 640 1 (a_gI 1 74 (a_z (a_ic (-1000000002) a_ir) (a_al 0 (a_al 0 (a_gR 10 640 1 (a_vV 10 1 (FW_T10R1 c_X11_enterBoth) (a_ic 0 (a_is 2 (a_ic 0 (a_is 3 k49))))))))))))))))))))))
set_option maxRecDepth 100000 in
theorem X11_strangers_s0 {z : CZ} {k49 : Kn} (hk49 : SK (X11_strangers_x z) 49 k49) : SK (X11_strangers_x z) 0 (X11_strangers_b0 X11_enterBoth k49) := (s_iloadn (pc := 0) dX11_strangers_0 rfl (s_iconst (pc := 1) dX11_strangers_1 c_ic_1 (s_cmplt (pc := 2) dX11_strangers_2 (by decide) (s_ldc (pc := 11) w_551 dX11_strangers_11 (s_ir (pc := 13) rfl dX11_strangers_13)) (s_iloadn (pc := 5) dX11_strangers_5 rfl (s_bipush (pc := 6) dX11_strangers_6 c_bp_60 (s_cmple (pc := 8) dX11_strangers_8 (by decide) (s_aloadn (pc := 14) dX11_strangers_14 rfl (s_gR (pc := 15) (f := 0) ko_10 (by decide) rfl rfl w_504 dX11_strangers_15 (s_gI (pc := 18) (f := 8) ko_1 (by decide) rfl rfl w_242 dX11_strangers_18 (s_ifeq (pc := 21) dX11_strangers_21 (by decide) (s_ldc (pc := 34) w_563 dX11_strangers_34 (s_ir (pc := 36) rfl dX11_strangers_36)) (s_aloadn (pc := 24) dX11_strangers_24 rfl (s_gR (pc := 25) (f := 0) ko_10 (by decide) rfl rfl w_504 dX11_strangers_25 (s_gI (pc := 28) (f := 10) ko_1 (by decide) rfl rfl w_250 dX11_strangers_28 (s_ifne (pc := 31) dX11_strangers_31 (by decide) (s_aloadn (pc := 37) dX11_strangers_37 rfl (s_aloadn (pc := 38) dX11_strangers_38 rfl (s_gR (pc := 39) (f := 0) ko_10 (by decide) rfl rfl w_504 dX11_strangers_39 (s_vV (pc := 42) (run_virtual (X11_enterBoth_gd _) (show 33 < 34 by decide) cy_X11_enterBoth (by decide) rfl w_1166 w_s26 w_1164 dX11_strangers_42) (s_iconst (pc := 45) dX11_strangers_45 c_ic_0 (s_istoren (pc := 46) dX11_strangers_46 rfl (show 2 < 5 by decide) (s_iconst (pc := 47) dX11_strangers_47 c_ic_0 (s_istoren (pc := 48) dX11_strangers_48 rfl (show 3 < 5 by decide) hk49)))))))) (s_ldc (pc := 34) w_563 dX11_strangers_34 (s_ir (pc := 36) rfl dX11_strangers_36)))))))))) (s_ldc (pc := 11) w_551 dX11_strangers_11 (s_ir (pc := 13) rfl dX11_strangers_13))))))))
noncomputable def X11_strangers_b49 (c_X11_walkStranger : Nat → Nat → PH → Option Rs) (c_X6_leadAstray : Nat → PH → Option Rs) (k104 : Kn) : Kn := (a_il 3 (a_il 1 (a_lt (a_al 0 (a_al 0 (a_gR 10 640 1 (a_vR 10 8 1 (FW_T10R1 c_X11_walkStranger) (a_as 4 (a_al 4 (a_gI 8 523 (a_ic 1 (a_eq (a_inc 2 1 k104) (a_al 4 (a_gI 8 527 (a_ic (-1) (a_eq k104 (a_al 0 (a_gR 10 640 1 (a_gR 1 68 18 (a_al 4 (a_gI 8 527 (a_rald 18 1152 5 (a_vV 5 0 (FW_T5 c_X6_leadAstray) k104)))))))))))))))))))) (a_il 2 a_ir))))
set_option maxRecDepth 100000 in
theorem X11_strangers_s49 {z : CZ} {k104 : Kn} (hk104 : SK (X11_strangers_x z) 104 k104) : SK (X11_strangers_x z) 49 (X11_strangers_b49 X11_walkStranger X6_leadAstray k104) := (s_iloadn (pc := 49) dX11_strangers_49 rfl (s_iloadn (pc := 50) dX11_strangers_50 rfl (s_cmpge (pc := 51) dX11_strangers_51 (by decide) (s_iloadn (pc := 110) dX11_strangers_110 rfl (s_ir (pc := 111) rfl dX11_strangers_111)) (s_aloadn (pc := 54) dX11_strangers_54 rfl (s_aloadn (pc := 55) dX11_strangers_55 rfl (s_gR (pc := 56) (f := 0) ko_10 (by decide) rfl rfl w_504 dX11_strangers_56 (s_vR (pc := 59) (run_virtual (X11_walkStranger_gd _) (show 5 < 34 by decide) cy_X11_walkStranger (by decide) rfl w_1170 w_s27 w_1168 dX11_strangers_59) (s_astore (pc := 62) dX11_strangers_62 (show 4 < 5 by decide) (s_aload (pc := 64) dX11_strangers_64 (s_gI (pc := 66) (f := 11) ko_8 (by decide) rfl rfl w_345 dX11_strangers_66 (s_iconst (pc := 69) dX11_strangers_69 c_ic_1 (s_cmpne (pc := 70) dX11_strangers_70 (by decide) (s_aload (pc := 79) dX11_strangers_79 (s_gI (pc := 81) (f := 15) ko_8 (by decide) rfl rfl w_353 dX11_strangers_81 (s_iconst (pc := 84) dX11_strangers_84 c_ic_m1 (s_cmpeq (pc := 85) dX11_strangers_85 (by decide) hk104 (s_aloadn (pc := 88) dX11_strangers_88 rfl (s_gR (pc := 89) (f := 0) ko_10 (by decide) rfl rfl w_504 dX11_strangers_89 (s_gR (pc := 92) (f := 4) ko_1 (by decide) rfl rfl w_233 dX11_strangers_92 (s_aload (pc := 95) dX11_strangers_95 (s_gI (pc := 97) (f := 15) ko_8 (by decide) rfl rfl w_353 dX11_strangers_97 (s_rald (pc := 100) (by decide) (by decide) rfl rfl rfl dX11_strangers_100 (s_vV (pc := 101) (run_virtual (X6_leadAstray_gd _) (show 0 < 34 by decide) cy_X6_leadAstray (by decide) rfl w_1178 w_1179 w_1177 dX11_strangers_101) hk104))))))))))) (s_iinc (pc := 73) dX11_strangers_73 c_ic_1 (show 2 < 5 by decide) (s_goto (pc := 76) dX11_strangers_76 (by decide) hk104))))))))))))))
noncomputable def X11_strangers_b104 (k49 : Kn) : Kn := (a_inc 3 1 k49)
set_option maxRecDepth 100000 in
theorem X11_strangers_s104 {z : CZ} {k49 : Kn} (hk49 : SK (X11_strangers_x z) 49 k49) : SK (X11_strangers_x z) 104 (X11_strangers_b104 k49) := (s_iinc (pc := 104) dX11_strangers_104 c_ic_1 (show 3 < 5 by decide) (s_goto (pc := 107) dX11_strangers_107 (by decide) hk49))
noncomputable def X11_strangers_u49 (g : Nat → Int32 → Int32 → Int32 → PH → Option Rs) : Kn := fun ls st h => gL 0 st (gT 10 ls 0 fun t => gI ls 1 fun x1 => gI ls 2 fun x2 => gI ls 3 fun x3 => g t x1 x2 x3 h)
noncomputable def X11_strangers_u104 (g : Nat → Int32 → Int32 → Int32 → PH → Option Rs) : Kn := fun ls st h => gL 0 st (gT 10 ls 0 fun t => gI ls 1 fun x1 => gI ls 2 fun x2 => gI ls 3 fun x3 => g t x1 x2 x3 h)
noncomputable def X11_strangers_f0 (c_X11_enterBoth : Nat → Nat → PH → Option Rs) (g49 : Nat → Int32 → Int32 → Int32 → PH → Option Rs) (t : Nat) (x1 : Int32) (h : PH) : Option Rs :=
  if x1 < 1 then
    some (some (.inl (-1000000001)), h)
  else
    if 60 < x1 then
      some (some (.inl (-1000000001)), h)
    else
      nn (hR h 640 t 0) fun r1 =>
      if (hI h 72 r1 0) = 0 then
        some (some (.inl (-1000000002)), h)
      else
        nn (hR h 640 t 0) fun r2 =>
        if (hI h 74 r2 0) = 0 then
          some (some (.inl (-1000000002)), h)
        else
          cV (c_X11_enterBoth t (hR h 640 t 0) h) fun h3 =>
          g49 t x1 0 0 h3
set_option maxRecDepth 100000 in
theorem X11_strangers_l0 (c_X11_enterBoth : Nat → Nat → PH → Option Rs) (g49 : Nat → Int32 → Int32 → Int32 → PH → Option Rs) (t : Nat) (x1 : Int32) (h : PH) : X11_strangers_b0 c_X11_enterBoth (X11_strangers_u49 g49) [some (.inr (10, t + 1)), some (.inl x1), none, none, none] [] h = X11_strangers_f0 c_X11_enterBoth g49 t x1 h := rfl
theorem X11_strangers_m0 {c_X11_enterBoth : Nat → Nat → PH → Option Rs} {g49 G49 : Nat → Int32 → Int32 → Int32 → PH → Option Rs} (hg49 : ∀ a0 a1 a2 a3 a4, Mo (g49 a0 a1 a2 a3 a4) (G49 a0 a1 a2 a3 a4)) (t : Nat) (x1 : Int32) (h : PH) : Mo (X11_strangers_f0 c_X11_enterBoth g49 t x1 h) (X11_strangers_f0 c_X11_enterBoth G49 t x1 h) := (mo_if mo_rf (mo_if mo_rf (mo_nn fun r1 => (mo_if mo_rf (mo_nn fun r2 => (mo_if mo_rf (mo_cV fun h3 => (hg49 t x1 0 0 h3))))))))
noncomputable def X11_strangers_f49 (c_X11_walkStranger : Nat → Nat → PH → Option Rs) (c_X6_leadAstray : Nat → PH → Option Rs) (g104 : Nat → Int32 → Int32 → Int32 → PH → Option Rs) (t : Nat) (x1 : Int32) (x2 : Int32) (x3 : Int32) (h : PH) : Option Rs :=
  if x3 < x1 then
    cR 8 (c_X11_walkStranger t (hR h 640 t 0) h) fun r5 h4 =>
    nn r5 fun r6 =>
    if (hI h4 523 r6 0) = 1 then
      g104 t x1 (x2 + 1) x3 h4
    else
      nn r5 fun r7 =>
      if (hI h4 527 r7 0) = (-1) then
        g104 t x1 x2 x3 h4
      else
        nn (hR h4 640 t 0) fun r8 =>
        nn r5 fun r9 =>
        nn (hR h4 68 r8 0) fun r10 =>
        ix (hI h4 527 r9 0) (hL h4 18 r10) fun j11 =>
        nn (hR h4 1152 r10 j11) fun r12 =>
        cV (c_X6_leadAstray r12 h4) fun h13 =>
        g104 t x1 x2 x3 h13
  else
    some (some (.inl x2), h)
set_option maxRecDepth 100000 in
theorem X11_strangers_l49 (c_X11_walkStranger : Nat → Nat → PH → Option Rs) (c_X6_leadAstray : Nat → PH → Option Rs) (g104 : Nat → Int32 → Int32 → Int32 → PH → Option Rs) (t : Nat) (x1 : Int32) (x2 : Int32) (x3 : Int32) (h : PH) : X11_strangers_b49 c_X11_walkStranger c_X6_leadAstray (X11_strangers_u104 g104) [some (.inr (10, t + 1)), some (.inl x1), some (.inl x2), some (.inl x3), none] [] h = X11_strangers_f49 c_X11_walkStranger c_X6_leadAstray g104 t x1 x2 x3 h := rfl
theorem X11_strangers_m49 {c_X11_walkStranger : Nat → Nat → PH → Option Rs} {c_X6_leadAstray : Nat → PH → Option Rs} {g104 G104 : Nat → Int32 → Int32 → Int32 → PH → Option Rs} (hg104 : ∀ a0 a1 a2 a3 a4, Mo (g104 a0 a1 a2 a3 a4) (G104 a0 a1 a2 a3 a4)) (t : Nat) (x1 : Int32) (x2 : Int32) (x3 : Int32) (h : PH) : Mo (X11_strangers_f49 c_X11_walkStranger c_X6_leadAstray g104 t x1 x2 x3 h) (X11_strangers_f49 c_X11_walkStranger c_X6_leadAstray G104 t x1 x2 x3 h) := (mo_if (mo_cR fun r5 h4 => (mo_nn fun r6 => (mo_if (hg104 t x1 (x2 + 1) x3 h4) (mo_nn fun r7 => (mo_if (hg104 t x1 x2 x3 h4) (mo_nn fun r8 => (mo_nn fun r9 => (mo_nn fun r10 => (mo_ix fun j11 => (mo_nn fun r12 => (mo_cV fun h13 => (hg104 t x1 x2 x3 h13)))))))))))) mo_rf)
theorem X11_strangers_w49 {z : CZ} {g104 : Nat → Int32 → Int32 → Int32 → PH → Option Rs} (hk104 : SK (X11_strangers_x z) 104 (X11_strangers_u104 g104)) : SK (X11_strangers_x z) 49 (X11_strangers_u49 (X11_strangers_f49 X11_walkStranger X6_leadAstray g104)) := by
  intro ls st h r e
  obtain ⟨hst, e⟩ := gL_of e
  obtain ⟨t, q0, e⟩ := gT_of e
  obtain ⟨x1, q1, e⟩ := gI_of e
  obtain ⟨x2, q2, e⟩ := gI_of e
  obtain ⟨x3, q3, e⟩ := gI_of e
  rw [st_0 hst]
  exact WK.sub (canon := [some (.inr (10, t + 1)), some (.inl x1), some (.inl x2), some (.inl x3), none]) rfl ⟨q0, q1, q2, q3, trivial⟩ (X11_strangers_s49 hk104 _ _ _ _ ((X11_strangers_l49 X11_walkStranger X6_leadAstray g104 t x1 x2 x3 h).trans e))
noncomputable def X11_strangers_f104 (g49 : Nat → Int32 → Int32 → Int32 → PH → Option Rs) (t : Nat) (x1 : Int32) (x2 : Int32) (x3 : Int32) (h : PH) : Option Rs :=
  g49 t x1 x2 (x3 + 1) h
set_option maxRecDepth 100000 in
theorem X11_strangers_l104 (g49 : Nat → Int32 → Int32 → Int32 → PH → Option Rs) (t : Nat) (x1 : Int32) (x2 : Int32) (x3 : Int32) (h : PH) : X11_strangers_b104 (X11_strangers_u49 g49) [some (.inr (10, t + 1)), some (.inl x1), some (.inl x2), some (.inl x3), none] [] h = X11_strangers_f104 g49 t x1 x2 x3 h := rfl
theorem X11_strangers_m104 {g49 G49 : Nat → Int32 → Int32 → Int32 → PH → Option Rs} (hg49 : ∀ a0 a1 a2 a3 a4, Mo (g49 a0 a1 a2 a3 a4) (G49 a0 a1 a2 a3 a4)) (t : Nat) (x1 : Int32) (x2 : Int32) (x3 : Int32) (h : PH) : Mo (X11_strangers_f104 g49 t x1 x2 x3 h) (X11_strangers_f104 G49 t x1 x2 x3 h) := (hg49 t x1 x2 (x3 + 1) h)
theorem X11_strangers_w104 {z : CZ} {g49 : Nat → Int32 → Int32 → Int32 → PH → Option Rs} (hk49 : SK (X11_strangers_x z) 49 (X11_strangers_u49 g49)) : SK (X11_strangers_x z) 104 (X11_strangers_u104 (X11_strangers_f104 g49)) := by
  intro ls st h r e
  obtain ⟨hst, e⟩ := gL_of e
  obtain ⟨t, q0, e⟩ := gT_of e
  obtain ⟨x1, q1, e⟩ := gI_of e
  obtain ⟨x2, q2, e⟩ := gI_of e
  obtain ⟨x3, q3, e⟩ := gI_of e
  rw [st_0 hst]
  exact WK.sub (canon := [some (.inr (10, t + 1)), some (.inl x1), some (.inl x2), some (.inl x3), none]) rfl ⟨q0, q1, q2, q3, trivial⟩ (X11_strangers_s104 hk49 _ _ _ _ ((X11_strangers_l104 g49 t x1 x2 x3 h).trans e))
noncomputable def X11_strangers_g0 (G : (Nat → Int32 → Int32 → Int32 → PH → Option Rs)) (t : Nat) (x1 : Int32) (h : PH) : Option Rs := X11_strangers_f0 X11_enterBoth (G) t x1 h
noncomputable def X11_strangers_g104 (G : (Nat → Int32 → Int32 → Int32 → PH → Option Rs)) (t : Nat) (x1 : Int32) (x2 : Int32) (x3 : Int32) (h : PH) : Option Rs := X11_strangers_f104 (G) t x1 x2 x3 h
noncomputable def X11_strangers_g49 (G : (Nat → Int32 → Int32 → Int32 → PH → Option Rs)) (t : Nat) (x1 : Int32) (x2 : Int32) (x3 : Int32) (h : PH) : Option Rs := X11_strangers_f49 X11_walkStranger X6_leadAstray (X11_strangers_g104 G) t x1 x2 x3 h
theorem X11_strangers_v104 {z : CZ} {G : (Nat → Int32 → Int32 → Int32 → PH → Option Rs)} (hG49 : SK (X11_strangers_x z) 49 (X11_strangers_u49 (G))) : SK (X11_strangers_x z) 104 (X11_strangers_u104 (X11_strangers_g104 G)) := X11_strangers_w104 hG49
theorem X11_strangers_v49 {z : CZ} {G : (Nat → Int32 → Int32 → Int32 → PH → Option Rs)} (hG49 : SK (X11_strangers_x z) 49 (X11_strangers_u49 (G))) : SK (X11_strangers_x z) 49 (X11_strangers_u49 (X11_strangers_g49 G)) := X11_strangers_w49 (X11_strangers_v104 hG49)
noncomputable def X11_strangers_fam : Nat → (Nat → Int32 → Int32 → Int32 → PH → Option Rs)
  | 0 => fun _ _ _ _ _ => none
  | n + 1 => X11_strangers_g49 (X11_strangers_fam n)
theorem X11_strangers_k {z : CZ} : ∀ n, SK (X11_strangers_x z) 49 (X11_strangers_u49 (X11_strangers_fam n))
  | 0 => (fun ls st h r e => by
      obtain ⟨_, e⟩ := gL_of e
      obtain ⟨_, _, e⟩ := gT_of e
      obtain ⟨_, _, e⟩ := gI_of e
      obtain ⟨_, _, e⟩ := gI_of e
      obtain ⟨_, _, e⟩ := gI_of e
      cases e)
  | n + 1 => by
    obtain ih49 := X11_strangers_k n
    exact X11_strangers_v49 ih49
theorem X11_strangers_n0 {G G' : (Nat → Int32 → Int32 → Int32 → PH → Option Rs)} (hg49 : ∀ a0 a1 a2 a3 a4, Mo ((G) a0 a1 a2 a3 a4) ((G') a0 a1 a2 a3 a4)) (t : Nat) (x1 : Int32) (h : PH) : Mo (X11_strangers_g0 G t x1 h) (X11_strangers_g0 G' t x1 h) := X11_strangers_m0 hg49 t x1 h
theorem X11_strangers_n104 {G G' : (Nat → Int32 → Int32 → Int32 → PH → Option Rs)} (hg49 : ∀ a0 a1 a2 a3 a4, Mo ((G) a0 a1 a2 a3 a4) ((G') a0 a1 a2 a3 a4)) (t : Nat) (x1 : Int32) (x2 : Int32) (x3 : Int32) (h : PH) : Mo (X11_strangers_g104 G t x1 x2 x3 h) (X11_strangers_g104 G' t x1 x2 x3 h) := X11_strangers_m104 hg49 t x1 x2 x3 h
theorem X11_strangers_n49 {G G' : (Nat → Int32 → Int32 → Int32 → PH → Option Rs)} (hg49 : ∀ a0 a1 a2 a3 a4, Mo ((G) a0 a1 a2 a3 a4) ((G') a0 a1 a2 a3 a4)) (t : Nat) (x1 : Int32) (x2 : Int32) (x3 : Int32) (h : PH) : Mo (X11_strangers_g49 G t x1 x2 x3 h) (X11_strangers_g49 G' t x1 x2 x3 h) := X11_strangers_m49 (fun a0 a1 a2 a3 a4 => X11_strangers_n104 hg49 a0 a1 a2 a3 a4) t x1 x2 x3 h
theorem X11_strangers_fm : ∀ n, (∀ a0 a1 a2 a3 a4, Mo ((X11_strangers_fam n) a0 a1 a2 a3 a4) ((X11_strangers_fam (n + 1)) a0 a1 a2 a3 a4))
  | 0 => fun _ _ _ _ _ => mo_no
  | n + 1 => by
    obtain ih49 := X11_strangers_fm n
    exact fun a0 a1 a2 a3 a4 => X11_strangers_n49 ih49 a0 a1 a2 a3 a4
noncomputable def X11_strangers (t : Nat) (x1 : Int32) (h : PH) : Option Rs := lim (fun n => X11_strangers_g0 (X11_strangers_fam n) t x1 h)
theorem X11_strangers_iff {t : Nat} {x1 : Int32} {h : PH} {r : Rs} : X11_strangers t x1 h = some r ↔ ∃ n, X11_strangers_g0 (X11_strangers_fam n) t x1 h = some r := lim_iff (fun n => by
  obtain ih49 := X11_strangers_fm n
  exact X11_strangers_n0 ih49 t x1 h)
noncomputable abbrev X11_strangers_F : List PV → PH → Option Rs := FW_T10I (X11_strangers)
set_option maxRecDepth 100000 in
theorem X11_strangers_gd (l : Launch) : Gd l 34 yX11_strangers cX11_strangers 5 (some .int) (X11_strangers_F)   := Gd_of (by decide +kernel) (fun z hzl as h r e => by
  obtain ⟨hst, e⟩ := gL_of e
  obtain ⟨t, q0, e⟩ := gT_of e
  obtain ⟨x1, q1, e⟩ := gI_of e
  rw [st_2 hst q0 q1]
  obtain ⟨n, e⟩ := lim_of e
  obtain hG49 := X11_strangers_k (z := z) n
  exact ⟨show 2 ≤ 5 by decide, X11_strangers_s0 hG49 _ _ _ _ ((X11_strangers_l0 X11_enterBoth (X11_strangers_fam n) t x1 h).trans e)⟩)
abbrev X11_led_x (z : CZ) : CX := mx RX11 cX11_led 4 0 (some .int) "led" z
noncomputable def X11_led_b0 (k7 : Kn) : Kn := (a_ic (-1000000005) (a_is 1 (a_ic 0 (a_is 2 (a_ic 0 (a_is 3 k7))))))
set_option maxRecDepth 100000 in
theorem X11_led_s0 {z : CZ} {k7 : Kn} (hk7 : SK (X11_led_x z) 7 k7) : SK (X11_led_x z) 0 (X11_led_b0 k7) := (s_ldc (pc := 0) w_611 dX11_led_0 (s_istoren (pc := 2) dX11_led_2 rfl (show 1 < 4 by decide) (s_iconst (pc := 3) dX11_led_3 c_ic_0 (s_istoren (pc := 4) dX11_led_4 rfl (show 2 < 4 by decide) (s_iconst (pc := 5) dX11_led_5 c_ic_0 (s_istoren (pc := 6) dX11_led_6 rfl (show 3 < 4 by decide) hk7))))))
noncomputable def X11_led_b7 (k49 : Kn) : Kn := (a_il 3 (a_al 0 (a_gR 10 640 1 (a_gI 1 75 (a_lt (a_al 0 (a_gR 10 640 1 (a_gR 1 68 18 (a_il 3 (a_rald 18 1152 5 (a_gI 5 323 (a_il 2 (a_gt (a_il 3 (a_is 1 (a_al 0 (a_gR 10 640 1 (a_gR 1 68 18 (a_il 3 (a_rald 18 1152 5 (a_gI 5 323 (a_is 2 k49))))))))) k49)))))))) (a_il 1 a_ir))))))
set_option maxRecDepth 100000 in
theorem X11_led_s7 {z : CZ} {k49 : Kn} (hk49 : SK (X11_led_x z) 49 k49) : SK (X11_led_x z) 7 (X11_led_b7 k49) := (s_iloadn (pc := 7) dX11_led_7 rfl (s_aloadn (pc := 8) dX11_led_8 rfl (s_gR (pc := 9) (f := 0) ko_10 (by decide) rfl rfl w_504 dX11_led_9 (s_gI (pc := 12) (f := 11) ko_1 (by decide) rfl rfl w_255 dX11_led_12 (s_cmpge (pc := 15) dX11_led_15 (by decide) (s_iloadn (pc := 55) dX11_led_55 rfl (s_ir (pc := 56) rfl dX11_led_56)) (s_aloadn (pc := 18) dX11_led_18 rfl (s_gR (pc := 19) (f := 0) ko_10 (by decide) rfl rfl w_504 dX11_led_19 (s_gR (pc := 22) (f := 4) ko_1 (by decide) rfl rfl w_233 dX11_led_22 (s_iloadn (pc := 25) dX11_led_25 rfl (s_rald (pc := 26) (by decide) (by decide) rfl rfl rfl dX11_led_26 (s_gI (pc := 27) (f := 3) ko_5 (by decide) rfl rfl w_180 dX11_led_27 (s_iloadn (pc := 30) dX11_led_30 rfl (s_cmple (pc := 31) dX11_led_31 (by decide) hk49 (s_iloadn (pc := 34) dX11_led_34 rfl (s_istoren (pc := 35) dX11_led_35 rfl (show 1 < 4 by decide) (s_aloadn (pc := 36) dX11_led_36 rfl (s_gR (pc := 37) (f := 0) ko_10 (by decide) rfl rfl w_504 dX11_led_37 (s_gR (pc := 40) (f := 4) ko_1 (by decide) rfl rfl w_233 dX11_led_40 (s_iloadn (pc := 43) dX11_led_43 rfl (s_rald (pc := 44) (by decide) (by decide) rfl rfl rfl dX11_led_44 (s_gI (pc := 45) (f := 3) ko_5 (by decide) rfl rfl w_180 dX11_led_45 (s_istoren (pc := 48) dX11_led_48 rfl (show 2 < 4 by decide) hk49))))))))))))))))))))))
noncomputable def X11_led_b49 (k7 : Kn) : Kn := (a_inc 3 1 k7)
set_option maxRecDepth 100000 in
theorem X11_led_s49 {z : CZ} {k7 : Kn} (hk7 : SK (X11_led_x z) 7 k7) : SK (X11_led_x z) 49 (X11_led_b49 k7) := (s_iinc (pc := 49) dX11_led_49 c_ic_1 (show 3 < 4 by decide) (s_goto (pc := 52) dX11_led_52 (by decide) hk7))
noncomputable def X11_led_u7 (g : Nat → Int32 → Int32 → Int32 → PH → Option Rs) : Kn := fun ls st h => gL 0 st (gT 10 ls 0 fun t => gI ls 1 fun x1 => gI ls 2 fun x2 => gI ls 3 fun x3 => g t x1 x2 x3 h)
noncomputable def X11_led_u49 (g : Nat → Int32 → Int32 → Int32 → PH → Option Rs) : Kn := fun ls st h => gL 0 st (gT 10 ls 0 fun t => gI ls 1 fun x1 => gI ls 2 fun x2 => gI ls 3 fun x3 => g t x1 x2 x3 h)
noncomputable def X11_led_f0 (g7 : Nat → Int32 → Int32 → Int32 → PH → Option Rs) (t : Nat) (h : PH) : Option Rs :=
  g7 t (-1000000005) 0 0 h
set_option maxRecDepth 100000 in
theorem X11_led_l0 (g7 : Nat → Int32 → Int32 → Int32 → PH → Option Rs) (t : Nat) (h : PH) : X11_led_b0 (X11_led_u7 g7) [some (.inr (10, t + 1)), none, none, none] [] h = X11_led_f0 g7 t h := rfl
theorem X11_led_m0 {g7 G7 : Nat → Int32 → Int32 → Int32 → PH → Option Rs} (hg7 : ∀ a0 a1 a2 a3 a4, Mo (g7 a0 a1 a2 a3 a4) (G7 a0 a1 a2 a3 a4)) (t : Nat) (h : PH) : Mo (X11_led_f0 g7 t h) (X11_led_f0 G7 t h) := (hg7 t (-1000000005) 0 0 h)
noncomputable def X11_led_f7 (g49 : Nat → Int32 → Int32 → Int32 → PH → Option Rs) (t : Nat) (x1 : Int32) (x2 : Int32) (x3 : Int32) (h : PH) : Option Rs :=
  nn (hR h 640 t 0) fun r1 =>
  if x3 < (hI h 75 r1 0) then
    nn (hR h 640 t 0) fun r2 =>
    nn (hR h 68 r2 0) fun r3 =>
    ix x3 (hL h 18 r3) fun j4 =>
    nn (hR h 1152 r3 j4) fun r5 =>
    if x2 < (hI h 323 r5 0) then
      nn (hR h 640 t 0) fun r6 =>
      nn (hR h 68 r6 0) fun r7 =>
      ix x3 (hL h 18 r7) fun j8 =>
      nn (hR h 1152 r7 j8) fun r9 =>
      g49 t x3 (hI h 323 r9 0) x3 h
    else
      g49 t x1 x2 x3 h
  else
    some (some (.inl x1), h)
set_option maxRecDepth 100000 in
theorem X11_led_l7 (g49 : Nat → Int32 → Int32 → Int32 → PH → Option Rs) (t : Nat) (x1 : Int32) (x2 : Int32) (x3 : Int32) (h : PH) : X11_led_b7 (X11_led_u49 g49) [some (.inr (10, t + 1)), some (.inl x1), some (.inl x2), some (.inl x3)] [] h = X11_led_f7 g49 t x1 x2 x3 h := rfl
theorem X11_led_m7 {g49 G49 : Nat → Int32 → Int32 → Int32 → PH → Option Rs} (hg49 : ∀ a0 a1 a2 a3 a4, Mo (g49 a0 a1 a2 a3 a4) (G49 a0 a1 a2 a3 a4)) (t : Nat) (x1 : Int32) (x2 : Int32) (x3 : Int32) (h : PH) : Mo (X11_led_f7 g49 t x1 x2 x3 h) (X11_led_f7 G49 t x1 x2 x3 h) := (mo_nn fun r1 => (mo_if (mo_nn fun r2 => (mo_nn fun r3 => (mo_ix fun j4 => (mo_nn fun r5 => (mo_if (mo_nn fun r6 => (mo_nn fun r7 => (mo_ix fun j8 => (mo_nn fun r9 => (hg49 t x3 (hI h 323 r9 0) x3 h))))) (hg49 t x1 x2 x3 h)))))) mo_rf))
theorem X11_led_w7 {z : CZ} {g49 : Nat → Int32 → Int32 → Int32 → PH → Option Rs} (hk49 : SK (X11_led_x z) 49 (X11_led_u49 g49)) : SK (X11_led_x z) 7 (X11_led_u7 (X11_led_f7 g49)) := by
  intro ls st h r e
  obtain ⟨hst, e⟩ := gL_of e
  obtain ⟨t, q0, e⟩ := gT_of e
  obtain ⟨x1, q1, e⟩ := gI_of e
  obtain ⟨x2, q2, e⟩ := gI_of e
  obtain ⟨x3, q3, e⟩ := gI_of e
  rw [st_0 hst]
  exact WK.sub (canon := [some (.inr (10, t + 1)), some (.inl x1), some (.inl x2), some (.inl x3)]) rfl ⟨q0, q1, q2, q3, trivial⟩ (X11_led_s7 hk49 _ _ _ _ ((X11_led_l7 g49 t x1 x2 x3 h).trans e))
noncomputable def X11_led_f49 (g7 : Nat → Int32 → Int32 → Int32 → PH → Option Rs) (t : Nat) (x1 : Int32) (x2 : Int32) (x3 : Int32) (h : PH) : Option Rs :=
  g7 t x1 x2 (x3 + 1) h
set_option maxRecDepth 100000 in
theorem X11_led_l49 (g7 : Nat → Int32 → Int32 → Int32 → PH → Option Rs) (t : Nat) (x1 : Int32) (x2 : Int32) (x3 : Int32) (h : PH) : X11_led_b49 (X11_led_u7 g7) [some (.inr (10, t + 1)), some (.inl x1), some (.inl x2), some (.inl x3)] [] h = X11_led_f49 g7 t x1 x2 x3 h := rfl
theorem X11_led_m49 {g7 G7 : Nat → Int32 → Int32 → Int32 → PH → Option Rs} (hg7 : ∀ a0 a1 a2 a3 a4, Mo (g7 a0 a1 a2 a3 a4) (G7 a0 a1 a2 a3 a4)) (t : Nat) (x1 : Int32) (x2 : Int32) (x3 : Int32) (h : PH) : Mo (X11_led_f49 g7 t x1 x2 x3 h) (X11_led_f49 G7 t x1 x2 x3 h) := (hg7 t x1 x2 (x3 + 1) h)
theorem X11_led_w49 {z : CZ} {g7 : Nat → Int32 → Int32 → Int32 → PH → Option Rs} (hk7 : SK (X11_led_x z) 7 (X11_led_u7 g7)) : SK (X11_led_x z) 49 (X11_led_u49 (X11_led_f49 g7)) := by
  intro ls st h r e
  obtain ⟨hst, e⟩ := gL_of e
  obtain ⟨t, q0, e⟩ := gT_of e
  obtain ⟨x1, q1, e⟩ := gI_of e
  obtain ⟨x2, q2, e⟩ := gI_of e
  obtain ⟨x3, q3, e⟩ := gI_of e
  rw [st_0 hst]
  exact WK.sub (canon := [some (.inr (10, t + 1)), some (.inl x1), some (.inl x2), some (.inl x3)]) rfl ⟨q0, q1, q2, q3, trivial⟩ (X11_led_s49 hk7 _ _ _ _ ((X11_led_l49 g7 t x1 x2 x3 h).trans e))
noncomputable def X11_led_g0 (G : (Nat → Int32 → Int32 → Int32 → PH → Option Rs)) (t : Nat) (h : PH) : Option Rs := X11_led_f0 (G) t h
noncomputable def X11_led_g49 (G : (Nat → Int32 → Int32 → Int32 → PH → Option Rs)) (t : Nat) (x1 : Int32) (x2 : Int32) (x3 : Int32) (h : PH) : Option Rs := X11_led_f49 (G) t x1 x2 x3 h
noncomputable def X11_led_g7 (G : (Nat → Int32 → Int32 → Int32 → PH → Option Rs)) (t : Nat) (x1 : Int32) (x2 : Int32) (x3 : Int32) (h : PH) : Option Rs := X11_led_f7 (X11_led_g49 G) t x1 x2 x3 h
theorem X11_led_v49 {z : CZ} {G : (Nat → Int32 → Int32 → Int32 → PH → Option Rs)} (hG7 : SK (X11_led_x z) 7 (X11_led_u7 (G))) : SK (X11_led_x z) 49 (X11_led_u49 (X11_led_g49 G)) := X11_led_w49 hG7
theorem X11_led_v7 {z : CZ} {G : (Nat → Int32 → Int32 → Int32 → PH → Option Rs)} (hG7 : SK (X11_led_x z) 7 (X11_led_u7 (G))) : SK (X11_led_x z) 7 (X11_led_u7 (X11_led_g7 G)) := X11_led_w7 (X11_led_v49 hG7)
noncomputable def X11_led_fam : Nat → (Nat → Int32 → Int32 → Int32 → PH → Option Rs)
  | 0 => fun _ _ _ _ _ => none
  | n + 1 => X11_led_g7 (X11_led_fam n)
theorem X11_led_k {z : CZ} : ∀ n, SK (X11_led_x z) 7 (X11_led_u7 (X11_led_fam n))
  | 0 => (fun ls st h r e => by
      obtain ⟨_, e⟩ := gL_of e
      obtain ⟨_, _, e⟩ := gT_of e
      obtain ⟨_, _, e⟩ := gI_of e
      obtain ⟨_, _, e⟩ := gI_of e
      obtain ⟨_, _, e⟩ := gI_of e
      cases e)
  | n + 1 => by
    obtain ih7 := X11_led_k n
    exact X11_led_v7 ih7
theorem X11_led_n0 {G G' : (Nat → Int32 → Int32 → Int32 → PH → Option Rs)} (hg7 : ∀ a0 a1 a2 a3 a4, Mo ((G) a0 a1 a2 a3 a4) ((G') a0 a1 a2 a3 a4)) (t : Nat) (h : PH) : Mo (X11_led_g0 G t h) (X11_led_g0 G' t h) := X11_led_m0 hg7 t h
theorem X11_led_n49 {G G' : (Nat → Int32 → Int32 → Int32 → PH → Option Rs)} (hg7 : ∀ a0 a1 a2 a3 a4, Mo ((G) a0 a1 a2 a3 a4) ((G') a0 a1 a2 a3 a4)) (t : Nat) (x1 : Int32) (x2 : Int32) (x3 : Int32) (h : PH) : Mo (X11_led_g49 G t x1 x2 x3 h) (X11_led_g49 G' t x1 x2 x3 h) := X11_led_m49 hg7 t x1 x2 x3 h
theorem X11_led_n7 {G G' : (Nat → Int32 → Int32 → Int32 → PH → Option Rs)} (hg7 : ∀ a0 a1 a2 a3 a4, Mo ((G) a0 a1 a2 a3 a4) ((G') a0 a1 a2 a3 a4)) (t : Nat) (x1 : Int32) (x2 : Int32) (x3 : Int32) (h : PH) : Mo (X11_led_g7 G t x1 x2 x3 h) (X11_led_g7 G' t x1 x2 x3 h) := X11_led_m7 (fun a0 a1 a2 a3 a4 => X11_led_n49 hg7 a0 a1 a2 a3 a4) t x1 x2 x3 h
theorem X11_led_fm : ∀ n, (∀ a0 a1 a2 a3 a4, Mo ((X11_led_fam n) a0 a1 a2 a3 a4) ((X11_led_fam (n + 1)) a0 a1 a2 a3 a4))
  | 0 => fun _ _ _ _ _ => mo_no
  | n + 1 => by
    obtain ih7 := X11_led_fm n
    exact fun a0 a1 a2 a3 a4 => X11_led_n7 ih7 a0 a1 a2 a3 a4
noncomputable def X11_led (t : Nat) (h : PH) : Option Rs := lim (fun n => X11_led_g0 (X11_led_fam n) t h)
theorem X11_led_iff {t : Nat} {h : PH} {r : Rs} : X11_led t h = some r ↔ ∃ n, X11_led_g0 (X11_led_fam n) t h = some r := lim_iff (fun n => by
  obtain ih7 := X11_led_fm n
  exact X11_led_n0 ih7 t h)
noncomputable abbrev X11_led_F : List PV → PH → Option Rs := FW_T10 (X11_led)
set_option maxRecDepth 100000 in
theorem X11_led_gd (l : Launch) : Gd l 0 yX11_led cX11_led 4 (some .int) (X11_led_F)   := Gd_of (by decide +kernel) (fun z hzl as h r e => by
  obtain ⟨hst, e⟩ := gL_of e
  obtain ⟨t, q0, e⟩ := gT_of e
  rw [st_1 hst q0]
  obtain ⟨n, e⟩ := lim_of e
  obtain hG7 := X11_led_k (z := z) n
  exact ⟨show 1 ≤ 4 by decide, X11_led_s0 hG7 _ _ _ _ ((X11_led_l0 (X11_led_fam n) t h).trans e)⟩)
abbrev J7_fill_fb410_26_x (z : CZ) : CX := mx RJ7 cJ7_fill_fb410 4 0 none "fill" z
noncomputable def J7_fill_fb410_26_b0 (k5 : Kn) : Kn := (a_ic 0 (a_is 2 (a_al 0 (a_len 26 (a_is 3 k5)))))
set_option maxRecDepth 100000 in
theorem J7_fill_fb410_26_s0 {z : CZ} {k5 : Kn} (hk5 : SK (J7_fill_fb410_26_x z) 5 k5) : SK (J7_fill_fb410_26_x z) 0 (J7_fill_fb410_26_b0 k5) := (s_iconst (pc := 0) dJ7_fill_fb410_0 c_ic_0 (s_istoren (pc := 1) dJ7_fill_fb410_1 rfl (show 2 < 4 by decide) (s_aloadn (pc := 2) dJ7_fill_fb410_2 rfl (s_len (pc := 3) (by decide) (by decide) rfl dJ7_fill_fb410_3 (s_istoren (pc := 4) dJ7_fill_fb410_4 rfl (show 3 < 4 by decide) hk5)))))
noncomputable def J7_fill_fb410_26_b5 (k5 : Kn) : Kn := (a_il 2 (a_il 3 (a_lt (a_al 0 (a_il 2 (a_il 1 (a_ast 26 1664 (vp_nar .short) (a_inc 2 1 k5))))) a_vr)))
set_option maxRecDepth 100000 in
theorem J7_fill_fb410_26_s5 {z : CZ} {k5 : Kn} (hk5 : SK (J7_fill_fb410_26_x z) 5 k5) : SK (J7_fill_fb410_26_x z) 5 (J7_fill_fb410_26_b5 k5) := (s_iloadn (pc := 5) dJ7_fill_fb410_5 rfl (s_iloadn (pc := 6) dJ7_fill_fb410_6 rfl (s_cmpge (pc := 7) dJ7_fill_fb410_7 (by decide) (s_vr (pc := 20) rfl dJ7_fill_fb410_20) (s_aloadn (pc := 10) dJ7_fill_fb410_10 rfl (s_iloadn (pc := 11) dJ7_fill_fb410_11 rfl (s_iloadn (pc := 12) dJ7_fill_fb410_12 rfl (s_sast (pc := 13) (by decide) (by decide) rfl rfl rfl dJ7_fill_fb410_13 (s_iinc (pc := 14) dJ7_fill_fb410_14 c_ic_1 (show 2 < 4 by decide) (s_goto (pc := 17) dJ7_fill_fb410_17 (by decide) hk5)))))))))
noncomputable def J7_fill_fb410_26_u5 (g : Nat → Int32 → Int32 → Int32 → PH → Option Rs) : Kn := fun ls st h => gL 0 st (gR 26 ls 0 fun x0 => gI ls 1 fun x1 => gI ls 2 fun x2 => gI ls 3 fun x3 => g x0 x1 x2 x3 h)
noncomputable def J7_fill_fb410_26_f0 (g5 : Nat → Int32 → Int32 → Int32 → PH → Option Rs) (x0 : Nat) (x1 : Int32) (h : PH) : Option Rs :=
  nn x0 fun r1 =>
  g5 x0 x1 0 (Int32.ofNat (hL h 26 r1)) h
set_option maxRecDepth 100000 in
theorem J7_fill_fb410_26_l0 (g5 : Nat → Int32 → Int32 → Int32 → PH → Option Rs) (x0 : Nat) (x1 : Int32) (h : PH) : J7_fill_fb410_26_b0 (J7_fill_fb410_26_u5 g5) [some (.inr (26, x0)), some (.inl x1), none, none] [] h = J7_fill_fb410_26_f0 g5 x0 x1 h := rfl
theorem J7_fill_fb410_26_m0 {g5 G5 : Nat → Int32 → Int32 → Int32 → PH → Option Rs} (hg5 : ∀ a0 a1 a2 a3 a4, Mo (g5 a0 a1 a2 a3 a4) (G5 a0 a1 a2 a3 a4)) (x0 : Nat) (x1 : Int32) (h : PH) : Mo (J7_fill_fb410_26_f0 g5 x0 x1 h) (J7_fill_fb410_26_f0 G5 x0 x1 h) := (mo_nn fun r1 => (hg5 x0 x1 0 (Int32.ofNat (hL h 26 r1)) h))
noncomputable def J7_fill_fb410_26_f5 (g5 : Nat → Int32 → Int32 → Int32 → PH → Option Rs) (x0 : Nat) (x1 : Int32) (x2 : Int32) (x3 : Int32) (h : PH) : Option Rs :=
  if x2 < x3 then
    nn x0 fun r2 =>
    ix x2 (hL h 26 r2) fun j3 =>
    wr (pI h 1664 r2 j3 (vp_nar .short x1)) fun h4 =>
    g5 x0 x1 (x2 + 1) x3 h4
  else
    some (none, h)
set_option maxRecDepth 100000 in
theorem J7_fill_fb410_26_l5 (g5 : Nat → Int32 → Int32 → Int32 → PH → Option Rs) (x0 : Nat) (x1 : Int32) (x2 : Int32) (x3 : Int32) (h : PH) : J7_fill_fb410_26_b5 (J7_fill_fb410_26_u5 g5) [some (.inr (26, x0)), some (.inl x1), some (.inl x2), some (.inl x3)] [] h = J7_fill_fb410_26_f5 g5 x0 x1 x2 x3 h := rfl
theorem J7_fill_fb410_26_m5 {g5 G5 : Nat → Int32 → Int32 → Int32 → PH → Option Rs} (hg5 : ∀ a0 a1 a2 a3 a4, Mo (g5 a0 a1 a2 a3 a4) (G5 a0 a1 a2 a3 a4)) (x0 : Nat) (x1 : Int32) (x2 : Int32) (x3 : Int32) (h : PH) : Mo (J7_fill_fb410_26_f5 g5 x0 x1 x2 x3 h) (J7_fill_fb410_26_f5 G5 x0 x1 x2 x3 h) := (mo_if (mo_nn fun r2 => (mo_ix fun j3 => (mo_wr fun h4 => (hg5 x0 x1 (x2 + 1) x3 h4)))) mo_rf)
theorem J7_fill_fb410_26_w5 {z : CZ} {g5 : Nat → Int32 → Int32 → Int32 → PH → Option Rs} (hk5 : SK (J7_fill_fb410_26_x z) 5 (J7_fill_fb410_26_u5 g5)) : SK (J7_fill_fb410_26_x z) 5 (J7_fill_fb410_26_u5 (J7_fill_fb410_26_f5 g5)) := by
  intro ls st h r e
  obtain ⟨hst, e⟩ := gL_of e
  obtain ⟨x0, q0, e⟩ := gR_of e
  obtain ⟨x1, q1, e⟩ := gI_of e
  obtain ⟨x2, q2, e⟩ := gI_of e
  obtain ⟨x3, q3, e⟩ := gI_of e
  rw [st_0 hst]
  exact WK.sub (canon := [some (.inr (26, x0)), some (.inl x1), some (.inl x2), some (.inl x3)]) rfl ⟨q0, q1, q2, q3, trivial⟩ (J7_fill_fb410_26_s5 hk5 _ _ _ _ ((J7_fill_fb410_26_l5 g5 x0 x1 x2 x3 h).trans e))
noncomputable def J7_fill_fb410_26_g0 (G : (Nat → Int32 → Int32 → Int32 → PH → Option Rs)) (x0 : Nat) (x1 : Int32) (h : PH) : Option Rs := J7_fill_fb410_26_f0 (G) x0 x1 h
noncomputable def J7_fill_fb410_26_g5 (G : (Nat → Int32 → Int32 → Int32 → PH → Option Rs)) (x0 : Nat) (x1 : Int32) (x2 : Int32) (x3 : Int32) (h : PH) : Option Rs := J7_fill_fb410_26_f5 (G) x0 x1 x2 x3 h
theorem J7_fill_fb410_26_v5 {z : CZ} {G : (Nat → Int32 → Int32 → Int32 → PH → Option Rs)} (hG5 : SK (J7_fill_fb410_26_x z) 5 (J7_fill_fb410_26_u5 (G))) : SK (J7_fill_fb410_26_x z) 5 (J7_fill_fb410_26_u5 (J7_fill_fb410_26_g5 G)) := J7_fill_fb410_26_w5 hG5
noncomputable def J7_fill_fb410_26_fam : Nat → (Nat → Int32 → Int32 → Int32 → PH → Option Rs)
  | 0 => fun _ _ _ _ _ => none
  | n + 1 => J7_fill_fb410_26_g5 (J7_fill_fb410_26_fam n)
theorem J7_fill_fb410_26_k {z : CZ} : ∀ n, SK (J7_fill_fb410_26_x z) 5 (J7_fill_fb410_26_u5 (J7_fill_fb410_26_fam n))
  | 0 => (fun ls st h r e => by
      obtain ⟨_, e⟩ := gL_of e
      obtain ⟨_, _, e⟩ := gR_of e
      obtain ⟨_, _, e⟩ := gI_of e
      obtain ⟨_, _, e⟩ := gI_of e
      obtain ⟨_, _, e⟩ := gI_of e
      cases e)
  | n + 1 => by
    obtain ih5 := J7_fill_fb410_26_k n
    exact J7_fill_fb410_26_v5 ih5
theorem J7_fill_fb410_26_n0 {G G' : (Nat → Int32 → Int32 → Int32 → PH → Option Rs)} (hg5 : ∀ a0 a1 a2 a3 a4, Mo ((G) a0 a1 a2 a3 a4) ((G') a0 a1 a2 a3 a4)) (x0 : Nat) (x1 : Int32) (h : PH) : Mo (J7_fill_fb410_26_g0 G x0 x1 h) (J7_fill_fb410_26_g0 G' x0 x1 h) := J7_fill_fb410_26_m0 hg5 x0 x1 h
theorem J7_fill_fb410_26_n5 {G G' : (Nat → Int32 → Int32 → Int32 → PH → Option Rs)} (hg5 : ∀ a0 a1 a2 a3 a4, Mo ((G) a0 a1 a2 a3 a4) ((G') a0 a1 a2 a3 a4)) (x0 : Nat) (x1 : Int32) (x2 : Int32) (x3 : Int32) (h : PH) : Mo (J7_fill_fb410_26_g5 G x0 x1 x2 x3 h) (J7_fill_fb410_26_g5 G' x0 x1 x2 x3 h) := J7_fill_fb410_26_m5 hg5 x0 x1 x2 x3 h
theorem J7_fill_fb410_26_fm : ∀ n, (∀ a0 a1 a2 a3 a4, Mo ((J7_fill_fb410_26_fam n) a0 a1 a2 a3 a4) ((J7_fill_fb410_26_fam (n + 1)) a0 a1 a2 a3 a4))
  | 0 => fun _ _ _ _ _ => mo_no
  | n + 1 => by
    obtain ih5 := J7_fill_fb410_26_fm n
    exact fun a0 a1 a2 a3 a4 => J7_fill_fb410_26_n5 ih5 a0 a1 a2 a3 a4
noncomputable def J7_fill_fb410_26 (x0 : Nat) (x1 : Int32) (h : PH) : Option Rs := lim (fun n => J7_fill_fb410_26_g0 (J7_fill_fb410_26_fam n) x0 x1 h)
theorem J7_fill_fb410_26_iff {x0 : Nat} {x1 : Int32} {h : PH} {r : Rs} : J7_fill_fb410_26 x0 x1 h = some r ↔ ∃ n, J7_fill_fb410_26_g0 (J7_fill_fb410_26_fam n) x0 x1 h = some r := lim_iff (fun n => by
  obtain ih5 := J7_fill_fb410_26_fm n
  exact J7_fill_fb410_26_n0 ih5 x0 x1 h)
noncomputable abbrev J7_fill_fb410_26_F : List PV → PH → Option Rs := FW_R26I (J7_fill_fb410_26)
set_option maxRecDepth 100000 in
theorem J7_fill_fb410_26_gd (l : Launch) : Gd l 0 yJ7_fill_fb410 cJ7_fill_fb410 4 none (J7_fill_fb410_26_F)   := Gd_of (by decide +kernel) (fun z hzl as h r e => by
  obtain ⟨hst, e⟩ := gL_of e
  obtain ⟨x0, q0, e⟩ := gR_of e
  obtain ⟨x1, q1, e⟩ := gI_of e
  rw [st_2 hst q0 q1]
  obtain ⟨n, e⟩ := lim_of e
  obtain hG5 := J7_fill_fb410_26_k (z := z) n
  exact ⟨show 2 ≤ 4 by decide, J7_fill_fb410_26_s0 hG5 _ _ _ _ ((J7_fill_fb410_26_l0 (J7_fill_fb410_26_fam n) x0 x1 h).trans e)⟩)
abbrev X5_become_x (z : CZ) : CX := mx RX5 cX5_become 3 1 none "become" z
noncomputable def X5_become_b0 (c_J7_fill_fb410_26 : Nat → Int32 → PH → Option Rs) : Kn := (a_al 0 (a_il 1 (a_pI 4 256 (a_al 0 (a_il 2 (a_pI 4 257 (a_al 0 (a_gR 4 258 26 (a_ic 0 (a_sV 2 (FW_R26I c_J7_fill_fb410_26) a_vr))))))))))
set_option maxRecDepth 100000 in
theorem X5_become_s0 {z : CZ} : SK (X5_become_x z) 0 (X5_become_b0 J7_fill_fb410_26) := (s_aloadn (pc := 0) dX5_become_0 rfl (s_iloadn (pc := 1) dX5_become_1 rfl (s_pI (pc := 2) (f := 0) ko_4 (by decide) rfl rfl rfl (by decide +kernel) w_460 dX5_become_2 (s_aloadn (pc := 5) dX5_become_5 rfl (s_iloadn (pc := 6) dX5_become_6 rfl (s_pI (pc := 7) (f := 1) ko_4 (by decide) rfl rfl rfl (by decide +kernel) w_462 dX5_become_7 (s_aloadn (pc := 10) dX5_become_10 rfl (s_gR (pc := 11) (f := 2) ko_4 (by decide) rfl rfl w_465 dX5_become_11 (s_iconst (pc := 14) dX5_become_14 c_ic_0 (s_sV (pc := 15) (run_static (J7_fill_fb410_26_gd _) (show 0 < 1 by decide) cy_J7_fill_fb410 w_1195 w_1194 dX5_become_15) (s_vr (pc := 18) rfl dX5_become_18)))))))))))
noncomputable def X5_become_f0 (c_J7_fill_fb410_26 : Nat → Int32 → PH → Option Rs) (t : Nat) (x1 : Int32) (x2 : Int32) (h : PH) : Option Rs :=
  wr (pI h 256 t 0 x1) fun h1 =>
  wr (pI h1 257 t 0 x2) fun h2 =>
  cV (c_J7_fill_fb410_26 (hR h2 258 t 0) 0 h2) fun h3 =>
  some (none, h3)
set_option maxRecDepth 100000 in
theorem X5_become_l0 (c_J7_fill_fb410_26 : Nat → Int32 → PH → Option Rs) (t : Nat) (x1 : Int32) (x2 : Int32) (h : PH) : X5_become_b0 c_J7_fill_fb410_26 [some (.inr (4, t + 1)), some (.inl x1), some (.inl x2)] [] h = X5_become_f0 c_J7_fill_fb410_26 t x1 x2 h := rfl
noncomputable def X5_become_g0 (t : Nat) (x1 : Int32) (x2 : Int32) (h : PH) : Option Rs := X5_become_f0 J7_fill_fb410_26 t x1 x2 h
noncomputable def X5_become (t : Nat) (x1 : Int32) (x2 : Int32) (h : PH) : Option Rs := X5_become_g0 t x1 x2 h
noncomputable abbrev X5_become_F : List PV → PH → Option Rs := FW_T4II (X5_become)
set_option maxRecDepth 100000 in
theorem X5_become_gd (l : Launch) : Gd l 1 yX5_become cX5_become 3 none (X5_become_F)   := Gd_of (by decide +kernel) (fun z hzl as h r e => by
  obtain ⟨hst, e⟩ := gL_of e
  obtain ⟨t, q0, e⟩ := gT_of e
  obtain ⟨x1, q1, e⟩ := gI_of e
  obtain ⟨x2, q2, e⟩ := gI_of e
  rw [st_3 hst q0 q1 q2]
  exact ⟨show 3 ≤ 3 by decide, X5_become_s0 _ _ _ _ ((X5_become_l0 J7_fill_fb410_26 t x1 x2 h).trans e)⟩)
abbrev X11_sheet_x (z : CZ) : CX := mx RX11 cX11_sheet 4 2 (some .int) "sheet" z
noncomputable def X11_sheet_b0 (c_X11_isWithin : Int32 → Int32 → PH → Option Rs) (c_X5_become : Nat → Int32 → Int32 → PH → Option Rs) : Kn := (a_il 1 (a_ic 4 (a_sI 2 (FW_II c_X11_isWithin) (a_z (a_ic (-1000000001) a_ir) (a_il 2 (a_ic (-1) (a_lt (a_ic (-1000000001) a_ir) (a_il 2 (a_ic 1 (a_gt (a_ic (-1000000001) a_ir) (a_il 2 (a_ic (-1) (a_eq (a_al 0 (a_gR 10 646 38 (a_il 1 (a_rald 38 2432 4 (a_ic (-1) (a_ic 0 (a_vV 4 2 (FW_T4II c_X5_become) (a_ic 0 a_ir)))))))) (a_il 3 (a_ic 24 (a_gt (a_ic (-1000000001) a_ir) (a_il 3 (a_n (a_ic (-1000000014) a_ir) (a_al 0 (a_gR 10 646 38 (a_il 1 (a_rald 38 2432 4 (a_il 2 (a_il 3 (a_vV 4 2 (FW_T4II c_X5_become) (a_il 3 a_ir))))))))))))))))))))))))))
set_option maxRecDepth 100000 in
theorem X11_sheet_s0 {z : CZ} : SK (X11_sheet_x z) 0 (X11_sheet_b0 X11_isWithin X5_become) := (s_iloadn (pc := 0) dX11_sheet_0 rfl (s_iconst (pc := 1) dX11_sheet_1 c_ic_4 (s_sI (pc := 2) (run_static (X11_isWithin_gd _) (show 0 < 2 by decide) cy_X11_isWithin w_549 w_552 dX11_sheet_2) (s_ifeq (pc := 5) dX11_sheet_5 (by decide) (s_ldc (pc := 18) w_551 dX11_sheet_18 (s_ir (pc := 20) rfl dX11_sheet_20)) (s_iloadn (pc := 8) dX11_sheet_8 rfl (s_iconst (pc := 9) dX11_sheet_9 c_ic_m1 (s_cmplt (pc := 10) dX11_sheet_10 (by decide) (s_ldc (pc := 18) w_551 dX11_sheet_18 (s_ir (pc := 20) rfl dX11_sheet_20)) (s_iloadn (pc := 13) dX11_sheet_13 rfl (s_iconst (pc := 14) dX11_sheet_14 c_ic_1 (s_cmple (pc := 15) dX11_sheet_15 (by decide) (s_iloadn (pc := 21) dX11_sheet_21 rfl (s_iconst (pc := 22) dX11_sheet_22 c_ic_m1 (s_cmpne (pc := 23) dX11_sheet_23 (by decide) (s_iloadn (pc := 39) dX11_sheet_39 rfl (s_bipush (pc := 40) dX11_sheet_40 c_bp_24 (s_cmple (pc := 42) dX11_sheet_42 (by decide) (s_iloadn (pc := 48) dX11_sheet_48 rfl (s_ifge (pc := 49) dX11_sheet_49 (by decide) (s_aloadn (pc := 56) dX11_sheet_56 rfl (s_gR (pc := 57) (f := 6) ko_10 (by decide) rfl rfl w_510 dX11_sheet_57 (s_iloadn (pc := 60) dX11_sheet_60 rfl (s_rald (pc := 61) (by decide) (by decide) rfl rfl rfl dX11_sheet_61 (s_iloadn (pc := 62) dX11_sheet_62 rfl (s_iloadn (pc := 63) dX11_sheet_63 rfl (s_vV (pc := 64) (run_virtual (X5_become_gd _) (show 1 < 2 by decide) cy_X5_become (by decide) rfl w_1191 w_1192 w_1190 dX11_sheet_64) (s_iloadn (pc := 67) dX11_sheet_67 rfl (s_ir (pc := 68) rfl dX11_sheet_68))))))))) (s_ldcw (pc := 52) w_1197 dX11_sheet_52 (s_ir (pc := 55) rfl dX11_sheet_55)))) (s_ldc (pc := 45) w_551 dX11_sheet_45 (s_ir (pc := 47) rfl dX11_sheet_47))))) (s_aloadn (pc := 26) dX11_sheet_26 rfl (s_gR (pc := 27) (f := 6) ko_10 (by decide) rfl rfl w_510 dX11_sheet_27 (s_iloadn (pc := 30) dX11_sheet_30 rfl (s_rald (pc := 31) (by decide) (by decide) rfl rfl rfl dX11_sheet_31 (s_iconst (pc := 32) dX11_sheet_32 c_ic_m1 (s_iconst (pc := 33) dX11_sheet_33 c_ic_0 (s_vV (pc := 34) (run_virtual (X5_become_gd _) (show 1 < 2 by decide) cy_X5_become (by decide) rfl w_1191 w_1192 w_1190 dX11_sheet_34) (s_iconst (pc := 37) dX11_sheet_37 c_ic_0 (s_ir (pc := 38) rfl dX11_sheet_38)))))))))))) (s_ldc (pc := 18) w_551 dX11_sheet_18 (s_ir (pc := 20) rfl dX11_sheet_20))))))))))))
noncomputable def X11_sheet_f0 (c_X11_isWithin : Int32 → Int32 → PH → Option Rs) (c_X5_become : Nat → Int32 → Int32 → PH → Option Rs) (t : Nat) (x1 : Int32) (x2 : Int32) (x3 : Int32) (h : PH) : Option Rs :=
  cI (c_X11_isWithin x1 4 h) fun v2 h1 =>
  if v2 = 0 then
    some (some (.inl (-1000000001)), h1)
  else
    if x2 < (-1) then
      some (some (.inl (-1000000001)), h1)
    else
      if 1 < x2 then
        some (some (.inl (-1000000001)), h1)
      else
        if x2 = (-1) then
          nn (hR h1 646 t 0) fun r7 =>
          ix x1 (hL h1 38 r7) fun j8 =>
          nn (hR h1 2432 r7 j8) fun r9 =>
          cV (c_X5_become r9 (-1) 0 h1) fun h10 =>
          some (some (.inl 0), h10)
        else
          if 24 < x3 then
            some (some (.inl (-1000000001)), h1)
          else
            if x3 < 0 then
              some (some (.inl (-1000000014)), h1)
            else
              nn (hR h1 646 t 0) fun r3 =>
              ix x1 (hL h1 38 r3) fun j4 =>
              nn (hR h1 2432 r3 j4) fun r5 =>
              cV (c_X5_become r5 x2 x3 h1) fun h6 =>
              some (some (.inl x3), h6)
set_option maxRecDepth 100000 in
theorem X11_sheet_l0 (c_X11_isWithin : Int32 → Int32 → PH → Option Rs) (c_X5_become : Nat → Int32 → Int32 → PH → Option Rs) (t : Nat) (x1 : Int32) (x2 : Int32) (x3 : Int32) (h : PH) : X11_sheet_b0 c_X11_isWithin c_X5_become [some (.inr (10, t + 1)), some (.inl x1), some (.inl x2), some (.inl x3)] [] h = X11_sheet_f0 c_X11_isWithin c_X5_become t x1 x2 x3 h := rfl
noncomputable def X11_sheet_g0 (t : Nat) (x1 : Int32) (x2 : Int32) (x3 : Int32) (h : PH) : Option Rs := X11_sheet_f0 X11_isWithin X5_become t x1 x2 x3 h
noncomputable def X11_sheet (t : Nat) (x1 : Int32) (x2 : Int32) (x3 : Int32) (h : PH) : Option Rs := X11_sheet_g0 t x1 x2 x3 h
noncomputable abbrev X11_sheet_F : List PV → PH → Option Rs := FW_T10III (X11_sheet)
set_option maxRecDepth 100000 in
theorem X11_sheet_gd (l : Launch) : Gd l 2 yX11_sheet cX11_sheet 4 (some .int) (X11_sheet_F)   := Gd_of (by decide +kernel) (fun z hzl as h r e => by
  obtain ⟨hst, e⟩ := gL_of e
  obtain ⟨t, q0, e⟩ := gT_of e
  obtain ⟨x1, q1, e⟩ := gI_of e
  obtain ⟨x2, q2, e⟩ := gI_of e
  obtain ⟨x3, q3, e⟩ := gI_of e
  rw [st_4 hst q0 q1 q2 q3]
  exact ⟨show 4 ≤ 4 by decide, X11_sheet_s0 _ _ _ _ ((X11_sheet_l0 X11_isWithin X5_become t x1 x2 x3 h).trans e)⟩)
abbrev X5_put_x (z : CZ) : CX := mx RX5 cX5_put 3 0 none "put" z
noncomputable def X5_put_b0 (k20 : Kn) : Kn := (a_al 0 (a_gR 4 258 26 (a_il 1 (a_al 0 (a_gI 4 256 (a_z (a_il 2 (a_u jb (a_u js k20))) (a_il 2 (a_u js k20))))))))
set_option maxRecDepth 100000 in
theorem X5_put_s0 {z : CZ} {k20 : Kn} (hk20 : SK (X5_put_x z) 20 k20) : SK (X5_put_x z) 0 (X5_put_b0 k20) := (s_aloadn (pc := 0) dX5_put_0 rfl (s_gR (pc := 1) (f := 2) ko_4 (by decide) rfl rfl w_465 dX5_put_1 (s_iloadn (pc := 4) dX5_put_4 rfl (s_aloadn (pc := 5) dX5_put_5 rfl (s_gI (pc := 6) (f := 0) ko_4 (by decide) rfl rfl w_460 dX5_put_6 (s_ifne (pc := 9) dX5_put_9 (by decide) (s_iloadn (pc := 18) dX5_put_18 rfl (s_i2s (pc := 19) dX5_put_19 hk20)) (s_iloadn (pc := 12) dX5_put_12 rfl (s_i2b (pc := 13) dX5_put_13 (s_i2s (pc := 14) dX5_put_14 (s_goto (pc := 15) dX5_put_15 (by decide) hk20))))))))))
noncomputable def X5_put_b20 : Kn := (a_ast 26 1664 (vp_nar .short) a_vr)
set_option maxRecDepth 100000 in
theorem X5_put_s20 {z : CZ} : SK (X5_put_x z) 20 (X5_put_b20) := (s_sast (pc := 20) (by decide) (by decide) rfl rfl rfl dX5_put_20 (s_vr (pc := 21) rfl dX5_put_21))
noncomputable def X5_put_u20 (g : Int32 → Int32 → Nat → PH → Option Rs) : Kn := fun ls st h => gL 3 st (gI (st.map some) 0 fun s0 => gI (st.map some) 1 fun s1 => gR 26 (st.map some) 2 fun s2 => g s0 s1 s2 h)
noncomputable def X5_put_f0 (g20 : Int32 → Int32 → Nat → PH → Option Rs) (t : Nat) (x1 : Int32) (x2 : Int32) (h : PH) : Option Rs :=
  if (hI h 256 t 0) = 0 then
    g20 (js (jb x2)) x1 (hR h 258 t 0) h
  else
    g20 (js x2) x1 (hR h 258 t 0) h
set_option maxRecDepth 100000 in
theorem X5_put_l0 (g20 : Int32 → Int32 → Nat → PH → Option Rs) (t : Nat) (x1 : Int32) (x2 : Int32) (h : PH) : X5_put_b0 (X5_put_u20 g20) [some (.inr (4, t + 1)), some (.inl x1), some (.inl x2)] [] h = X5_put_f0 g20 t x1 x2 h := rfl
theorem X5_put_m0 {g20 G20 : Int32 → Int32 → Nat → PH → Option Rs} (hg20 : ∀ a0 a1 a2 a3, Mo (g20 a0 a1 a2 a3) (G20 a0 a1 a2 a3)) (t : Nat) (x1 : Int32) (x2 : Int32) (h : PH) : Mo (X5_put_f0 g20 t x1 x2 h) (X5_put_f0 G20 t x1 x2 h) := (mo_if (hg20 (js (jb x2)) x1 (hR h 258 t 0) h) (hg20 (js x2) x1 (hR h 258 t 0) h))
noncomputable def X5_put_f20 (s0 : Int32) (s1 : Int32) (s2 : Nat) (h : PH) : Option Rs :=
  nn s2 fun r1 =>
  ix s1 (hL h 26 r1) fun j2 =>
  wr (pI h 1664 r1 j2 (vp_nar .short s0)) fun h3 =>
  some (none, h3)
set_option maxRecDepth 100000 in
theorem X5_put_l20 (s0 : Int32) (s1 : Int32) (s2 : Nat) (h : PH) : X5_put_b20 [none, none, none] [.inl s0, .inl s1, .inr (26, s2)] h = X5_put_f20 s0 s1 s2 h := rfl
theorem X5_put_w20 {z : CZ} : SK (X5_put_x z) 20 (X5_put_u20 (X5_put_f20)) := by
  intro ls st h r e
  obtain ⟨hst, e⟩ := gL_of e
  obtain ⟨s0, q0, e⟩ := gI_of e
  obtain ⟨s1, q1, e⟩ := gI_of e
  obtain ⟨s2, q2, e⟩ := gR_of e
  rw [st_3 hst q0 q1 q2]
  exact WK.sub (canon := [none, none, none]) rfl trivial (X5_put_s20 _ _ _ _ ((X5_put_l20 s0 s1 s2 h).trans e))
noncomputable def X5_put_g20 (s0 : Int32) (s1 : Int32) (s2 : Nat) (h : PH) : Option Rs := X5_put_f20 s0 s1 s2 h
noncomputable def X5_put_g0 (t : Nat) (x1 : Int32) (x2 : Int32) (h : PH) : Option Rs := X5_put_f0 (X5_put_g20) t x1 x2 h
theorem X5_put_v20 {z : CZ} : SK (X5_put_x z) 20 (X5_put_u20 (X5_put_g20)) := X5_put_w20
noncomputable def X5_put (t : Nat) (x1 : Int32) (x2 : Int32) (h : PH) : Option Rs := X5_put_g0 t x1 x2 h
noncomputable abbrev X5_put_F : List PV → PH → Option Rs := FW_T4II (X5_put)
set_option maxRecDepth 100000 in
theorem X5_put_gd (l : Launch) : Gd l 0 yX5_put cX5_put 3 none (X5_put_F)   := Gd_of (by decide +kernel) (fun z hzl as h r e => by
  obtain ⟨hst, e⟩ := gL_of e
  obtain ⟨t, q0, e⟩ := gT_of e
  obtain ⟨x1, q1, e⟩ := gI_of e
  obtain ⟨x2, q2, e⟩ := gI_of e
  rw [st_3 hst q0 q1 q2]
  exact ⟨show 3 ≤ 3 by decide, X5_put_s0 (X5_put_v20) _ _ _ _ ((X5_put_l0 (X5_put_g20) t x1 x2 h).trans e)⟩)
abbrev X11_mark_x (z : CZ) : CX := mx RX11 cX11_mark 6 1 (some .int) "mark" z
noncomputable def X11_mark_b0 (c_X11_isWithin : Int32 → Int32 → PH → Option Rs) (c_X5_put : Nat → Int32 → Int32 → PH → Option Rs) : Kn := (a_il 1 (a_ic 4 (a_sI 2 (FW_II c_X11_isWithin) (a_z (a_ic (-1000000001) a_ir) (a_al 0 (a_gR 10 646 38 (a_il 1 (a_rald 38 2432 4 (a_as 4 (a_al 4 (a_gI 4 256 (a_ic (-1) (a_eq (a_ic (-1000000011) a_ir) (a_il 2 (a_al 4 (a_gI 4 257 (a_sI 2 (FW_II c_X11_isWithin) (a_z (a_ic (-1000000013) a_ir) (a_al 4 (a_gR 4 258 26 (a_il 2 (a_ald 26 1664 (a_is 5 (a_al 4 (a_il 2 (a_il 3 (a_vV 4 2 (FW_T4II c_X5_put) (a_il 5 a_ir))))))))))))))))))))))))))))
set_option maxRecDepth 100000 in
theorem X11_mark_s0 {z : CZ} : SK (X11_mark_x z) 0 (X11_mark_b0 X11_isWithin X5_put) := (s_iloadn (pc := 0) dX11_mark_0 rfl (s_iconst (pc := 1) dX11_mark_1 c_ic_4 (s_sI (pc := 2) (run_static (X11_isWithin_gd _) (show 0 < 1 by decide) cy_X11_isWithin w_549 w_552 dX11_mark_2) (s_ifne (pc := 5) dX11_mark_5 (by decide) (s_aloadn (pc := 11) dX11_mark_11 rfl (s_gR (pc := 12) (f := 6) ko_10 (by decide) rfl rfl w_510 dX11_mark_12 (s_iloadn (pc := 15) dX11_mark_15 rfl (s_rald (pc := 16) (by decide) (by decide) rfl rfl rfl dX11_mark_16 (s_astore (pc := 17) dX11_mark_17 (show 4 < 6 by decide) (s_aload (pc := 19) dX11_mark_19 (s_gI (pc := 21) (f := 0) ko_4 (by decide) rfl rfl w_461 dX11_mark_21 (s_iconst (pc := 24) dX11_mark_24 c_ic_m1 (s_cmpne (pc := 25) dX11_mark_25 (by decide) (s_iloadn (pc := 32) dX11_mark_32 rfl (s_aload (pc := 33) dX11_mark_33 (s_gI (pc := 35) (f := 1) ko_4 (by decide) rfl rfl w_464 dX11_mark_35 (s_sI (pc := 38) (run_static (X11_isWithin_gd _) (show 0 < 1 by decide) cy_X11_isWithin w_549 w_552 dX11_mark_38) (s_ifne (pc := 41) dX11_mark_41 (by decide) (s_aload (pc := 48) dX11_mark_48 (s_gR (pc := 50) (f := 2) ko_4 (by decide) rfl rfl w_467 dX11_mark_50 (s_iloadn (pc := 53) dX11_mark_53 rfl (s_sald (pc := 54) (by decide) (by decide) rfl rfl rfl dX11_mark_54 (s_istore (pc := 55) dX11_mark_55 (show 5 < 6 by decide) (s_aload (pc := 57) dX11_mark_57 (s_iloadn (pc := 59) dX11_mark_59 rfl (s_iloadn (pc := 60) dX11_mark_60 rfl (s_vV (pc := 61) (run_virtual (X5_put_gd _) (show 0 < 1 by decide) cy_X5_put (by decide) rfl w_1205 w_1206 w_1204 dX11_mark_61) (s_iload (pc := 64) dX11_mark_64 (s_ir (pc := 66) rfl dX11_mark_66))))))))))) (s_ldcw (pc := 44) w_1203 dX11_mark_44 (s_ir (pc := 47) rfl dX11_mark_47))))))) (s_ldcw (pc := 28) w_1202 dX11_mark_28 (s_ir (pc := 31) rfl dX11_mark_31))))))))))) (s_ldc (pc := 8) w_551 dX11_mark_8 (s_ir (pc := 10) rfl dX11_mark_10))))))
noncomputable def X11_mark_f0 (c_X11_isWithin : Int32 → Int32 → PH → Option Rs) (c_X5_put : Nat → Int32 → Int32 → PH → Option Rs) (t : Nat) (x1 : Int32) (x2 : Int32) (x3 : Int32) (h : PH) : Option Rs :=
  cI (c_X11_isWithin x1 4 h) fun v2 h1 =>
  if v2 = 0 then
    some (some (.inl (-1000000001)), h1)
  else
    nn (hR h1 646 t 0) fun r3 =>
    ix x1 (hL h1 38 r3) fun j4 =>
    nn (hR h1 2432 r3 j4) fun r5 =>
    if (hI h1 256 r5 0) = (-1) then
      some (some (.inl (-1000000011)), h1)
    else
      nn (hR h1 2432 r3 j4) fun r6 =>
      cI (c_X11_isWithin x2 (hI h1 257 r6 0) h1) fun v8 h7 =>
      if v8 = 0 then
        some (some (.inl (-1000000013)), h7)
      else
        nn (hR h1 2432 r3 j4) fun r9 =>
        nn (hR h7 258 r9 0) fun r10 =>
        ix x2 (hL h7 26 r10) fun j11 =>
        nn (hR h1 2432 r3 j4) fun r12 =>
        cV (c_X5_put r12 x2 x3 h7) fun h13 =>
        some (some (.inl (hI h7 1664 r10 j11)), h13)
set_option maxRecDepth 100000 in
theorem X11_mark_l0 (c_X11_isWithin : Int32 → Int32 → PH → Option Rs) (c_X5_put : Nat → Int32 → Int32 → PH → Option Rs) (t : Nat) (x1 : Int32) (x2 : Int32) (x3 : Int32) (h : PH) : X11_mark_b0 c_X11_isWithin c_X5_put [some (.inr (10, t + 1)), some (.inl x1), some (.inl x2), some (.inl x3), none, none] [] h = X11_mark_f0 c_X11_isWithin c_X5_put t x1 x2 x3 h := rfl
noncomputable def X11_mark_g0 (t : Nat) (x1 : Int32) (x2 : Int32) (x3 : Int32) (h : PH) : Option Rs := X11_mark_f0 X11_isWithin X5_put t x1 x2 x3 h
noncomputable def X11_mark (t : Nat) (x1 : Int32) (x2 : Int32) (x3 : Int32) (h : PH) : Option Rs := X11_mark_g0 t x1 x2 x3 h
noncomputable abbrev X11_mark_F : List PV → PH → Option Rs := FW_T10III (X11_mark)
set_option maxRecDepth 100000 in
theorem X11_mark_gd (l : Launch) : Gd l 1 yX11_mark cX11_mark 6 (some .int) (X11_mark_F)   := Gd_of (by decide +kernel) (fun z hzl as h r e => by
  obtain ⟨hst, e⟩ := gL_of e
  obtain ⟨t, q0, e⟩ := gT_of e
  obtain ⟨x1, q1, e⟩ := gI_of e
  obtain ⟨x2, q2, e⟩ := gI_of e
  obtain ⟨x3, q3, e⟩ := gI_of e
  rw [st_4 hst q0 q1 q2 q3]
  exact ⟨show 4 ≤ 6 by decide, X11_mark_s0 _ _ _ _ ((X11_mark_l0 X11_isWithin X5_put t x1 x2 x3 h).trans e)⟩)
abbrev X6_takeRows_x (z : CZ) : CX := mx RX6 cX6_takeRows 6 31 none "takeRows" z
noncomputable def X6_takeRows_b0 (c_mo3 : List PV → PH → Option Rs) (k15 : Kn) : Kn := (a_al 0 (a_gI 5 321 (a_sI 1 c_mo3 (a_is 2 (a_al 0 (a_ic 0 (a_pI 5 324 (a_ic 0 (a_is 3 k15)))))))))
set_option maxRecDepth 100000 in
theorem X6_takeRows_s0 {z : CZ} {k15 : Kn} (hk15 : SK (X6_takeRows_x z) 15 k15) : SK (X6_takeRows_x z) 0 (X6_takeRows_b0 mo3 k15) := (s_aloadn (pc := 0) dX6_takeRows_0 rfl (s_gI (pc := 1) (f := 1) ko_5 (by decide) rfl rfl w_173 dX6_takeRows_1 (s_sI (pc := 4) (run_static (mo3_gd _) (show 30 < 31 by decide) cy_X6_mostOf w_637 w_639 dX6_takeRows_4) (s_istoren (pc := 7) dX6_takeRows_7 rfl (show 2 < 6 by decide) (s_aloadn (pc := 8) dX6_takeRows_8 rfl (s_iconst (pc := 9) dX6_takeRows_9 c_ic_0 (s_pI (pc := 10) (f := 4) ko_5 (by decide) rfl rfl rfl (by decide +kernel) w_184 dX6_takeRows_10 (s_iconst (pc := 13) dX6_takeRows_13 c_ic_0 (s_istoren (pc := 14) dX6_takeRows_14 rfl (show 3 < 6 by decide) hk15)))))))))
noncomputable def X6_takeRows_b15 (c_X11_isWithin : Int32 → Int32 → PH → Option Rs) (c_X6_addRow : Nat → Int32 → Int32 → PH → Option Rs) (k15 : Kn) : Kn := (a_il 3 (a_il 2 (a_lt (a_ic 2 (a_il 3 (a_b (fun a b => a * b) (a_ic 1 (a_b (fun a b => a + b) (a_al 1 (a_gI 4 257 (a_lt (a_al 1 (a_gR 4 258 26 (a_ic 2 (a_il 3 (a_b (fun a b => a * b) (a_ald 26 1664 (a_is 4 (a_al 1 (a_gR 4 258 26 (a_ic 2 (a_il 3 (a_b (fun a b => a * b) (a_ic 1 (a_b (fun a b => a + b) (a_ald 26 1664 (a_is 5 (a_il 4 (a_ic 14 (a_sI 2 (FW_II c_X11_isWithin) (a_z a_vr (a_il 5 (a_ic 8 (a_sI 2 (FW_II c_X11_isWithin) (a_z a_vr (a_al 0 (a_il 4 (a_il 5 (a_vV 5 2 (FW_T5II c_X6_addRow) (a_inc 3 1 k15))))))))))))))))))))))))))))) a_vr)))))))) a_vr)))
set_option maxRecDepth 100000 in
theorem X6_takeRows_s15 {z : CZ} {k15 : Kn} (hk15 : SK (X6_takeRows_x z) 15 k15) : SK (X6_takeRows_x z) 15 (X6_takeRows_b15 X11_isWithin X6_addRow k15) := (s_iloadn (pc := 15) dX6_takeRows_15 rfl (s_iloadn (pc := 16) dX6_takeRows_16 rfl (s_cmpge (pc := 17) dX6_takeRows_17 (by decide) (s_vr (pc := 89) rfl dX6_takeRows_89) (s_iconst (pc := 20) dX6_takeRows_20 c_ic_2 (s_iloadn (pc := 21) dX6_takeRows_21 rfl (s_imul (pc := 22) dX6_takeRows_22 (s_iconst (pc := 23) dX6_takeRows_23 c_ic_1 (s_iadd (pc := 24) dX6_takeRows_24 (s_aloadn (pc := 25) dX6_takeRows_25 rfl (s_gI (pc := 26) (f := 1) ko_4 (by decide) rfl rfl w_463 dX6_takeRows_26 (s_cmpge (pc := 29) dX6_takeRows_29 (by decide) (s_vr (pc := 89) rfl dX6_takeRows_89) (s_aloadn (pc := 32) dX6_takeRows_32 rfl (s_gR (pc := 33) (f := 2) ko_4 (by decide) rfl rfl w_466 dX6_takeRows_33 (s_iconst (pc := 36) dX6_takeRows_36 c_ic_2 (s_iloadn (pc := 37) dX6_takeRows_37 rfl (s_imul (pc := 38) dX6_takeRows_38 (s_sald (pc := 39) (by decide) (by decide) rfl rfl rfl dX6_takeRows_39 (s_istore (pc := 40) dX6_takeRows_40 (show 4 < 6 by decide) (s_aloadn (pc := 42) dX6_takeRows_42 rfl (s_gR (pc := 43) (f := 2) ko_4 (by decide) rfl rfl w_466 dX6_takeRows_43 (s_iconst (pc := 46) dX6_takeRows_46 c_ic_2 (s_iloadn (pc := 47) dX6_takeRows_47 rfl (s_imul (pc := 48) dX6_takeRows_48 (s_iconst (pc := 49) dX6_takeRows_49 c_ic_1 (s_iadd (pc := 50) dX6_takeRows_50 (s_sald (pc := 51) (by decide) (by decide) rfl rfl rfl dX6_takeRows_51 (s_istore (pc := 52) dX6_takeRows_52 (show 5 < 6 by decide) (s_iload (pc := 54) dX6_takeRows_54 (s_bipush (pc := 56) dX6_takeRows_56 c_bp_14 (s_sI (pc := 58) (run_staticN (X11_isWithin_gd _) (show 0 < 31 by decide) cy_X11_isWithin w_549 nw_664 dX6_takeRows_58) (s_ifeq (pc := 61) dX6_takeRows_61 (by decide) (s_vr (pc := 74) rfl dX6_takeRows_74) (s_iload (pc := 64) dX6_takeRows_64 (s_bipush (pc := 66) dX6_takeRows_66 c_bp_8 (s_sI (pc := 68) (run_staticN (X11_isWithin_gd _) (show 0 < 31 by decide) cy_X11_isWithin w_549 nw_664 dX6_takeRows_68) (s_ifne (pc := 71) dX6_takeRows_71 (by decide) (s_aloadn (pc := 75) dX6_takeRows_75 rfl (s_iload (pc := 76) dX6_takeRows_76 (s_iload (pc := 78) dX6_takeRows_78 (s_vV (pc := 80) (run_virtual (X6_addRow_gd _) (show 0 < 31 by decide) cy_X6_addRow (by decide) rfl w_684 w_685 w_1216 dX6_takeRows_80) (s_iinc (pc := 83) dX6_takeRows_83 c_ic_1 (show 3 < 6 by decide) (s_goto (pc := 86) dX6_takeRows_86 (by decide) hk15)))))) (s_vr (pc := 74) rfl dX6_takeRows_74))))))))))))))))))))))))))))))))))))
noncomputable def X6_takeRows_u15 (g : Nat → Nat → Int32 → Int32 → PH → Option Rs) : Kn := fun ls st h => gL 0 st (gT 5 ls 0 fun t => gR 4 ls 1 fun x1 => gI ls 2 fun x2 => gI ls 3 fun x3 => g t x1 x2 x3 h)
noncomputable def X6_takeRows_f0 (c_mo3 : List PV → PH → Option Rs) (g15 : Nat → Nat → Int32 → Int32 → PH → Option Rs) (t : Nat) (x1 : Nat) (h : PH) : Option Rs :=
  cI (c_mo3 [.inl (hI h 321 t 0)] h) fun v2 h1 =>
  wr (pI h1 324 t 0 0) fun h3 =>
  g15 t x1 v2 0 h3
set_option maxRecDepth 100000 in
theorem X6_takeRows_l0 (c_mo3 : List PV → PH → Option Rs) (g15 : Nat → Nat → Int32 → Int32 → PH → Option Rs) (t : Nat) (x1 : Nat) (h : PH) : X6_takeRows_b0 c_mo3 (X6_takeRows_u15 g15) [some (.inr (5, t + 1)), some (.inr (4, x1)), none, none, none, none] [] h = X6_takeRows_f0 c_mo3 g15 t x1 h := rfl
theorem X6_takeRows_m0 {c_mo3 : List PV → PH → Option Rs} {g15 G15 : Nat → Nat → Int32 → Int32 → PH → Option Rs} (hg15 : ∀ a0 a1 a2 a3 a4, Mo (g15 a0 a1 a2 a3 a4) (G15 a0 a1 a2 a3 a4)) (t : Nat) (x1 : Nat) (h : PH) : Mo (X6_takeRows_f0 c_mo3 g15 t x1 h) (X6_takeRows_f0 c_mo3 G15 t x1 h) := (mo_cI fun v2 h1 => (mo_wr fun h3 => (hg15 t x1 v2 0 h3)))
noncomputable def X6_takeRows_f15 (c_X11_isWithin : Int32 → Int32 → PH → Option Rs) (c_X6_addRow : Nat → Int32 → Int32 → PH → Option Rs) (g15 : Nat → Nat → Int32 → Int32 → PH → Option Rs) (t : Nat) (x1 : Nat) (x2 : Int32) (x3 : Int32) (h : PH) : Option Rs :=
  if x3 < x2 then
    nn x1 fun r4 =>
    if ((2 * x3) + 1) < (hI h 257 r4 0) then
      nn x1 fun r5 =>
      nn (hR h 258 r5 0) fun r6 =>
      ix (2 * x3) (hL h 26 r6) fun j7 =>
      nn x1 fun r8 =>
      nn (hR h 258 r8 0) fun r9 =>
      ix ((2 * x3) + 1) (hL h 26 r9) fun j10 =>
      cI (c_X11_isWithin (hI h 1664 r6 j7) 14 h) fun v12 h11 =>
      if v12 = 0 then
        some (none, h11)
      else
        cI (c_X11_isWithin (hI h 1664 r9 j10) 8 h11) fun v14 h13 =>
        if v14 = 0 then
          some (none, h13)
        else
          cV (c_X6_addRow t (hI h 1664 r6 j7) (hI h 1664 r9 j10) h13) fun h15 =>
          g15 t x1 x2 (x3 + 1) h15
    else
      some (none, h)
  else
    some (none, h)
set_option maxRecDepth 100000 in
theorem X6_takeRows_l15 (c_X11_isWithin : Int32 → Int32 → PH → Option Rs) (c_X6_addRow : Nat → Int32 → Int32 → PH → Option Rs) (g15 : Nat → Nat → Int32 → Int32 → PH → Option Rs) (t : Nat) (x1 : Nat) (x2 : Int32) (x3 : Int32) (h : PH) : X6_takeRows_b15 c_X11_isWithin c_X6_addRow (X6_takeRows_u15 g15) [some (.inr (5, t + 1)), some (.inr (4, x1)), some (.inl x2), some (.inl x3), none, none] [] h = X6_takeRows_f15 c_X11_isWithin c_X6_addRow g15 t x1 x2 x3 h := rfl
theorem X6_takeRows_m15 {c_X11_isWithin : Int32 → Int32 → PH → Option Rs} {c_X6_addRow : Nat → Int32 → Int32 → PH → Option Rs} {g15 G15 : Nat → Nat → Int32 → Int32 → PH → Option Rs} (hg15 : ∀ a0 a1 a2 a3 a4, Mo (g15 a0 a1 a2 a3 a4) (G15 a0 a1 a2 a3 a4)) (t : Nat) (x1 : Nat) (x2 : Int32) (x3 : Int32) (h : PH) : Mo (X6_takeRows_f15 c_X11_isWithin c_X6_addRow g15 t x1 x2 x3 h) (X6_takeRows_f15 c_X11_isWithin c_X6_addRow G15 t x1 x2 x3 h) := (mo_if (mo_nn fun r4 => (mo_if (mo_nn fun r5 => (mo_nn fun r6 => (mo_ix fun j7 => (mo_nn fun r8 => (mo_nn fun r9 => (mo_ix fun j10 => (mo_cI fun v12 h11 => (mo_if mo_rf (mo_cI fun v14 h13 => (mo_if mo_rf (mo_cV fun h15 => (hg15 t x1 x2 (x3 + 1) h15)))))))))))) mo_rf)) mo_rf)
theorem X6_takeRows_w15 {z : CZ} {g15 : Nat → Nat → Int32 → Int32 → PH → Option Rs} (hk15 : SK (X6_takeRows_x z) 15 (X6_takeRows_u15 g15)) : SK (X6_takeRows_x z) 15 (X6_takeRows_u15 (X6_takeRows_f15 X11_isWithin X6_addRow g15)) := by
  intro ls st h r e
  obtain ⟨hst, e⟩ := gL_of e
  obtain ⟨t, q0, e⟩ := gT_of e
  obtain ⟨x1, q1, e⟩ := gR_of e
  obtain ⟨x2, q2, e⟩ := gI_of e
  obtain ⟨x3, q3, e⟩ := gI_of e
  rw [st_0 hst]
  exact WK.sub (canon := [some (.inr (5, t + 1)), some (.inr (4, x1)), some (.inl x2), some (.inl x3), none, none]) rfl ⟨q0, q1, q2, q3, trivial⟩ (X6_takeRows_s15 hk15 _ _ _ _ ((X6_takeRows_l15 X11_isWithin X6_addRow g15 t x1 x2 x3 h).trans e))
noncomputable def X6_takeRows_g0 (G : (Nat → Nat → Int32 → Int32 → PH → Option Rs)) (t : Nat) (x1 : Nat) (h : PH) : Option Rs := X6_takeRows_f0 mo3 (G) t x1 h
noncomputable def X6_takeRows_g15 (G : (Nat → Nat → Int32 → Int32 → PH → Option Rs)) (t : Nat) (x1 : Nat) (x2 : Int32) (x3 : Int32) (h : PH) : Option Rs := X6_takeRows_f15 X11_isWithin X6_addRow (G) t x1 x2 x3 h
theorem X6_takeRows_v15 {z : CZ} {G : (Nat → Nat → Int32 → Int32 → PH → Option Rs)} (hG15 : SK (X6_takeRows_x z) 15 (X6_takeRows_u15 (G))) : SK (X6_takeRows_x z) 15 (X6_takeRows_u15 (X6_takeRows_g15 G)) := X6_takeRows_w15 hG15
noncomputable def X6_takeRows_fam : Nat → (Nat → Nat → Int32 → Int32 → PH → Option Rs)
  | 0 => fun _ _ _ _ _ => none
  | n + 1 => X6_takeRows_g15 (X6_takeRows_fam n)
theorem X6_takeRows_k {z : CZ} : ∀ n, SK (X6_takeRows_x z) 15 (X6_takeRows_u15 (X6_takeRows_fam n))
  | 0 => (fun ls st h r e => by
      obtain ⟨_, e⟩ := gL_of e
      obtain ⟨_, _, e⟩ := gT_of e
      obtain ⟨_, _, e⟩ := gR_of e
      obtain ⟨_, _, e⟩ := gI_of e
      obtain ⟨_, _, e⟩ := gI_of e
      cases e)
  | n + 1 => by
    obtain ih15 := X6_takeRows_k n
    exact X6_takeRows_v15 ih15
theorem X6_takeRows_n0 {G G' : (Nat → Nat → Int32 → Int32 → PH → Option Rs)} (hg15 : ∀ a0 a1 a2 a3 a4, Mo ((G) a0 a1 a2 a3 a4) ((G') a0 a1 a2 a3 a4)) (t : Nat) (x1 : Nat) (h : PH) : Mo (X6_takeRows_g0 G t x1 h) (X6_takeRows_g0 G' t x1 h) := X6_takeRows_m0 hg15 t x1 h
theorem X6_takeRows_n15 {G G' : (Nat → Nat → Int32 → Int32 → PH → Option Rs)} (hg15 : ∀ a0 a1 a2 a3 a4, Mo ((G) a0 a1 a2 a3 a4) ((G') a0 a1 a2 a3 a4)) (t : Nat) (x1 : Nat) (x2 : Int32) (x3 : Int32) (h : PH) : Mo (X6_takeRows_g15 G t x1 x2 x3 h) (X6_takeRows_g15 G' t x1 x2 x3 h) := X6_takeRows_m15 hg15 t x1 x2 x3 h
theorem X6_takeRows_fm : ∀ n, (∀ a0 a1 a2 a3 a4, Mo ((X6_takeRows_fam n) a0 a1 a2 a3 a4) ((X6_takeRows_fam (n + 1)) a0 a1 a2 a3 a4))
  | 0 => fun _ _ _ _ _ => mo_no
  | n + 1 => by
    obtain ih15 := X6_takeRows_fm n
    exact fun a0 a1 a2 a3 a4 => X6_takeRows_n15 ih15 a0 a1 a2 a3 a4
noncomputable def X6_takeRows (t : Nat) (x1 : Nat) (h : PH) : Option Rs := lim (fun n => X6_takeRows_g0 (X6_takeRows_fam n) t x1 h)
theorem X6_takeRows_iff {t : Nat} {x1 : Nat} {h : PH} {r : Rs} : X6_takeRows t x1 h = some r ↔ ∃ n, X6_takeRows_g0 (X6_takeRows_fam n) t x1 h = some r := lim_iff (fun n => by
  obtain ih15 := X6_takeRows_fm n
  exact X6_takeRows_n0 ih15 t x1 h)
noncomputable abbrev X6_takeRows_F : List PV → PH → Option Rs := FW_T5R4 (X6_takeRows)
set_option maxRecDepth 100000 in
theorem X6_takeRows_gd (l : Launch) : Gd l 31 yX6_takeRows cX6_takeRows 6 none (X6_takeRows_F)   := Gd_of (by decide +kernel) (fun z hzl as h r e => by
  obtain ⟨hst, e⟩ := gL_of e
  obtain ⟨t, q0, e⟩ := gT_of e
  obtain ⟨x1, q1, e⟩ := gR_of e
  rw [st_2 hst q0 q1]
  obtain ⟨n, e⟩ := lim_of e
  obtain hG15 := X6_takeRows_k (z := z) n
  exact ⟨show 2 ≤ 6 by decide, X6_takeRows_s0 hG15 _ _ _ _ ((X6_takeRows_l0 mo3 (X6_takeRows_fam n) t x1 h).trans e)⟩)
