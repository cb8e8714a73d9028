abbrev X12_isBreach_x (z : CZ) : CX := mx RX12 cX12_isBreach 6 3 (some .boolean) "isBreach" z
noncomputable def X12_isBreach_b0 (c_X12_of5 : Nat → Int32 → Int32 → PH → Option Rs) (c_X12_arrowAt : Nat → Int32 → Int32 → PH → Option Rs) (c_X12_wayFrom : Nat → Int32 → Int32 → PH → Option Rs) (c_X12_otherEnd : Nat → Int32 → Int32 → PH → Option Rs) (c_X12_waysAt : Nat → Int32 → PH → Option Rs) (c_X12_nameAt : Nat → Int32 → Int32 → PH → Option Rs) (c_X12_goesOn : Nat → Int32 → Int32 → PH → Option Rs) (c_X12_quarrels : Nat → Int32 → Int32 → PH → Option Rs) (c_X12_mostBy : Int32 → PH → Option Rs) (k64 : Kn) : Kn := (a_il 3 (a_ic 1 (a_eq (a_il 2 (a_al 0 (a_il 1 (a_ic 1 (a_vI 11 2 (FW_T11II c_X12_of5) (a_sI 1 (FW_I c_X12_mostBy) (a_lt (a_ic 0 a_zr) (a_ic 1 a_zr)))))))) (a_il 3 (a_ic 2 (a_eq (a_al 0 (a_il 1 (a_il 2 (a_vI 11 2 (FW_T11II c_X12_quarrels) a_zr)))) (a_al 0 (a_al 0 (a_il 1 (a_ic 0 (a_vI 11 2 (FW_T11II c_X12_of5) (a_al 0 (a_il 1 (a_il 2 (a_vI 11 2 (FW_T11II c_X12_arrowAt) (a_vI 11 2 (FW_T11II c_X12_wayFrom) (a_is 4 (a_il 3 (a_ic 3 (a_eq k64 (a_il 4 (a_n k64 (a_al 0 (a_il 4 (a_al 0 (a_il 1 (a_ic 0 (a_vI 11 2 (FW_T11II c_X12_of5) (a_vI 11 2 (FW_T11II c_X12_otherEnd) (a_is 5 (a_al 0 (a_il 5 (a_vI 11 1 (FW_T11I c_X12_waysAt) (a_ic 3 (a_lt (a_ic 0 a_zr) (a_al 0 (a_il 5 (a_al 0 (a_il 1 (a_il 2 (a_vI 11 2 (FW_T11II c_X12_nameAt) (a_vI 11 2 (FW_T11II c_X12_goesOn) (a_z (a_ic 1 a_zr) (a_ic 0 a_zr))))))))))))))))))))))))))))))))))))))))))))
set_option maxRecDepth 100000 in
theorem X12_isBreach_s0 {z : CZ} {k64 : Kn} (hk64 : SK (X12_isBreach_x z) 64 k64) : SK (X12_isBreach_x z) 0 (X12_isBreach_b0 X12_of5 X12_arrowAt X12_wayFrom X12_otherEnd X12_waysAt X12_nameAt X12_goesOn X12_quarrels X12_mostBy k64) := (s_iloadn (pc := 0) dX12_isBreach_0 rfl (s_iconst (pc := 1) dX12_isBreach_1 c_ic_1 (s_cmpne (pc := 2) dX12_isBreach_2 (by decide) (s_iloadn (pc := 24) dX12_isBreach_24 rfl (s_iconst (pc := 25) dX12_isBreach_25 c_ic_2 (s_cmpne (pc := 26) dX12_isBreach_26 (by decide) (s_aloadn (pc := 36) dX12_isBreach_36 rfl (s_aloadn (pc := 37) dX12_isBreach_37 rfl (s_iloadn (pc := 38) dX12_isBreach_38 rfl (s_iconst (pc := 39) dX12_isBreach_39 c_ic_0 (s_vI (pc := 40) (run_virtual (X12_of5_gd _) (show 0 < 3 by decide) cy_X12_of5 (by decide) rfl w_1534 w_s38 w_1532 dX12_isBreach_40) (s_aloadn (pc := 43) dX12_isBreach_43 rfl (s_iloadn (pc := 44) dX12_isBreach_44 rfl (s_iloadn (pc := 45) dX12_isBreach_45 rfl (s_vI (pc := 46) (run_virtual (X12_arrowAt_gd _) (show 0 < 3 by decide) cy_X12_arrowAt (by decide) rfl w_1595 w_s45 w_1593 dX12_isBreach_46) (s_vI (pc := 49) (run_virtual (X12_wayFrom_gd _) (show 0 < 3 by decide) cy_X12_wayFrom (by decide) rfl w_1469 w_s30 w_1467 dX12_isBreach_49) (s_istore (pc := 52) dX12_isBreach_52 (show 4 < 6 by decide) (s_iloadn (pc := 54) dX12_isBreach_54 rfl (s_iconst (pc := 55) dX12_isBreach_55 c_ic_3 (s_cmpeq (pc := 56) dX12_isBreach_56 (by decide) hk64 (s_iload (pc := 59) dX12_isBreach_59 (s_ifge (pc := 61) dX12_isBreach_61 (by decide) (s_aloadn (pc := 80) dX12_isBreach_80 rfl (s_iload (pc := 81) dX12_isBreach_81 (s_aloadn (pc := 83) dX12_isBreach_83 rfl (s_iloadn (pc := 84) dX12_isBreach_84 rfl (s_iconst (pc := 85) dX12_isBreach_85 c_ic_0 (s_vI (pc := 86) (run_virtual (X12_of5_gd _) (show 0 < 3 by decide) cy_X12_of5 (by decide) rfl w_1534 w_s38 w_1532 dX12_isBreach_86) (s_vI (pc := 89) (run_virtual (X12_otherEnd_gd _) (show 0 < 3 by decide) cy_X12_otherEnd (by decide) rfl w_1698 w_s60 w_1696 dX12_isBreach_89) (s_istore (pc := 92) dX12_isBreach_92 (show 5 < 6 by decide) (s_aloadn (pc := 94) dX12_isBreach_94 rfl (s_iload (pc := 95) dX12_isBreach_95 (s_vI (pc := 97) (run_virtual (X12_waysAt_gd _) (show 0 < 3 by decide) cy_X12_waysAt (by decide) rfl w_1746 w_s69 w_1744 dX12_isBreach_97) (s_iconst (pc := 100) dX12_isBreach_100 c_ic_3 (s_cmplt (pc := 101) dX12_isBreach_101 (by decide) (s_iconst (pc := 123) dX12_isBreach_123 c_ic_0 (s_zr (pc := 124) rfl dX12_isBreach_124)) (s_aloadn (pc := 104) dX12_isBreach_104 rfl (s_iload (pc := 105) dX12_isBreach_105 (s_aloadn (pc := 107) dX12_isBreach_107 rfl (s_iloadn (pc := 108) dX12_isBreach_108 rfl (s_iloadn (pc := 109) dX12_isBreach_109 rfl (s_vI (pc := 110) (run_virtual (X12_nameAt_gd _) (show 0 < 3 by decide) cy_X12_nameAt (by decide) rfl w_1591 w_s44 w_1589 dX12_isBreach_110) (s_vI (pc := 113) (run_virtual (X12_goesOn_gd _) (show 2 < 3 by decide) cy_X12_goesOn (by decide) rfl w_1750 w_s70 w_1748 dX12_isBreach_113) (s_ifne (pc := 116) dX12_isBreach_116 (by decide) (s_iconst (pc := 123) dX12_isBreach_123 c_ic_0 (s_zr (pc := 124) rfl dX12_isBreach_124)) (s_iconst (pc := 119) dX12_isBreach_119 c_ic_1 (s_goto (pc := 120) dX12_isBreach_120 (by decide) (s_zr (pc := 124) rfl dX12_isBreach_124)))))))))))))))))))))))) hk64)))))))))))))))) (s_aloadn (pc := 29) dX12_isBreach_29 rfl (s_iloadn (pc := 30) dX12_isBreach_30 rfl (s_iloadn (pc := 31) dX12_isBreach_31 rfl (s_vI (pc := 32) (run_virtual (X12_quarrels_gd _) (show 2 < 3 by decide) cy_X12_quarrels (by decide) rfl w_1742 w_s68 w_1740 dX12_isBreach_32) (s_zr (pc := 35) rfl dX12_isBreach_35)))))))) (s_iloadn (pc := 5) dX12_isBreach_5 rfl (s_aloadn (pc := 6) dX12_isBreach_6 rfl (s_iloadn (pc := 7) dX12_isBreach_7 rfl (s_iconst (pc := 8) dX12_isBreach_8 c_ic_1 (s_vI (pc := 9) (run_virtual (X12_of5_gd _) (show 0 < 3 by decide) cy_X12_of5 (by decide) rfl w_1534 w_s38 w_1532 dX12_isBreach_9) (s_sI (pc := 12) (run_static (X12_mostBy_gd _) (show 0 < 3 by decide) cy_X12_mostBy w_1541 w_1540 dX12_isBreach_12) (s_cmplt (pc := 15) dX12_isBreach_15 (by decide) (s_iconst (pc := 22) dX12_isBreach_22 c_ic_0 (s_zr (pc := 23) rfl dX12_isBreach_23)) (s_iconst (pc := 18) dX12_isBreach_18 c_ic_1 (s_goto (pc := 19) dX12_isBreach_19 (by decide) (s_zr (pc := 23) rfl dX12_isBreach_23)))))))))))))
noncomputable def X12_isBreach_b64 : Kn := (a_il 3 (a_ic 3 (a_eq (a_il 4 (a_n (a_ic 1 a_zr) (a_ic 0 a_zr))) (a_ic 0 a_zr))))
set_option maxRecDepth 100000 in
theorem X12_isBreach_s64 {z : CZ} : SK (X12_isBreach_x z) 64 (X12_isBreach_b64) := (s_iloadn (pc := 64) dX12_isBreach_64 rfl (s_iconst (pc := 65) dX12_isBreach_65 c_ic_3 (s_cmpne (pc := 66) dX12_isBreach_66 (by decide) (s_iconst (pc := 78) dX12_isBreach_78 c_ic_0 (s_zr (pc := 79) rfl dX12_isBreach_79)) (s_iload (pc := 69) dX12_isBreach_69 (s_ifge (pc := 71) dX12_isBreach_71 (by decide) (s_iconst (pc := 78) dX12_isBreach_78 c_ic_0 (s_zr (pc := 79) rfl dX12_isBreach_79)) (s_iconst (pc := 74) dX12_isBreach_74 c_ic_1 (s_goto (pc := 75) dX12_isBreach_75 (by decide) (s_zr (pc := 79) rfl dX12_isBreach_79))))))))
noncomputable def X12_isBreach_u64 (g : Int32 → Int32 → PH → Option Rs) : Kn := fun ls st h => gL 0 st (gI ls 3 fun x3 => gI ls 4 fun x4 => g x3 x4 h)
noncomputable def X12_isBreach_f0 (c_X12_of5 : Nat → Int32 → Int32 → PH → Option Rs) (c_X12_arrowAt : Nat → Int32 → Int32 → PH → Option Rs) (c_X12_wayFrom : Nat → Int32 → Int32 → PH → Option Rs) (c_X12_otherEnd : Nat → Int32 → Int32 → PH → Option Rs) (c_X12_waysAt : Nat → Int32 → PH → Option Rs) (c_X12_nameAt : Nat → Int32 → Int32 → PH → Option Rs) (c_X12_goesOn : Nat → Int32 → Int32 → PH → Option Rs) (c_X12_quarrels : Nat → Int32 → Int32 → PH → Option Rs) (c_X12_mostBy : Int32 → PH → Option Rs) (g64 : Int32 → Int32 → PH → Option Rs) (t : Nat) (x1 : Int32) (x2 : Int32) (x3 : Int32) (h : PH) : Option Rs :=
  if x3 = 1 then
    cI (c_X12_of5 t x1 1 h) fun v20 h19 =>
    cI (c_X12_mostBy v20 h19) fun v22 h21 =>
    if x2 < v22 then
      bz 0 <|
      some (some (.inl 0), h21)
    else
      bz 1 <|
      some (some (.inl 1), h21)
  else
    if x3 = 2 then
      cI (c_X12_quarrels t x1 x2 h) fun v18 h17 =>
      bz v18 <|
      some (some (.inl v18), h17)
    else
      cI (c_X12_of5 t x1 0 h) fun v2 h1 =>
      cI (c_X12_arrowAt t x1 x2 h1) fun v4 h3 =>
      cI (c_X12_wayFrom t v2 v4 h3) fun v6 h5 =>
      if x3 = 3 then
        g64 x3 v6 h5
      else
        if v6 < 0 then
          g64 x3 v6 h5
        else
          cI (c_X12_of5 t x1 0 h5) fun v8 h7 =>
          cI (c_X12_otherEnd t v6 v8 h7) fun v10 h9 =>
          cI (c_X12_waysAt t v10 h9) fun v12 h11 =>
          if v12 < 3 then
            bz 0 <|
            some (some (.inl 0), h11)
          else
            cI (c_X12_nameAt t x1 x2 h11) fun v14 h13 =>
            cI (c_X12_goesOn t v10 v14 h13) fun v16 h15 =>
            if v16 = 0 then
              bz 1 <|
              some (some (.inl 1), h15)
            else
              bz 0 <|
              some (some (.inl 0), h15)
set_option maxRecDepth 100000 in
theorem X12_isBreach_l0 (c_X12_of5 : Nat → Int32 → Int32 → PH → Option Rs) (c_X12_arrowAt : Nat → Int32 → Int32 → PH → Option Rs) (c_X12_wayFrom : Nat → Int32 → Int32 → PH → Option Rs) (c_X12_otherEnd : Nat → Int32 → Int32 → PH → Option Rs) (c_X12_waysAt : Nat → Int32 → PH → Option Rs) (c_X12_nameAt : Nat → Int32 → Int32 → PH → Option Rs) (c_X12_goesOn : Nat → Int32 → Int32 → PH → Option Rs) (c_X12_quarrels : Nat → Int32 → Int32 → PH → Option Rs) (c_X12_mostBy : Int32 → PH → Option Rs) (g64 : Int32 → Int32 → PH → Option Rs) (t : Nat) (x1 : Int32) (x2 : Int32) (x3 : Int32) (h : PH) : X12_isBreach_b0 c_X12_of5 c_X12_arrowAt c_X12_wayFrom c_X12_otherEnd c_X12_waysAt c_X12_nameAt c_X12_goesOn c_X12_quarrels c_X12_mostBy (X12_isBreach_u64 g64) [some (.inr (11, t + 1)), some (.inl x1), some (.inl x2), some (.inl x3), none, none] [] h = X12_isBreach_f0 c_X12_of5 c_X12_arrowAt c_X12_wayFrom c_X12_otherEnd c_X12_waysAt c_X12_nameAt c_X12_goesOn c_X12_quarrels c_X12_mostBy g64 t x1 x2 x3 h := rfl
theorem X12_isBreach_m0 {c_X12_of5 : Nat → Int32 → Int32 → PH → Option Rs} {c_X12_arrowAt : Nat → Int32 → Int32 → PH → Option Rs} {c_X12_wayFrom : Nat → Int32 → Int32 → PH → Option Rs} {c_X12_otherEnd : Nat → Int32 → Int32 → PH → Option Rs} {c_X12_waysAt : Nat → Int32 → PH → Option Rs} {c_X12_nameAt : Nat → Int32 → Int32 → PH → Option Rs} {c_X12_goesOn : Nat → Int32 → Int32 → PH → Option Rs} {c_X12_quarrels : Nat → Int32 → Int32 → PH → Option Rs} {c_X12_mostBy : Int32 → PH → Option Rs} {g64 G64 : Int32 → Int32 → PH → Option Rs} (hg64 : ∀ a0 a1 a2, Mo (g64 a0 a1 a2) (G64 a0 a1 a2)) (t : Nat) (x1 : Int32) (x2 : Int32) (x3 : Int32) (h : PH) : Mo (X12_isBreach_f0 c_X12_of5 c_X12_arrowAt c_X12_wayFrom c_X12_otherEnd c_X12_waysAt c_X12_nameAt c_X12_goesOn c_X12_quarrels c_X12_mostBy g64 t x1 x2 x3 h) (X12_isBreach_f0 c_X12_of5 c_X12_arrowAt c_X12_wayFrom c_X12_otherEnd c_X12_waysAt c_X12_nameAt c_X12_goesOn c_X12_quarrels c_X12_mostBy G64 t x1 x2 x3 h) := (mo_if (mo_cI fun v20 h19 => (mo_cI fun v22 h21 => (mo_if (mo_bz mo_rf) (mo_bz mo_rf)))) (mo_if (mo_cI fun v18 h17 => (mo_bz mo_rf)) (mo_cI fun v2 h1 => (mo_cI fun v4 h3 => (mo_cI fun v6 h5 => (mo_if (hg64 x3 v6 h5) (mo_if (hg64 x3 v6 h5) (mo_cI fun v8 h7 => (mo_cI fun v10 h9 => (mo_cI fun v12 h11 => (mo_if (mo_bz mo_rf) (mo_cI fun v14 h13 => (mo_cI fun v16 h15 => (mo_if (mo_bz mo_rf) (mo_bz mo_rf)))))))))))))))
noncomputable def X12_isBreach_f64 (x3 : Int32) (x4 : Int32) (h : PH) : Option Rs :=
  if x3 = 3 then
    if x4 < 0 then
      bz 1 <|
      some (some (.inl 1), h)
    else
      bz 0 <|
      some (some (.inl 0), h)
  else
    bz 0 <|
    some (some (.inl 0), h)
set_option maxRecDepth 100000 in
theorem X12_isBreach_l64 (x3 : Int32) (x4 : Int32) (h : PH) : X12_isBreach_b64 [none, none, none, some (.inl x3), some (.inl x4), none] [] h = X12_isBreach_f64 x3 x4 h := rfl
theorem X12_isBreach_w64 {z : CZ} : SK (X12_isBreach_x z) 64 (X12_isBreach_u64 (X12_isBreach_f64)) := by
  intro ls st h r e
  obtain ⟨hst, e⟩ := gL_of e
  obtain ⟨x3, q0, e⟩ := gI_of e
  obtain ⟨x4, q1, e⟩ := gI_of e
  rw [st_0 hst]
  exact WK.sub (canon := [none, none, none, some (.inl x3), some (.inl x4), none]) rfl ⟨q0, q1, trivial⟩ (X12_isBreach_s64 _ _ _ _ ((X12_isBreach_l64 x3 x4 h).trans e))
noncomputable def X12_isBreach_g64 (x3 : Int32) (x4 : Int32) (h : PH) : Option Rs := X12_isBreach_f64 x3 x4 h
noncomputable def X12_isBreach_g0 (t : Nat) (x1 : Int32) (x2 : Int32) (x3 : Int32) (h : PH) : Option Rs := X12_isBreach_f0 X12_of5 X12_arrowAt X12_wayFrom X12_otherEnd X12_waysAt X12_nameAt X12_goesOn X12_quarrels X12_mostBy (X12_isBreach_g64) t x1 x2 x3 h
theorem X12_isBreach_v64 {z : CZ} : SK (X12_isBreach_x z) 64 (X12_isBreach_u64 (X12_isBreach_g64)) := X12_isBreach_w64
noncomputable def X12_isBreach (t : Nat) (x1 : Int32) (x2 : Int32) (x3 : Int32) (h : PH) : Option Rs := X12_isBreach_g0 t x1 x2 x3 h
noncomputable abbrev X12_isBreach_F : List PV → PH → Option Rs := FW_T11III (X12_isBreach)
set_option maxRecDepth 100000 in
theorem X12_isBreach_gd (l : Launch) : Gd l 3 yX12_isBreach cX12_isBreach 6 (some .boolean) (X12_isBreach_F)   := Gd_of (by decide +kernel) (fun z hzl as h r e => by
  obtain ⟨hst, e⟩ := gL_of e
  obtain ⟨t, q0, e⟩ := gT_of e
  obtain ⟨x1, q1, e⟩ := gI_of e
  obtain ⟨x2, q2, e⟩ := gI_of e
  obtain ⟨x3, q3, e⟩ := gI_of e
  rw [st_4 hst q0 q1 q2 q3]
  exact ⟨show 4 ≤ 6 by decide, X12_isBreach_s0 (X12_isBreach_v64) _ _ _ _ ((X12_isBreach_l0 X12_of5 X12_arrowAt X12_wayFrom X12_otherEnd X12_waysAt X12_nameAt X12_goesOn X12_quarrels X12_mostBy (X12_isBreach_g64) t x1 x2 x3 h).trans e)⟩)
abbrev X12_breachesTo_x (z : CZ) : CX := mx RX12 cX12_breachesTo 7 4 (some .int) "breachesTo" z
noncomputable def X12_breachesTo_b0 (k5 : Kn) : Kn := (a_ic 0 (a_is 3 (a_ic 0 (a_is 4 k5))))
set_option maxRecDepth 100000 in
theorem X12_breachesTo_s0 {z : CZ} {k5 : Kn} (hk5 : SK (X12_breachesTo_x z) 5 k5) : SK (X12_breachesTo_x z) 0 (X12_breachesTo_b0 k5) := (s_iconst (pc := 0) dX12_breachesTo_0 c_ic_0 (s_istoren (pc := 1) dX12_breachesTo_1 rfl (show 3 < 7 by decide) (s_iconst (pc := 2) dX12_breachesTo_2 c_ic_0 (s_istore (pc := 3) dX12_breachesTo_3 (show 4 < 7 by decide) hk5))))
noncomputable def X12_breachesTo_b5 (k20 : Kn) : Kn := (a_il 4 (a_al 0 (a_gR 11 704 41 (a_ic 6 (a_ald 41 2624 (a_lt (a_ic 0 (a_is 5 k20)) (a_il 3 a_ir)))))))
set_option maxRecDepth 100000 in
theorem X12_breachesTo_s5 {z : CZ} {k20 : Kn} (hk20 : SK (X12_breachesTo_x z) 20 k20) : SK (X12_breachesTo_x z) 5 (X12_breachesTo_b5 k20) := (s_iload (pc := 5) dX12_breachesTo_5 (s_aloadn (pc := 7) dX12_breachesTo_7 rfl (s_gR (pc := 8) (f := 0) ko_11 (by decide) rfl rfl w_1295 dX12_breachesTo_8 (s_bipush (pc := 11) dX12_breachesTo_11 c_bp_6 (s_iald (pc := 13) (by decide) (by decide) rfl rfl rfl dX12_breachesTo_13 (s_cmpge (pc := 14) dX12_breachesTo_14 (by decide) (s_iloadn (pc := 109) dX12_breachesTo_109 rfl (s_ir (pc := 110) rfl dX12_breachesTo_110)) (s_iconst (pc := 17) dX12_breachesTo_17 c_ic_0 (s_istore (pc := 18) dX12_breachesTo_18 (show 5 < 7 by decide) hk20))))))))
noncomputable def X12_breachesTo_b20 (c_X12_rowsOf : Nat → Int32 → PH → Option Rs) (k5 k34 : Kn) : Kn := (a_il 5 (a_al 0 (a_il 4 (a_vI 11 1 (FW_T11I c_X12_rowsOf) (a_lt (a_ic 1 (a_is 6 k34)) (a_inc 4 1 k5))))))
set_option maxRecDepth 100000 in
theorem X12_breachesTo_s20 {z : CZ} {k5 k34 : Kn} (hk5 : SK (X12_breachesTo_x z) 5 k5) (hk34 : SK (X12_breachesTo_x z) 34 k34) : SK (X12_breachesTo_x z) 20 (X12_breachesTo_b20 X12_rowsOf k5 k34) := (s_iload (pc := 20) dX12_breachesTo_20 (s_aloadn (pc := 22) dX12_breachesTo_22 rfl (s_iload (pc := 23) dX12_breachesTo_23 (s_vI (pc := 25) (run_virtual (X12_rowsOf_gd _) (show 1 < 4 by decide) cy_X12_rowsOf (by decide) rfl w_1538 w_s39 w_1536 dX12_breachesTo_25) (s_cmpge (pc := 28) dX12_breachesTo_28 (by decide) (s_iinc (pc := 103) dX12_breachesTo_103 c_ic_1 (show 4 < 7 by decide) (s_goto (pc := 106) dX12_breachesTo_106 (by decide) hk5)) (s_iconst (pc := 31) dX12_breachesTo_31 c_ic_1 (s_istore (pc := 32) dX12_breachesTo_32 (show 6 < 7 by decide) hk34)))))))
noncomputable def X12_breachesTo_b34 (k20 k50 k91 : Kn) : Kn := (a_il 6 (a_ic 4 (a_gt (a_inc 5 1 k20) (a_il 1 (a_z k50 (a_il 1 (a_il 6 (a_eq k50 k91))))))))
set_option maxRecDepth 100000 in
theorem X12_breachesTo_s34 {z : CZ} {k20 k50 k91 : Kn} (hk20 : SK (X12_breachesTo_x z) 20 k20) (hk50 : SK (X12_breachesTo_x z) 50 k50) (hk91 : SK (X12_breachesTo_x z) 91 k91) : SK (X12_breachesTo_x z) 34 (X12_breachesTo_b34 k20 k50 k91) := (s_iload (pc := 34) dX12_breachesTo_34 (s_iconst (pc := 36) dX12_breachesTo_36 c_ic_4 (s_cmpgt (pc := 37) dX12_breachesTo_37 (by decide) (s_iinc (pc := 97) dX12_breachesTo_97 c_ic_1 (show 5 < 7 by decide) (s_goto (pc := 100) dX12_breachesTo_100 (by decide) hk20)) (s_iloadn (pc := 40) dX12_breachesTo_40 rfl (s_ifeq (pc := 41) dX12_breachesTo_41 (by decide) hk50 (s_iloadn (pc := 44) dX12_breachesTo_44 rfl (s_iload (pc := 45) dX12_breachesTo_45 (s_cmpne (pc := 47) dX12_breachesTo_47 (by decide) hk91 hk50))))))))
noncomputable def X12_breachesTo_b50 (c_X12_isBreach : Nat → Int32 → Int32 → Int32 → PH → Option Rs) (k91 : Kn) : Kn := (a_al 0 (a_il 4 (a_il 5 (a_il 6 (a_vI 11 3 (FW_T11III c_X12_isBreach) (a_z k91 (a_al 0 (a_il 4 (a_pI 11 739 (a_al 0 (a_il 5 (a_pI 11 740 (a_al 0 (a_il 6 (a_pI 11 741 (a_il 3 (a_il 2 (a_eq (a_il 3 a_ir) (a_inc 3 1 k91)))))))))))))))))))
set_option maxRecDepth 100000 in
theorem X12_breachesTo_s50 {z : CZ} {k91 : Kn} (hk91 : SK (X12_breachesTo_x z) 91 k91) : SK (X12_breachesTo_x z) 50 (X12_breachesTo_b50 X12_isBreach k91) := (s_aloadn (pc := 50) dX12_breachesTo_50 rfl (s_iload (pc := 51) dX12_breachesTo_51 (s_iload (pc := 53) dX12_breachesTo_53 (s_iload (pc := 55) dX12_breachesTo_55 (s_vI (pc := 57) (run_virtual (X12_isBreach_gd _) (show 3 < 4 by decide) cy_X12_isBreach (by decide) rfl w_1738 w_s67 w_1736 dX12_breachesTo_57) (s_ifeq (pc := 60) dX12_breachesTo_60 (by decide) hk91 (s_aloadn (pc := 63) dX12_breachesTo_63 rfl (s_iload (pc := 64) dX12_breachesTo_64 (s_pI (pc := 66) (f := 35) ko_11 (by decide) rfl rfl rfl (by decide +kernel) w_1330 dX12_breachesTo_66 (s_aloadn (pc := 69) dX12_breachesTo_69 rfl (s_iload (pc := 70) dX12_breachesTo_70 (s_pI (pc := 72) (f := 36) ko_11 (by decide) rfl rfl rfl (by decide +kernel) w_1331 dX12_breachesTo_72 (s_aloadn (pc := 75) dX12_breachesTo_75 rfl (s_iload (pc := 76) dX12_breachesTo_76 (s_pI (pc := 78) (f := 37) ko_11 (by decide) rfl rfl rfl (by decide +kernel) w_1332 dX12_breachesTo_78 (s_iloadn (pc := 81) dX12_breachesTo_81 rfl (s_iloadn (pc := 82) dX12_breachesTo_82 rfl (s_cmpne (pc := 83) dX12_breachesTo_83 (by decide) (s_iinc (pc := 88) dX12_breachesTo_88 c_ic_1 (show 3 < 7 by decide) hk91) (s_iloadn (pc := 86) dX12_breachesTo_86 rfl (s_ir (pc := 87) rfl dX12_breachesTo_87))))))))))))))))))))
noncomputable def X12_breachesTo_b91 (k34 : Kn) : Kn := (a_inc 6 1 k34)
set_option maxRecDepth 100000 in
theorem X12_breachesTo_s91 {z : CZ} {k34 : Kn} (hk34 : SK (X12_breachesTo_x z) 34 k34) : SK (X12_breachesTo_x z) 91 (X12_breachesTo_b91 k34) := (s_iinc (pc := 91) dX12_breachesTo_91 c_ic_1 (show 6 < 7 by decide) (s_goto (pc := 94) dX12_breachesTo_94 (by decide) hk34))
noncomputable def X12_breachesTo_u5 (g : Nat → Int32 → Int32 → Int32 → Int32 → PH → Option Rs) : Kn := fun ls st h => gL 0 st (gT 11 ls 0 fun t => gI ls 1 fun x1 => gI ls 2 fun x2 => gI ls 3 fun x3 => gI ls 4 fun x4 => g t x1 x2 x3 x4 h)
noncomputable def X12_breachesTo_u20 (g : Nat → Int32 → Int32 → Int32 → Int32 → Int32 → PH → Option Rs) : Kn := fun ls st h => gL 0 st (gT 11 ls 0 fun t => gI ls 1 fun x1 => gI ls 2 fun x2 => gI ls 3 fun x3 => gI ls 4 fun x4 => gI ls 5 fun x5 => g t x1 x2 x3 x4 x5 h)
noncomputable def X12_breachesTo_u34 (g : Nat → Int32 → Int32 → Int32 → Int32 → Int32 → Int32 → PH → Option Rs) : Kn := fun ls st h => gL 0 st (gT 11 ls 0 fun t => gI ls 1 fun x1 => gI ls 2 fun x2 => gI ls 3 fun x3 => gI ls 4 fun x4 => gI ls 5 fun x5 => gI ls 6 fun x6 => g t x1 x2 x3 x4 x5 x6 h)
noncomputable def X12_breachesTo_u50 (g : Nat → Int32 → Int32 → Int32 → Int32 → Int32 → Int32 → PH → Option Rs) : Kn := fun ls st h => gL 0 st (gT 11 ls 0 fun t => gI ls 1 fun x1 => gI ls 2 fun x2 => gI ls 3 fun x3 => gI ls 4 fun x4 => gI ls 5 fun x5 => gI ls 6 fun x6 => g t x1 x2 x3 x4 x5 x6 h)
noncomputable def X12_breachesTo_u91 (g : Nat → Int32 → Int32 → Int32 → Int32 → Int32 → Int32 → PH → Option Rs) : Kn := fun ls st h => gL 0 st (gT 11 ls 0 fun t => gI ls 1 fun x1 => gI ls 2 fun x2 => gI ls 3 fun x3 => gI ls 4 fun x4 => gI ls 5 fun x5 => gI ls 6 fun x6 => g t x1 x2 x3 x4 x5 x6 h)
noncomputable def X12_breachesTo_f0 (g5 : Nat → Int32 → Int32 → Int32 → Int32 → PH → Option Rs) (t : Nat) (x1 : Int32) (x2 : Int32) (h : PH) : Option Rs :=
  g5 t x1 x2 0 0 h
set_option maxRecDepth 100000 in
theorem X12_breachesTo_l0 (g5 : Nat → Int32 → Int32 → Int32 → Int32 → PH → Option Rs) (t : Nat) (x1 : Int32) (x2 : Int32) (h : PH) : X12_breachesTo_b0 (X12_breachesTo_u5 g5) [some (.inr (11, t + 1)), some (.inl x1), some (.inl x2), none, none, none, none] [] h = X12_breachesTo_f0 g5 t x1 x2 h := rfl
theorem X12_breachesTo_m0 {g5 G5 : Nat → Int32 → Int32 → Int32 → Int32 → PH → Option Rs} (hg5 : ∀ a0 a1 a2 a3 a4 a5, Mo (g5 a0 a1 a2 a3 a4 a5) (G5 a0 a1 a2 a3 a4 a5)) (t : Nat) (x1 : Int32) (x2 : Int32) (h : PH) : Mo (X12_breachesTo_f0 g5 t x1 x2 h) (X12_breachesTo_f0 G5 t x1 x2 h) := (hg5 t x1 x2 0 0 h)
noncomputable def X12_breachesTo_f5 (g20 : Nat → Int32 → Int32 → Int32 → Int32 → Int32 → PH → Option Rs) (t : Nat) (x1 : Int32) (x2 : Int32) (x3 : Int32) (x4 : Int32) (h : PH) : Option Rs :=
  nn (hR h 704 t 0) fun r1 =>
  ix 6 (hL h 41 r1) fun j2 =>
  if x4 < (hI h 2624 r1 j2) then
    g20 t x1 x2 x3 x4 0 h
  else
    some (some (.inl x3), h)
set_option maxRecDepth 100000 in
theorem X12_breachesTo_l5 (g20 : Nat → Int32 → Int32 → Int32 → Int32 → Int32 → PH → Option Rs) (t : Nat) (x1 : Int32) (x2 : Int32) (x3 : Int32) (x4 : Int32) (h : PH) : X12_breachesTo_b5 (X12_breachesTo_u20 g20) [some (.inr (11, t + 1)), some (.inl x1), some (.inl x2), some (.inl x3), some (.inl x4), none, none] [] h = X12_breachesTo_f5 g20 t x1 x2 x3 x4 h := rfl
theorem X12_breachesTo_m5 {g20 G20 : Nat → Int32 → Int32 → Int32 → Int32 → Int32 → PH → Option Rs} (hg20 : ∀ a0 a1 a2 a3 a4 a5 a6, Mo (g20 a0 a1 a2 a3 a4 a5 a6) (G20 a0 a1 a2 a3 a4 a5 a6)) (t : Nat) (x1 : Int32) (x2 : Int32) (x3 : Int32) (x4 : Int32) (h : PH) : Mo (X12_breachesTo_f5 g20 t x1 x2 x3 x4 h) (X12_breachesTo_f5 G20 t x1 x2 x3 x4 h) := (mo_nn fun r1 => (mo_ix fun j2 => (mo_if (hg20 t x1 x2 x3 x4 0 h) mo_rf)))
theorem X12_breachesTo_w5 {z : CZ} {g20 : Nat → Int32 → Int32 → Int32 → Int32 → Int32 → PH → Option Rs} (hk20 : SK (X12_breachesTo_x z) 20 (X12_breachesTo_u20 g20)) : SK (X12_breachesTo_x z) 5 (X12_breachesTo_u5 (X12_breachesTo_f5 g20)) := by
  intro ls st h r e
  obtain ⟨hst, e⟩ := gL_of e
  obtain ⟨t, q0, e⟩ := gT_of e
  obtain ⟨x1, q1, e⟩ := gI_of e
  obtain ⟨x2, q2, e⟩ := gI_of e
  obtain ⟨x3, q3, e⟩ := gI_of e
  obtain ⟨x4, q4, e⟩ := gI_of e
  rw [st_0 hst]
  exact WK.sub (canon := [some (.inr (11, t + 1)), some (.inl x1), some (.inl x2), some (.inl x3), some (.inl x4), none, none]) rfl ⟨q0, q1, q2, q3, q4, trivial⟩ (X12_breachesTo_s5 hk20 _ _ _ _ ((X12_breachesTo_l5 g20 t x1 x2 x3 x4 h).trans e))
noncomputable def X12_breachesTo_f20 (c_X12_rowsOf : Nat → Int32 → PH → Option Rs) (g5 : Nat → Int32 → Int32 → Int32 → Int32 → PH → Option Rs) (g34 : Nat → Int32 → Int32 → Int32 → Int32 → Int32 → Int32 → PH → Option Rs) (t : Nat) (x1 : Int32) (x2 : Int32) (x3 : Int32) (x4 : Int32) (x5 : Int32) (h : PH) : Option Rs :=
  cI (c_X12_rowsOf t x4 h) fun v4 h3 =>
  if x5 < v4 then
    g34 t x1 x2 x3 x4 x5 1 h3
  else
    g5 t x1 x2 x3 (x4 + 1) h3
set_option maxRecDepth 100000 in
theorem X12_breachesTo_l20 (c_X12_rowsOf : Nat → Int32 → PH → Option Rs) (g5 : Nat → Int32 → Int32 → Int32 → Int32 → PH → Option Rs) (g34 : Nat → Int32 → Int32 → Int32 → Int32 → Int32 → Int32 → PH → Option Rs) (t : Nat) (x1 : Int32) (x2 : Int32) (x3 : Int32) (x4 : Int32) (x5 : Int32) (h : PH) : X12_breachesTo_b20 c_X12_rowsOf (X12_breachesTo_u5 g5) (X12_breachesTo_u34 g34) [some (.inr (11, t + 1)), some (.inl x1), some (.inl x2), some (.inl x3), some (.inl x4), some (.inl x5), none] [] h = X12_breachesTo_f20 c_X12_rowsOf g5 g34 t x1 x2 x3 x4 x5 h := rfl
theorem X12_breachesTo_m20 {c_X12_rowsOf : Nat → Int32 → PH → Option Rs} {g5 G5 : Nat → Int32 → Int32 → Int32 → Int32 → PH → Option Rs} {g34 G34 : Nat → Int32 → Int32 → Int32 → Int32 → Int32 → Int32 → PH → Option Rs} (hg5 : ∀ a0 a1 a2 a3 a4 a5, Mo (g5 a0 a1 a2 a3 a4 a5) (G5 a0 a1 a2 a3 a4 a5)) (hg34 : ∀ a0 a1 a2 a3 a4 a5 a6 a7, Mo (g34 a0 a1 a2 a3 a4 a5 a6 a7) (G34 a0 a1 a2 a3 a4 a5 a6 a7)) (t : Nat) (x1 : Int32) (x2 : Int32) (x3 : Int32) (x4 : Int32) (x5 : Int32) (h : PH) : Mo (X12_breachesTo_f20 c_X12_rowsOf g5 g34 t x1 x2 x3 x4 x5 h) (X12_breachesTo_f20 c_X12_rowsOf G5 G34 t x1 x2 x3 x4 x5 h) := (mo_cI fun v4 h3 => (mo_if (hg34 t x1 x2 x3 x4 x5 1 h3) (hg5 t x1 x2 x3 (x4 + 1) h3)))
theorem X12_breachesTo_w20 {z : CZ} {g5 : Nat → Int32 → Int32 → Int32 → Int32 → PH → Option Rs} {g34 : Nat → Int32 → Int32 → Int32 → Int32 → Int32 → Int32 → PH → Option Rs} (hk5 : SK (X12_breachesTo_x z) 5 (X12_breachesTo_u5 g5)) (hk34 : SK (X12_breachesTo_x z) 34 (X12_breachesTo_u34 g34)) : SK (X12_breachesTo_x z) 20 (X12_breachesTo_u20 (X12_breachesTo_f20 X12_rowsOf g5 g34)) := by
  intro ls st h r e
  obtain ⟨hst, e⟩ := gL_of e
  obtain ⟨t, q0, e⟩ := gT_of e
  obtain ⟨x1, q1, e⟩ := gI_of e
  obtain ⟨x2, q2, e⟩ := gI_of e
  obtain ⟨x3, q3, e⟩ := gI_of e
  obtain ⟨x4, q4, e⟩ := gI_of e
  obtain ⟨x5, q5, e⟩ := gI_of e
  rw [st_0 hst]
  exact WK.sub (canon := [some (.inr (11, t + 1)), some (.inl x1), some (.inl x2), some (.inl x3), some (.inl x4), some (.inl x5), none]) rfl ⟨q0, q1, q2, q3, q4, q5, trivial⟩ (X12_breachesTo_s20 hk5 hk34 _ _ _ _ ((X12_breachesTo_l20 X12_rowsOf g5 g34 t x1 x2 x3 x4 x5 h).trans e))
noncomputable def X12_breachesTo_f34 (g20 : Nat → Int32 → Int32 → Int32 → Int32 → Int32 → PH → Option Rs) (g50 : Nat → Int32 → Int32 → Int32 → Int32 → Int32 → Int32 → PH → Option Rs) (g91 : Nat → Int32 → Int32 → Int32 → Int32 → Int32 → Int32 → PH → Option Rs) (t : Nat) (x1 : Int32) (x2 : Int32) (x3 : Int32) (x4 : Int32) (x5 : Int32) (x6 : Int32) (h : PH) : Option Rs :=
  if 4 < x6 then
    g20 t x1 x2 x3 x4 (x5 + 1) h
  else
    if x1 = 0 then
      g50 t x1 x2 x3 x4 x5 x6 h
    else
      if x1 = x6 then
        g50 t x1 x2 x3 x4 x5 x6 h
      else
        g91 t x1 x2 x3 x4 x5 x6 h
set_option maxRecDepth 100000 in
theorem X12_breachesTo_l34 (g20 : Nat → Int32 → Int32 → Int32 → Int32 → Int32 → PH → Option Rs) (g50 : Nat → Int32 → Int32 → Int32 → Int32 → Int32 → Int32 → PH → Option Rs) (g91 : Nat → Int32 → Int32 → Int32 → Int32 → Int32 → Int32 → PH → Option Rs) (t : Nat) (x1 : Int32) (x2 : Int32) (x3 : Int32) (x4 : Int32) (x5 : Int32) (x6 : Int32) (h : PH) : X12_breachesTo_b34 (X12_breachesTo_u20 g20) (X12_breachesTo_u50 g50) (X12_breachesTo_u91 g91) [some (.inr (11, t + 1)), some (.inl x1), some (.inl x2), some (.inl x3), some (.inl x4), some (.inl x5), some (.inl x6)] [] h = X12_breachesTo_f34 g20 g50 g91 t x1 x2 x3 x4 x5 x6 h := rfl
theorem X12_breachesTo_m34 {g20 G20 : Nat → Int32 → Int32 → Int32 → Int32 → Int32 → PH → Option Rs} {g50 G50 : Nat → Int32 → Int32 → Int32 → Int32 → Int32 → Int32 → PH → Option Rs} {g91 G91 : Nat → Int32 → Int32 → Int32 → Int32 → Int32 → Int32 → PH → Option Rs} (hg20 : ∀ a0 a1 a2 a3 a4 a5 a6, Mo (g20 a0 a1 a2 a3 a4 a5 a6) (G20 a0 a1 a2 a3 a4 a5 a6)) (hg50 : ∀ a0 a1 a2 a3 a4 a5 a6 a7, Mo (g50 a0 a1 a2 a3 a4 a5 a6 a7) (G50 a0 a1 a2 a3 a4 a5 a6 a7)) (hg91 : ∀ a0 a1 a2 a3 a4 a5 a6 a7, Mo (g91 a0 a1 a2 a3 a4 a5 a6 a7) (G91 a0 a1 a2 a3 a4 a5 a6 a7)) (t : Nat) (x1 : Int32) (x2 : Int32) (x3 : Int32) (x4 : Int32) (x5 : Int32) (x6 : Int32) (h : PH) : Mo (X12_breachesTo_f34 g20 g50 g91 t x1 x2 x3 x4 x5 x6 h) (X12_breachesTo_f34 G20 G50 G91 t x1 x2 x3 x4 x5 x6 h) := (mo_if (hg20 t x1 x2 x3 x4 (x5 + 1) h) (mo_if (hg50 t x1 x2 x3 x4 x5 x6 h) (mo_if (hg50 t x1 x2 x3 x4 x5 x6 h) (hg91 t x1 x2 x3 x4 x5 x6 h))))
theorem X12_breachesTo_w34 {z : CZ} {g20 : Nat → Int32 → Int32 → Int32 → Int32 → Int32 → PH → Option Rs} {g50 : Nat → Int32 → Int32 → Int32 → Int32 → Int32 → Int32 → PH → Option Rs} {g91 : Nat → Int32 → Int32 → Int32 → Int32 → Int32 → Int32 → PH → Option Rs} (hk20 : SK (X12_breachesTo_x z) 20 (X12_breachesTo_u20 g20)) (hk50 : SK (X12_breachesTo_x z) 50 (X12_breachesTo_u50 g50)) (hk91 : SK (X12_breachesTo_x z) 91 (X12_breachesTo_u91 g91)) : SK (X12_breachesTo_x z) 34 (X12_breachesTo_u34 (X12_breachesTo_f34 g20 g50 g91)) := by
  intro ls st h r e
  obtain ⟨hst, e⟩ := gL_of e
  obtain ⟨t, q0, e⟩ := gT_of e
  obtain ⟨x1, q1, e⟩ := gI_of e
  obtain ⟨x2, q2, e⟩ := gI_of e
  obtain ⟨x3, q3, e⟩ := gI_of e
  obtain ⟨x4, q4, e⟩ := gI_of e
  obtain ⟨x5, q5, e⟩ := gI_of e
  obtain ⟨x6, q6, e⟩ := gI_of e
  rw [st_0 hst]
  exact WK.sub (canon := [some (.inr (11, t + 1)), some (.inl x1), some (.inl x2), some (.inl x3), some (.inl x4), some (.inl x5), some (.inl x6)]) rfl ⟨q0, q1, q2, q3, q4, q5, q6, trivial⟩ (X12_breachesTo_s34 hk20 hk50 hk91 _ _ _ _ ((X12_breachesTo_l34 g20 g50 g91 t x1 x2 x3 x4 x5 x6 h).trans e))
noncomputable def X12_breachesTo_f50 (c_X12_isBreach : Nat → Int32 → Int32 → Int32 → PH → Option Rs) (g91 : Nat → Int32 → Int32 → Int32 → Int32 → Int32 → Int32 → PH → Option Rs) (t : Nat) (x1 : Int32) (x2 : Int32) (x3 : Int32) (x4 : Int32) (x5 : Int32) (x6 : Int32) (h : PH) : Option Rs :=
  cI (c_X12_isBreach t x4 x5 x6 h) fun v6 h5 =>
  if v6 = 0 then
    g91 t x1 x2 x3 x4 x5 x6 h5
  else
    wr (pI h5 739 t 0 x4) fun h7 =>
    wr (pI h7 740 t 0 x5) fun h8 =>
    wr (pI h8 741 t 0 x6) fun h9 =>
    if x3 = x2 then
      some (some (.inl x3), h9)
    else
      g91 t x1 x2 (x3 + 1) x4 x5 x6 h9
set_option maxRecDepth 100000 in
theorem X12_breachesTo_l50 (c_X12_isBreach : Nat → Int32 → Int32 → Int32 → PH → Option Rs) (g91 : Nat → Int32 → Int32 → Int32 → Int32 → Int32 → Int32 → PH → Option Rs) (t : Nat) (x1 : Int32) (x2 : Int32) (x3 : Int32) (x4 : Int32) (x5 : Int32) (x6 : Int32) (h : PH) : X12_breachesTo_b50 c_X12_isBreach (X12_breachesTo_u91 g91) [some (.inr (11, t + 1)), some (.inl x1), some (.inl x2), some (.inl x3), some (.inl x4), some (.inl x5), some (.inl x6)] [] h = X12_breachesTo_f50 c_X12_isBreach g91 t x1 x2 x3 x4 x5 x6 h := rfl
theorem X12_breachesTo_m50 {c_X12_isBreach : Nat → Int32 → Int32 → Int32 → PH → Option Rs} {g91 G91 : Nat → Int32 → Int32 → Int32 → Int32 → Int32 → Int32 → PH → Option Rs} (hg91 : ∀ a0 a1 a2 a3 a4 a5 a6 a7, Mo (g91 a0 a1 a2 a3 a4 a5 a6 a7) (G91 a0 a1 a2 a3 a4 a5 a6 a7)) (t : Nat) (x1 : Int32) (x2 : Int32) (x3 : Int32) (x4 : Int32) (x5 : Int32) (x6 : Int32) (h : PH) : Mo (X12_breachesTo_f50 c_X12_isBreach g91 t x1 x2 x3 x4 x5 x6 h) (X12_breachesTo_f50 c_X12_isBreach G91 t x1 x2 x3 x4 x5 x6 h) := (mo_cI fun v6 h5 => (mo_if (hg91 t x1 x2 x3 x4 x5 x6 h5) (mo_wr fun h7 => (mo_wr fun h8 => (mo_wr fun h9 => (mo_if mo_rf (hg91 t x1 x2 (x3 + 1) x4 x5 x6 h9)))))))
theorem X12_breachesTo_w50 {z : CZ} {g91 : Nat → Int32 → Int32 → Int32 → Int32 → Int32 → Int32 → PH → Option Rs} (hk91 : SK (X12_breachesTo_x z) 91 (X12_breachesTo_u91 g91)) : SK (X12_breachesTo_x z) 50 (X12_breachesTo_u50 (X12_breachesTo_f50 X12_isBreach g91)) := by
  intro ls st h r e
  obtain ⟨hst, e⟩ := gL_of e
  obtain ⟨t, q0, e⟩ := gT_of e
  obtain ⟨x1, q1, e⟩ := gI_of e
  obtain ⟨x2, q2, e⟩ := gI_of e
  obtain ⟨x3, q3, e⟩ := gI_of e
  obtain ⟨x4, q4, e⟩ := gI_of e
  obtain ⟨x5, q5, e⟩ := gI_of e
  obtain ⟨x6, q6, e⟩ := gI_of e
  rw [st_0 hst]
  exact WK.sub (canon := [some (.inr (11, t + 1)), some (.inl x1), some (.inl x2), some (.inl x3), some (.inl x4), some (.inl x5), some (.inl x6)]) rfl ⟨q0, q1, q2, q3, q4, q5, q6, trivial⟩ (X12_breachesTo_s50 hk91 _ _ _ _ ((X12_breachesTo_l50 X12_isBreach g91 t x1 x2 x3 x4 x5 x6 h).trans e))
noncomputable def X12_breachesTo_f91 (g34 : Nat → Int32 → Int32 → Int32 → Int32 → Int32 → Int32 → PH → Option Rs) (t : Nat) (x1 : Int32) (x2 : Int32) (x3 : Int32) (x4 : Int32) (x5 : Int32) (x6 : Int32) (h : PH) : Option Rs :=
  g34 t x1 x2 x3 x4 x5 (x6 + 1) h
set_option maxRecDepth 100000 in
theorem X12_breachesTo_l91 (g34 : Nat → Int32 → Int32 → Int32 → Int32 → Int32 → Int32 → PH → Option Rs) (t : Nat) (x1 : Int32) (x2 : Int32) (x3 : Int32) (x4 : Int32) (x5 : Int32) (x6 : Int32) (h : PH) : X12_breachesTo_b91 (X12_breachesTo_u34 g34) [some (.inr (11, t + 1)), some (.inl x1), some (.inl x2), some (.inl x3), some (.inl x4), some (.inl x5), some (.inl x6)] [] h = X12_breachesTo_f91 g34 t x1 x2 x3 x4 x5 x6 h := rfl
theorem X12_breachesTo_m91 {g34 G34 : Nat → Int32 → Int32 → Int32 → Int32 → Int32 → Int32 → PH → Option Rs} (hg34 : ∀ a0 a1 a2 a3 a4 a5 a6 a7, Mo (g34 a0 a1 a2 a3 a4 a5 a6 a7) (G34 a0 a1 a2 a3 a4 a5 a6 a7)) (t : Nat) (x1 : Int32) (x2 : Int32) (x3 : Int32) (x4 : Int32) (x5 : Int32) (x6 : Int32) (h : PH) : Mo (X12_breachesTo_f91 g34 t x1 x2 x3 x4 x5 x6 h) (X12_breachesTo_f91 G34 t x1 x2 x3 x4 x5 x6 h) := (hg34 t x1 x2 x3 x4 x5 (x6 + 1) h)
theorem X12_breachesTo_w91 {z : CZ} {g34 : Nat → Int32 → Int32 → Int32 → Int32 → Int32 → Int32 → PH → Option Rs} (hk34 : SK (X12_breachesTo_x z) 34 (X12_breachesTo_u34 g34)) : SK (X12_breachesTo_x z) 91 (X12_breachesTo_u91 (X12_breachesTo_f91 g34)) := by
  intro ls st h r e
  obtain ⟨hst, e⟩ := gL_of e
  obtain ⟨t, q0, e⟩ := gT_of e
  obtain ⟨x1, q1, e⟩ := gI_of e
  obtain ⟨x2, q2, e⟩ := gI_of e
  obtain ⟨x3, q3, e⟩ := gI_of e
  obtain ⟨x4, q4, e⟩ := gI_of e
  obtain ⟨x5, q5, e⟩ := gI_of e
  obtain ⟨x6, q6, e⟩ := gI_of e
  rw [st_0 hst]
  exact WK.sub (canon := [some (.inr (11, t + 1)), some (.inl x1), some (.inl x2), some (.inl x3), some (.inl x4), some (.inl x5), some (.inl x6)]) rfl ⟨q0, q1, q2, q3, q4, q5, q6, trivial⟩ (X12_breachesTo_s91 hk34 _ _ _ _ ((X12_breachesTo_l91 g34 t x1 x2 x3 x4 x5 x6 h).trans e))
noncomputable def X12_breachesTo_g0 (G : (Nat → Int32 → Int32 → Int32 → Int32 → PH → Option Rs) × (Nat → Int32 → Int32 → Int32 → Int32 → Int32 → PH → Option Rs) × (Nat → Int32 → Int32 → Int32 → Int32 → Int32 → Int32 → PH → Option Rs)) (t : Nat) (x1 : Int32) (x2 : Int32) (h : PH) : Option Rs := X12_breachesTo_f0 (G).1 t x1 x2 h
noncomputable def X12_breachesTo_g5 (G : (Nat → Int32 → Int32 → Int32 → Int32 → PH → Option Rs) × (Nat → Int32 → Int32 → Int32 → Int32 → Int32 → PH → Option Rs) × (Nat → Int32 → Int32 → Int32 → Int32 → Int32 → Int32 → PH → Option Rs)) (t : Nat) (x1 : Int32) (x2 : Int32) (x3 : Int32) (x4 : Int32) (h : PH) : Option Rs := X12_breachesTo_f5 (G).2.1 t x1 x2 x3 x4 h
noncomputable def X12_breachesTo_g20 (G : (Nat → Int32 → Int32 → Int32 → Int32 → PH → Option Rs) × (Nat → Int32 → Int32 → Int32 → Int32 → Int32 → PH → Option Rs) × (Nat → Int32 → Int32 → Int32 → Int32 → Int32 → Int32 → PH → Option Rs)) (t : Nat) (x1 : Int32) (x2 : Int32) (x3 : Int32) (x4 : Int32) (x5 : Int32) (h : PH) : Option Rs := X12_breachesTo_f20 X12_rowsOf (G).1 (G).2.2 t x1 x2 x3 x4 x5 h
noncomputable def X12_breachesTo_g91 (G : (Nat → Int32 → Int32 → Int32 → Int32 → PH → Option Rs) × (Nat → Int32 → Int32 → Int32 → Int32 → Int32 → PH → Option Rs) × (Nat → Int32 → Int32 → Int32 → Int32 → Int32 → Int32 → PH → Option Rs)) (t : Nat) (x1 : Int32) (x2 : Int32) (x3 : Int32) (x4 : Int32) (x5 : Int32) (x6 : Int32) (h : PH) : Option Rs := X12_breachesTo_f91 (G).2.2 t x1 x2 x3 x4 x5 x6 h
noncomputable def X12_breachesTo_g50 (G : (Nat → Int32 → Int32 → Int32 → Int32 → PH → Option Rs) × (Nat → Int32 → Int32 → Int32 → Int32 → Int32 → PH → Option Rs) × (Nat → Int32 → Int32 → Int32 → Int32 → Int32 → Int32 → PH → Option Rs)) (t : Nat) (x1 : Int32) (x2 : Int32) (x3 : Int32) (x4 : Int32) (x5 : Int32) (x6 : Int32) (h : PH) : Option Rs := X12_breachesTo_f50 X12_isBreach (X12_breachesTo_g91 G) t x1 x2 x3 x4 x5 x6 h
noncomputable def X12_breachesTo_g34 (G : (Nat → Int32 → Int32 → Int32 → Int32 → PH → Option Rs) × (Nat → Int32 → Int32 → Int32 → Int32 → Int32 → PH → Option Rs) × (Nat → Int32 → Int32 → Int32 → Int32 → Int32 → Int32 → PH → Option Rs)) (t : Nat) (x1 : Int32) (x2 : Int32) (x3 : Int32) (x4 : Int32) (x5 : Int32) (x6 : Int32) (h : PH) : Option Rs := X12_breachesTo_f34 (G).2.1 (X12_breachesTo_g50 G) (X12_breachesTo_g91 G) t x1 x2 x3 x4 x5 x6 h
theorem X12_breachesTo_v5 {z : CZ} {G : (Nat → Int32 → Int32 → Int32 → Int32 → PH → Option Rs) × (Nat → Int32 → Int32 → Int32 → Int32 → Int32 → PH → Option Rs) × (Nat → Int32 → Int32 → Int32 → Int32 → Int32 → Int32 → PH → Option Rs)} (hG5 : SK (X12_breachesTo_x z) 5 (X12_breachesTo_u5 (G).1)) (hG20 : SK (X12_breachesTo_x z) 20 (X12_breachesTo_u20 (G).2.1)) (hG34 : SK (X12_breachesTo_x z) 34 (X12_breachesTo_u34 (G).2.2)) : SK (X12_breachesTo_x z) 5 (X12_breachesTo_u5 (X12_breachesTo_g5 G)) := X12_breachesTo_w5 hG20
theorem X12_breachesTo_v20 {z : CZ} {G : (Nat → Int32 → Int32 → Int32 → Int32 → PH → Option Rs) × (Nat → Int32 → Int32 → Int32 → Int32 → Int32 → PH → Option Rs) × (Nat → Int32 → Int32 → Int32 → Int32 → Int32 → Int32 → PH → Option Rs)} (hG5 : SK (X12_breachesTo_x z) 5 (X12_breachesTo_u5 (G).1)) (hG20 : SK (X12_breachesTo_x z) 20 (X12_breachesTo_u20 (G).2.1)) (hG34 : SK (X12_breachesTo_x z) 34 (X12_breachesTo_u34 (G).2.2)) : SK (X12_breachesTo_x z) 20 (X12_breachesTo_u20 (X12_breachesTo_g20 G)) := X12_breachesTo_w20 hG5 hG34
theorem X12_breachesTo_v91 {z : CZ} {G : (Nat → Int32 → Int32 → Int32 → Int32 → PH → Option Rs) × (Nat → Int32 → Int32 → Int32 → Int32 → Int32 → PH → Option Rs) × (Nat → Int32 → Int32 → Int32 → Int32 → Int32 → Int32 → PH → Option Rs)} (hG5 : SK (X12_breachesTo_x z) 5 (X12_breachesTo_u5 (G).1)) (hG20 : SK (X12_breachesTo_x z) 20 (X12_breachesTo_u20 (G).2.1)) (hG34 : SK (X12_breachesTo_x z) 34 (X12_breachesTo_u34 (G).2.2)) : SK (X12_breachesTo_x z) 91 (X12_breachesTo_u91 (X12_breachesTo_g91 G)) := X12_breachesTo_w91 hG34
theorem X12_breachesTo_v50 {z : CZ} {G : (Nat → Int32 → Int32 → Int32 → Int32 → PH → Option Rs) × (Nat → Int32 → Int32 → Int32 → Int32 → Int32 → PH → Option Rs) × (Nat → Int32 → Int32 → Int32 → Int32 → Int32 → Int32 → PH → Option Rs)} (hG5 : SK (X12_breachesTo_x z) 5 (X12_breachesTo_u5 (G).1)) (hG20 : SK (X12_breachesTo_x z) 20 (X12_breachesTo_u20 (G).2.1)) (hG34 : SK (X12_breachesTo_x z) 34 (X12_breachesTo_u34 (G).2.2)) : SK (X12_breachesTo_x z) 50 (X12_breachesTo_u50 (X12_breachesTo_g50 G)) := X12_breachesTo_w50 (X12_breachesTo_v91 hG5 hG20 hG34)
theorem X12_breachesTo_v34 {z : CZ} {G : (Nat → Int32 → Int32 → Int32 → Int32 → PH → Option Rs) × (Nat → Int32 → Int32 → Int32 → Int32 → Int32 → PH → Option Rs) × (Nat → Int32 → Int32 → Int32 → Int32 → Int32 → Int32 → PH → Option Rs)} (hG5 : SK (X12_breachesTo_x z) 5 (X12_breachesTo_u5 (G).1)) (hG20 : SK (X12_breachesTo_x z) 20 (X12_breachesTo_u20 (G).2.1)) (hG34 : SK (X12_breachesTo_x z) 34 (X12_breachesTo_u34 (G).2.2)) : SK (X12_breachesTo_x z) 34 (X12_breachesTo_u34 (X12_breachesTo_g34 G)) := X12_breachesTo_w34 hG20 (X12_breachesTo_v50 hG5 hG20 hG34) (X12_breachesTo_v91 hG5 hG20 hG34)
noncomputable def X12_breachesTo_fam : Nat → (Nat → Int32 → Int32 → Int32 → Int32 → PH → Option Rs) × (Nat → Int32 → Int32 → Int32 → Int32 → Int32 → PH → Option Rs) × (Nat → Int32 → Int32 → Int32 → Int32 → Int32 → Int32 → PH → Option Rs)
  | 0 => (fun _ _ _ _ _ _ => none, fun _ _ _ _ _ _ _ => none, fun _ _ _ _ _ _ _ _ => none)
  | n + 1 => (X12_breachesTo_g5 (X12_breachesTo_fam n), X12_breachesTo_g20 (X12_breachesTo_fam n), X12_breachesTo_g34 (X12_breachesTo_fam n))
theorem X12_breachesTo_k {z : CZ} : ∀ n, SK (X12_breachesTo_x z) 5 (X12_breachesTo_u5 (X12_breachesTo_fam n).1) ∧ SK (X12_breachesTo_x z) 20 (X12_breachesTo_u20 (X12_breachesTo_fam n).2.1) ∧ SK (X12_breachesTo_x z) 34 (X12_breachesTo_u34 (X12_breachesTo_fam n).2.2)
  | 0 => ⟨(fun ls st h r e => by
      obtain ⟨_, e⟩ := gL_of e
      obtain ⟨_, _, e⟩ := gT_of e
      obtain ⟨_, _, e⟩ := gI_of e
      obtain ⟨_, _, e⟩ := gI_of e
      obtain ⟨_, _, e⟩ := gI_of e
      obtain ⟨_, _, e⟩ := gI_of e
      cases e), (fun ls st h r e => by
      obtain ⟨_, e⟩ := gL_of e
      obtain ⟨_, _, e⟩ := gT_of e
      obtain ⟨_, _, e⟩ := gI_of e
      obtain ⟨_, _, e⟩ := gI_of e
      obtain ⟨_, _, e⟩ := gI_of e
      obtain ⟨_, _, e⟩ := gI_of e
      obtain ⟨_, _, e⟩ := gI_of e
      cases e), (fun ls st h r e => by
      obtain ⟨_, e⟩ := gL_of e
      obtain ⟨_, _, e⟩ := gT_of e
      obtain ⟨_, _, e⟩ := gI_of e
      obtain ⟨_, _, e⟩ := gI_of e
      obtain ⟨_, _, e⟩ := gI_of e
      obtain ⟨_, _, e⟩ := gI_of e
      obtain ⟨_, _, e⟩ := gI_of e
      obtain ⟨_, _, e⟩ := gI_of e
      cases e)⟩
  | n + 1 => by
    obtain ⟨ih5, ih20, ih34⟩ := X12_breachesTo_k n
    exact ⟨X12_breachesTo_v5 ih5 ih20 ih34, X12_breachesTo_v20 ih5 ih20 ih34, X12_breachesTo_v34 ih5 ih20 ih34⟩
theorem X12_breachesTo_n0 {G G' : (Nat → Int32 → Int32 → Int32 → Int32 → PH → Option Rs) × (Nat → Int32 → Int32 → Int32 → Int32 → Int32 → PH → Option Rs) × (Nat → Int32 → Int32 → Int32 → Int32 → Int32 → Int32 → PH → Option Rs)} (hg5 : ∀ a0 a1 a2 a3 a4 a5, Mo ((G).1 a0 a1 a2 a3 a4 a5) ((G').1 a0 a1 a2 a3 a4 a5)) (hg20 : ∀ a0 a1 a2 a3 a4 a5 a6, Mo ((G).2.1 a0 a1 a2 a3 a4 a5 a6) ((G').2.1 a0 a1 a2 a3 a4 a5 a6)) (hg34 : ∀ a0 a1 a2 a3 a4 a5 a6 a7, Mo ((G).2.2 a0 a1 a2 a3 a4 a5 a6 a7) ((G').2.2 a0 a1 a2 a3 a4 a5 a6 a7)) (t : Nat) (x1 : Int32) (x2 : Int32) (h : PH) : Mo (X12_breachesTo_g0 G t x1 x2 h) (X12_breachesTo_g0 G' t x1 x2 h) := X12_breachesTo_m0 hg5 t x1 x2 h
theorem X12_breachesTo_n5 {G G' : (Nat → Int32 → Int32 → Int32 → Int32 → PH → Option Rs) × (Nat → Int32 → Int32 → Int32 → Int32 → Int32 → PH → Option Rs) × (Nat → Int32 → Int32 → Int32 → Int32 → Int32 → Int32 → PH → Option Rs)} (hg5 : ∀ a0 a1 a2 a3 a4 a5, Mo ((G).1 a0 a1 a2 a3 a4 a5) ((G').1 a0 a1 a2 a3 a4 a5)) (hg20 : ∀ a0 a1 a2 a3 a4 a5 a6, Mo ((G).2.1 a0 a1 a2 a3 a4 a5 a6) ((G').2.1 a0 a1 a2 a3 a4 a5 a6)) (hg34 : ∀ a0 a1 a2 a3 a4 a5 a6 a7, Mo ((G).2.2 a0 a1 a2 a3 a4 a5 a6 a7) ((G').2.2 a0 a1 a2 a3 a4 a5 a6 a7)) (t : Nat) (x1 : Int32) (x2 : Int32) (x3 : Int32) (x4 : Int32) (h : PH) : Mo (X12_breachesTo_g5 G t x1 x2 x3 x4 h) (X12_breachesTo_g5 G' t x1 x2 x3 x4 h) := X12_breachesTo_m5 hg20 t x1 x2 x3 x4 h
theorem X12_breachesTo_n20 {G G' : (Nat → Int32 → Int32 → Int32 → Int32 → PH → Option Rs) × (Nat → Int32 → Int32 → Int32 → Int32 → Int32 → PH → Option Rs) × (Nat → Int32 → Int32 → Int32 → Int32 → Int32 → Int32 → PH → Option Rs)} (hg5 : ∀ a0 a1 a2 a3 a4 a5, Mo ((G).1 a0 a1 a2 a3 a4 a5) ((G').1 a0 a1 a2 a3 a4 a5)) (hg20 : ∀ a0 a1 a2 a3 a4 a5 a6, Mo ((G).2.1 a0 a1 a2 a3 a4 a5 a6) ((G').2.1 a0 a1 a2 a3 a4 a5 a6)) (hg34 : ∀ a0 a1 a2 a3 a4 a5 a6 a7, Mo ((G).2.2 a0 a1 a2 a3 a4 a5 a6 a7) ((G').2.2 a0 a1 a2 a3 a4 a5 a6 a7)) (t : Nat) (x1 : Int32) (x2 : Int32) (x3 : Int32) (x4 : Int32) (x5 : Int32) (h : PH) : Mo (X12_breachesTo_g20 G t x1 x2 x3 x4 x5 h) (X12_breachesTo_g20 G' t x1 x2 x3 x4 x5 h) := X12_breachesTo_m20 hg5 hg34 t x1 x2 x3 x4 x5 h
theorem X12_breachesTo_n91 {G G' : (Nat → Int32 → Int32 → Int32 → Int32 → PH → Option Rs) × (Nat → Int32 → Int32 → Int32 → Int32 → Int32 → PH → Option Rs) × (Nat → Int32 → Int32 → Int32 → Int32 → Int32 → Int32 → PH → Option Rs)} (hg5 : ∀ a0 a1 a2 a3 a4 a5, Mo ((G).1 a0 a1 a2 a3 a4 a5) ((G').1 a0 a1 a2 a3 a4 a5)) (hg20 : ∀ a0 a1 a2 a3 a4 a5 a6, Mo ((G).2.1 a0 a1 a2 a3 a4 a5 a6) ((G').2.1 a0 a1 a2 a3 a4 a5 a6)) (hg34 : ∀ a0 a1 a2 a3 a4 a5 a6 a7, Mo ((G).2.2 a0 a1 a2 a3 a4 a5 a6 a7) ((G').2.2 a0 a1 a2 a3 a4 a5 a6 a7)) (t : Nat) (x1 : Int32) (x2 : Int32) (x3 : Int32) (x4 : Int32) (x5 : Int32) (x6 : Int32) (h : PH) : Mo (X12_breachesTo_g91 G t x1 x2 x3 x4 x5 x6 h) (X12_breachesTo_g91 G' t x1 x2 x3 x4 x5 x6 h) := X12_breachesTo_m91 hg34 t x1 x2 x3 x4 x5 x6 h
theorem X12_breachesTo_n50 {G G' : (Nat → Int32 → Int32 → Int32 → Int32 → PH → Option Rs) × (Nat → Int32 → Int32 → Int32 → Int32 → Int32 → PH → Option Rs) × (Nat → Int32 → Int32 → Int32 → Int32 → Int32 → Int32 → PH → Option Rs)} (hg5 : ∀ a0 a1 a2 a3 a4 a5, Mo ((G).1 a0 a1 a2 a3 a4 a5) ((G').1 a0 a1 a2 a3 a4 a5)) (hg20 : ∀ a0 a1 a2 a3 a4 a5 a6, Mo ((G).2.1 a0 a1 a2 a3 a4 a5 a6) ((G').2.1 a0 a1 a2 a3 a4 a5 a6)) (hg34 : ∀ a0 a1 a2 a3 a4 a5 a6 a7, Mo ((G).2.2 a0 a1 a2 a3 a4 a5 a6 a7) ((G').2.2 a0 a1 a2 a3 a4 a5 a6 a7)) (t : Nat) (x1 : Int32) (x2 : Int32) (x3 : Int32) (x4 : Int32) (x5 : Int32) (x6 : Int32) (h : PH) : Mo (X12_breachesTo_g50 G t x1 x2 x3 x4 x5 x6 h) (X12_breachesTo_g50 G' t x1 x2 x3 x4 x5 x6 h) := X12_breachesTo_m50 (fun a0 a1 a2 a3 a4 a5 a6 a7 => X12_breachesTo_n91 hg5 hg20 hg34 a0 a1 a2 a3 a4 a5 a6 a7) t x1 x2 x3 x4 x5 x6 h
theorem X12_breachesTo_n34 {G G' : (Nat → Int32 → Int32 → Int32 → Int32 → PH → Option Rs) × (Nat → Int32 → Int32 → Int32 → Int32 → Int32 → PH → Option Rs) × (Nat → Int32 → Int32 → Int32 → Int32 → Int32 → Int32 → PH → Option Rs)} (hg5 : ∀ a0 a1 a2 a3 a4 a5, Mo ((G).1 a0 a1 a2 a3 a4 a5) ((G').1 a0 a1 a2 a3 a4 a5)) (hg20 : ∀ a0 a1 a2 a3 a4 a5 a6, Mo ((G).2.1 a0 a1 a2 a3 a4 a5 a6) ((G').2.1 a0 a1 a2 a3 a4 a5 a6)) (hg34 : ∀ a0 a1 a2 a3 a4 a5 a6 a7, Mo ((G).2.2 a0 a1 a2 a3 a4 a5 a6 a7) ((G').2.2 a0 a1 a2 a3 a4 a5 a6 a7)) (t : Nat) (x1 : Int32) (x2 : Int32) (x3 : Int32) (x4 : Int32) (x5 : Int32) (x6 : Int32) (h : PH) : Mo (X12_breachesTo_g34 G t x1 x2 x3 x4 x5 x6 h) (X12_breachesTo_g34 G' t x1 x2 x3 x4 x5 x6 h) := X12_breachesTo_m34 hg20 (fun a0 a1 a2 a3 a4 a5 a6 a7 => X12_breachesTo_n50 hg5 hg20 hg34 a0 a1 a2 a3 a4 a5 a6 a7) (fun a0 a1 a2 a3 a4 a5 a6 a7 => X12_breachesTo_n91 hg5 hg20 hg34 a0 a1 a2 a3 a4 a5 a6 a7) t x1 x2 x3 x4 x5 x6 h
theorem X12_breachesTo_fm : ∀ n, (∀ a0 a1 a2 a3 a4 a5, Mo ((X12_breachesTo_fam n).1 a0 a1 a2 a3 a4 a5) ((X12_breachesTo_fam (n + 1)).1 a0 a1 a2 a3 a4 a5)) ∧ (∀ a0 a1 a2 a3 a4 a5 a6, Mo ((X12_breachesTo_fam n).2.1 a0 a1 a2 a3 a4 a5 a6) ((X12_breachesTo_fam (n + 1)).2.1 a0 a1 a2 a3 a4 a5 a6)) ∧ (∀ a0 a1 a2 a3 a4 a5 a6 a7, Mo ((X12_breachesTo_fam n).2.2 a0 a1 a2 a3 a4 a5 a6 a7) ((X12_breachesTo_fam (n + 1)).2.2 a0 a1 a2 a3 a4 a5 a6 a7))
  | 0 => ⟨fun _ _ _ _ _ _ => mo_no, fun _ _ _ _ _ _ _ => mo_no, fun _ _ _ _ _ _ _ _ => mo_no⟩
  | n + 1 => by
    obtain ⟨ih5, ih20, ih34⟩ := X12_breachesTo_fm n
    exact ⟨fun a0 a1 a2 a3 a4 a5 => X12_breachesTo_n5 ih5 ih20 ih34 a0 a1 a2 a3 a4 a5, fun a0 a1 a2 a3 a4 a5 a6 => X12_breachesTo_n20 ih5 ih20 ih34 a0 a1 a2 a3 a4 a5 a6, fun a0 a1 a2 a3 a4 a5 a6 a7 => X12_breachesTo_n34 ih5 ih20 ih34 a0 a1 a2 a3 a4 a5 a6 a7⟩
noncomputable def X12_breachesTo (t : Nat) (x1 : Int32) (x2 : Int32) (h : PH) : Option Rs := lim (fun n => X12_breachesTo_g0 (X12_breachesTo_fam n) t x1 x2 h)
theorem X12_breachesTo_iff {t : Nat} {x1 : Int32} {x2 : Int32} {h : PH} {r : Rs} : X12_breachesTo t x1 x2 h = some r ↔ ∃ n, X12_breachesTo_g0 (X12_breachesTo_fam n) t x1 x2 h = some r := lim_iff (fun n => by
  obtain ⟨ih5, ih20, ih34⟩ := X12_breachesTo_fm n
  exact X12_breachesTo_n0 ih5 ih20 ih34 t x1 x2 h)
noncomputable abbrev X12_breachesTo_F : List PV → PH → Option Rs := FW_T11II (X12_breachesTo)
set_option maxRecDepth 100000 in
theorem X12_breachesTo_gd (l : Launch) : Gd l 4 yX12_breachesTo cX12_breachesTo 7 (some .int) (X12_breachesTo_F)   := Gd_of (by decide +kernel) (fun z hzl as h r e => by
  obtain ⟨hst, e⟩ := gL_of e
  obtain ⟨t, q0, e⟩ := gT_of e
  obtain ⟨x1, q1, e⟩ := gI_of e
  obtain ⟨x2, q2, e⟩ := gI_of e
  rw [st_3 hst q0 q1 q2]
  obtain ⟨n, e⟩ := lim_of e
  obtain ⟨hG5, hG20, hG34⟩ := X12_breachesTo_k (z := z) n
  exact ⟨show 3 ≤ 7 by decide, X12_breachesTo_s0 hG5 _ _ _ _ ((X12_breachesTo_l0 (X12_breachesTo_fam n).1 t x1 x2 h).trans e)⟩)
abbrev X12_breaches_x (z : CZ) : CX := mx RX12 cX12_breaches 2 5 (some .int) "breaches" z
noncomputable def X12_breaches_b0 (c_X12_in : Int32 → Int32 → Int32 → PH → Option Rs) (c_X12_breachesTo : Nat → Int32 → Int32 → PH → Option Rs) : Kn := (a_il 1 (a_ic 0 (a_ic 4 (a_sI 3 (FW_III c_X12_in) (a_z (a_ic (-1000000001) a_ir) (a_al 0 (a_il 1 (a_ic (-1) (a_vI 11 2 (FW_T11II c_X12_breachesTo) a_ir)))))))))
set_option maxRecDepth 100000 in
theorem X12_breaches_s0 {z : CZ} : SK (X12_breaches_x z) 0 (X12_breaches_b0 X12_in X12_breachesTo) := (s_iloadn (pc := 0) dX12_breaches_0 rfl (s_iconst (pc := 1) dX12_breaches_1 c_ic_0 (s_iconst (pc := 2) dX12_breaches_2 c_ic_4 (s_sI (pc := 3) (run_static (X12_in_gd _) (show 0 < 5 by decide) cy_X12_in w_1464 w_1463 dX12_breaches_3) (s_ifeq (pc := 6) dX12_breaches_6 (by decide) (s_ldc (pc := 18) w_1466 dX12_breaches_18 (s_ir (pc := 20) rfl dX12_breaches_20)) (s_aloadn (pc := 9) dX12_breaches_9 rfl (s_iloadn (pc := 10) dX12_breaches_10 rfl (s_iconst (pc := 11) dX12_breaches_11 c_ic_m1 (s_vI (pc := 12) (run_virtual (X12_breachesTo_gd _) (show 4 < 5 by decide) cy_X12_breachesTo (by decide) rfl w_1734 w_s66 w_1732 dX12_breaches_12) (s_goto (pc := 15) dX12_breaches_15 (by decide) (s_ir (pc := 20) rfl dX12_breaches_20)))))))))))
noncomputable def X12_breaches_f0 (c_X12_in : Int32 → Int32 → Int32 → PH → Option Rs) (c_X12_breachesTo : Nat → Int32 → Int32 → PH → Option Rs) (t : Nat) (x1 : Int32) (h : PH) : Option Rs :=
  cI (c_X12_in x1 0 4 h) fun v2 h1 =>
  if v2 = 0 then
    some (some (.inl (-1000000001)), h1)
  else
    cI (c_X12_breachesTo t x1 (-1) h1) fun v4 h3 =>
    some (some (.inl v4), h3)
set_option maxRecDepth 100000 in
theorem X12_breaches_l0 (c_X12_in : Int32 → Int32 → Int32 → PH → Option Rs) (c_X12_breachesTo : Nat → Int32 → Int32 → PH → Option Rs) (t : Nat) (x1 : Int32) (h : PH) : X12_breaches_b0 c_X12_in c_X12_breachesTo [some (.inr (11, t + 1)), some (.inl x1)] [] h = X12_breaches_f0 c_X12_in c_X12_breachesTo t x1 h := rfl
noncomputable def X12_breaches_g0 (t : Nat) (x1 : Int32) (h : PH) : Option Rs := X12_breaches_f0 X12_in X12_breachesTo t x1 h
noncomputable def X12_breaches (t : Nat) (x1 : Int32) (h : PH) : Option Rs := X12_breaches_g0 t x1 h
noncomputable abbrev X12_breaches_F : List PV → PH → Option Rs := FW_T11I (X12_breaches)
set_option maxRecDepth 100000 in
theorem X12_breaches_gd (l : Launch) : Gd l 5 yX12_breaches cX12_breaches 2 (some .int) (X12_breaches_F)   := Gd_of (by decide +kernel) (fun z hzl as h r e => by
  obtain ⟨hst, e⟩ := gL_of e
  obtain ⟨t, q0, e⟩ := gT_of e
  obtain ⟨x1, q1, e⟩ := gI_of e
  rw [st_2 hst q0 q1]
  exact ⟨show 2 ≤ 2 by decide, X12_breaches_s0 _ _ _ _ ((X12_breaches_l0 X12_in X12_breachesTo t x1 h).trans e)⟩)
abbrev X12_breach_x (z : CZ) : CX := mx RX12 cX12_breach 4 5 (some .int) "breach" z
noncomputable def X12_breach_b0 (c_X12_in : Int32 → Int32 → Int32 → PH → Option Rs) (c_X12_breachesTo : Nat → Int32 → Int32 → PH → Option Rs) : Kn := (a_il 2 (a_ic 0 (a_ic 2 (a_sI 3 (FW_III c_X12_in) (a_z (a_ic (-1000000001) a_ir) (a_il 1 (a_n (a_ic (-1000000001) a_ir) (a_il 1 (a_al 0 (a_ic 0 (a_ic (-1) (a_vI 11 2 (FW_T11II c_X12_breachesTo) (a_lt (a_al 0 (a_ic 0 (a_il 1 (a_vI 11 2 (FW_T11II c_X12_breachesTo) (a_is 3 (a_il 2 (a_z (a_al 0 (a_gI 11 739 a_ir)) (a_il 2 (a_ic 1 (a_eq (a_al 0 (a_gI 11 740 a_ir)) (a_al 0 (a_gI 11 741 a_ir)))))))))))) (a_ic (-1000000005) a_ir))))))))))))))
set_option maxRecDepth 100000 in
theorem X12_breach_s0 {z : CZ} : SK (X12_breach_x z) 0 (X12_breach_b0 X12_in X12_breachesTo) := (s_iloadn (pc := 0) dX12_breach_0 rfl (s_iconst (pc := 1) dX12_breach_1 c_ic_0 (s_iconst (pc := 2) dX12_breach_2 c_ic_2 (s_sI (pc := 3) (run_static (X12_in_gd _) (show 0 < 5 by decide) cy_X12_in w_1464 w_1463 dX12_breach_3) (s_ifeq (pc := 6) dX12_breach_6 (by decide) (s_ldc (pc := 13) w_1466 dX12_breach_13 (s_ir (pc := 15) rfl dX12_breach_15)) (s_iloadn (pc := 9) dX12_breach_9 rfl (s_ifge (pc := 10) dX12_breach_10 (by decide) (s_iloadn (pc := 16) dX12_breach_16 rfl (s_aloadn (pc := 17) dX12_breach_17 rfl (s_iconst (pc := 18) dX12_breach_18 c_ic_0 (s_iconst (pc := 19) dX12_breach_19 c_ic_m1 (s_vI (pc := 20) (run_virtual (X12_breachesTo_gd _) (show 4 < 5 by decide) cy_X12_breachesTo (by decide) rfl w_1734 w_s66 w_1732 dX12_breach_20) (s_cmplt (pc := 23) dX12_breach_23 (by decide) (s_aloadn (pc := 29) dX12_breach_29 rfl (s_iconst (pc := 30) dX12_breach_30 c_ic_0 (s_iloadn (pc := 31) dX12_breach_31 rfl (s_vI (pc := 32) (run_virtual (X12_breachesTo_gd _) (show 4 < 5 by decide) cy_X12_breachesTo (by decide) rfl w_1734 w_s66 w_1732 dX12_breach_32) (s_istoren (pc := 35) dX12_breach_35 rfl (show 3 < 4 by decide) (s_iloadn (pc := 36) dX12_breach_36 rfl (s_ifne (pc := 37) dX12_breach_37 (by decide) (s_iloadn (pc := 47) dX12_breach_47 rfl (s_iconst (pc := 48) dX12_breach_48 c_ic_1 (s_cmpne (pc := 49) dX12_breach_49 (by decide) (s_aloadn (pc := 59) dX12_breach_59 rfl (s_gI (pc := 60) (f := 37) ko_11 (by decide) rfl rfl w_1332 dX12_breach_60 (s_ir (pc := 63) rfl dX12_breach_63))) (s_aloadn (pc := 52) dX12_breach_52 rfl (s_gI (pc := 53) (f := 36) ko_11 (by decide) rfl rfl w_1331 dX12_breach_53 (s_goto (pc := 56) dX12_breach_56 (by decide) (s_ir (pc := 63) rfl dX12_breach_63))))))) (s_aloadn (pc := 40) dX12_breach_40 rfl (s_gI (pc := 41) (f := 35) ko_11 (by decide) rfl rfl w_1330 dX12_breach_41 (s_goto (pc := 44) dX12_breach_44 (by decide) (s_ir (pc := 63) rfl dX12_breach_63))))))))))) (s_ldc (pc := 26) w_1515 dX12_breach_26 (s_ir (pc := 28) rfl dX12_breach_28)))))))) (s_ldc (pc := 13) w_1466 dX12_breach_13 (s_ir (pc := 15) rfl dX12_breach_15)))))))))
noncomputable def X12_breach_f0 (c_X12_in : Int32 → Int32 → Int32 → PH → Option Rs) (c_X12_breachesTo : Nat → Int32 → Int32 → PH → Option Rs) (t : Nat) (x1 : Int32) (x2 : Int32) (h : PH) : Option Rs :=
  cI (c_X12_in x2 0 2 h) fun v2 h1 =>
  if v2 = 0 then
    some (some (.inl (-1000000001)), h1)
  else
    if x1 < 0 then
      some (some (.inl (-1000000001)), h1)
    else
      cI (c_X12_breachesTo t 0 (-1) h1) fun v4 h3 =>
      if x1 < v4 then
        cI (c_X12_breachesTo t 0 x1 h3) fun v6 h5 =>
        if x2 = 0 then
          some (some (.inl (hI h5 739 t 0)), h5)
        else
          if x2 = 1 then
            some (some (.inl (hI h5 740 t 0)), h5)
          else
            some (some (.inl (hI h5 741 t 0)), h5)
      else
        some (some (.inl (-1000000005)), h3)
set_option maxRecDepth 100000 in
theorem X12_breach_l0 (c_X12_in : Int32 → Int32 → Int32 → PH → Option Rs) (c_X12_breachesTo : Nat → Int32 → Int32 → PH → Option Rs) (t : Nat) (x1 : Int32) (x2 : Int32) (h : PH) : X12_breach_b0 c_X12_in c_X12_breachesTo [some (.inr (11, t + 1)), some (.inl x1), some (.inl x2), none] [] h = X12_breach_f0 c_X12_in c_X12_breachesTo t x1 x2 h := rfl
noncomputable def X12_breach_g0 (t : Nat) (x1 : Int32) (x2 : Int32) (h : PH) : Option Rs := X12_breach_f0 X12_in X12_breachesTo t x1 x2 h
noncomputable def X12_breach (t : Nat) (x1 : Int32) (x2 : Int32) (h : PH) : Option Rs := X12_breach_g0 t x1 x2 h
noncomputable abbrev X12_breach_F : List PV → PH → Option Rs := FW_T11II (X12_breach)
set_option maxRecDepth 100000 in
theorem X12_breach_gd (l : Launch) : Gd l 5 yX12_breach cX12_breach 4 (some .int) (X12_breach_F)   := Gd_of (by decide +kernel) (fun z hzl as h r e => by
  obtain ⟨hst, e⟩ := gL_of e
  obtain ⟨t, q0, e⟩ := gT_of e
  obtain ⟨x1, q1, e⟩ := gI_of e
  obtain ⟨x2, q2, e⟩ := gI_of e
  rw [st_3 hst q0 q1 q2]
  exact ⟨show 3 ≤ 4 by decide, X12_breach_s0 _ _ _ _ ((X12_breach_l0 X12_in X12_breachesTo t x1 x2 h).trans e)⟩)
abbrev X12_needs_x (z : CZ) : CX := mx RX12 cX12_needs 9 4 (some .int) "needs" z
noncomputable def X12_needs_b0 (c_X12_isPlace : Nat → Int32 → PH → Option Rs) (c_X12_areWheels : Int32 → PH → Option Rs) (c_X12_looks : Nat → Int32 → PH → Option Rs) (k28 : Kn) : Kn := (a_al 0 (a_il 1 (a_vI 11 1 (FW_T11I c_X12_isPlace) (a_z (a_ic (-1000000001) a_ir) (a_il 2 (a_sI 1 (FW_I c_X12_areWheels) (a_z (a_ic (-1000000001) a_ir) (a_al 0 (a_il 2 (a_vV 11 1 (FW_T11I c_X12_looks) (a_ic 0 (a_is 3 (a_ic 0 (a_is 4 k28))))))))))))))
set_option maxRecDepth 100000 in
theorem X12_needs_s0 {z : CZ} {k28 : Kn} (hk28 : SK (X12_needs_x z) 28 k28) : SK (X12_needs_x z) 0 (X12_needs_b0 X12_isPlace X12_areWheels X12_looks k28) := (s_aloadn (pc := 0) dX12_needs_0 rfl (s_iloadn (pc := 1) dX12_needs_1 rfl (s_vI (pc := 2) (run_virtual (X12_isPlace_gd _) (show 1 < 4 by decide) cy_X12_isPlace (by decide) rfl w_1461 w_s29 w_1459 dX12_needs_2) (s_ifeq (pc := 5) dX12_needs_5 (by decide) (s_ldc (pc := 15) w_1466 dX12_needs_15 (s_ir (pc := 17) rfl dX12_needs_17)) (s_iloadn (pc := 8) dX12_needs_8 rfl (s_sI (pc := 9) (run_static (X12_areWheels_gd _) (show 1 < 4 by decide) cy_X12_areWheels w_1673 w_1672 dX12_needs_9) (s_ifne (pc := 12) dX12_needs_12 (by decide) (s_aloadn (pc := 18) dX12_needs_18 rfl (s_iloadn (pc := 19) dX12_needs_19 rfl (s_vV (pc := 20) (run_virtual (X12_looks_gd _) (show 3 < 4 by decide) cy_X12_looks (by decide) rfl w_1677 w_s56 w_1675 dX12_needs_20) (s_iconst (pc := 23) dX12_needs_23 c_ic_0 (s_istoren (pc := 24) dX12_needs_24 rfl (show 3 < 9 by decide) (s_iconst (pc := 25) dX12_needs_25 c_ic_0 (s_istore (pc := 26) dX12_needs_26 (show 4 < 9 by decide) hk28))))))) (s_ldc (pc := 15) w_1466 dX12_needs_15 (s_ir (pc := 17) rfl dX12_needs_17)))))))))
noncomputable def X12_needs_b28 (c_X12_findAway : Nat → Int32 → PH → Option Rs) (c_X12_nextFrom : Nat → Int32 → PH → Option Rs) (c_X12_groupOf : Nat → Int32 → PH → Option Rs) (k82 k93 : Kn) : Kn := (a_il 4 (a_al 0 (a_gR 11 704 41 (a_ic 5 (a_ald 41 2624 (a_lt (a_al 0 (a_il 4 (a_vV 11 1 (FW_T11I c_X12_findAway) (a_al 0 (a_gR 11 744 61 (a_il 4 (a_al 0 (a_il 1 (a_vI 11 1 (FW_T11I c_X12_nextFrom) (a_ast 61 3904 (fun a => a) (a_il 3 (a_al 0 (a_gR 11 744 61 (a_il 4 (a_ald 61 3904 (a_n (a_ic 0 k82) (a_al 0 (a_il 4 (a_vI 11 1 (FW_T11I c_X12_groupOf) (a_n (a_ic 1 k82) (a_ic 0 k82))))))))))))))))))))) (a_ic 0 (a_is 4 k93))))))))
set_option maxRecDepth 100000 in
theorem X12_needs_s28 {z : CZ} {k82 k93 : Kn} (hk82 : SK (X12_needs_x z) 82 k82) (hk93 : SK (X12_needs_x z) 93 k93) : SK (X12_needs_x z) 28 (X12_needs_b28 X12_findAway X12_nextFrom X12_groupOf k82 k93) := (s_iload (pc := 28) dX12_needs_28 (s_aloadn (pc := 30) dX12_needs_30 rfl (s_gR (pc := 31) (f := 0) ko_11 (by decide) rfl rfl w_1295 dX12_needs_31 (s_iconst (pc := 34) dX12_needs_34 c_ic_5 (s_iald (pc := 35) (by decide) (by decide) rfl rfl rfl dX12_needs_35 (s_cmpge (pc := 36) dX12_needs_36 (by decide) (s_iconst (pc := 90) dX12_needs_90 c_ic_0 (s_istore (pc := 91) dX12_needs_91 (show 4 < 9 by decide) hk93)) (s_aloadn (pc := 39) dX12_needs_39 rfl (s_iload (pc := 40) dX12_needs_40 (s_vV (pc := 42) (run_virtual (X12_findAway_gd _) (show 1 < 4 by decide) cy_X12_findAway (by decide) rfl w_1681 w_s57 w_1679 dX12_needs_42) (s_aloadn (pc := 45) dX12_needs_45 rfl (s_gR (pc := 46) (f := 40) ko_11 (by decide) rfl rfl w_1335 dX12_needs_46 (s_iload (pc := 49) dX12_needs_49 (s_aloadn (pc := 51) dX12_needs_51 rfl (s_iloadn (pc := 52) dX12_needs_52 rfl (s_vI (pc := 53) (run_virtual (X12_nextFrom_gd _) (show 2 < 4 by decide) cy_X12_nextFrom (by decide) rfl w_1690 w_s58 w_1688 dX12_needs_53) (s_iast (pc := 56) (by decide) (by decide) rfl rfl rfl dX12_needs_56 (s_iloadn (pc := 57) dX12_needs_57 rfl (s_aloadn (pc := 58) dX12_needs_58 rfl (s_gR (pc := 59) (f := 40) ko_11 (by decide) rfl rfl w_1335 dX12_needs_59 (s_iload (pc := 62) dX12_needs_62 (s_iald (pc := 64) (by decide) (by decide) rfl rfl rfl dX12_needs_64 (s_iflt (pc := 65) dX12_needs_65 (by decide) (s_iconst (pc := 81) dX12_needs_81 c_ic_0 hk82) (s_aloadn (pc := 68) dX12_needs_68 rfl (s_iload (pc := 69) dX12_needs_69 (s_vI (pc := 71) (run_virtual (X12_groupOf_gd _) (show 0 < 4 by decide) cy_X12_groupOf (by decide) rfl w_1513 w_s36 w_1511 dX12_needs_71) (s_ifge (pc := 74) dX12_needs_74 (by decide) (s_iconst (pc := 81) dX12_needs_81 c_ic_0 hk82) (s_iconst (pc := 77) dX12_needs_77 c_ic_1 (s_goto (pc := 78) dX12_needs_78 (by decide) hk82))))))))))))))))))))))))))))
noncomputable def X12_needs_b82 (k28 : Kn) : Kn := (a_b (fun a b => a + b) (a_is 3 (a_inc 4 1 k28)))
set_option maxRecDepth 100000 in
theorem X12_needs_s82 {z : CZ} {k28 : Kn} (hk28 : SK (X12_needs_x z) 28 k28) : SK (X12_needs_x z) 82 (X12_needs_b82 k28) := (s_iadd (pc := 82) dX12_needs_82 (s_istoren (pc := 83) dX12_needs_83 rfl (show 3 < 9 by decide) (s_iinc (pc := 84) dX12_needs_84 c_ic_1 (show 4 < 9 by decide) (s_goto (pc := 87) dX12_needs_87 (by decide) hk28))))
noncomputable def X12_needs_b93 (k111 : Kn) : Kn := (a_il 4 (a_ic 4 (a_lt (a_ic 0 (a_is 5 (a_ic (-1) (a_is 6 (a_ic 1 (a_is 7 (a_ic 0 (a_is 8 k111)))))))) (a_il 3 a_ir))))
set_option maxRecDepth 100000 in
theorem X12_needs_s93 {z : CZ} {k111 : Kn} (hk111 : SK (X12_needs_x z) 111 k111) : SK (X12_needs_x z) 93 (X12_needs_b93 k111) := (s_iload (pc := 93) dX12_needs_93 (s_iconst (pc := 95) dX12_needs_95 c_ic_4 (s_cmpge (pc := 96) dX12_needs_96 (by decide) (s_iloadn (pc := 220) dX12_needs_220 rfl (s_ir (pc := 221) rfl dX12_needs_221)) (s_iconst (pc := 99) dX12_needs_99 c_ic_0 (s_istore (pc := 100) dX12_needs_100 (show 5 < 9 by decide) (s_iconst (pc := 102) dX12_needs_102 c_ic_m1 (s_istore (pc := 103) dX12_needs_103 (show 6 < 9 by decide) (s_iconst (pc := 105) dX12_needs_105 c_ic_1 (s_istore (pc := 106) dX12_needs_106 (show 7 < 9 by decide) (s_iconst (pc := 108) dX12_needs_108 c_ic_0 (s_istore (pc := 109) dX12_needs_109 (show 8 < 9 by decide) hk111)))))))))))
noncomputable def X12_needs_b111 (c_X12_groupOf : Nat → Int32 → PH → Option Rs) (k160 k189 k210 k212 : Kn) : Kn := (a_il 8 (a_al 0 (a_gR 11 704 41 (a_ic 5 (a_ald 41 2624 (a_lt (a_al 0 (a_il 8 (a_vI 11 1 (FW_T11I c_X12_groupOf) (a_il 4 (a_eq (a_al 0 (a_gR 11 744 61 (a_il 8 (a_ald 61 3904 (a_n k189 (a_il 5 (a_z (a_al 0 (a_gR 11 744 61 (a_il 8 (a_ald 61 3904 k160)))) (a_il 6 k160)))))))) k189))))) (a_il 3 (a_il 7 (a_z k210 (a_il 5 (a_p (a_ic 1 k212) k210)))))))))))
set_option maxRecDepth 100000 in
theorem X12_needs_s111 {z : CZ} {k160 k189 k210 k212 : Kn} (hk160 : SK (X12_needs_x z) 160 k160) (hk189 : SK (X12_needs_x z) 189 k189) (hk210 : SK (X12_needs_x z) 210 k210) (hk212 : SK (X12_needs_x z) 212 k212) : SK (X12_needs_x z) 111 (X12_needs_b111 X12_groupOf k160 k189 k210 k212) := (s_iload (pc := 111) dX12_needs_111 (s_aloadn (pc := 113) dX12_needs_113 rfl (s_gR (pc := 114) (f := 0) ko_11 (by decide) rfl rfl w_1295 dX12_needs_114 (s_iconst (pc := 117) dX12_needs_117 c_ic_5 (s_iald (pc := 118) (by decide) (by decide) rfl rfl rfl dX12_needs_118 (s_cmpge (pc := 119) dX12_needs_119 (by decide) (s_iloadn (pc := 195) dX12_needs_195 rfl (s_iload (pc := 196) dX12_needs_196 (s_ifeq (pc := 198) dX12_needs_198 (by decide) hk210 (s_iload (pc := 201) dX12_needs_201 (s_ifle (pc := 203) dX12_needs_203 (by decide) hk210 (s_iconst (pc := 206) dX12_needs_206 c_ic_1 (s_goto (pc := 207) dX12_needs_207 (by decide) hk212))))))) (s_aloadn (pc := 122) dX12_needs_122 rfl (s_iload (pc := 123) dX12_needs_123 (s_vI (pc := 125) (run_virtual (X12_groupOf_gd _) (show 0 < 4 by decide) cy_X12_groupOf (by decide) rfl w_1513 w_s36 w_1511 dX12_needs_125) (s_iload (pc := 128) dX12_needs_128 (s_cmpne (pc := 130) dX12_needs_130 (by decide) hk189 (s_aloadn (pc := 133) dX12_needs_133 rfl (s_gR (pc := 134) (f := 40) ko_11 (by decide) rfl rfl w_1335 dX12_needs_134 (s_iload (pc := 137) dX12_needs_137 (s_iald (pc := 139) (by decide) (by decide) rfl rfl rfl dX12_needs_139 (s_iflt (pc := 140) dX12_needs_140 (by decide) hk189 (s_iload (pc := 143) dX12_needs_143 (s_ifne (pc := 145) dX12_needs_145 (by decide) (s_iload (pc := 158) dX12_needs_158 hk160) (s_aloadn (pc := 148) dX12_needs_148 rfl (s_gR (pc := 149) (f := 40) ko_11 (by decide) rfl rfl w_1335 dX12_needs_149 (s_iload (pc := 152) dX12_needs_152 (s_iald (pc := 154) (by decide) (by decide) rfl rfl rfl dX12_needs_154 (s_goto (pc := 155) dX12_needs_155 (by decide) hk160)))))))))))))))))))))))
noncomputable def X12_needs_b160 (k184 : Kn) : Kn := (a_is 6 (a_il 7 (a_z (a_ic 0 k184) (a_al 0 (a_gR 11 744 61 (a_il 8 (a_ald 61 3904 (a_il 6 (a_eq (a_ic 1 k184) (a_ic 0 k184))))))))))
set_option maxRecDepth 100000 in
theorem X12_needs_s160 {z : CZ} {k184 : Kn} (hk184 : SK (X12_needs_x z) 184 k184) : SK (X12_needs_x z) 160 (X12_needs_b160 k184) := (s_istore (pc := 160) dX12_needs_160 (show 6 < 9 by decide) (s_iload (pc := 162) dX12_needs_162 (s_ifeq (pc := 164) dX12_needs_164 (by decide) (s_iconst (pc := 183) dX12_needs_183 c_ic_0 hk184) (s_aloadn (pc := 167) dX12_needs_167 rfl (s_gR (pc := 168) (f := 40) ko_11 (by decide) rfl rfl w_1335 dX12_needs_168 (s_iload (pc := 171) dX12_needs_171 (s_iald (pc := 173) (by decide) (by decide) rfl rfl rfl dX12_needs_173 (s_iload (pc := 174) dX12_needs_174 (s_cmpne (pc := 176) dX12_needs_176 (by decide) (s_iconst (pc := 183) dX12_needs_183 c_ic_0 hk184) (s_iconst (pc := 179) dX12_needs_179 c_ic_1 (s_goto (pc := 180) dX12_needs_180 (by decide) hk184)))))))))))
noncomputable def X12_needs_b184 (k189 : Kn) : Kn := (a_is 7 (a_inc 5 1 k189))
set_option maxRecDepth 100000 in
theorem X12_needs_s184 {z : CZ} {k189 : Kn} (hk189 : SK (X12_needs_x z) 189 k189) : SK (X12_needs_x z) 184 (X12_needs_b184 k189) := (s_istore (pc := 184) dX12_needs_184 (show 7 < 9 by decide) (s_iinc (pc := 186) dX12_needs_186 c_ic_1 (show 5 < 9 by decide) hk189))
noncomputable def X12_needs_b189 (k111 : Kn) : Kn := (a_inc 8 1 k111)
set_option maxRecDepth 100000 in
theorem X12_needs_s189 {z : CZ} {k111 : Kn} (hk111 : SK (X12_needs_x z) 111 k111) : SK (X12_needs_x z) 189 (X12_needs_b189 k111) := (s_iinc (pc := 189) dX12_needs_189 c_ic_1 (show 8 < 9 by decide) (s_goto (pc := 192) dX12_needs_192 (by decide) hk111))
noncomputable def X12_needs_b210 (k212 : Kn) : Kn := (a_il 5 k212)
set_option maxRecDepth 100000 in
theorem X12_needs_s210 {z : CZ} {k212 : Kn} (hk212 : SK (X12_needs_x z) 212 k212) : SK (X12_needs_x z) 210 (X12_needs_b210 k212) := (s_iload (pc := 210) dX12_needs_210 hk212)
noncomputable def X12_needs_b212 (k93 : Kn) : Kn := (a_b (fun a b => a + b) (a_is 3 (a_inc 4 1 k93)))
set_option maxRecDepth 100000 in
theorem X12_needs_s212 {z : CZ} {k93 : Kn} (hk93 : SK (X12_needs_x z) 93 k93) : SK (X12_needs_x z) 212 (X12_needs_b212 k93) := (s_iadd (pc := 212) dX12_needs_212 (s_istoren (pc := 213) dX12_needs_213 rfl (show 3 < 9 by decide) (s_iinc (pc := 214) dX12_needs_214 c_ic_1 (show 4 < 9 by decide) (s_goto (pc := 217) dX12_needs_217 (by decide) hk93))))
noncomputable def X12_needs_u28 (g : Nat → Int32 → Int32 → Int32 → PH → Option Rs) : Kn := fun ls st h => gL 0 st (gT 11 ls 0 fun t => gI ls 1 fun x1 => gI ls 3 fun x3 => gI ls 4 fun x4 => g t x1 x3 x4 h)
noncomputable def X12_needs_u82 (g : Nat → Int32 → Int32 → Int32 → Int32 → PH → Option Rs) : Kn := fun ls st h => gL 2 st (gT 11 ls 0 fun t => gI ls 1 fun x1 => gI ls 4 fun x4 => gI (st.map some) 0 fun s0 => gI (st.map some) 1 fun s1 => g t x1 x4 s0 s1 h)
noncomputable def X12_needs_u93 (g : Nat → Int32 → Int32 → PH → Option Rs) : Kn := fun ls st h => gL 0 st (gT 11 ls 0 fun t => gI ls 3 fun x3 => gI ls 4 fun x4 => g t x3 x4 h)
noncomputable def X12_needs_u111 (g : Nat → Int32 → Int32 → Int32 → Int32 → Int32 → Int32 → PH → Option Rs) : Kn := fun ls st h => gL 0 st (gT 11 ls 0 fun t => gI ls 3 fun x3 => gI ls 4 fun x4 => gI ls 5 fun x5 => gI ls 6 fun x6 => gI ls 7 fun x7 => gI ls 8 fun x8 => g t x3 x4 x5 x6 x7 x8 h)
noncomputable def X12_needs_u160 (g : Nat → Int32 → Int32 → Int32 → Int32 → Int32 → Int32 → PH → Option Rs) : Kn := fun ls st h => gL 1 st (gT 11 ls 0 fun t => gI ls 3 fun x3 => gI ls 4 fun x4 => gI ls 5 fun x5 => gI ls 7 fun x7 => gI ls 8 fun x8 => gI (st.map some) 0 fun s0 => g t x3 x4 x5 x7 x8 s0 h)
noncomputable def X12_needs_u184 (g : Nat → Int32 → Int32 → Int32 → Int32 → Int32 → Int32 → PH → Option Rs) : Kn := fun ls st h => gL 1 st (gT 11 ls 0 fun t => gI ls 3 fun x3 => gI ls 4 fun x4 => gI ls 5 fun x5 => gI ls 6 fun x6 => gI ls 8 fun x8 => gI (st.map some) 0 fun s0 => g t x3 x4 x5 x6 x8 s0 h)
noncomputable def X12_needs_u189 (g : Nat → Int32 → Int32 → Int32 → Int32 → Int32 → Int32 → PH → Option Rs) : Kn := fun ls st h => gL 0 st (gT 11 ls 0 fun t => gI ls 3 fun x3 => gI ls 4 fun x4 => gI ls 5 fun x5 => gI ls 6 fun x6 => gI ls 7 fun x7 => gI ls 8 fun x8 => g t x3 x4 x5 x6 x7 x8 h)
noncomputable def X12_needs_u210 (g : Nat → Int32 → Int32 → Int32 → PH → Option Rs) : Kn := fun ls st h => gL 1 st (gT 11 ls 0 fun t => gI ls 4 fun x4 => gI ls 5 fun x5 => gI (st.map some) 0 fun s0 => g t x4 x5 s0 h)
noncomputable def X12_needs_u212 (g : Nat → Int32 → Int32 → Int32 → PH → Option Rs) : Kn := fun ls st h => gL 2 st (gT 11 ls 0 fun t => gI ls 4 fun x4 => gI (st.map some) 0 fun s0 => gI (st.map some) 1 fun s1 => g t x4 s0 s1 h)
noncomputable def X12_needs_f0 (c_X12_isPlace : Nat → Int32 → PH → Option Rs) (c_X12_areWheels : Int32 → PH → Option Rs) (c_X12_looks : Nat → Int32 → PH → Option Rs) (g28 : Nat → Int32 → Int32 → Int32 → PH → Option Rs) (t : Nat) (x1 : Int32) (x2 : Int32) (h : PH) : Option Rs :=
  cI (c_X12_isPlace t x1 h) fun v2 h1 =>
  if v2 = 0 then
    some (some (.inl (-1000000001)), h1)
  else
    cI (c_X12_areWheels x2 h1) fun v4 h3 =>
    if v4 = 0 then
      some (some (.inl (-1000000001)), h3)
    else
      cV (c_X12_looks t x2 h3) fun h5 =>
      g28 t x1 0 0 h5
set_option maxRecDepth 100000 in
theorem X12_needs_l0 (c_X12_isPlace : Nat → Int32 → PH → Option Rs) (c_X12_areWheels : Int32 → PH → Option Rs) (c_X12_looks : Nat → Int32 → PH → Option Rs) (g28 : Nat → Int32 → Int32 → Int32 → PH → Option Rs) (t : Nat) (x1 : Int32) (x2 : Int32) (h : PH) : X12_needs_b0 c_X12_isPlace c_X12_areWheels c_X12_looks (X12_needs_u28 g28) [some (.inr (11, t + 1)), some (.inl x1), some (.inl x2), none, none, none, none, none, none] [] h = X12_needs_f0 c_X12_isPlace c_X12_areWheels c_X12_looks g28 t x1 x2 h := rfl
theorem X12_needs_m0 {c_X12_isPlace : Nat → Int32 → PH → Option Rs} {c_X12_areWheels : Int32 → PH → Option Rs} {c_X12_looks : Nat → Int32 → PH → Option Rs} {g28 G28 : Nat → Int32 → Int32 → Int32 → PH → Option Rs} (hg28 : ∀ a0 a1 a2 a3 a4, Mo (g28 a0 a1 a2 a3 a4) (G28 a0 a1 a2 a3 a4)) (t : Nat) (x1 : Int32) (x2 : Int32) (h : PH) : Mo (X12_needs_f0 c_X12_isPlace c_X12_areWheels c_X12_looks g28 t x1 x2 h) (X12_needs_f0 c_X12_isPlace c_X12_areWheels c_X12_looks G28 t x1 x2 h) := (mo_cI fun v2 h1 => (mo_if mo_rf (mo_cI fun v4 h3 => (mo_if mo_rf (mo_cV fun h5 => (hg28 t x1 0 0 h5))))))
noncomputable def X12_needs_f28 (c_X12_findAway : Nat → Int32 → PH → Option Rs) (c_X12_nextFrom : Nat → Int32 → PH → Option Rs) (c_X12_groupOf : Nat → Int32 → PH → Option Rs) (g82 : Nat → Int32 → Int32 → Int32 → Int32 → PH → Option Rs) (g93 : Nat → Int32 → Int32 → PH → Option Rs) (t : Nat) (x1 : Int32) (x3 : Int32) (x4 : Int32) (h : PH) : Option Rs :=
  nn (hR h 704 t 0) fun r6 =>
  ix 5 (hL h 41 r6) fun j7 =>
  if x4 < (hI h 2624 r6 j7) then
    cV (c_X12_findAway t x4 h) fun h8 =>
    cI (c_X12_nextFrom t x1 h8) fun v10 h9 =>
    nn (hR h8 744 t 0) fun r11 =>
    ix x4 (hL h9 61 r11) fun j12 =>
    wr (pI h9 3904 r11 j12 v10) fun h13 =>
    nn (hR h13 744 t 0) fun r14 =>
    ix x4 (hL h13 61 r14) fun j15 =>
    if (hI h13 3904 r14 j15) < 0 then
      g82 t x1 x4 0 x3 h13
    else
      cI (c_X12_groupOf t x4 h13) fun v17 h16 =>
      if v17 < 0 then
        g82 t x1 x4 1 x3 h16
      else
        g82 t x1 x4 0 x3 h16
  else
    g93 t x3 0 h
set_option maxRecDepth 100000 in
theorem X12_needs_l28 (c_X12_findAway : Nat → Int32 → PH → Option Rs) (c_X12_nextFrom : Nat → Int32 → PH → Option Rs) (c_X12_groupOf : Nat → Int32 → PH → Option Rs) (g82 : Nat → Int32 → Int32 → Int32 → Int32 → PH → Option Rs) (g93 : Nat → Int32 → Int32 → PH → Option Rs) (t : Nat) (x1 : Int32) (x3 : Int32) (x4 : Int32) (h : PH) : X12_needs_b28 c_X12_findAway c_X12_nextFrom c_X12_groupOf (X12_needs_u82 g82) (X12_needs_u93 g93) [some (.inr (11, t + 1)), some (.inl x1), none, some (.inl x3), some (.inl x4), none, none, none, none] [] h = X12_needs_f28 c_X12_findAway c_X12_nextFrom c_X12_groupOf g82 g93 t x1 x3 x4 h := rfl
theorem X12_needs_m28 {c_X12_findAway : Nat → Int32 → PH → Option Rs} {c_X12_nextFrom : Nat → Int32 → PH → Option Rs} {c_X12_groupOf : Nat → Int32 → PH → Option Rs} {g82 G82 : Nat → Int32 → Int32 → Int32 → Int32 → PH → Option Rs} {g93 G93 : Nat → Int32 → Int32 → PH → Option Rs} (hg82 : ∀ a0 a1 a2 a3 a4 a5, Mo (g82 a0 a1 a2 a3 a4 a5) (G82 a0 a1 a2 a3 a4 a5)) (hg93 : ∀ a0 a1 a2 a3, Mo (g93 a0 a1 a2 a3) (G93 a0 a1 a2 a3)) (t : Nat) (x1 : Int32) (x3 : Int32) (x4 : Int32) (h : PH) : Mo (X12_needs_f28 c_X12_findAway c_X12_nextFrom c_X12_groupOf g82 g93 t x1 x3 x4 h) (X12_needs_f28 c_X12_findAway c_X12_nextFrom c_X12_groupOf G82 G93 t x1 x3 x4 h) := (mo_nn fun r6 => (mo_ix fun j7 => (mo_if (mo_cV fun h8 => (mo_cI fun v10 h9 => (mo_nn fun r11 => (mo_ix fun j12 => (mo_wr fun h13 => (mo_nn fun r14 => (mo_ix fun j15 => (mo_if (hg82 t x1 x4 0 x3 h13) (mo_cI fun v17 h16 => (mo_if (hg82 t x1 x4 1 x3 h16) (hg82 t x1 x4 0 x3 h16))))))))))) (hg93 t x3 0 h))))
theorem X12_needs_w28 {z : CZ} {g82 : Nat → Int32 → Int32 → Int32 → Int32 → PH → Option Rs} {g93 : Nat → Int32 → Int32 → PH → Option Rs} (hk82 : SK (X12_needs_x z) 82 (X12_needs_u82 g82)) (hk93 : SK (X12_needs_x z) 93 (X12_needs_u93 g93)) : SK (X12_needs_x z) 28 (X12_needs_u28 (X12_needs_f28 X12_findAway X12_nextFrom X12_groupOf g82 g93)) := by
  intro ls st h r e
  obtain ⟨hst, e⟩ := gL_of e
  obtain ⟨t, q0, e⟩ := gT_of e
  obtain ⟨x1, q1, e⟩ := gI_of e
  obtain ⟨x3, q2, e⟩ := gI_of e
  obtain ⟨x4, q3, e⟩ := gI_of e
  rw [st_0 hst]
  exact WK.sub (canon := [some (.inr (11, t + 1)), some (.inl x1), none, some (.inl x3), some (.inl x4), none, none, none, none]) rfl ⟨q0, q1, q2, q3, trivial⟩ (X12_needs_s28 hk82 hk93 _ _ _ _ ((X12_needs_l28 X12_findAway X12_nextFrom X12_groupOf g82 g93 t x1 x3 x4 h).trans e))
noncomputable def X12_needs_f82 (g28 : Nat → Int32 → Int32 → Int32 → PH → Option Rs) (t : Nat) (x1 : Int32) (x4 : Int32) (s0 : Int32) (s1 : Int32) (h : PH) : Option Rs :=
  g28 t x1 (s1 + s0) (x4 + 1) h
set_option maxRecDepth 100000 in
theorem X12_needs_l82 (g28 : Nat → Int32 → Int32 → Int32 → PH → Option Rs) (t : Nat) (x1 : Int32) (x4 : Int32) (s0 : Int32) (s1 : Int32) (h : PH) : X12_needs_b82 (X12_needs_u28 g28) [some (.inr (11, t + 1)), some (.inl x1), none, none, some (.inl x4), none, none, none, none] [.inl s0, .inl s1] h = X12_needs_f82 g28 t x1 x4 s0 s1 h := rfl
theorem X12_needs_m82 {g28 G28 : Nat → Int32 → Int32 → Int32 → PH → Option Rs} (hg28 : ∀ a0 a1 a2 a3 a4, Mo (g28 a0 a1 a2 a3 a4) (G28 a0 a1 a2 a3 a4)) (t : Nat) (x1 : Int32) (x4 : Int32) (s0 : Int32) (s1 : Int32) (h : PH) : Mo (X12_needs_f82 g28 t x1 x4 s0 s1 h) (X12_needs_f82 G28 t x1 x4 s0 s1 h) := (hg28 t x1 (s1 + s0) (x4 + 1) h)
theorem X12_needs_w82 {z : CZ} {g28 : Nat → Int32 → Int32 → Int32 → PH → Option Rs} (hk28 : SK (X12_needs_x z) 28 (X12_needs_u28 g28)) : SK (X12_needs_x z) 82 (X12_needs_u82 (X12_needs_f82 g28)) := by
  intro ls st h r e
  obtain ⟨hst, e⟩ := gL_of e
  obtain ⟨t, q0, e⟩ := gT_of e
  obtain ⟨x1, q1, e⟩ := gI_of e
  obtain ⟨x4, q2, e⟩ := gI_of e
  obtain ⟨s0, q3, e⟩ := gI_of e
  obtain ⟨s1, q4, e⟩ := gI_of e
  rw [st_2 hst q3 q4]
  exact WK.sub (canon := [some (.inr (11, t + 1)), some (.inl x1), none, none, some (.inl x4), none, none, none, none]) rfl ⟨q0, q1, q2, trivial⟩ (X12_needs_s82 hk28 _ _ _ _ ((X12_needs_l82 g28 t x1 x4 s0 s1 h).trans e))
noncomputable def X12_needs_f93 (g111 : Nat → Int32 → Int32 → Int32 → Int32 → Int32 → Int32 → PH → Option Rs) (t : Nat) (x3 : Int32) (x4 : Int32) (h : PH) : Option Rs :=
  if x4 < 4 then
    g111 t x3 x4 0 (-1) 1 0 h
  else
    some (some (.inl x3), h)
set_option maxRecDepth 100000 in
theorem X12_needs_l93 (g111 : Nat → Int32 → Int32 → Int32 → Int32 → Int32 → Int32 → PH → Option Rs) (t : Nat) (x3 : Int32) (x4 : Int32) (h : PH) : X12_needs_b93 (X12_needs_u111 g111) [some (.inr (11, t + 1)), none, none, some (.inl x3), some (.inl x4), none, none, none, none] [] h = X12_needs_f93 g111 t x3 x4 h := rfl
theorem X12_needs_m93 {g111 G111 : Nat → Int32 → Int32 → Int32 → Int32 → Int32 → Int32 → PH → Option Rs} (hg111 : ∀ a0 a1 a2 a3 a4 a5 a6 a7, Mo (g111 a0 a1 a2 a3 a4 a5 a6 a7) (G111 a0 a1 a2 a3 a4 a5 a6 a7)) (t : Nat) (x3 : Int32) (x4 : Int32) (h : PH) : Mo (X12_needs_f93 g111 t x3 x4 h) (X12_needs_f93 G111 t x3 x4 h) := (mo_if (hg111 t x3 x4 0 (-1) 1 0 h) mo_rf)
theorem X12_needs_w93 {z : CZ} {g111 : Nat → Int32 → Int32 → Int32 → Int32 → Int32 → Int32 → PH → Option Rs} (hk111 : SK (X12_needs_x z) 111 (X12_needs_u111 g111)) : SK (X12_needs_x z) 93 (X12_needs_u93 (X12_needs_f93 g111)) := by
  intro ls st h r e
  obtain ⟨hst, e⟩ := gL_of e
  obtain ⟨t, q0, e⟩ := gT_of e
  obtain ⟨x3, q1, e⟩ := gI_of e
  obtain ⟨x4, q2, e⟩ := gI_of e
  rw [st_0 hst]
  exact WK.sub (canon := [some (.inr (11, t + 1)), none, none, some (.inl x3), some (.inl x4), none, none, none, none]) rfl ⟨q0, q1, q2, trivial⟩ (X12_needs_s93 hk111 _ _ _ _ ((X12_needs_l93 g111 t x3 x4 h).trans e))
noncomputable def X12_needs_f111 (c_X12_groupOf : Nat → Int32 → PH → Option Rs) (g160 : Nat → Int32 → Int32 → Int32 → Int32 → Int32 → Int32 → PH → Option Rs) (g189 : Nat → Int32 → Int32 → Int32 → Int32 → Int32 → Int32 → PH → Option Rs) (g210 : Nat → Int32 → Int32 → Int32 → PH → Option Rs) (g212 : Nat → Int32 → Int32 → Int32 → PH → Option Rs) (t : Nat) (x3 : Int32) (x4 : Int32) (x5 : Int32) (x6 : Int32) (x7 : Int32) (x8 : Int32) (h : PH) : Option Rs :=
  nn (hR h 704 t 0) fun r18 =>
  ix 5 (hL h 41 r18) fun j19 =>
  if x8 < (hI h 2624 r18 j19) then
    cI (c_X12_groupOf t x8 h) fun v21 h20 =>
    if v21 = x4 then
      nn (hR h20 744 t 0) fun r22 =>
      ix x8 (hL h20 61 r22) fun j23 =>
      if (hI h20 3904 r22 j23) < 0 then
        g189 t x3 x4 x5 x6 x7 x8 h20
      else
        if x5 = 0 then
          nn (hR h20 744 t 0) fun r24 =>
          ix x8 (hL h20 61 r24) fun j25 =>
          g160 t x3 x4 x5 x7 x8 (hI h20 3904 r24 j25) h20
        else
          g160 t x3 x4 x5 x7 x8 x6 h20
    else
      g189 t x3 x4 x5 x6 x7 x8 h20
  else
    if x7 = 0 then
      g210 t x4 x5 x3 h
    else
      if 0 < x5 then
        g212 t x4 1 x3 h
      else
        g210 t x4 x5 x3 h
set_option maxRecDepth 100000 in
theorem X12_needs_l111 (c_X12_groupOf : Nat → Int32 → PH → Option Rs) (g160 : Nat → Int32 → Int32 → Int32 → Int32 → Int32 → Int32 → PH → Option Rs) (g189 : Nat → Int32 → Int32 → Int32 → Int32 → Int32 → Int32 → PH → Option Rs) (g210 : Nat → Int32 → Int32 → Int32 → PH → Option Rs) (g212 : Nat → Int32 → Int32 → Int32 → PH → Option Rs) (t : Nat) (x3 : Int32) (x4 : Int32) (x5 : Int32) (x6 : Int32) (x7 : Int32) (x8 : Int32) (h : PH) : X12_needs_b111 c_X12_groupOf (X12_needs_u160 g160) (X12_needs_u189 g189) (X12_needs_u210 g210) (X12_needs_u212 g212) [some (.inr (11, t + 1)), none, none, some (.inl x3), some (.inl x4), some (.inl x5), some (.inl x6), some (.inl x7), some (.inl x8)] [] h = X12_needs_f111 c_X12_groupOf g160 g189 g210 g212 t x3 x4 x5 x6 x7 x8 h := rfl
theorem X12_needs_m111 {c_X12_groupOf : Nat → Int32 → PH → Option Rs} {g160 G160 : Nat → Int32 → Int32 → Int32 → Int32 → Int32 → Int32 → PH → Option Rs} {g189 G189 : Nat → Int32 → Int32 → Int32 → Int32 → Int32 → Int32 → PH → Option Rs} {g210 G210 : Nat → Int32 → Int32 → Int32 → PH → Option Rs} {g212 G212 : Nat → Int32 → Int32 → Int32 → PH → Option Rs} (hg160 : ∀ a0 a1 a2 a3 a4 a5 a6 a7, Mo (g160 a0 a1 a2 a3 a4 a5 a6 a7) (G160 a0 a1 a2 a3 a4 a5 a6 a7)) (hg189 : ∀ a0 a1 a2 a3 a4 a5 a6 a7, Mo (g189 a0 a1 a2 a3 a4 a5 a6 a7) (G189 a0 a1 a2 a3 a4 a5 a6 a7)) (hg210 : ∀ a0 a1 a2 a3 a4, Mo (g210 a0 a1 a2 a3 a4) (G210 a0 a1 a2 a3 a4)) (hg212 : ∀ a0 a1 a2 a3 a4, Mo (g212 a0 a1 a2 a3 a4) (G212 a0 a1 a2 a3 a4)) (t : Nat) (x3 : Int32) (x4 : Int32) (x5 : Int32) (x6 : Int32) (x7 : Int32) (x8 : Int32) (h : PH) : Mo (X12_needs_f111 c_X12_groupOf g160 g189 g210 g212 t x3 x4 x5 x6 x7 x8 h) (X12_needs_f111 c_X12_groupOf G160 G189 G210 G212 t x3 x4 x5 x6 x7 x8 h) := (mo_nn fun r18 => (mo_ix fun j19 => (mo_if (mo_cI fun v21 h20 => (mo_if (mo_nn fun r22 => (mo_ix fun j23 => (mo_if (hg189 t x3 x4 x5 x6 x7 x8 h20) (mo_if (mo_nn fun r24 => (mo_ix fun j25 => (hg160 t x3 x4 x5 x7 x8 (hI h20 3904 r24 j25) h20))) (hg160 t x3 x4 x5 x7 x8 x6 h20))))) (hg189 t x3 x4 x5 x6 x7 x8 h20))) (mo_if (hg210 t x4 x5 x3 h) (mo_if (hg212 t x4 1 x3 h) (hg210 t x4 x5 x3 h))))))
theorem X12_needs_w111 {z : CZ} {g160 : Nat → Int32 → Int32 → Int32 → Int32 → Int32 → Int32 → PH → Option Rs} {g189 : Nat → Int32 → Int32 → Int32 → Int32 → Int32 → Int32 → PH → Option Rs} {g210 : Nat → Int32 → Int32 → Int32 → PH → Option Rs} {g212 : Nat → Int32 → Int32 → Int32 → PH → Option Rs} (hk160 : SK (X12_needs_x z) 160 (X12_needs_u160 g160)) (hk189 : SK (X12_needs_x z) 189 (X12_needs_u189 g189)) (hk210 : SK (X12_needs_x z) 210 (X12_needs_u210 g210)) (hk212 : SK (X12_needs_x z) 212 (X12_needs_u212 g212)) : SK (X12_needs_x z) 111 (X12_needs_u111 (X12_needs_f111 X12_groupOf g160 g189 g210 g212)) := by
  intro ls st h r e
  obtain ⟨hst, e⟩ := gL_of e
  obtain ⟨t, q0, e⟩ := gT_of e
  obtain ⟨x3, q1, e⟩ := gI_of e
  obtain ⟨x4, q2, e⟩ := gI_of e
  obtain ⟨x5, q3, e⟩ := gI_of e
  obtain ⟨x6, q4, e⟩ := gI_of e
  obtain ⟨x7, q5, e⟩ := gI_of e
  obtain ⟨x8, q6, e⟩ := gI_of e
  rw [st_0 hst]
  exact WK.sub (canon := [some (.inr (11, t + 1)), none, none, some (.inl x3), some (.inl x4), some (.inl x5), some (.inl x6), some (.inl x7), some (.inl x8)]) rfl ⟨q0, q1, q2, q3, q4, q5, q6, trivial⟩ (X12_needs_s111 hk160 hk189 hk210 hk212 _ _ _ _ ((X12_needs_l111 X12_groupOf g160 g189 g210 g212 t x3 x4 x5 x6 x7 x8 h).trans e))
noncomputable def X12_needs_f160 (g184 : Nat → Int32 → Int32 → Int32 → Int32 → Int32 → Int32 → PH → Option Rs) (t : Nat) (x3 : Int32) (x4 : Int32) (x5 : Int32) (x7 : Int32) (x8 : Int32) (s0 : Int32) (h : PH) : Option Rs :=
  if x7 = 0 then
    g184 t x3 x4 x5 s0 x8 0 h
  else
    nn (hR h 744 t 0) fun r26 =>
    ix x8 (hL h 61 r26) fun j27 =>
    if (hI h 3904 r26 j27) = s0 then
      g184 t x3 x4 x5 s0 x8 1 h
    else
      g184 t x3 x4 x5 s0 x8 0 h
set_option maxRecDepth 100000 in
theorem X12_needs_l160 (g184 : Nat → Int32 → Int32 → Int32 → Int32 → Int32 → Int32 → PH → Option Rs) (t : Nat) (x3 : Int32) (x4 : Int32) (x5 : Int32) (x7 : Int32) (x8 : Int32) (s0 : Int32) (h : PH) : X12_needs_b160 (X12_needs_u184 g184) [some (.inr (11, t + 1)), none, none, some (.inl x3), some (.inl x4), some (.inl x5), none, some (.inl x7), some (.inl x8)] [.inl s0] h = X12_needs_f160 g184 t x3 x4 x5 x7 x8 s0 h := rfl
theorem X12_needs_m160 {g184 G184 : Nat → Int32 → Int32 → Int32 → Int32 → Int32 → Int32 → PH → Option Rs} (hg184 : ∀ a0 a1 a2 a3 a4 a5 a6 a7, Mo (g184 a0 a1 a2 a3 a4 a5 a6 a7) (G184 a0 a1 a2 a3 a4 a5 a6 a7)) (t : Nat) (x3 : Int32) (x4 : Int32) (x5 : Int32) (x7 : Int32) (x8 : Int32) (s0 : Int32) (h : PH) : Mo (X12_needs_f160 g184 t x3 x4 x5 x7 x8 s0 h) (X12_needs_f160 G184 t x3 x4 x5 x7 x8 s0 h) := (mo_if (hg184 t x3 x4 x5 s0 x8 0 h) (mo_nn fun r26 => (mo_ix fun j27 => (mo_if (hg184 t x3 x4 x5 s0 x8 1 h) (hg184 t x3 x4 x5 s0 x8 0 h)))))
theorem X12_needs_w160 {z : CZ} {g184 : Nat → Int32 → Int32 → Int32 → Int32 → Int32 → Int32 → PH → Option Rs} (hk184 : SK (X12_needs_x z) 184 (X12_needs_u184 g184)) : SK (X12_needs_x z) 160 (X12_needs_u160 (X12_needs_f160 g184)) := by
  intro ls st h r e
  obtain ⟨hst, e⟩ := gL_of e
  obtain ⟨t, q0, e⟩ := gT_of e
  obtain ⟨x3, q1, e⟩ := gI_of e
  obtain ⟨x4, q2, e⟩ := gI_of e
  obtain ⟨x5, q3, e⟩ := gI_of e
  obtain ⟨x7, q4, e⟩ := gI_of e
  obtain ⟨x8, q5, e⟩ := gI_of e
  obtain ⟨s0, q6, e⟩ := gI_of e
  rw [st_1 hst q6]
  exact WK.sub (canon := [some (.inr (11, t + 1)), none, none, some (.inl x3), some (.inl x4), some (.inl x5), none, some (.inl x7), some (.inl x8)]) rfl ⟨q0, q1, q2, q3, q4, q5, trivial⟩ (X12_needs_s160 hk184 _ _ _ _ ((X12_needs_l160 g184 t x3 x4 x5 x7 x8 s0 h).trans e))
noncomputable def X12_needs_f184 (g189 : Nat → Int32 → Int32 → Int32 → Int32 → Int32 → Int32 → PH → Option Rs) (t : Nat) (x3 : Int32) (x4 : Int32) (x5 : Int32) (x6 : Int32) (x8 : Int32) (s0 : Int32) (h : PH) : Option Rs :=
  g189 t x3 x4 (x5 + 1) x6 s0 x8 h
set_option maxRecDepth 100000 in
theorem X12_needs_l184 (g189 : Nat → Int32 → Int32 → Int32 → Int32 → Int32 → Int32 → PH → Option Rs) (t : Nat) (x3 : Int32) (x4 : Int32) (x5 : Int32) (x6 : Int32) (x8 : Int32) (s0 : Int32) (h : PH) : X12_needs_b184 (X12_needs_u189 g189) [some (.inr (11, t + 1)), none, none, some (.inl x3), some (.inl x4), some (.inl x5), some (.inl x6), none, some (.inl x8)] [.inl s0] h = X12_needs_f184 g189 t x3 x4 x5 x6 x8 s0 h := rfl
theorem X12_needs_m184 {g189 G189 : Nat → Int32 → Int32 → Int32 → Int32 → Int32 → Int32 → PH → Option Rs} (hg189 : ∀ a0 a1 a2 a3 a4 a5 a6 a7, Mo (g189 a0 a1 a2 a3 a4 a5 a6 a7) (G189 a0 a1 a2 a3 a4 a5 a6 a7)) (t : Nat) (x3 : Int32) (x4 : Int32) (x5 : Int32) (x6 : Int32) (x8 : Int32) (s0 : Int32) (h : PH) : Mo (X12_needs_f184 g189 t x3 x4 x5 x6 x8 s0 h) (X12_needs_f184 G189 t x3 x4 x5 x6 x8 s0 h) := (hg189 t x3 x4 (x5 + 1) x6 s0 x8 h)
theorem X12_needs_w184 {z : CZ} {g189 : Nat → Int32 → Int32 → Int32 → Int32 → Int32 → Int32 → PH → Option Rs} (hk189 : SK (X12_needs_x z) 189 (X12_needs_u189 g189)) : SK (X12_needs_x z) 184 (X12_needs_u184 (X12_needs_f184 g189)) := by
  intro ls st h r e
  obtain ⟨hst, e⟩ := gL_of e
  obtain ⟨t, q0, e⟩ := gT_of e
  obtain ⟨x3, q1, e⟩ := gI_of e
  obtain ⟨x4, q2, e⟩ := gI_of e
  obtain ⟨x5, q3, e⟩ := gI_of e
  obtain ⟨x6, q4, e⟩ := gI_of e
  obtain ⟨x8, q5, e⟩ := gI_of e
  obtain ⟨s0, q6, e⟩ := gI_of e
  rw [st_1 hst q6]
  exact WK.sub (canon := [some (.inr (11, t + 1)), none, none, some (.inl x3), some (.inl x4), some (.inl x5), some (.inl x6), none, some (.inl x8)]) rfl ⟨q0, q1, q2, q3, q4, q5, trivial⟩ (X12_needs_s184 hk189 _ _ _ _ ((X12_needs_l184 g189 t x3 x4 x5 x6 x8 s0 h).trans e))
noncomputable def X12_needs_f189 (g111 : Nat → Int32 → Int32 → Int32 → Int32 → Int32 → Int32 → PH → Option Rs) (t : Nat) (x3 : Int32) (x4 : Int32) (x5 : Int32) (x6 : Int32) (x7 : Int32) (x8 : Int32) (h : PH) : Option Rs :=
  g111 t x3 x4 x5 x6 x7 (x8 + 1) h
set_option maxRecDepth 100000 in
theorem X12_needs_l189 (g111 : Nat → Int32 → Int32 → Int32 → Int32 → Int32 → Int32 → PH → Option Rs) (t : Nat) (x3 : Int32) (x4 : Int32) (x5 : Int32) (x6 : Int32) (x7 : Int32) (x8 : Int32) (h : PH) : X12_needs_b189 (X12_needs_u111 g111) [some (.inr (11, t + 1)), none, none, some (.inl x3), some (.inl x4), some (.inl x5), some (.inl x6), some (.inl x7), some (.inl x8)] [] h = X12_needs_f189 g111 t x3 x4 x5 x6 x7 x8 h := rfl
theorem X12_needs_m189 {g111 G111 : Nat → Int32 → Int32 → Int32 → Int32 → Int32 → Int32 → PH → Option Rs} (hg111 : ∀ a0 a1 a2 a3 a4 a5 a6 a7, Mo (g111 a0 a1 a2 a3 a4 a5 a6 a7) (G111 a0 a1 a2 a3 a4 a5 a6 a7)) (t : Nat) (x3 : Int32) (x4 : Int32) (x5 : Int32) (x6 : Int32) (x7 : Int32) (x8 : Int32) (h : PH) : Mo (X12_needs_f189 g111 t x3 x4 x5 x6 x7 x8 h) (X12_needs_f189 G111 t x3 x4 x5 x6 x7 x8 h) := (hg111 t x3 x4 x5 x6 x7 (x8 + 1) h)
theorem X12_needs_w189 {z : CZ} {g111 : Nat → Int32 → Int32 → Int32 → Int32 → Int32 → Int32 → PH → Option Rs} (hk111 : SK (X12_needs_x z) 111 (X12_needs_u111 g111)) : SK (X12_needs_x z) 189 (X12_needs_u189 (X12_needs_f189 g111)) := by
  intro ls st h r e
  obtain ⟨hst, e⟩ := gL_of e
  obtain ⟨t, q0, e⟩ := gT_of e
  obtain ⟨x3, q1, e⟩ := gI_of e
  obtain ⟨x4, q2, e⟩ := gI_of e
  obtain ⟨x5, q3, e⟩ := gI_of e
  obtain ⟨x6, q4, e⟩ := gI_of e
  obtain ⟨x7, q5, e⟩ := gI_of e
  obtain ⟨x8, q6, e⟩ := gI_of e
  rw [st_0 hst]
  exact WK.sub (canon := [some (.inr (11, t + 1)), none, none, some (.inl x3), some (.inl x4), some (.inl x5), some (.inl x6), some (.inl x7), some (.inl x8)]) rfl ⟨q0, q1, q2, q3, q4, q5, q6, trivial⟩ (X12_needs_s189 hk111 _ _ _ _ ((X12_needs_l189 g111 t x3 x4 x5 x6 x7 x8 h).trans e))
noncomputable def X12_needs_f210 (g212 : Nat → Int32 → Int32 → Int32 → PH → Option Rs) (t : Nat) (x4 : Int32) (x5 : Int32) (s0 : Int32) (h : PH) : Option Rs :=
  g212 t x4 x5 s0 h
set_option maxRecDepth 100000 in
theorem X12_needs_l210 (g212 : Nat → Int32 → Int32 → Int32 → PH → Option Rs) (t : Nat) (x4 : Int32) (x5 : Int32) (s0 : Int32) (h : PH) : X12_needs_b210 (X12_needs_u212 g212) [some (.inr (11, t + 1)), none, none, none, some (.inl x4), some (.inl x5), none, none, none] [.inl s0] h = X12_needs_f210 g212 t x4 x5 s0 h := rfl
theorem X12_needs_m210 {g212 G212 : Nat → Int32 → Int32 → Int32 → PH → Option Rs} (hg212 : ∀ a0 a1 a2 a3 a4, Mo (g212 a0 a1 a2 a3 a4) (G212 a0 a1 a2 a3 a4)) (t : Nat) (x4 : Int32) (x5 : Int32) (s0 : Int32) (h : PH) : Mo (X12_needs_f210 g212 t x4 x5 s0 h) (X12_needs_f210 G212 t x4 x5 s0 h) := (hg212 t x4 x5 s0 h)
theorem X12_needs_w210 {z : CZ} {g212 : Nat → Int32 → Int32 → Int32 → PH → Option Rs} (hk212 : SK (X12_needs_x z) 212 (X12_needs_u212 g212)) : SK (X12_needs_x z) 210 (X12_needs_u210 (X12_needs_f210 g212)) := by
  intro ls st h r e
  obtain ⟨hst, e⟩ := gL_of e
  obtain ⟨t, q0, e⟩ := gT_of e
  obtain ⟨x4, q1, e⟩ := gI_of e
  obtain ⟨x5, q2, e⟩ := gI_of e
  obtain ⟨s0, q3, e⟩ := gI_of e
  rw [st_1 hst q3]
  exact WK.sub (canon := [some (.inr (11, t + 1)), none, none, none, some (.inl x4), some (.inl x5), none, none, none]) rfl ⟨q0, q1, q2, trivial⟩ (X12_needs_s210 hk212 _ _ _ _ ((X12_needs_l210 g212 t x4 x5 s0 h).trans e))
noncomputable def X12_needs_f212 (g93 : Nat → Int32 → Int32 → PH → Option Rs) (t : Nat) (x4 : Int32) (s0 : Int32) (s1 : Int32) (h : PH) : Option Rs :=
  g93 t (s1 + s0) (x4 + 1) h
set_option maxRecDepth 100000 in
theorem X12_needs_l212 (g93 : Nat → Int32 → Int32 → PH → Option Rs) (t : Nat) (x4 : Int32) (s0 : Int32) (s1 : Int32) (h : PH) : X12_needs_b212 (X12_needs_u93 g93) [some (.inr (11, t + 1)), none, none, none, some (.inl x4), none, none, none, none] [.inl s0, .inl s1] h = X12_needs_f212 g93 t x4 s0 s1 h := rfl
theorem X12_needs_m212 {g93 G93 : Nat → Int32 → Int32 → PH → Option Rs} (hg93 : ∀ a0 a1 a2 a3, Mo (g93 a0 a1 a2 a3) (G93 a0 a1 a2 a3)) (t : Nat) (x4 : Int32) (s0 : Int32) (s1 : Int32) (h : PH) : Mo (X12_needs_f212 g93 t x4 s0 s1 h) (X12_needs_f212 G93 t x4 s0 s1 h) := (hg93 t (s1 + s0) (x4 + 1) h)
theorem X12_needs_w212 {z : CZ} {g93 : Nat → Int32 → Int32 → PH → Option Rs} (hk93 : SK (X12_needs_x z) 93 (X12_needs_u93 g93)) : SK (X12_needs_x z) 212 (X12_needs_u212 (X12_needs_f212 g93)) := by
  intro ls st h r e
  obtain ⟨hst, e⟩ := gL_of e
  obtain ⟨t, q0, e⟩ := gT_of e
  obtain ⟨x4, q1, e⟩ := gI_of e
  obtain ⟨s0, q2, e⟩ := gI_of e
  obtain ⟨s1, q3, e⟩ := gI_of e
  rw [st_2 hst q2 q3]
  exact WK.sub (canon := [some (.inr (11, t + 1)), none, none, none, some (.inl x4), none, none, none, none]) rfl ⟨q0, q1, trivial⟩ (X12_needs_s212 hk93 _ _ _ _ ((X12_needs_l212 g93 t x4 s0 s1 h).trans e))
noncomputable def X12_needs_g0 (G : (Nat → Int32 → Int32 → Int32 → PH → Option Rs) × (Nat → Int32 → Int32 → PH → Option Rs) × (Nat → Int32 → Int32 → Int32 → Int32 → Int32 → Int32 → PH → Option Rs)) (t : Nat) (x1 : Int32) (x2 : Int32) (h : PH) : Option Rs := X12_needs_f0 X12_isPlace X12_areWheels X12_looks (G).1 t x1 x2 h
noncomputable def X12_needs_g82 (G : (Nat → Int32 → Int32 → Int32 → PH → Option Rs) × (Nat → Int32 → Int32 → PH → Option Rs) × (Nat → Int32 → Int32 → Int32 → Int32 → Int32 → Int32 → PH → Option Rs)) (t : Nat) (x1 : Int32) (x4 : Int32) (s0 : Int32) (s1 : Int32) (h : PH) : Option Rs := X12_needs_f82 (G).1 t x1 x4 s0 s1 h
noncomputable def X12_needs_g28 (G : (Nat → Int32 → Int32 → Int32 → PH → Option Rs) × (Nat → Int32 → Int32 → PH → Option Rs) × (Nat → Int32 → Int32 → Int32 → Int32 → Int32 → Int32 → PH → Option Rs)) (t : Nat) (x1 : Int32) (x3 : Int32) (x4 : Int32) (h : PH) : Option Rs := X12_needs_f28 X12_findAway X12_nextFrom X12_groupOf (X12_needs_g82 G) (G).2.1 t x1 x3 x4 h
noncomputable def X12_needs_g93 (G : (Nat → Int32 → Int32 → Int32 → PH → Option Rs) × (Nat → Int32 → Int32 → PH → Option Rs) × (Nat → Int32 → Int32 → Int32 → Int32 → Int32 → Int32 → PH → Option Rs)) (t : Nat) (x3 : Int32) (x4 : Int32) (h : PH) : Option Rs := X12_needs_f93 (G).2.2 t x3 x4 h
noncomputable def X12_needs_g189 (G : (Nat → Int32 → Int32 → Int32 → PH → Option Rs) × (Nat → Int32 → Int32 → PH → Option Rs) × (Nat → Int32 → Int32 → Int32 → Int32 → Int32 → Int32 → PH → Option Rs)) (t : Nat) (x3 : Int32) (x4 : Int32) (x5 : Int32) (x6 : Int32) (x7 : Int32) (x8 : Int32) (h : PH) : Option Rs := X12_needs_f189 (G).2.2 t x3 x4 x5 x6 x7 x8 h
noncomputable def X12_needs_g184 (G : (Nat → Int32 → Int32 → Int32 → PH → Option Rs) × (Nat → Int32 → Int32 → PH → Option Rs) × (Nat → Int32 → Int32 → Int32 → Int32 → Int32 → Int32 → PH → Option Rs)) (t : Nat) (x3 : Int32) (x4 : Int32) (x5 : Int32) (x6 : Int32) (x8 : Int32) (s0 : Int32) (h : PH) : Option Rs := X12_needs_f184 (X12_needs_g189 G) t x3 x4 x5 x6 x8 s0 h
noncomputable def X12_needs_g160 (G : (Nat → Int32 → Int32 → Int32 → PH → Option Rs) × (Nat → Int32 → Int32 → PH → Option Rs) × (Nat → Int32 → Int32 → Int32 → Int32 → Int32 → Int32 → PH → Option Rs)) (t : Nat) (x3 : Int32) (x4 : Int32) (x5 : Int32) (x7 : Int32) (x8 : Int32) (s0 : Int32) (h : PH) : Option Rs := X12_needs_f160 (X12_needs_g184 G) t x3 x4 x5 x7 x8 s0 h
noncomputable def X12_needs_g212 (G : (Nat → Int32 → Int32 → Int32 → PH → Option Rs) × (Nat → Int32 → Int32 → PH → Option Rs) × (Nat → Int32 → Int32 → Int32 → Int32 → Int32 → Int32 → PH → Option Rs)) (t : Nat) (x4 : Int32) (s0 : Int32) (s1 : Int32) (h : PH) : Option Rs := X12_needs_f212 (G).2.1 t x4 s0 s1 h
noncomputable def X12_needs_g210 (G : (Nat → Int32 → Int32 → Int32 → PH → Option Rs) × (Nat → Int32 → Int32 → PH → Option Rs) × (Nat → Int32 → Int32 → Int32 → Int32 → Int32 → Int32 → PH → Option Rs)) (t : Nat) (x4 : Int32) (x5 : Int32) (s0 : Int32) (h : PH) : Option Rs := X12_needs_f210 (X12_needs_g212 G) t x4 x5 s0 h
noncomputable def X12_needs_g111 (G : (Nat → Int32 → Int32 → Int32 → PH → Option Rs) × (Nat → Int32 → Int32 → PH → Option Rs) × (Nat → Int32 → Int32 → Int32 → Int32 → Int32 → Int32 → PH → Option Rs)) (t : Nat) (x3 : Int32) (x4 : Int32) (x5 : Int32) (x6 : Int32) (x7 : Int32) (x8 : Int32) (h : PH) : Option Rs := X12_needs_f111 X12_groupOf (X12_needs_g160 G) (X12_needs_g189 G) (X12_needs_g210 G) (X12_needs_g212 G) t x3 x4 x5 x6 x7 x8 h
theorem X12_needs_v82 {z : CZ} {G : (Nat → Int32 → Int32 → Int32 → PH → Option Rs) × (Nat → Int32 → Int32 → PH → Option Rs) × (Nat → Int32 → Int32 → Int32 → Int32 → Int32 → Int32 → PH → Option Rs)} (hG28 : SK (X12_needs_x z) 28 (X12_needs_u28 (G).1)) (hG93 : SK (X12_needs_x z) 93 (X12_needs_u93 (G).2.1)) (hG111 : SK (X12_needs_x z) 111 (X12_needs_u111 (G).2.2)) : SK (X12_needs_x z) 82 (X12_needs_u82 (X12_needs_g82 G)) := X12_needs_w82 hG28
theorem X12_needs_v28 {z : CZ} {G : (Nat → Int32 → Int32 → Int32 → PH → Option Rs) × (Nat → Int32 → Int32 → PH → Option Rs) × (Nat → Int32 → Int32 → Int32 → Int32 → Int32 → Int32 → PH → Option Rs)} (hG28 : SK (X12_needs_x z) 28 (X12_needs_u28 (G).1)) (hG93 : SK (X12_needs_x z) 93 (X12_needs_u93 (G).2.1)) (hG111 : SK (X12_needs_x z) 111 (X12_needs_u111 (G).2.2)) : SK (X12_needs_x z) 28 (X12_needs_u28 (X12_needs_g28 G)) := X12_needs_w28 (X12_needs_v82 hG28 hG93 hG111) hG93
theorem X12_needs_v93 {z : CZ} {G : (Nat → Int32 → Int32 → Int32 → PH → Option Rs) × (Nat → Int32 → Int32 → PH → Option Rs) × (Nat → Int32 → Int32 → Int32 → Int32 → Int32 → Int32 → PH → Option Rs)} (hG28 : SK (X12_needs_x z) 28 (X12_needs_u28 (G).1)) (hG93 : SK (X12_needs_x z) 93 (X12_needs_u93 (G).2.1)) (hG111 : SK (X12_needs_x z) 111 (X12_needs_u111 (G).2.2)) : SK (X12_needs_x z) 93 (X12_needs_u93 (X12_needs_g93 G)) := X12_needs_w93 hG111
theorem X12_needs_v189 {z : CZ} {G : (Nat → Int32 → Int32 → Int32 → PH → Option Rs) × (Nat → Int32 → Int32 → PH → Option Rs) × (Nat → Int32 → Int32 → Int32 → Int32 → Int32 → Int32 → PH → Option Rs)} (hG28 : SK (X12_needs_x z) 28 (X12_needs_u28 (G).1)) (hG93 : SK (X12_needs_x z) 93 (X12_needs_u93 (G).2.1)) (hG111 : SK (X12_needs_x z) 111 (X12_needs_u111 (G).2.2)) : SK (X12_needs_x z) 189 (X12_needs_u189 (X12_needs_g189 G)) := X12_needs_w189 hG111
theorem X12_needs_v184 {z : CZ} {G : (Nat → Int32 → Int32 → Int32 → PH → Option Rs) × (Nat → Int32 → Int32 → PH → Option Rs) × (Nat → Int32 → Int32 → Int32 → Int32 → Int32 → Int32 → PH → Option Rs)} (hG28 : SK (X12_needs_x z) 28 (X12_needs_u28 (G).1)) (hG93 : SK (X12_needs_x z) 93 (X12_needs_u93 (G).2.1)) (hG111 : SK (X12_needs_x z) 111 (X12_needs_u111 (G).2.2)) : SK (X12_needs_x z) 184 (X12_needs_u184 (X12_needs_g184 G)) := X12_needs_w184 (X12_needs_v189 hG28 hG93 hG111)
theorem X12_needs_v160 {z : CZ} {G : (Nat → Int32 → Int32 → Int32 → PH → Option Rs) × (Nat → Int32 → Int32 → PH → Option Rs) × (Nat → Int32 → Int32 → Int32 → Int32 → Int32 → Int32 → PH → Option Rs)} (hG28 : SK (X12_needs_x z) 28 (X12_needs_u28 (G).1)) (hG93 : SK (X12_needs_x z) 93 (X12_needs_u93 (G).2.1)) (hG111 : SK (X12_needs_x z) 111 (X12_needs_u111 (G).2.2)) : SK (X12_needs_x z) 160 (X12_needs_u160 (X12_needs_g160 G)) := X12_needs_w160 (X12_needs_v184 hG28 hG93 hG111)
theorem X12_needs_v212 {z : CZ} {G : (Nat → Int32 → Int32 → Int32 → PH → Option Rs) × (Nat → Int32 → Int32 → PH → Option Rs) × (Nat → Int32 → Int32 → Int32 → Int32 → Int32 → Int32 → PH → Option Rs)} (hG28 : SK (X12_needs_x z) 28 (X12_needs_u28 (G).1)) (hG93 : SK (X12_needs_x z) 93 (X12_needs_u93 (G).2.1)) (hG111 : SK (X12_needs_x z) 111 (X12_needs_u111 (G).2.2)) : SK (X12_needs_x z) 212 (X12_needs_u212 (X12_needs_g212 G)) := X12_needs_w212 hG93
theorem X12_needs_v210 {z : CZ} {G : (Nat → Int32 → Int32 → Int32 → PH → Option Rs) × (Nat → Int32 → Int32 → PH → Option Rs) × (Nat → Int32 → Int32 → Int32 → Int32 → Int32 → Int32 → PH → Option Rs)} (hG28 : SK (X12_needs_x z) 28 (X12_needs_u28 (G).1)) (hG93 : SK (X12_needs_x z) 93 (X12_needs_u93 (G).2.1)) (hG111 : SK (X12_needs_x z) 111 (X12_needs_u111 (G).2.2)) : SK (X12_needs_x z) 210 (X12_needs_u210 (X12_needs_g210 G)) := X12_needs_w210 (X12_needs_v212 hG28 hG93 hG111)
theorem X12_needs_v111 {z : CZ} {G : (Nat → Int32 → Int32 → Int32 → PH → Option Rs) × (Nat → Int32 → Int32 → PH → Option Rs) × (Nat → Int32 → Int32 → Int32 → Int32 → Int32 → Int32 → PH → Option Rs)} (hG28 : SK (X12_needs_x z) 28 (X12_needs_u28 (G).1)) (hG93 : SK (X12_needs_x z) 93 (X12_needs_u93 (G).2.1)) (hG111 : SK (X12_needs_x z) 111 (X12_needs_u111 (G).2.2)) : SK (X12_needs_x z) 111 (X12_needs_u111 (X12_needs_g111 G)) := X12_needs_w111 (X12_needs_v160 hG28 hG93 hG111) (X12_needs_v189 hG28 hG93 hG111) (X12_needs_v210 hG28 hG93 hG111) (X12_needs_v212 hG28 hG93 hG111)
noncomputable def X12_needs_fam : Nat → (Nat → Int32 → Int32 → Int32 → PH → Option Rs) × (Nat → Int32 → Int32 → PH → Option Rs) × (Nat → Int32 → Int32 → Int32 → Int32 → Int32 → Int32 → PH → Option Rs)
  | 0 => (fun _ _ _ _ _ => none, fun _ _ _ _ => none, fun _ _ _ _ _ _ _ _ => none)
  | n + 1 => (X12_needs_g28 (X12_needs_fam n), X12_needs_g93 (X12_needs_fam n), X12_needs_g111 (X12_needs_fam n))
theorem X12_needs_k {z : CZ} : ∀ n, SK (X12_needs_x z) 28 (X12_needs_u28 (X12_needs_fam n).1) ∧ SK (X12_needs_x z) 93 (X12_needs_u93 (X12_needs_fam n).2.1) ∧ SK (X12_needs_x z) 111 (X12_needs_u111 (X12_needs_fam n).2.2)
  | 0 => ⟨(fun ls st h r e => by
      obtain ⟨_, e⟩ := gL_of e
      obtain ⟨_, _, e⟩ := gT_of e
      obtain ⟨_, _, e⟩ := gI_of e
      obtain ⟨_, _, e⟩ := gI_of e
      obtain ⟨_, _, e⟩ := gI_of e
      cases e), (fun ls st h r e => by
      obtain ⟨_, e⟩ := gL_of e
      obtain ⟨_, _, e⟩ := gT_of e
      obtain ⟨_, _, e⟩ := gI_of e
      obtain ⟨_, _, e⟩ := gI_of e
      cases e), (fun ls st h r e => by
      obtain ⟨_, e⟩ := gL_of e
      obtain ⟨_, _, e⟩ := gT_of e
      obtain ⟨_, _, e⟩ := gI_of e
      obtain ⟨_, _, e⟩ := gI_of e
      obtain ⟨_, _, e⟩ := gI_of e
      obtain ⟨_, _, e⟩ := gI_of e
      obtain ⟨_, _, e⟩ := gI_of e
      obtain ⟨_, _, e⟩ := gI_of e
      cases e)⟩
  | n + 1 => by
    obtain ⟨ih28, ih93, ih111⟩ := X12_needs_k n
    exact ⟨X12_needs_v28 ih28 ih93 ih111, X12_needs_v93 ih28 ih93 ih111, X12_needs_v111 ih28 ih93 ih111⟩
theorem X12_needs_n0 {G G' : (Nat → Int32 → Int32 → Int32 → PH → Option Rs) × (Nat → Int32 → Int32 → PH → Option Rs) × (Nat → Int32 → Int32 → Int32 → Int32 → Int32 → Int32 → PH → Option Rs)} (hg28 : ∀ a0 a1 a2 a3 a4, Mo ((G).1 a0 a1 a2 a3 a4) ((G').1 a0 a1 a2 a3 a4)) (hg93 : ∀ a0 a1 a2 a3, Mo ((G).2.1 a0 a1 a2 a3) ((G').2.1 a0 a1 a2 a3)) (hg111 : ∀ a0 a1 a2 a3 a4 a5 a6 a7, Mo ((G).2.2 a0 a1 a2 a3 a4 a5 a6 a7) ((G').2.2 a0 a1 a2 a3 a4 a5 a6 a7)) (t : Nat) (x1 : Int32) (x2 : Int32) (h : PH) : Mo (X12_needs_g0 G t x1 x2 h) (X12_needs_g0 G' t x1 x2 h) := X12_needs_m0 hg28 t x1 x2 h
theorem X12_needs_n82 {G G' : (Nat → Int32 → Int32 → Int32 → PH → Option Rs) × (Nat → Int32 → Int32 → PH → Option Rs) × (Nat → Int32 → Int32 → Int32 → Int32 → Int32 → Int32 → PH → Option Rs)} (hg28 : ∀ a0 a1 a2 a3 a4, Mo ((G).1 a0 a1 a2 a3 a4) ((G').1 a0 a1 a2 a3 a4)) (hg93 : ∀ a0 a1 a2 a3, Mo ((G).2.1 a0 a1 a2 a3) ((G').2.1 a0 a1 a2 a3)) (hg111 : ∀ a0 a1 a2 a3 a4 a5 a6 a7, Mo ((G).2.2 a0 a1 a2 a3 a4 a5 a6 a7) ((G').2.2 a0 a1 a2 a3 a4 a5 a6 a7)) (t : Nat) (x1 : Int32) (x4 : Int32) (s0 : Int32) (s1 : Int32) (h : PH) : Mo (X12_needs_g82 G t x1 x4 s0 s1 h) (X12_needs_g82 G' t x1 x4 s0 s1 h) := X12_needs_m82 hg28 t x1 x4 s0 s1 h
theorem X12_needs_n28 {G G' : (Nat → Int32 → Int32 → Int32 → PH → Option Rs) × (Nat → Int32 → Int32 → PH → Option Rs) × (Nat → Int32 → Int32 → Int32 → Int32 → Int32 → Int32 → PH → Option Rs)} (hg28 : ∀ a0 a1 a2 a3 a4, Mo ((G).1 a0 a1 a2 a3 a4) ((G').1 a0 a1 a2 a3 a4)) (hg93 : ∀ a0 a1 a2 a3, Mo ((G).2.1 a0 a1 a2 a3) ((G').2.1 a0 a1 a2 a3)) (hg111 : ∀ a0 a1 a2 a3 a4 a5 a6 a7, Mo ((G).2.2 a0 a1 a2 a3 a4 a5 a6 a7) ((G').2.2 a0 a1 a2 a3 a4 a5 a6 a7)) (t : Nat) (x1 : Int32) (x3 : Int32) (x4 : Int32) (h : PH) : Mo (X12_needs_g28 G t x1 x3 x4 h) (X12_needs_g28 G' t x1 x3 x4 h) := X12_needs_m28 (fun a0 a1 a2 a3 a4 a5 => X12_needs_n82 hg28 hg93 hg111 a0 a1 a2 a3 a4 a5) hg93 t x1 x3 x4 h
theorem X12_needs_n93 {G G' : (Nat → Int32 → Int32 → Int32 → PH → Option Rs) × (Nat → Int32 → Int32 → PH → Option Rs) × (Nat → Int32 → Int32 → Int32 → Int32 → Int32 → Int32 → PH → Option Rs)} (hg28 : ∀ a0 a1 a2 a3 a4, Mo ((G).1 a0 a1 a2 a3 a4) ((G').1 a0 a1 a2 a3 a4)) (hg93 : ∀ a0 a1 a2 a3, Mo ((G).2.1 a0 a1 a2 a3) ((G').2.1 a0 a1 a2 a3)) (hg111 : ∀ a0 a1 a2 a3 a4 a5 a6 a7, Mo ((G).2.2 a0 a1 a2 a3 a4 a5 a6 a7) ((G').2.2 a0 a1 a2 a3 a4 a5 a6 a7)) (t : Nat) (x3 : Int32) (x4 : Int32) (h : PH) : Mo (X12_needs_g93 G t x3 x4 h) (X12_needs_g93 G' t x3 x4 h) := X12_needs_m93 hg111 t x3 x4 h
theorem X12_needs_n189 {G G' : (Nat → Int32 → Int32 → Int32 → PH → Option Rs) × (Nat → Int32 → Int32 → PH → Option Rs) × (Nat → Int32 → Int32 → Int32 → Int32 → Int32 → Int32 → PH → Option Rs)} (hg28 : ∀ a0 a1 a2 a3 a4, Mo ((G).1 a0 a1 a2 a3 a4) ((G').1 a0 a1 a2 a3 a4)) (hg93 : ∀ a0 a1 a2 a3, Mo ((G).2.1 a0 a1 a2 a3) ((G').2.1 a0 a1 a2 a3)) (hg111 : ∀ a0 a1 a2 a3 a4 a5 a6 a7, Mo ((G).2.2 a0 a1 a2 a3 a4 a5 a6 a7) ((G').2.2 a0 a1 a2 a3 a4 a5 a6 a7)) (t : Nat) (x3 : Int32) (x4 : Int32) (x5 : Int32) (x6 : Int32) (x7 : Int32) (x8 : Int32) (h : PH) : Mo (X12_needs_g189 G t x3 x4 x5 x6 x7 x8 h) (X12_needs_g189 G' t x3 x4 x5 x6 x7 x8 h) := X12_needs_m189 hg111 t x3 x4 x5 x6 x7 x8 h
theorem X12_needs_n184 {G G' : (Nat → Int32 → Int32 → Int32 → PH → Option Rs) × (Nat → Int32 → Int32 → PH → Option Rs) × (Nat → Int32 → Int32 → Int32 → Int32 → Int32 → Int32 → PH → Option Rs)} (hg28 : ∀ a0 a1 a2 a3 a4, Mo ((G).1 a0 a1 a2 a3 a4) ((G').1 a0 a1 a2 a3 a4)) (hg93 : ∀ a0 a1 a2 a3, Mo ((G).2.1 a0 a1 a2 a3) ((G').2.1 a0 a1 a2 a3)) (hg111 : ∀ a0 a1 a2 a3 a4 a5 a6 a7, Mo ((G).2.2 a0 a1 a2 a3 a4 a5 a6 a7) ((G').2.2 a0 a1 a2 a3 a4 a5 a6 a7)) (t : Nat) (x3 : Int32) (x4 : Int32) (x5 : Int32) (x6 : Int32) (x8 : Int32) (s0 : Int32) (h : PH) : Mo (X12_needs_g184 G t x3 x4 x5 x6 x8 s0 h) (X12_needs_g184 G' t x3 x4 x5 x6 x8 s0 h) := X12_needs_m184 (fun a0 a1 a2 a3 a4 a5 a6 a7 => X12_needs_n189 hg28 hg93 hg111 a0 a1 a2 a3 a4 a5 a6 a7) t x3 x4 x5 x6 x8 s0 h
theorem X12_needs_n160 {G G' : (Nat → Int32 → Int32 → Int32 → PH → Option Rs) × (Nat → Int32 → Int32 → PH → Option Rs) × (Nat → Int32 → Int32 → Int32 → Int32 → Int32 → Int32 → PH → Option Rs)} (hg28 : ∀ a0 a1 a2 a3 a4, Mo ((G).1 a0 a1 a2 a3 a4) ((G').1 a0 a1 a2 a3 a4)) (hg93 : ∀ a0 a1 a2 a3, Mo ((G).2.1 a0 a1 a2 a3) ((G').2.1 a0 a1 a2 a3)) (hg111 : ∀ a0 a1 a2 a3 a4 a5 a6 a7, Mo ((G).2.2 a0 a1 a2 a3 a4 a5 a6 a7) ((G').2.2 a0 a1 a2 a3 a4 a5 a6 a7)) (t : Nat) (x3 : Int32) (x4 : Int32) (x5 : Int32) (x7 : Int32) (x8 : Int32) (s0 : Int32) (h : PH) : Mo (X12_needs_g160 G t x3 x4 x5 x7 x8 s0 h) (X12_needs_g160 G' t x3 x4 x5 x7 x8 s0 h) := X12_needs_m160 (fun a0 a1 a2 a3 a4 a5 a6 a7 => X12_needs_n184 hg28 hg93 hg111 a0 a1 a2 a3 a4 a5 a6 a7) t x3 x4 x5 x7 x8 s0 h
theorem X12_needs_n212 {G G' : (Nat → Int32 → Int32 → Int32 → PH → Option Rs) × (Nat → Int32 → Int32 → PH → Option Rs) × (Nat → Int32 → Int32 → Int32 → Int32 → Int32 → Int32 → PH → Option Rs)} (hg28 : ∀ a0 a1 a2 a3 a4, Mo ((G).1 a0 a1 a2 a3 a4) ((G').1 a0 a1 a2 a3 a4)) (hg93 : ∀ a0 a1 a2 a3, Mo ((G).2.1 a0 a1 a2 a3) ((G').2.1 a0 a1 a2 a3)) (hg111 : ∀ a0 a1 a2 a3 a4 a5 a6 a7, Mo ((G).2.2 a0 a1 a2 a3 a4 a5 a6 a7) ((G').2.2 a0 a1 a2 a3 a4 a5 a6 a7)) (t : Nat) (x4 : Int32) (s0 : Int32) (s1 : Int32) (h : PH) : Mo (X12_needs_g212 G t x4 s0 s1 h) (X12_needs_g212 G' t x4 s0 s1 h) := X12_needs_m212 hg93 t x4 s0 s1 h
theorem X12_needs_n210 {G G' : (Nat → Int32 → Int32 → Int32 → PH → Option Rs) × (Nat → Int32 → Int32 → PH → Option Rs) × (Nat → Int32 → Int32 → Int32 → Int32 → Int32 → Int32 → PH → Option Rs)} (hg28 : ∀ a0 a1 a2 a3 a4, Mo ((G).1 a0 a1 a2 a3 a4) ((G').1 a0 a1 a2 a3 a4)) (hg93 : ∀ a0 a1 a2 a3, Mo ((G).2.1 a0 a1 a2 a3) ((G').2.1 a0 a1 a2 a3)) (hg111 : ∀ a0 a1 a2 a3 a4 a5 a6 a7, Mo ((G).2.2 a0 a1 a2 a3 a4 a5 a6 a7) ((G').2.2 a0 a1 a2 a3 a4 a5 a6 a7)) (t : Nat) (x4 : Int32) (x5 : Int32) (s0 : Int32) (h : PH) : Mo (X12_needs_g210 G t x4 x5 s0 h) (X12_needs_g210 G' t x4 x5 s0 h) := X12_needs_m210 (fun a0 a1 a2 a3 a4 => X12_needs_n212 hg28 hg93 hg111 a0 a1 a2 a3 a4) t x4 x5 s0 h
theorem X12_needs_n111 {G G' : (Nat → Int32 → Int32 → Int32 → PH → Option Rs) × (Nat → Int32 → Int32 → PH → Option Rs) × (Nat → Int32 → Int32 → Int32 → Int32 → Int32 → Int32 → PH → Option Rs)} (hg28 : ∀ a0 a1 a2 a3 a4, Mo ((G).1 a0 a1 a2 a3 a4) ((G').1 a0 a1 a2 a3 a4)) (hg93 : ∀ a0 a1 a2 a3, Mo ((G).2.1 a0 a1 a2 a3) ((G').2.1 a0 a1 a2 a3)) (hg111 : ∀ a0 a1 a2 a3 a4 a5 a6 a7, Mo ((G).2.2 a0 a1 a2 a3 a4 a5 a6 a7) ((G').2.2 a0 a1 a2 a3 a4 a5 a6 a7)) (t : Nat) (x3 : Int32) (x4 : Int32) (x5 : Int32) (x6 : Int32) (x7 : Int32) (x8 : Int32) (h : PH) : Mo (X12_needs_g111 G t x3 x4 x5 x6 x7 x8 h) (X12_needs_g111 G' t x3 x4 x5 x6 x7 x8 h) := X12_needs_m111 (fun a0 a1 a2 a3 a4 a5 a6 a7 => X12_needs_n160 hg28 hg93 hg111 a0 a1 a2 a3 a4 a5 a6 a7) (fun a0 a1 a2 a3 a4 a5 a6 a7 => X12_needs_n189 hg28 hg93 hg111 a0 a1 a2 a3 a4 a5 a6 a7) (fun a0 a1 a2 a3 a4 => X12_needs_n210 hg28 hg93 hg111 a0 a1 a2 a3 a4) (fun a0 a1 a2 a3 a4 => X12_needs_n212 hg28 hg93 hg111 a0 a1 a2 a3 a4) t x3 x4 x5 x6 x7 x8 h
theorem X12_needs_fm : ∀ n, (∀ a0 a1 a2 a3 a4, Mo ((X12_needs_fam n).1 a0 a1 a2 a3 a4) ((X12_needs_fam (n + 1)).1 a0 a1 a2 a3 a4)) ∧ (∀ a0 a1 a2 a3, Mo ((X12_needs_fam n).2.1 a0 a1 a2 a3) ((X12_needs_fam (n + 1)).2.1 a0 a1 a2 a3)) ∧ (∀ a0 a1 a2 a3 a4 a5 a6 a7, Mo ((X12_needs_fam n).2.2 a0 a1 a2 a3 a4 a5 a6 a7) ((X12_needs_fam (n + 1)).2.2 a0 a1 a2 a3 a4 a5 a6 a7))
  | 0 => ⟨fun _ _ _ _ _ => mo_no, fun _ _ _ _ => mo_no, fun _ _ _ _ _ _ _ _ => mo_no⟩
  | n + 1 => by
    obtain ⟨ih28, ih93, ih111⟩ := X12_needs_fm n
    exact ⟨fun a0 a1 a2 a3 a4 => X12_needs_n28 ih28 ih93 ih111 a0 a1 a2 a3 a4, fun a0 a1 a2 a3 => X12_needs_n93 ih28 ih93 ih111 a0 a1 a2 a3, fun a0 a1 a2 a3 a4 a5 a6 a7 => X12_needs_n111 ih28 ih93 ih111 a0 a1 a2 a3 a4 a5 a6 a7⟩
noncomputable def X12_needs (t : Nat) (x1 : Int32) (x2 : Int32) (h : PH) : Option Rs := lim (fun n => X12_needs_g0 (X12_needs_fam n) t x1 x2 h)
theorem X12_needs_iff {t : Nat} {x1 : Int32} {x2 : Int32} {h : PH} {r : Rs} : X12_needs t x1 x2 h = some r ↔ ∃ n, X12_needs_g0 (X12_needs_fam n) t x1 x2 h = some r := lim_iff (fun n => by
  obtain ⟨ih28, ih93, ih111⟩ := X12_needs_fm n
  exact X12_needs_n0 ih28 ih93 ih111 t x1 x2 h)
noncomputable abbrev X12_needs_F : List PV → PH → Option Rs := FW_T11II (X12_needs)
set_option maxRecDepth 100000 in
theorem X12_needs_gd (l : Launch) : Gd l 4 yX12_needs cX12_needs 9 (some .int) (X12_needs_F)   := Gd_of (by decide +kernel) (fun z hzl as h r e => by
  obtain ⟨hst, e⟩ := gL_of e
  obtain ⟨t, q0, e⟩ := gT_of e
  obtain ⟨x1, q1, e⟩ := gI_of e
  obtain ⟨x2, q2, e⟩ := gI_of e
  rw [st_3 hst q0 q1 q2]
  obtain ⟨n, e⟩ := lim_of e
  obtain ⟨hG28, hG93, hG111⟩ := X12_needs_k (z := z) n
  exact ⟨show 3 ≤ 9 by decide, X12_needs_s0 hG28 _ _ _ _ ((X12_needs_l0 X12_isPlace X12_areWheels X12_looks (X12_needs_fam n).1 t x1 x2 h).trans e)⟩)
abbrev X12_findAll_x (z : CZ) : CX := mx RX12 cX12_findAll 3 3 none "findAll" z
noncomputable def X12_findAll_b0 (k2 : Kn) : Kn := (a_ic 0 (a_is 1 k2))
set_option maxRecDepth 100000 in
theorem X12_findAll_s0 {z : CZ} {k2 : Kn} (hk2 : SK (X12_findAll_x z) 2 k2) : SK (X12_findAll_x z) 0 (X12_findAll_b0 k2) := (s_iconst (pc := 0) dX12_findAll_0 c_ic_0 (s_istoren (pc := 1) dX12_findAll_1 rfl (show 1 < 3 by decide) hk2))
noncomputable def X12_findAll_b2 (c_X12_findAway : Nat → Int32 → PH → Option Rs) (k19 : Kn) : Kn := (a_il 1 (a_al 0 (a_gR 11 704 41 (a_ic 5 (a_ald 41 2624 (a_lt (a_al 0 (a_il 1 (a_vV 11 1 (FW_T11I c_X12_findAway) (a_ic 0 (a_is 2 k19))))) a_vr))))))
set_option maxRecDepth 100000 in
theorem X12_findAll_s2 {z : CZ} {k19 : Kn} (hk19 : SK (X12_findAll_x z) 19 k19) : SK (X12_findAll_x z) 2 (X12_findAll_b2 X12_findAway k19) := (s_iloadn (pc := 2) dX12_findAll_2 rfl (s_aloadn (pc := 3) dX12_findAll_3 rfl (s_gR (pc := 4) (f := 0) ko_11 (by decide) rfl rfl w_1295 dX12_findAll_4 (s_iconst (pc := 7) dX12_findAll_7 c_ic_5 (s_iald (pc := 8) (by decide) (by decide) rfl rfl rfl dX12_findAll_8 (s_cmpge (pc := 9) dX12_findAll_9 (by decide) (s_vr (pc := 74) rfl dX12_findAll_74) (s_aloadn (pc := 12) dX12_findAll_12 rfl (s_iloadn (pc := 13) dX12_findAll_13 rfl (s_vV (pc := 14) (run_virtual (X12_findAway_gd _) (show 1 < 3 by decide) cy_X12_findAway (by decide) rfl w_1681 w_s57 w_1679 dX12_findAll_14) (s_iconst (pc := 17) dX12_findAll_17 c_ic_0 (s_istoren (pc := 18) dX12_findAll_18 rfl (show 2 < 3 by decide) hk19)))))))))))
noncomputable def X12_findAll_b19 (c_X12_nextFrom : Nat → Int32 → PH → Option Rs) (k2 k19 : Kn) : Kn := (a_il 2 (a_al 0 (a_gR 11 704 41 (a_ic 3 (a_ald 41 2624 (a_lt (a_al 0 (a_gR 11 742 59 (a_ic 12 (a_il 1 (a_b (fun a b => a * b) (a_il 2 (a_b (fun a b => a + b) (a_al 0 (a_gR 11 730 55 (a_il 2 (a_ald 55 3520 (a_ast 59 3776 (fun a => a) (a_al 0 (a_gR 11 743 60 (a_ic 12 (a_il 1 (a_b (fun a b => a * b) (a_il 2 (a_b (fun a b => a + b) (a_al 0 (a_il 2 (a_vI 11 1 (FW_T11I c_X12_nextFrom) (a_ast 60 3840 (fun a => a) (a_inc 2 1 k19)))))))))))))))))))))))) (a_inc 1 1 k2)))))))
set_option maxRecDepth 100000 in
theorem X12_findAll_s19 {z : CZ} {k2 k19 : Kn} (hk2 : SK (X12_findAll_x z) 2 k2) (hk19 : SK (X12_findAll_x z) 19 k19) : SK (X12_findAll_x z) 19 (X12_findAll_b19 X12_nextFrom k2 k19) := (s_iloadn (pc := 19) dX12_findAll_19 rfl (s_aloadn (pc := 20) dX12_findAll_20 rfl (s_gR (pc := 21) (f := 0) ko_11 (by decide) rfl rfl w_1295 dX12_findAll_21 (s_iconst (pc := 24) dX12_findAll_24 c_ic_3 (s_iald (pc := 25) (by decide) (by decide) rfl rfl rfl dX12_findAll_25 (s_cmpge (pc := 26) dX12_findAll_26 (by decide) (s_iinc (pc := 68) dX12_findAll_68 c_ic_1 (show 1 < 3 by decide) (s_goto (pc := 71) dX12_findAll_71 (by decide) hk2)) (s_aloadn (pc := 29) dX12_findAll_29 rfl (s_gR (pc := 30) (f := 38) ko_11 (by decide) rfl rfl w_1333 dX12_findAll_30 (s_bipush (pc := 33) dX12_findAll_33 c_bp_12 (s_iloadn (pc := 35) dX12_findAll_35 rfl (s_imul (pc := 36) dX12_findAll_36 (s_iloadn (pc := 37) dX12_findAll_37 rfl (s_iadd (pc := 38) dX12_findAll_38 (s_aloadn (pc := 39) dX12_findAll_39 rfl (s_gR (pc := 40) (f := 26) ko_11 (by decide) rfl rfl w_1321 dX12_findAll_40 (s_iloadn (pc := 43) dX12_findAll_43 rfl (s_iald (pc := 44) (by decide) (by decide) rfl rfl rfl dX12_findAll_44 (s_iast (pc := 45) (by decide) (by decide) rfl rfl rfl dX12_findAll_45 (s_aloadn (pc := 46) dX12_findAll_46 rfl (s_gR (pc := 47) (f := 39) ko_11 (by decide) rfl rfl w_1334 dX12_findAll_47 (s_bipush (pc := 50) dX12_findAll_50 c_bp_12 (s_iloadn (pc := 52) dX12_findAll_52 rfl (s_imul (pc := 53) dX12_findAll_53 (s_iloadn (pc := 54) dX12_findAll_54 rfl (s_iadd (pc := 55) dX12_findAll_55 (s_aloadn (pc := 56) dX12_findAll_56 rfl (s_iloadn (pc := 57) dX12_findAll_57 rfl (s_vI (pc := 58) (run_virtual (X12_nextFrom_gd _) (show 2 < 3 by decide) cy_X12_nextFrom (by decide) rfl w_1690 w_s58 w_1688 dX12_findAll_58) (s_iast (pc := 61) (by decide) (by decide) rfl rfl rfl dX12_findAll_61 (s_iinc (pc := 62) dX12_findAll_62 c_ic_1 (show 2 < 3 by decide) (s_goto (pc := 65) dX12_findAll_65 (by decide) hk19)))))))))))))))))))))))))))))))
noncomputable def X12_findAll_u2 (g : Nat → Int32 → PH → Option Rs) : Kn := fun ls st h => gL 0 st (gT 11 ls 0 fun t => gI ls 1 fun x1 => g t x1 h)
noncomputable def X12_findAll_u19 (g : Nat → Int32 → Int32 → PH → Option Rs) : Kn := fun ls st h => gL 0 st (gT 11 ls 0 fun t => gI ls 1 fun x1 => gI ls 2 fun x2 => g t x1 x2 h)
noncomputable def X12_findAll_f0 (g2 : Nat → Int32 → PH → Option Rs) (t : Nat) (h : PH) : Option Rs :=
  g2 t 0 h
set_option maxRecDepth 100000 in
theorem X12_findAll_l0 (g2 : Nat → Int32 → PH → Option Rs) (t : Nat) (h : PH) : X12_findAll_b0 (X12_findAll_u2 g2) [some (.inr (11, t + 1)), none, none] [] h = X12_findAll_f0 g2 t h := rfl
theorem X12_findAll_m0 {g2 G2 : Nat → Int32 → PH → Option Rs} (hg2 : ∀ a0 a1 a2, Mo (g2 a0 a1 a2) (G2 a0 a1 a2)) (t : Nat) (h : PH) : Mo (X12_findAll_f0 g2 t h) (X12_findAll_f0 G2 t h) := (hg2 t 0 h)
noncomputable def X12_findAll_f2 (c_X12_findAway : Nat → Int32 → PH → Option Rs) (g19 : Nat → Int32 → Int32 → PH → Option Rs) (t : Nat) (x1 : Int32) (h : PH) : Option Rs :=
  nn (hR h 704 t 0) fun r1 =>
  ix 5 (hL h 41 r1) fun j2 =>
  if x1 < (hI h 2624 r1 j2) then
    cV (c_X12_findAway t x1 h) fun h3 =>
    g19 t x1 0 h3
  else
    some (none, h)
set_option maxRecDepth 100000 in
theorem X12_findAll_l2 (c_X12_findAway : Nat → Int32 → PH → Option Rs) (g19 : Nat → Int32 → Int32 → PH → Option Rs) (t : Nat) (x1 : Int32) (h : PH) : X12_findAll_b2 c_X12_findAway (X12_findAll_u19 g19) [some (.inr (11, t + 1)), some (.inl x1), none] [] h = X12_findAll_f2 c_X12_findAway g19 t x1 h := rfl
theorem X12_findAll_m2 {c_X12_findAway : Nat → Int32 → PH → Option Rs} {g19 G19 : Nat → Int32 → Int32 → PH → Option Rs} (hg19 : ∀ a0 a1 a2 a3, Mo (g19 a0 a1 a2 a3) (G19 a0 a1 a2 a3)) (t : Nat) (x1 : Int32) (h : PH) : Mo (X12_findAll_f2 c_X12_findAway g19 t x1 h) (X12_findAll_f2 c_X12_findAway G19 t x1 h) := (mo_nn fun r1 => (mo_ix fun j2 => (mo_if (mo_cV fun h3 => (hg19 t x1 0 h3)) mo_rf)))
theorem X12_findAll_w2 {z : CZ} {g19 : Nat → Int32 → Int32 → PH → Option Rs} (hk19 : SK (X12_findAll_x z) 19 (X12_findAll_u19 g19)) : SK (X12_findAll_x z) 2 (X12_findAll_u2 (X12_findAll_f2 X12_findAway g19)) := by
  intro ls st h r e
  obtain ⟨hst, e⟩ := gL_of e
  obtain ⟨t, q0, e⟩ := gT_of e
  obtain ⟨x1, q1, e⟩ := gI_of e
  rw [st_0 hst]
  exact WK.sub (canon := [some (.inr (11, t + 1)), some (.inl x1), none]) rfl ⟨q0, q1, trivial⟩ (X12_findAll_s2 hk19 _ _ _ _ ((X12_findAll_l2 X12_findAway g19 t x1 h).trans e))
noncomputable def X12_findAll_f19 (c_X12_nextFrom : Nat → Int32 → PH → Option Rs) (g2 : Nat → Int32 → PH → Option Rs) (g19 : Nat → Int32 → Int32 → PH → Option Rs) (t : Nat) (x1 : Int32) (x2 : Int32) (h : PH) : Option Rs :=
  nn (hR h 704 t 0) fun r4 =>
  ix 3 (hL h 41 r4) fun j5 =>
  if x2 < (hI h 2624 r4 j5) then
    nn (hR h 730 t 0) fun r6 =>
    ix x2 (hL h 55 r6) fun j7 =>
    nn (hR h 742 t 0) fun r8 =>
    ix ((12 * x1) + x2) (hL h 59 r8) fun j9 =>
    wr (pI h 3776 r8 j9 (hI h 3520 r6 j7)) fun h10 =>
    cI (c_X12_nextFrom t x2 h10) fun v12 h11 =>
    nn (hR h10 743 t 0) fun r13 =>
    ix ((12 * x1) + x2) (hL h11 60 r13) fun j14 =>
    wr (pI h11 3840 r13 j14 v12) fun h15 =>
    g19 t x1 (x2 + 1) h15
  else
    g2 t (x1 + 1) h
set_option maxRecDepth 100000 in
theorem X12_findAll_l19 (c_X12_nextFrom : Nat → Int32 → PH → Option Rs) (g2 : Nat → Int32 → PH → Option Rs) (g19 : Nat → Int32 → Int32 → PH → Option Rs) (t : Nat) (x1 : Int32) (x2 : Int32) (h : PH) : X12_findAll_b19 c_X12_nextFrom (X12_findAll_u2 g2) (X12_findAll_u19 g19) [some (.inr (11, t + 1)), some (.inl x1), some (.inl x2)] [] h = X12_findAll_f19 c_X12_nextFrom g2 g19 t x1 x2 h := rfl
theorem X12_findAll_m19 {c_X12_nextFrom : Nat → Int32 → PH → Option Rs} {g2 G2 : Nat → Int32 → PH → Option Rs} {g19 G19 : Nat → Int32 → Int32 → PH → Option Rs} (hg2 : ∀ a0 a1 a2, Mo (g2 a0 a1 a2) (G2 a0 a1 a2)) (hg19 : ∀ a0 a1 a2 a3, Mo (g19 a0 a1 a2 a3) (G19 a0 a1 a2 a3)) (t : Nat) (x1 : Int32) (x2 : Int32) (h : PH) : Mo (X12_findAll_f19 c_X12_nextFrom g2 g19 t x1 x2 h) (X12_findAll_f19 c_X12_nextFrom G2 G19 t x1 x2 h) := (mo_nn fun r4 => (mo_ix fun j5 => (mo_if (mo_nn fun r6 => (mo_ix fun j7 => (mo_nn fun r8 => (mo_ix fun j9 => (mo_wr fun h10 => (mo_cI fun v12 h11 => (mo_nn fun r13 => (mo_ix fun j14 => (mo_wr fun h15 => (hg19 t x1 (x2 + 1) h15)))))))))) (hg2 t (x1 + 1) h))))
theorem X12_findAll_w19 {z : CZ} {g2 : Nat → Int32 → PH → Option Rs} {g19 : Nat → Int32 → Int32 → PH → Option Rs} (hk2 : SK (X12_findAll_x z) 2 (X12_findAll_u2 g2)) (hk19 : SK (X12_findAll_x z) 19 (X12_findAll_u19 g19)) : SK (X12_findAll_x z) 19 (X12_findAll_u19 (X12_findAll_f19 X12_nextFrom g2 g19)) := by
  intro ls st h r e
  obtain ⟨hst, e⟩ := gL_of e
  obtain ⟨t, q0, e⟩ := gT_of e
  obtain ⟨x1, q1, e⟩ := gI_of e
  obtain ⟨x2, q2, e⟩ := gI_of e
  rw [st_0 hst]
  exact WK.sub (canon := [some (.inr (11, t + 1)), some (.inl x1), some (.inl x2)]) rfl ⟨q0, q1, q2, trivial⟩ (X12_findAll_s19 hk2 hk19 _ _ _ _ ((X12_findAll_l19 X12_nextFrom g2 g19 t x1 x2 h).trans e))
noncomputable def X12_findAll_g0 (G : (Nat → Int32 → PH → Option Rs) × (Nat → Int32 → Int32 → PH → Option Rs)) (t : Nat) (h : PH) : Option Rs := X12_findAll_f0 (G).1 t h
noncomputable def X12_findAll_g2 (G : (Nat → Int32 → PH → Option Rs) × (Nat → Int32 → Int32 → PH → Option Rs)) (t : Nat) (x1 : Int32) (h : PH) : Option Rs := X12_findAll_f2 X12_findAway (G).2 t x1 h
noncomputable def X12_findAll_g19 (G : (Nat → Int32 → PH → Option Rs) × (Nat → Int32 → Int32 → PH → Option Rs)) (t : Nat) (x1 : Int32) (x2 : Int32) (h : PH) : Option Rs := X12_findAll_f19 X12_nextFrom (G).1 (G).2 t x1 x2 h
theorem X12_findAll_v2 {z : CZ} {G : (Nat → Int32 → PH → Option Rs) × (Nat → Int32 → Int32 → PH → Option Rs)} (hG2 : SK (X12_findAll_x z) 2 (X12_findAll_u2 (G).1)) (hG19 : SK (X12_findAll_x z) 19 (X12_findAll_u19 (G).2)) : SK (X12_findAll_x z) 2 (X12_findAll_u2 (X12_findAll_g2 G)) := X12_findAll_w2 hG19
theorem X12_findAll_v19 {z : CZ} {G : (Nat → Int32 → PH → Option Rs) × (Nat → Int32 → Int32 → PH → Option Rs)} (hG2 : SK (X12_findAll_x z) 2 (X12_findAll_u2 (G).1)) (hG19 : SK (X12_findAll_x z) 19 (X12_findAll_u19 (G).2)) : SK (X12_findAll_x z) 19 (X12_findAll_u19 (X12_findAll_g19 G)) := X12_findAll_w19 hG2 hG19
noncomputable def X12_findAll_fam : Nat → (Nat → Int32 → PH → Option Rs) × (Nat → Int32 → Int32 → PH → Option Rs)
  | 0 => (fun _ _ _ => none, fun _ _ _ _ => none)
  | n + 1 => (X12_findAll_g2 (X12_findAll_fam n), X12_findAll_g19 (X12_findAll_fam n))
theorem X12_findAll_k {z : CZ} : ∀ n, SK (X12_findAll_x z) 2 (X12_findAll_u2 (X12_findAll_fam n).1) ∧ SK (X12_findAll_x z) 19 (X12_findAll_u19 (X12_findAll_fam n).2)
  | 0 => ⟨(fun ls st h r e => by
      obtain ⟨_, e⟩ := gL_of e
      obtain ⟨_, _, e⟩ := gT_of e
      obtain ⟨_, _, e⟩ := gI_of e
      cases e), (fun ls st h r e => by
      obtain ⟨_, e⟩ := gL_of e
      obtain ⟨_, _, e⟩ := gT_of e
      obtain ⟨_, _, e⟩ := gI_of e
      obtain ⟨_, _, e⟩ := gI_of e
      cases e)⟩
  | n + 1 => by
    obtain ⟨ih2, ih19⟩ := X12_findAll_k n
    exact ⟨X12_findAll_v2 ih2 ih19, X12_findAll_v19 ih2 ih19⟩
theorem X12_findAll_n0 {G G' : (Nat → Int32 → PH → Option Rs) × (Nat → Int32 → Int32 → PH → Option Rs)} (hg2 : ∀ a0 a1 a2, Mo ((G).1 a0 a1 a2) ((G').1 a0 a1 a2)) (hg19 : ∀ a0 a1 a2 a3, Mo ((G).2 a0 a1 a2 a3) ((G').2 a0 a1 a2 a3)) (t : Nat) (h : PH) : Mo (X12_findAll_g0 G t h) (X12_findAll_g0 G' t h) := X12_findAll_m0 hg2 t h
theorem X12_findAll_n2 {G G' : (Nat → Int32 → PH → Option Rs) × (Nat → Int32 → Int32 → PH → Option Rs)} (hg2 : ∀ a0 a1 a2, Mo ((G).1 a0 a1 a2) ((G').1 a0 a1 a2)) (hg19 : ∀ a0 a1 a2 a3, Mo ((G).2 a0 a1 a2 a3) ((G').2 a0 a1 a2 a3)) (t : Nat) (x1 : Int32) (h : PH) : Mo (X12_findAll_g2 G t x1 h) (X12_findAll_g2 G' t x1 h) := X12_findAll_m2 hg19 t x1 h
theorem X12_findAll_n19 {G G' : (Nat → Int32 → PH → Option Rs) × (Nat → Int32 → Int32 → PH → Option Rs)} (hg2 : ∀ a0 a1 a2, Mo ((G).1 a0 a1 a2) ((G').1 a0 a1 a2)) (hg19 : ∀ a0 a1 a2 a3, Mo ((G).2 a0 a1 a2 a3) ((G').2 a0 a1 a2 a3)) (t : Nat) (x1 : Int32) (x2 : Int32) (h : PH) : Mo (X12_findAll_g19 G t x1 x2 h) (X12_findAll_g19 G' t x1 x2 h) := X12_findAll_m19 hg2 hg19 t x1 x2 h
theorem X12_findAll_fm : ∀ n, (∀ a0 a1 a2, Mo ((X12_findAll_fam n).1 a0 a1 a2) ((X12_findAll_fam (n + 1)).1 a0 a1 a2)) ∧ (∀ a0 a1 a2 a3, Mo ((X12_findAll_fam n).2 a0 a1 a2 a3) ((X12_findAll_fam (n + 1)).2 a0 a1 a2 a3))
  | 0 => ⟨fun _ _ _ => mo_no, fun _ _ _ _ => mo_no⟩
  | n + 1 => by
    obtain ⟨ih2, ih19⟩ := X12_findAll_fm n
    exact ⟨fun a0 a1 a2 => X12_findAll_n2 ih2 ih19 a0 a1 a2, fun a0 a1 a2 a3 => X12_findAll_n19 ih2 ih19 a0 a1 a2 a3⟩
noncomputable def X12_findAll (t : Nat) (h : PH) : Option Rs := lim (fun n => X12_findAll_g0 (X12_findAll_fam n) t h)
theorem X12_findAll_iff {t : Nat} {h : PH} {r : Rs} : X12_findAll t h = some r ↔ ∃ n, X12_findAll_g0 (X12_findAll_fam n) t h = some r := lim_iff (fun n => by
  obtain ⟨ih2, ih19⟩ := X12_findAll_fm n
  exact X12_findAll_n0 ih2 ih19 t h)
noncomputable abbrev X12_findAll_F : List PV → PH → Option Rs := FW_T11 (X12_findAll)
set_option maxRecDepth 100000 in
theorem X12_findAll_gd (l : Launch) : Gd l 3 yX12_findAll cX12_findAll 3 none (X12_findAll_F)   := Gd_of (by decide +kernel) (fun z hzl as h r e => by
  obtain ⟨hst, e⟩ := gL_of e
  obtain ⟨t, q0, e⟩ := gT_of e
  rw [st_1 hst q0]
  obtain ⟨n, e⟩ := lim_of e
  obtain ⟨hG2, hG19⟩ := X12_findAll_k (z := z) n
  exact ⟨show 1 ≤ 3 by decide, X12_findAll_s0 hG2 _ _ _ _ ((X12_findAll_l0 (X12_findAll_fam n).1 t h).trans e)⟩)
abbrev X12_rightAt_x (z : CZ) : CX := mx RX12 cX12_rightAt 7 1 (some .int) "rightAt" z
noncomputable def X12_rightAt_b0 (k9 : Kn) : Kn := (a_ic (-1) (a_is 3 (a_ic 1000000 (a_is 4 (a_ic 0 (a_is 5 k9))))))
set_option maxRecDepth 100000 in
theorem X12_rightAt_s0 {z : CZ} {k9 : Kn} (hk9 : SK (X12_rightAt_x z) 9 k9) : SK (X12_rightAt_x z) 0 (X12_rightAt_b0 k9) := (s_iconst (pc := 0) dX12_rightAt_0 c_ic_m1 (s_istoren (pc := 1) dX12_rightAt_1 rfl (show 3 < 7 by decide) (s_ldc (pc := 2) w_1683 dX12_rightAt_2 (s_istore (pc := 4) dX12_rightAt_4 (show 4 < 7 by decide) (s_iconst (pc := 6) dX12_rightAt_6 c_ic_0 (s_istore (pc := 7) dX12_rightAt_7 (show 5 < 7 by decide) hk9))))))
noncomputable def X12_rightAt_b9 (c_X12_groupOf : Nat → Int32 → PH → Option Rs) (k45 k98 : Kn) : Kn := (a_il 5 (a_al 0 (a_gR 11 704 41 (a_ic 5 (a_ald 41 2624 (a_lt (a_il 5 (a_il 2 (a_eq k45 (a_il 2 (a_ic 10 (a_lt k98 (a_al 0 (a_il 5 (a_vI 11 1 (FW_T11I c_X12_groupOf) (a_il 2 (a_ic 10 (a_b (fun a b => a - b) (a_eq k45 k98))))))))))))) (a_il 3 a_ir)))))))
set_option maxRecDepth 100000 in
theorem X12_rightAt_s9 {z : CZ} {k45 k98 : Kn} (hk45 : SK (X12_rightAt_x z) 45 k45) (hk98 : SK (X12_rightAt_x z) 98 k98) : SK (X12_rightAt_x z) 9 (X12_rightAt_b9 X12_groupOf k45 k98) := (s_iload (pc := 9) dX12_rightAt_9 (s_aloadn (pc := 11) dX12_rightAt_11 rfl (s_gR (pc := 12) (f := 0) ko_11 (by decide) rfl rfl w_1295 dX12_rightAt_12 (s_iconst (pc := 15) dX12_rightAt_15 c_ic_5 (s_iald (pc := 16) (by decide) (by decide) rfl rfl rfl dX12_rightAt_16 (s_cmpge (pc := 17) dX12_rightAt_17 (by decide) (s_iloadn (pc := 104) dX12_rightAt_104 rfl (s_ir (pc := 105) rfl dX12_rightAt_105)) (s_iload (pc := 20) dX12_rightAt_20 (s_iloadn (pc := 22) dX12_rightAt_22 rfl (s_cmpeq (pc := 23) dX12_rightAt_23 (by decide) hk45 (s_iloadn (pc := 26) dX12_rightAt_26 rfl (s_bipush (pc := 27) dX12_rightAt_27 c_bp_10 (s_cmplt (pc := 29) dX12_rightAt_29 (by decide) hk98 (s_aloadn (pc := 32) dX12_rightAt_32 rfl (s_iload (pc := 33) dX12_rightAt_33 (s_vI (pc := 35) (run_virtual (X12_groupOf_gd _) (show 0 < 1 by decide) cy_X12_groupOf (by decide) rfl w_1513 w_s36 w_1511 dX12_rightAt_35) (s_iloadn (pc := 38) dX12_rightAt_38 rfl (s_bipush (pc := 39) dX12_rightAt_39 c_bp_10 (s_isub (pc := 41) dX12_rightAt_41 (s_cmpne (pc := 42) dX12_rightAt_42 (by decide) hk98 hk45)))))))))))))))))))
noncomputable def X12_rightAt_b45 (k98 : Kn) : Kn := (a_al 0 (a_gR 11 743 60 (a_ic 12 (a_il 5 (a_b (fun a b => a * b) (a_il 1 (a_b (fun a b => a + b) (a_ald 60 3840 (a_is 6 (a_il 6 (a_n k98 (a_al 0 (a_gR 11 742 59 (a_ic 12 (a_il 5 (a_b (fun a b => a * b) (a_il 1 (a_b (fun a b => a + b) (a_ald 59 3776 (a_il 4 (a_lt (a_il 6 (a_is 3 (a_al 0 (a_gR 11 742 59 (a_ic 12 (a_il 5 (a_b (fun a b => a * b) (a_il 1 (a_b (fun a b => a + b) (a_ald 59 3776 (a_is 4 k98))))))))))) k98)))))))))))))))))))))
set_option maxRecDepth 100000 in
theorem X12_rightAt_s45 {z : CZ} {k98 : Kn} (hk98 : SK (X12_rightAt_x z) 98 k98) : SK (X12_rightAt_x z) 45 (X12_rightAt_b45 k98) := (s_aloadn (pc := 45) dX12_rightAt_45 rfl (s_gR (pc := 46) (f := 39) ko_11 (by decide) rfl rfl w_1334 dX12_rightAt_46 (s_bipush (pc := 49) dX12_rightAt_49 c_bp_12 (s_iload (pc := 51) dX12_rightAt_51 (s_imul (pc := 53) dX12_rightAt_53 (s_iloadn (pc := 54) dX12_rightAt_54 rfl (s_iadd (pc := 55) dX12_rightAt_55 (s_iald (pc := 56) (by decide) (by decide) rfl rfl rfl dX12_rightAt_56 (s_istore (pc := 57) dX12_rightAt_57 (show 6 < 7 by decide) (s_iload (pc := 59) dX12_rightAt_59 (s_iflt (pc := 61) dX12_rightAt_61 (by decide) hk98 (s_aloadn (pc := 64) dX12_rightAt_64 rfl (s_gR (pc := 65) (f := 38) ko_11 (by decide) rfl rfl w_1333 dX12_rightAt_65 (s_bipush (pc := 68) dX12_rightAt_68 c_bp_12 (s_iload (pc := 70) dX12_rightAt_70 (s_imul (pc := 72) dX12_rightAt_72 (s_iloadn (pc := 73) dX12_rightAt_73 rfl (s_iadd (pc := 74) dX12_rightAt_74 (s_iald (pc := 75) (by decide) (by decide) rfl rfl rfl dX12_rightAt_75 (s_iload (pc := 76) dX12_rightAt_76 (s_cmpge (pc := 78) dX12_rightAt_78 (by decide) hk98 (s_iload (pc := 81) dX12_rightAt_81 (s_istoren (pc := 83) dX12_rightAt_83 rfl (show 3 < 7 by decide) (s_aloadn (pc := 84) dX12_rightAt_84 rfl (s_gR (pc := 85) (f := 38) ko_11 (by decide) rfl rfl w_1333 dX12_rightAt_85 (s_bipush (pc := 88) dX12_rightAt_88 c_bp_12 (s_iload (pc := 90) dX12_rightAt_90 (s_imul (pc := 92) dX12_rightAt_92 (s_iloadn (pc := 93) dX12_rightAt_93 rfl (s_iadd (pc := 94) dX12_rightAt_94 (s_iald (pc := 95) (by decide) (by decide) rfl rfl rfl dX12_rightAt_95 (s_istore (pc := 96) dX12_rightAt_96 (show 4 < 7 by decide) hk98))))))))))))))))))))))))))))))))
noncomputable def X12_rightAt_b98 (k9 : Kn) : Kn := (a_inc 5 1 k9)
set_option maxRecDepth 100000 in
theorem X12_rightAt_s98 {z : CZ} {k9 : Kn} (hk9 : SK (X12_rightAt_x z) 9 k9) : SK (X12_rightAt_x z) 98 (X12_rightAt_b98 k9) := (s_iinc (pc := 98) dX12_rightAt_98 c_ic_1 (show 5 < 7 by decide) (s_goto (pc := 101) dX12_rightAt_101 (by decide) hk9))
noncomputable def X12_rightAt_u9 (g : Nat → Int32 → Int32 → Int32 → Int32 → Int32 → PH → Option Rs) : Kn := fun ls st h => gL 0 st (gT 11 ls 0 fun t => gI ls 1 fun x1 => gI ls 2 fun x2 => gI ls 3 fun x3 => gI ls 4 fun x4 => gI ls 5 fun x5 => g t x1 x2 x3 x4 x5 h)
noncomputable def X12_rightAt_u45 (g : Nat → Int32 → Int32 → Int32 → Int32 → Int32 → PH → Option Rs) : Kn := fun ls st h => gL 0 st (gT 11 ls 0 fun t => gI ls 1 fun x1 => gI ls 2 fun x2 => gI ls 3 fun x3 => gI ls 4 fun x4 => gI ls 5 fun x5 => g t x1 x2 x3 x4 x5 h)
noncomputable def X12_rightAt_u98 (g : Nat → Int32 → Int32 → Int32 → Int32 → Int32 → PH → Option Rs) : Kn := fun ls st h => gL 0 st (gT 11 ls 0 fun t => gI ls 1 fun x1 => gI ls 2 fun x2 => gI ls 3 fun x3 => gI ls 4 fun x4 => gI ls 5 fun x5 => g t x1 x2 x3 x4 x5 h)
noncomputable def X12_rightAt_f0 (g9 : Nat → Int32 → Int32 → Int32 → Int32 → Int32 → PH → Option Rs) (t : Nat) (x1 : Int32) (x2 : Int32) (h : PH) : Option Rs :=
  g9 t x1 x2 (-1) 1000000 0 h
set_option maxRecDepth 100000 in
theorem X12_rightAt_l0 (g9 : Nat → Int32 → Int32 → Int32 → Int32 → Int32 → PH → Option Rs) (t : Nat) (x1 : Int32) (x2 : Int32) (h : PH) : X12_rightAt_b0 (X12_rightAt_u9 g9) [some (.inr (11, t + 1)), some (.inl x1), some (.inl x2), none, none, none, none] [] h = X12_rightAt_f0 g9 t x1 x2 h := rfl
theorem X12_rightAt_m0 {g9 G9 : Nat → Int32 → Int32 → Int32 → Int32 → Int32 → PH → Option Rs} (hg9 : ∀ a0 a1 a2 a3 a4 a5 a6, Mo (g9 a0 a1 a2 a3 a4 a5 a6) (G9 a0 a1 a2 a3 a4 a5 a6)) (t : Nat) (x1 : Int32) (x2 : Int32) (h : PH) : Mo (X12_rightAt_f0 g9 t x1 x2 h) (X12_rightAt_f0 G9 t x1 x2 h) := (hg9 t x1 x2 (-1) 1000000 0 h)
noncomputable def X12_rightAt_f9 (c_X12_groupOf : Nat → Int32 → PH → Option Rs) (g45 : Nat → Int32 → Int32 → Int32 → Int32 → Int32 → PH → Option Rs) (g98 : Nat → Int32 → Int32 → Int32 → Int32 → Int32 → PH → Option Rs) (t : Nat) (x1 : Int32) (x2 : Int32) (x3 : Int32) (x4 : Int32) (x5 : Int32) (h : PH) : Option Rs :=
  nn (hR h 704 t 0) fun r1 =>
  ix 5 (hL h 41 r1) fun j2 =>
  if x5 < (hI h 2624 r1 j2) then
    if x5 = x2 then
      g45 t x1 x2 x3 x4 x5 h
    else
      if x2 < 10 then
        g98 t x1 x2 x3 x4 x5 h
      else
        cI (c_X12_groupOf t x5 h) fun v4 h3 =>
        if v4 = (x2 - 10) then
          g45 t x1 x2 x3 x4 x5 h3
        else
          g98 t x1 x2 x3 x4 x5 h3
  else
    some (some (.inl x3), h)
set_option maxRecDepth 100000 in
theorem X12_rightAt_l9 (c_X12_groupOf : Nat → Int32 → PH → Option Rs) (g45 : Nat → Int32 → Int32 → Int32 → Int32 → Int32 → PH → Option Rs) (g98 : Nat → Int32 → Int32 → Int32 → Int32 → Int32 → PH → Option Rs) (t : Nat) (x1 : Int32) (x2 : Int32) (x3 : Int32) (x4 : Int32) (x5 : Int32) (h : PH) : X12_rightAt_b9 c_X12_groupOf (X12_rightAt_u45 g45) (X12_rightAt_u98 g98) [some (.inr (11, t + 1)), some (.inl x1), some (.inl x2), some (.inl x3), some (.inl x4), some (.inl x5), none] [] h = X12_rightAt_f9 c_X12_groupOf g45 g98 t x1 x2 x3 x4 x5 h := rfl
theorem X12_rightAt_m9 {c_X12_groupOf : Nat → Int32 → PH → Option Rs} {g45 G45 : Nat → Int32 → Int32 → Int32 → Int32 → Int32 → PH → Option Rs} {g98 G98 : Nat → Int32 → Int32 → Int32 → Int32 → Int32 → PH → Option Rs} (hg45 : ∀ a0 a1 a2 a3 a4 a5 a6, Mo (g45 a0 a1 a2 a3 a4 a5 a6) (G45 a0 a1 a2 a3 a4 a5 a6)) (hg98 : ∀ a0 a1 a2 a3 a4 a5 a6, Mo (g98 a0 a1 a2 a3 a4 a5 a6) (G98 a0 a1 a2 a3 a4 a5 a6)) (t : Nat) (x1 : Int32) (x2 : Int32) (x3 : Int32) (x4 : Int32) (x5 : Int32) (h : PH) : Mo (X12_rightAt_f9 c_X12_groupOf g45 g98 t x1 x2 x3 x4 x5 h) (X12_rightAt_f9 c_X12_groupOf G45 G98 t x1 x2 x3 x4 x5 h) := (mo_nn fun r1 => (mo_ix fun j2 => (mo_if (mo_if (hg45 t x1 x2 x3 x4 x5 h) (mo_if (hg98 t x1 x2 x3 x4 x5 h) (mo_cI fun v4 h3 => (mo_if (hg45 t x1 x2 x3 x4 x5 h3) (hg98 t x1 x2 x3 x4 x5 h3))))) mo_rf)))
theorem X12_rightAt_w9 {z : CZ} {g45 : Nat → Int32 → Int32 → Int32 → Int32 → Int32 → PH → Option Rs} {g98 : Nat → Int32 → Int32 → Int32 → Int32 → Int32 → PH → Option Rs} (hk45 : SK (X12_rightAt_x z) 45 (X12_rightAt_u45 g45)) (hk98 : SK (X12_rightAt_x z) 98 (X12_rightAt_u98 g98)) : SK (X12_rightAt_x z) 9 (X12_rightAt_u9 (X12_rightAt_f9 X12_groupOf g45 g98)) := by
  intro ls st h r e
  obtain ⟨hst, e⟩ := gL_of e
  obtain ⟨t, q0, e⟩ := gT_of e
  obtain ⟨x1, q1, e⟩ := gI_of e
  obtain ⟨x2, q2, e⟩ := gI_of e
  obtain ⟨x3, q3, e⟩ := gI_of e
  obtain ⟨x4, q4, e⟩ := gI_of e
  obtain ⟨x5, q5, e⟩ := gI_of e
  rw [st_0 hst]
  exact WK.sub (canon := [some (.inr (11, t + 1)), some (.inl x1), some (.inl x2), some (.inl x3), some (.inl x4), some (.inl x5), none]) rfl ⟨q0, q1, q2, q3, q4, q5, trivial⟩ (X12_rightAt_s9 hk45 hk98 _ _ _ _ ((X12_rightAt_l9 X12_groupOf g45 g98 t x1 x2 x3 x4 x5 h).trans e))
noncomputable def X12_rightAt_f45 (g98 : Nat → Int32 → Int32 → Int32 → Int32 → Int32 → PH → Option Rs) (t : Nat) (x1 : Int32) (x2 : Int32) (x3 : Int32) (x4 : Int32) (x5 : Int32) (h : PH) : Option Rs :=
  nn (hR h 743 t 0) fun r5 =>
  ix ((12 * x5) + x1) (hL h 60 r5) fun j6 =>
  if (hI h 3840 r5 j6) < 0 then
    g98 t x1 x2 x3 x4 x5 h
  else
    nn (hR h 742 t 0) fun r7 =>
    ix ((12 * x5) + x1) (hL h 59 r7) fun j8 =>
    if (hI h 3776 r7 j8) < x4 then
      nn (hR h 742 t 0) fun r9 =>
      ix ((12 * x5) + x1) (hL h 59 r9) fun j10 =>
      g98 t x1 x2 (hI h 3840 r5 j6) (hI h 3776 r9 j10) x5 h
    else
      g98 t x1 x2 x3 x4 x5 h
set_option maxRecDepth 100000 in
theorem X12_rightAt_l45 (g98 : Nat → Int32 → Int32 → Int32 → Int32 → Int32 → PH → Option Rs) (t : Nat) (x1 : Int32) (x2 : Int32) (x3 : Int32) (x4 : Int32) (x5 : Int32) (h : PH) : X12_rightAt_b45 (X12_rightAt_u98 g98) [some (.inr (11, t + 1)), some (.inl x1), some (.inl x2), some (.inl x3), some (.inl x4), some (.inl x5), none] [] h = X12_rightAt_f45 g98 t x1 x2 x3 x4 x5 h := rfl
theorem X12_rightAt_m45 {g98 G98 : Nat → Int32 → Int32 → Int32 → Int32 → Int32 → PH → Option Rs} (hg98 : ∀ a0 a1 a2 a3 a4 a5 a6, Mo (g98 a0 a1 a2 a3 a4 a5 a6) (G98 a0 a1 a2 a3 a4 a5 a6)) (t : Nat) (x1 : Int32) (x2 : Int32) (x3 : Int32) (x4 : Int32) (x5 : Int32) (h : PH) : Mo (X12_rightAt_f45 g98 t x1 x2 x3 x4 x5 h) (X12_rightAt_f45 G98 t x1 x2 x3 x4 x5 h) := (mo_nn fun r5 => (mo_ix fun j6 => (mo_if (hg98 t x1 x2 x3 x4 x5 h) (mo_nn fun r7 => (mo_ix fun j8 => (mo_if (mo_nn fun r9 => (mo_ix fun j10 => (hg98 t x1 x2 (hI h 3840 r5 j6) (hI h 3776 r9 j10) x5 h))) (hg98 t x1 x2 x3 x4 x5 h)))))))
theorem X12_rightAt_w45 {z : CZ} {g98 : Nat → Int32 → Int32 → Int32 → Int32 → Int32 → PH → Option Rs} (hk98 : SK (X12_rightAt_x z) 98 (X12_rightAt_u98 g98)) : SK (X12_rightAt_x z) 45 (X12_rightAt_u45 (X12_rightAt_f45 g98)) := by
  intro ls st h r e
  obtain ⟨hst, e⟩ := gL_of e
  obtain ⟨t, q0, e⟩ := gT_of e
  obtain ⟨x1, q1, e⟩ := gI_of e
  obtain ⟨x2, q2, e⟩ := gI_of e
  obtain ⟨x3, q3, e⟩ := gI_of e
  obtain ⟨x4, q4, e⟩ := gI_of e
  obtain ⟨x5, q5, e⟩ := gI_of e
  rw [st_0 hst]
  exact WK.sub (canon := [some (.inr (11, t + 1)), some (.inl x1), some (.inl x2), some (.inl x3), some (.inl x4), some (.inl x5), none]) rfl ⟨q0, q1, q2, q3, q4, q5, trivial⟩ (X12_rightAt_s45 hk98 _ _ _ _ ((X12_rightAt_l45 g98 t x1 x2 x3 x4 x5 h).trans e))
noncomputable def X12_rightAt_f98 (g9 : Nat → Int32 → Int32 → Int32 → Int32 → Int32 → PH → Option Rs) (t : Nat) (x1 : Int32) (x2 : Int32) (x3 : Int32) (x4 : Int32) (x5 : Int32) (h : PH) : Option Rs :=
  g9 t x1 x2 x3 x4 (x5 + 1) h
set_option maxRecDepth 100000 in
theorem X12_rightAt_l98 (g9 : Nat → Int32 → Int32 → Int32 → Int32 → Int32 → PH → Option Rs) (t : Nat) (x1 : Int32) (x2 : Int32) (x3 : Int32) (x4 : Int32) (x5 : Int32) (h : PH) : X12_rightAt_b98 (X12_rightAt_u9 g9) [some (.inr (11, t + 1)), some (.inl x1), some (.inl x2), some (.inl x3), some (.inl x4), some (.inl x5), none] [] h = X12_rightAt_f98 g9 t x1 x2 x3 x4 x5 h := rfl
theorem X12_rightAt_m98 {g9 G9 : Nat → Int32 → Int32 → Int32 → Int32 → Int32 → PH → Option Rs} (hg9 : ∀ a0 a1 a2 a3 a4 a5 a6, Mo (g9 a0 a1 a2 a3 a4 a5 a6) (G9 a0 a1 a2 a3 a4 a5 a6)) (t : Nat) (x1 : Int32) (x2 : Int32) (x3 : Int32) (x4 : Int32) (x5 : Int32) (h : PH) : Mo (X12_rightAt_f98 g9 t x1 x2 x3 x4 x5 h) (X12_rightAt_f98 G9 t x1 x2 x3 x4 x5 h) := (hg9 t x1 x2 x3 x4 (x5 + 1) h)
theorem X12_rightAt_w98 {z : CZ} {g9 : Nat → Int32 → Int32 → Int32 → Int32 → Int32 → PH → Option Rs} (hk9 : SK (X12_rightAt_x z) 9 (X12_rightAt_u9 g9)) : SK (X12_rightAt_x z) 98 (X12_rightAt_u98 (X12_rightAt_f98 g9)) := by
  intro ls st h r e
  obtain ⟨hst, e⟩ := gL_of e
  obtain ⟨t, q0, e⟩ := gT_of e
  obtain ⟨x1, q1, e⟩ := gI_of e
  obtain ⟨x2, q2, e⟩ := gI_of e
  obtain ⟨x3, q3, e⟩ := gI_of e
  obtain ⟨x4, q4, e⟩ := gI_of e
  obtain ⟨x5, q5, e⟩ := gI_of e
  rw [st_0 hst]
  exact WK.sub (canon := [some (.inr (11, t + 1)), some (.inl x1), some (.inl x2), some (.inl x3), some (.inl x4), some (.inl x5), none]) rfl ⟨q0, q1, q2, q3, q4, q5, trivial⟩ (X12_rightAt_s98 hk9 _ _ _ _ ((X12_rightAt_l98 g9 t x1 x2 x3 x4 x5 h).trans e))
noncomputable def X12_rightAt_g0 (G : (Nat → Int32 → Int32 → Int32 → Int32 → Int32 → PH → Option Rs)) (t : Nat) (x1 : Int32) (x2 : Int32) (h : PH) : Option Rs := X12_rightAt_f0 (G) t x1 x2 h
noncomputable def X12_rightAt_g98 (G : (Nat → Int32 → Int32 → Int32 → Int32 → Int32 → PH → Option Rs)) (t : Nat) (x1 : Int32) (x2 : Int32) (x3 : Int32) (x4 : Int32) (x5 : Int32) (h : PH) : Option Rs := X12_rightAt_f98 (G) t x1 x2 x3 x4 x5 h
noncomputable def X12_rightAt_g45 (G : (Nat → Int32 → Int32 → Int32 → Int32 → Int32 → PH → Option Rs)) (t : Nat) (x1 : Int32) (x2 : Int32) (x3 : Int32) (x4 : Int32) (x5 : Int32) (h : PH) : Option Rs := X12_rightAt_f45 (X12_rightAt_g98 G) t x1 x2 x3 x4 x5 h
noncomputable def X12_rightAt_g9 (G : (Nat → Int32 → Int32 → Int32 → Int32 → Int32 → PH → Option Rs)) (t : Nat) (x1 : Int32) (x2 : Int32) (x3 : Int32) (x4 : Int32) (x5 : Int32) (h : PH) : Option Rs := X12_rightAt_f9 X12_groupOf (X12_rightAt_g45 G) (X12_rightAt_g98 G) t x1 x2 x3 x4 x5 h
theorem X12_rightAt_v98 {z : CZ} {G : (Nat → Int32 → Int32 → Int32 → Int32 → Int32 → PH → Option Rs)} (hG9 : SK (X12_rightAt_x z) 9 (X12_rightAt_u9 (G))) : SK (X12_rightAt_x z) 98 (X12_rightAt_u98 (X12_rightAt_g98 G)) := X12_rightAt_w98 hG9
theorem X12_rightAt_v45 {z : CZ} {G : (Nat → Int32 → Int32 → Int32 → Int32 → Int32 → PH → Option Rs)} (hG9 : SK (X12_rightAt_x z) 9 (X12_rightAt_u9 (G))) : SK (X12_rightAt_x z) 45 (X12_rightAt_u45 (X12_rightAt_g45 G)) := X12_rightAt_w45 (X12_rightAt_v98 hG9)
theorem X12_rightAt_v9 {z : CZ} {G : (Nat → Int32 → Int32 → Int32 → Int32 → Int32 → PH → Option Rs)} (hG9 : SK (X12_rightAt_x z) 9 (X12_rightAt_u9 (G))) : SK (X12_rightAt_x z) 9 (X12_rightAt_u9 (X12_rightAt_g9 G)) := X12_rightAt_w9 (X12_rightAt_v45 hG9) (X12_rightAt_v98 hG9)
noncomputable def X12_rightAt_fam : Nat → (Nat → Int32 → Int32 → Int32 → Int32 → Int32 → PH → Option Rs)
  | 0 => fun _ _ _ _ _ _ _ => none
  | n + 1 => X12_rightAt_g9 (X12_rightAt_fam n)
theorem X12_rightAt_k {z : CZ} : ∀ n, SK (X12_rightAt_x z) 9 (X12_rightAt_u9 (X12_rightAt_fam n))
  | 0 => (fun ls st h r e => by
      obtain ⟨_, e⟩ := gL_of e
      obtain ⟨_, _, e⟩ := gT_of e
      obtain ⟨_, _, e⟩ := gI_of e
      obtain ⟨_, _, e⟩ := gI_of e
      obtain ⟨_, _, e⟩ := gI_of e
      obtain ⟨_, _, e⟩ := gI_of e
      obtain ⟨_, _, e⟩ := gI_of e
      cases e)
  | n + 1 => by
    obtain ih9 := X12_rightAt_k n
    exact X12_rightAt_v9 ih9
theorem X12_rightAt_n0 {G G' : (Nat → Int32 → Int32 → Int32 → Int32 → Int32 → PH → Option Rs)} (hg9 : ∀ a0 a1 a2 a3 a4 a5 a6, Mo ((G) a0 a1 a2 a3 a4 a5 a6) ((G') a0 a1 a2 a3 a4 a5 a6)) (t : Nat) (x1 : Int32) (x2 : Int32) (h : PH) : Mo (X12_rightAt_g0 G t x1 x2 h) (X12_rightAt_g0 G' t x1 x2 h) := X12_rightAt_m0 hg9 t x1 x2 h
theorem X12_rightAt_n98 {G G' : (Nat → Int32 → Int32 → Int32 → Int32 → Int32 → PH → Option Rs)} (hg9 : ∀ a0 a1 a2 a3 a4 a5 a6, Mo ((G) a0 a1 a2 a3 a4 a5 a6) ((G') a0 a1 a2 a3 a4 a5 a6)) (t : Nat) (x1 : Int32) (x2 : Int32) (x3 : Int32) (x4 : Int32) (x5 : Int32) (h : PH) : Mo (X12_rightAt_g98 G t x1 x2 x3 x4 x5 h) (X12_rightAt_g98 G' t x1 x2 x3 x4 x5 h) := X12_rightAt_m98 hg9 t x1 x2 x3 x4 x5 h
theorem X12_rightAt_n45 {G G' : (Nat → Int32 → Int32 → Int32 → Int32 → Int32 → PH → Option Rs)} (hg9 : ∀ a0 a1 a2 a3 a4 a5 a6, Mo ((G) a0 a1 a2 a3 a4 a5 a6) ((G') a0 a1 a2 a3 a4 a5 a6)) (t : Nat) (x1 : Int32) (x2 : Int32) (x3 : Int32) (x4 : Int32) (x5 : Int32) (h : PH) : Mo (X12_rightAt_g45 G t x1 x2 x3 x4 x5 h) (X12_rightAt_g45 G' t x1 x2 x3 x4 x5 h) := X12_rightAt_m45 (fun a0 a1 a2 a3 a4 a5 a6 => X12_rightAt_n98 hg9 a0 a1 a2 a3 a4 a5 a6) t x1 x2 x3 x4 x5 h
theorem X12_rightAt_n9 {G G' : (Nat → Int32 → Int32 → Int32 → Int32 → Int32 → PH → Option Rs)} (hg9 : ∀ a0 a1 a2 a3 a4 a5 a6, Mo ((G) a0 a1 a2 a3 a4 a5 a6) ((G') a0 a1 a2 a3 a4 a5 a6)) (t : Nat) (x1 : Int32) (x2 : Int32) (x3 : Int32) (x4 : Int32) (x5 : Int32) (h : PH) : Mo (X12_rightAt_g9 G t x1 x2 x3 x4 x5 h) (X12_rightAt_g9 G' t x1 x2 x3 x4 x5 h) := X12_rightAt_m9 (fun a0 a1 a2 a3 a4 a5 a6 => X12_rightAt_n45 hg9 a0 a1 a2 a3 a4 a5 a6) (fun a0 a1 a2 a3 a4 a5 a6 => X12_rightAt_n98 hg9 a0 a1 a2 a3 a4 a5 a6) t x1 x2 x3 x4 x5 h
theorem X12_rightAt_fm : ∀ n, (∀ a0 a1 a2 a3 a4 a5 a6, Mo ((X12_rightAt_fam n) a0 a1 a2 a3 a4 a5 a6) ((X12_rightAt_fam (n + 1)) a0 a1 a2 a3 a4 a5 a6))
  | 0 => fun _ _ _ _ _ _ _ => mo_no
  | n + 1 => by
    obtain ih9 := X12_rightAt_fm n
    exact fun a0 a1 a2 a3 a4 a5 a6 => X12_rightAt_n9 ih9 a0 a1 a2 a3 a4 a5 a6
noncomputable def X12_rightAt (t : Nat) (x1 : Int32) (x2 : Int32) (h : PH) : Option Rs := lim (fun n => X12_rightAt_g0 (X12_rightAt_fam n) t x1 x2 h)
theorem X12_rightAt_iff {t : Nat} {x1 : Int32} {x2 : Int32} {h : PH} {r : Rs} : X12_rightAt t x1 x2 h = some r ↔ ∃ n, X12_rightAt_g0 (X12_rightAt_fam n) t x1 x2 h = some r := lim_iff (fun n => by
  obtain ih9 := X12_rightAt_fm n
  exact X12_rightAt_n0 ih9 t x1 x2 h)
noncomputable abbrev X12_rightAt_F : List PV → PH → Option Rs := FW_T11II (X12_rightAt)
set_option maxRecDepth 100000 in
theorem X12_rightAt_gd (l : Launch) : Gd l 1 yX12_rightAt cX12_rightAt 7 (some .int) (X12_rightAt_F)   := Gd_of (by decide +kernel) (fun z hzl as h r e => by
  obtain ⟨hst, e⟩ := gL_of e
  obtain ⟨t, q0, e⟩ := gT_of e
  obtain ⟨x1, q1, e⟩ := gI_of e
  obtain ⟨x2, q2, e⟩ := gI_of e
  rw [st_3 hst q0 q1 q2]
  obtain ⟨n, e⟩ := lim_of e
  obtain hG9 := X12_rightAt_k (z := z) n
  exact ⟨show 3 ≤ 7 by decide, X12_rightAt_s0 hG9 _ _ _ _ ((X12_rightAt_l0 (X12_rightAt_fam n) t x1 x2 h).trans e)⟩)
abbrev X12_wrongRows_x (z : CZ) : CX := mx RX12 cX12_wrongRows 7 4 (some .int) "wrongRows" z
noncomputable def X12_wrongRows_b0 (c_X12_looks : Nat → Int32 → PH → Option Rs) (c_X12_findAll : Nat → PH → Option Rs) (k14 : Kn) : Kn := (a_al 0 (a_il 1 (a_vV 11 1 (FW_T11I c_X12_looks) (a_al 0 (a_vV 11 0 (FW_T11 c_X12_findAll) (a_ic 0 (a_is 3 (a_ic 0 (a_is 4 k14)))))))))
set_option maxRecDepth 100000 in
theorem X12_wrongRows_s0 {z : CZ} {k14 : Kn} (hk14 : SK (X12_wrongRows_x z) 14 k14) : SK (X12_wrongRows_x z) 0 (X12_wrongRows_b0 X12_looks X12_findAll k14) := (s_aloadn (pc := 0) dX12_wrongRows_0 rfl (s_iloadn (pc := 1) dX12_wrongRows_1 rfl (s_vV (pc := 2) (run_virtual (X12_looks_gd _) (show 3 < 4 by decide) cy_X12_looks (by decide) rfl w_1677 w_s56 w_1675 dX12_wrongRows_2) (s_aloadn (pc := 5) dX12_wrongRows_5 rfl (s_vV (pc := 6) (run_virtual (X12_findAll_gd _) (show 3 < 4 by decide) cy_X12_findAll (by decide) rfl w_1770 w_s72 w_1768 dX12_wrongRows_6) (s_iconst (pc := 9) dX12_wrongRows_9 c_ic_0 (s_istoren (pc := 10) dX12_wrongRows_10 rfl (show 3 < 7 by decide) (s_iconst (pc := 11) dX12_wrongRows_11 c_ic_0 (s_istore (pc := 12) dX12_wrongRows_12 (show 4 < 7 by decide) hk14)))))))))
noncomputable def X12_wrongRows_b14 (k29 : Kn) : Kn := (a_il 4 (a_al 0 (a_gR 11 704 41 (a_ic 6 (a_ald 41 2624 (a_lt (a_ic 0 (a_is 5 k29)) (a_il 3 a_ir)))))))
set_option maxRecDepth 100000 in
theorem X12_wrongRows_s14 {z : CZ} {k29 : Kn} (hk29 : SK (X12_wrongRows_x z) 29 k29) : SK (X12_wrongRows_x z) 14 (X12_wrongRows_b14 k29) := (s_iload (pc := 14) dX12_wrongRows_14 (s_aloadn (pc := 16) dX12_wrongRows_16 rfl (s_gR (pc := 17) (f := 0) ko_11 (by decide) rfl rfl w_1295 dX12_wrongRows_17 (s_bipush (pc := 20) dX12_wrongRows_20 c_bp_6 (s_iald (pc := 22) (by decide) (by decide) rfl rfl rfl dX12_wrongRows_22 (s_cmpge (pc := 23) dX12_wrongRows_23 (by decide) (s_iloadn (pc := 116) dX12_wrongRows_116 rfl (s_ir (pc := 117) rfl dX12_wrongRows_117)) (s_iconst (pc := 26) dX12_wrongRows_26 c_ic_0 (s_istore (pc := 27) dX12_wrongRows_27 (show 5 < 7 by decide) hk29))))))))
noncomputable def X12_wrongRows_b29 (c_X12_rowsOf : Nat → Int32 → PH → Option Rs) (c_X12_of5 : Nat → Int32 → Int32 → PH → Option Rs) (c_X12_nameAt : Nat → Int32 → Int32 → PH → Option Rs) (c_X12_rightAt : Nat → Int32 → Int32 → PH → Option Rs) (c_X12_arrowAt : Nat → Int32 → Int32 → PH → Option Rs) (c_X12_setsRow : Nat → Int32 → Int32 → Int32 → Int32 → PH → Option Rs) (k14 k104 : Kn) : Kn := (a_il 5 (a_al 0 (a_il 4 (a_vI 11 1 (FW_T11I c_X12_rowsOf) (a_lt (a_al 0 (a_al 0 (a_il 4 (a_ic 0 (a_vI 11 2 (FW_T11II c_X12_of5) (a_al 0 (a_il 4 (a_il 5 (a_vI 11 2 (FW_T11II c_X12_nameAt) (a_vI 11 2 (FW_T11II c_X12_rightAt) (a_is 6 (a_il 6 (a_n k104 (a_il 6 (a_al 0 (a_il 4 (a_il 5 (a_vI 11 2 (FW_T11II c_X12_arrowAt) (a_eq k104 (a_inc 3 1 (a_il 2 (a_z k104 (a_al 0 (a_il 4 (a_il 5 (a_al 0 (a_il 4 (a_il 5 (a_vI 11 2 (FW_T11II c_X12_nameAt) (a_il 6 (a_vV 11 4 (FW_T11IIII c_X12_setsRow) k104))))))))))))))))))))))))))))))) (a_inc 4 1 k14))))))
set_option maxRecDepth 100000 in
theorem X12_wrongRows_s29 {z : CZ} {k14 k104 : Kn} (hk14 : SK (X12_wrongRows_x z) 14 k14) (hk104 : SK (X12_wrongRows_x z) 104 k104) : SK (X12_wrongRows_x z) 29 (X12_wrongRows_b29 X12_rowsOf X12_of5 X12_nameAt X12_rightAt X12_arrowAt X12_setsRow k14 k104) := (s_iload (pc := 29) dX12_wrongRows_29 (s_aloadn (pc := 31) dX12_wrongRows_31 rfl (s_iload (pc := 32) dX12_wrongRows_32 (s_vI (pc := 34) (run_virtual (X12_rowsOf_gd _) (show 1 < 4 by decide) cy_X12_rowsOf (by decide) rfl w_1538 w_s39 w_1536 dX12_wrongRows_34) (s_cmpge (pc := 37) dX12_wrongRows_37 (by decide) (s_iinc (pc := 110) dX12_wrongRows_110 c_ic_1 (show 4 < 7 by decide) (s_goto (pc := 113) dX12_wrongRows_113 (by decide) hk14)) (s_aloadn (pc := 40) dX12_wrongRows_40 rfl (s_aloadn (pc := 41) dX12_wrongRows_41 rfl (s_iload (pc := 42) dX12_wrongRows_42 (s_iconst (pc := 44) dX12_wrongRows_44 c_ic_0 (s_vI (pc := 45) (run_virtual (X12_of5_gd _) (show 0 < 4 by decide) cy_X12_of5 (by decide) rfl w_1534 w_s38 w_1532 dX12_wrongRows_45) (s_aloadn (pc := 48) dX12_wrongRows_48 rfl (s_iload (pc := 49) dX12_wrongRows_49 (s_iload (pc := 51) dX12_wrongRows_51 (s_vI (pc := 53) (run_virtual (X12_nameAt_gd _) (show 0 < 4 by decide) cy_X12_nameAt (by decide) rfl w_1591 w_s44 w_1589 dX12_wrongRows_53) (s_vI (pc := 56) (run_virtual (X12_rightAt_gd _) (show 1 < 4 by decide) cy_X12_rightAt (by decide) rfl w_1774 w_s73 w_1772 dX12_wrongRows_56) (s_istore (pc := 59) dX12_wrongRows_59 (show 6 < 7 by decide) (s_iload (pc := 61) dX12_wrongRows_61 (s_iflt (pc := 63) dX12_wrongRows_63 (by decide) hk104 (s_iload (pc := 66) dX12_wrongRows_66 (s_aloadn (pc := 68) dX12_wrongRows_68 rfl (s_iload (pc := 69) dX12_wrongRows_69 (s_iload (pc := 71) dX12_wrongRows_71 (s_vI (pc := 73) (run_virtual (X12_arrowAt_gd _) (show 0 < 4 by decide) cy_X12_arrowAt (by decide) rfl w_1595 w_s45 w_1593 dX12_wrongRows_73) (s_cmpeq (pc := 76) dX12_wrongRows_76 (by decide) hk104 (s_iinc (pc := 79) dX12_wrongRows_79 c_ic_1 (show 3 < 7 by decide) (s_iloadn (pc := 82) dX12_wrongRows_82 rfl (s_ifeq (pc := 83) dX12_wrongRows_83 (by decide) hk104 (s_aloadn (pc := 86) dX12_wrongRows_86 rfl (s_iload (pc := 87) dX12_wrongRows_87 (s_iload (pc := 89) dX12_wrongRows_89 (s_aloadn (pc := 91) dX12_wrongRows_91 rfl (s_iload (pc := 92) dX12_wrongRows_92 (s_iload (pc := 94) dX12_wrongRows_94 (s_vI (pc := 96) (run_virtual (X12_nameAt_gd _) (show 0 < 4 by decide) cy_X12_nameAt (by decide) rfl w_1591 w_s44 w_1589 dX12_wrongRows_96) (s_iload (pc := 99) dX12_wrongRows_99 (s_vV (pc := 101) (run_virtual (X12_setsRow_gd _) (show 0 < 4 by decide) cy_X12_setsRow (by decide) rfl w_1583 w_s43 w_1581 dX12_wrongRows_101) hk104))))))))))))))))))))))))))))))))))))
noncomputable def X12_wrongRows_b104 (k29 : Kn) : Kn := (a_inc 5 1 k29)
set_option maxRecDepth 100000 in
theorem X12_wrongRows_s104 {z : CZ} {k29 : Kn} (hk29 : SK (X12_wrongRows_x z) 29 k29) : SK (X12_wrongRows_x z) 104 (X12_wrongRows_b104 k29) := (s_iinc (pc := 104) dX12_wrongRows_104 c_ic_1 (show 5 < 7 by decide) (s_goto (pc := 107) dX12_wrongRows_107 (by decide) hk29))
noncomputable def X12_wrongRows_u14 (g : Nat → Int32 → Int32 → Int32 → PH → Option Rs) : Kn := fun ls st h => gL 0 st (gT 11 ls 0 fun t => gI ls 2 fun x2 => gI ls 3 fun x3 => gI ls 4 fun x4 => g t x2 x3 x4 h)
noncomputable def X12_wrongRows_u29 (g : Nat → Int32 → Int32 → Int32 → Int32 → PH → Option Rs) : Kn := fun ls st h => gL 0 st (gT 11 ls 0 fun t => gI ls 2 fun x2 => gI ls 3 fun x3 => gI ls 4 fun x4 => gI ls 5 fun x5 => g t x2 x3 x4 x5 h)
noncomputable def X12_wrongRows_u104 (g : Nat → Int32 → Int32 → Int32 → Int32 → PH → Option Rs) : Kn := fun ls st h => gL 0 st (gT 11 ls 0 fun t => gI ls 2 fun x2 => gI ls 3 fun x3 => gI ls 4 fun x4 => gI ls 5 fun x5 => g t x2 x3 x4 x5 h)
noncomputable def X12_wrongRows_f0 (c_X12_looks : Nat → Int32 → PH → Option Rs) (c_X12_findAll : Nat → PH → Option Rs) (g14 : Nat → Int32 → Int32 → Int32 → PH → Option Rs) (t : Nat) (x1 : Int32) (x2 : Int32) (h : PH) : Option Rs :=
  cV (c_X12_looks t x1 h) fun h1 =>
  cV (c_X12_findAll t h1) fun h2 =>
  g14 t x2 0 0 h2
set_option maxRecDepth 100000 in
theorem X12_wrongRows_l0 (c_X12_looks : Nat → Int32 → PH → Option Rs) (c_X12_findAll : Nat → PH → Option Rs) (g14 : Nat → Int32 → Int32 → Int32 → PH → Option Rs) (t : Nat) (x1 : Int32) (x2 : Int32) (h : PH) : X12_wrongRows_b0 c_X12_looks c_X12_findAll (X12_wrongRows_u14 g14) [some (.inr (11, t + 1)), some (.inl x1), some (.inl x2), none, none, none, none] [] h = X12_wrongRows_f0 c_X12_looks c_X12_findAll g14 t x1 x2 h := rfl
theorem X12_wrongRows_m0 {c_X12_looks : Nat → Int32 → PH → Option Rs} {c_X12_findAll : Nat → PH → Option Rs} {g14 G14 : Nat → Int32 → Int32 → Int32 → PH → Option Rs} (hg14 : ∀ a0 a1 a2 a3 a4, Mo (g14 a0 a1 a2 a3 a4) (G14 a0 a1 a2 a3 a4)) (t : Nat) (x1 : Int32) (x2 : Int32) (h : PH) : Mo (X12_wrongRows_f0 c_X12_looks c_X12_findAll g14 t x1 x2 h) (X12_wrongRows_f0 c_X12_looks c_X12_findAll G14 t x1 x2 h) := (mo_cV fun h1 => (mo_cV fun h2 => (hg14 t x2 0 0 h2)))
noncomputable def X12_wrongRows_f14 (g29 : Nat → Int32 → Int32 → Int32 → Int32 → PH → Option Rs) (t : Nat) (x2 : Int32) (x3 : Int32) (x4 : Int32) (h : PH) : Option Rs :=
  nn (hR h 704 t 0) fun r3 =>
  ix 6 (hL h 41 r3) fun j4 =>
  if x4 < (hI h 2624 r3 j4) then
    g29 t x2 x3 x4 0 h
  else
    some (some (.inl x3), h)
set_option maxRecDepth 100000 in
theorem X12_wrongRows_l14 (g29 : Nat → Int32 → Int32 → Int32 → Int32 → PH → Option Rs) (t : Nat) (x2 : Int32) (x3 : Int32) (x4 : Int32) (h : PH) : X12_wrongRows_b14 (X12_wrongRows_u29 g29) [some (.inr (11, t + 1)), none, some (.inl x2), some (.inl x3), some (.inl x4), none, none] [] h = X12_wrongRows_f14 g29 t x2 x3 x4 h := rfl
theorem X12_wrongRows_m14 {g29 G29 : Nat → Int32 → Int32 → Int32 → Int32 → PH → Option Rs} (hg29 : ∀ a0 a1 a2 a3 a4 a5, Mo (g29 a0 a1 a2 a3 a4 a5) (G29 a0 a1 a2 a3 a4 a5)) (t : Nat) (x2 : Int32) (x3 : Int32) (x4 : Int32) (h : PH) : Mo (X12_wrongRows_f14 g29 t x2 x3 x4 h) (X12_wrongRows_f14 G29 t x2 x3 x4 h) := (mo_nn fun r3 => (mo_ix fun j4 => (mo_if (hg29 t x2 x3 x4 0 h) mo_rf)))
theorem X12_wrongRows_w14 {z : CZ} {g29 : Nat → Int32 → Int32 → Int32 → Int32 → PH → Option Rs} (hk29 : SK (X12_wrongRows_x z) 29 (X12_wrongRows_u29 g29)) : SK (X12_wrongRows_x z) 14 (X12_wrongRows_u14 (X12_wrongRows_f14 g29)) := by
  intro ls st h r e
  obtain ⟨hst, e⟩ := gL_of e
  obtain ⟨t, q0, e⟩ := gT_of e
  obtain ⟨x2, q1, e⟩ := gI_of e
  obtain ⟨x3, q2, e⟩ := gI_of e
  obtain ⟨x4, q3, e⟩ := gI_of e
  rw [st_0 hst]
  exact WK.sub (canon := [some (.inr (11, t + 1)), none, some (.inl x2), some (.inl x3), some (.inl x4), none, none]) rfl ⟨q0, q1, q2, q3, trivial⟩ (X12_wrongRows_s14 hk29 _ _ _ _ ((X12_wrongRows_l14 g29 t x2 x3 x4 h).trans e))
noncomputable def X12_wrongRows_f29 (c_X12_rowsOf : Nat → Int32 → PH → Option Rs) (c_X12_of5 : Nat → Int32 → Int32 → PH → Option Rs) (c_X12_nameAt : Nat → Int32 → Int32 → PH → Option Rs) (c_X12_rightAt : Nat → Int32 → Int32 → PH → Option Rs) (c_X12_arrowAt : Nat → Int32 → Int32 → PH → Option Rs) (c_X12_setsRow : Nat → Int32 → Int32 → Int32 → Int32 → PH → Option Rs) (g14 : Nat → Int32 → Int32 → Int32 → PH → Option Rs) (g104 : Nat → Int32 → Int32 → Int32 → Int32 → PH → Option Rs) (t : Nat) (x2 : Int32) (x3 : Int32) (x4 : Int32) (x5 : Int32) (h : PH) : Option Rs :=
  cI (c_X12_rowsOf t x4 h) fun v6 h5 =>
  if x5 < v6 then
    cI (c_X12_of5 t x4 0 h5) fun v8 h7 =>
    cI (c_X12_nameAt t x4 x5 h7) fun v10 h9 =>
    cI (c_X12_rightAt t v8 v10 h9) fun v12 h11 =>
    if v12 < 0 then
      g104 t x2 x3 x4 x5 h11
    else
      cI (c_X12_arrowAt t x4 x5 h11) fun v14 h13 =>
      if v12 = v14 then
        g104 t x2 x3 x4 x5 h13
      else
        if x2 = 0 then
          g104 t x2 (x3 + 1) x4 x5 h13
        else
          cI (c_X12_nameAt t x4 x5 h13) fun v16 h15 =>
          cV (c_X12_setsRow t x4 x5 v16 v12 h15) fun h17 =>
          g104 t x2 (x3 + 1) x4 x5 h17
  else
    g14 t x2 x3 (x4 + 1) h5
set_option maxRecDepth 100000 in
theorem X12_wrongRows_l29 (c_X12_rowsOf : Nat → Int32 → PH → Option Rs) (c_X12_of5 : Nat → Int32 → Int32 → PH → Option Rs) (c_X12_nameAt : Nat → Int32 → Int32 → PH → Option Rs) (c_X12_rightAt : Nat → Int32 → Int32 → PH → Option Rs) (c_X12_arrowAt : Nat → Int32 → Int32 → PH → Option Rs) (c_X12_setsRow : Nat → Int32 → Int32 → Int32 → Int32 → PH → Option Rs) (g14 : Nat → Int32 → Int32 → Int32 → PH → Option Rs) (g104 : Nat → Int32 → Int32 → Int32 → Int32 → PH → Option Rs) (t : Nat) (x2 : Int32) (x3 : Int32) (x4 : Int32) (x5 : Int32) (h : PH) : X12_wrongRows_b29 c_X12_rowsOf c_X12_of5 c_X12_nameAt c_X12_rightAt c_X12_arrowAt c_X12_setsRow (X12_wrongRows_u14 g14) (X12_wrongRows_u104 g104) [some (.inr (11, t + 1)), none, some (.inl x2), some (.inl x3), some (.inl x4), some (.inl x5), none] [] h = X12_wrongRows_f29 c_X12_rowsOf c_X12_of5 c_X12_nameAt c_X12_rightAt c_X12_arrowAt c_X12_setsRow g14 g104 t x2 x3 x4 x5 h := rfl
theorem X12_wrongRows_m29 {c_X12_rowsOf : Nat → Int32 → PH → Option Rs} {c_X12_of5 : Nat → Int32 → Int32 → PH → Option Rs} {c_X12_nameAt : Nat → Int32 → Int32 → PH → Option Rs} {c_X12_rightAt : Nat → Int32 → Int32 → PH → Option Rs} {c_X12_arrowAt : Nat → Int32 → Int32 → PH → Option Rs} {c_X12_setsRow : Nat → Int32 → Int32 → Int32 → Int32 → PH → Option Rs} {g14 G14 : Nat → Int32 → Int32 → Int32 → PH → Option Rs} {g104 G104 : Nat → Int32 → Int32 → Int32 → Int32 → PH → Option Rs} (hg14 : ∀ a0 a1 a2 a3 a4, Mo (g14 a0 a1 a2 a3 a4) (G14 a0 a1 a2 a3 a4)) (hg104 : ∀ a0 a1 a2 a3 a4 a5, Mo (g104 a0 a1 a2 a3 a4 a5) (G104 a0 a1 a2 a3 a4 a5)) (t : Nat) (x2 : Int32) (x3 : Int32) (x4 : Int32) (x5 : Int32) (h : PH) : Mo (X12_wrongRows_f29 c_X12_rowsOf c_X12_of5 c_X12_nameAt c_X12_rightAt c_X12_arrowAt c_X12_setsRow g14 g104 t x2 x3 x4 x5 h) (X12_wrongRows_f29 c_X12_rowsOf c_X12_of5 c_X12_nameAt c_X12_rightAt c_X12_arrowAt c_X12_setsRow G14 G104 t x2 x3 x4 x5 h) := (mo_cI fun v6 h5 => (mo_if (mo_cI fun v8 h7 => (mo_cI fun v10 h9 => (mo_cI fun v12 h11 => (mo_if (hg104 t x2 x3 x4 x5 h11) (mo_cI fun v14 h13 => (mo_if (hg104 t x2 x3 x4 x5 h13) (mo_if (hg104 t x2 (x3 + 1) x4 x5 h13) (mo_cI fun v16 h15 => (mo_cV fun h17 => (hg104 t x2 (x3 + 1) x4 x5 h17)))))))))) (hg14 t x2 x3 (x4 + 1) h5)))
theorem X12_wrongRows_w29 {z : CZ} {g14 : Nat → Int32 → Int32 → Int32 → PH → Option Rs} {g104 : Nat → Int32 → Int32 → Int32 → Int32 → PH → Option Rs} (hk14 : SK (X12_wrongRows_x z) 14 (X12_wrongRows_u14 g14)) (hk104 : SK (X12_wrongRows_x z) 104 (X12_wrongRows_u104 g104)) : SK (X12_wrongRows_x z) 29 (X12_wrongRows_u29 (X12_wrongRows_f29 X12_rowsOf X12_of5 X12_nameAt X12_rightAt X12_arrowAt X12_setsRow g14 g104)) := by
  intro ls st h r e
  obtain ⟨hst, e⟩ := gL_of e
  obtain ⟨t, q0, e⟩ := gT_of e
  obtain ⟨x2, q1, e⟩ := gI_of e
  obtain ⟨x3, q2, e⟩ := gI_of e
  obtain ⟨x4, q3, e⟩ := gI_of e
  obtain ⟨x5, q4, e⟩ := gI_of e
  rw [st_0 hst]
  exact WK.sub (canon := [some (.inr (11, t + 1)), none, some (.inl x2), some (.inl x3), some (.inl x4), some (.inl x5), none]) rfl ⟨q0, q1, q2, q3, q4, trivial⟩ (X12_wrongRows_s29 hk14 hk104 _ _ _ _ ((X12_wrongRows_l29 X12_rowsOf X12_of5 X12_nameAt X12_rightAt X12_arrowAt X12_setsRow g14 g104 t x2 x3 x4 x5 h).trans e))
noncomputable def X12_wrongRows_f104 (g29 : Nat → Int32 → Int32 → Int32 → Int32 → PH → Option Rs) (t : Nat) (x2 : Int32) (x3 : Int32) (x4 : Int32) (x5 : Int32) (h : PH) : Option Rs :=
  g29 t x2 x3 x4 (x5 + 1) h
set_option maxRecDepth 100000 in
theorem X12_wrongRows_l104 (g29 : Nat → Int32 → Int32 → Int32 → Int32 → PH → Option Rs) (t : Nat) (x2 : Int32) (x3 : Int32) (x4 : Int32) (x5 : Int32) (h : PH) : X12_wrongRows_b104 (X12_wrongRows_u29 g29) [some (.inr (11, t + 1)), none, some (.inl x2), some (.inl x3), some (.inl x4), some (.inl x5), none] [] h = X12_wrongRows_f104 g29 t x2 x3 x4 x5 h := rfl
theorem X12_wrongRows_m104 {g29 G29 : Nat → Int32 → Int32 → Int32 → Int32 → PH → Option Rs} (hg29 : ∀ a0 a1 a2 a3 a4 a5, Mo (g29 a0 a1 a2 a3 a4 a5) (G29 a0 a1 a2 a3 a4 a5)) (t : Nat) (x2 : Int32) (x3 : Int32) (x4 : Int32) (x5 : Int32) (h : PH) : Mo (X12_wrongRows_f104 g29 t x2 x3 x4 x5 h) (X12_wrongRows_f104 G29 t x2 x3 x4 x5 h) := (hg29 t x2 x3 x4 (x5 + 1) h)
theorem X12_wrongRows_w104 {z : CZ} {g29 : Nat → Int32 → Int32 → Int32 → Int32 → PH → Option Rs} (hk29 : SK (X12_wrongRows_x z) 29 (X12_wrongRows_u29 g29)) : SK (X12_wrongRows_x z) 104 (X12_wrongRows_u104 (X12_wrongRows_f104 g29)) := by
  intro ls st h r e
  obtain ⟨hst, e⟩ := gL_of e
  obtain ⟨t, q0, e⟩ := gT_of e
  obtain ⟨x2, q1, e⟩ := gI_of e
  obtain ⟨x3, q2, e⟩ := gI_of e
  obtain ⟨x4, q3, e⟩ := gI_of e
  obtain ⟨x5, q4, e⟩ := gI_of e
  rw [st_0 hst]
  exact WK.sub (canon := [some (.inr (11, t + 1)), none, some (.inl x2), some (.inl x3), some (.inl x4), some (.inl x5), none]) rfl ⟨q0, q1, q2, q3, q4, trivial⟩ (X12_wrongRows_s104 hk29 _ _ _ _ ((X12_wrongRows_l104 g29 t x2 x3 x4 x5 h).trans e))
noncomputable def X12_wrongRows_g0 (G : (Nat → Int32 → Int32 → Int32 → PH → Option Rs) × (Nat → Int32 → Int32 → Int32 → Int32 → PH → Option Rs)) (t : Nat) (x1 : Int32) (x2 : Int32) (h : PH) : Option Rs := X12_wrongRows_f0 X12_looks X12_findAll (G).1 t x1 x2 h
noncomputable def X12_wrongRows_g14 (G : (Nat → Int32 → Int32 → Int32 → PH → Option Rs) × (Nat → Int32 → Int32 → Int32 → Int32 → PH → Option Rs)) (t : Nat) (x2 : Int32) (x3 : Int32) (x4 : Int32) (h : PH) : Option Rs := X12_wrongRows_f14 (G).2 t x2 x3 x4 h
noncomputable def X12_wrongRows_g104 (G : (Nat → Int32 → Int32 → Int32 → PH → Option Rs) × (Nat → Int32 → Int32 → Int32 → Int32 → PH → Option Rs)) (t : Nat) (x2 : Int32) (x3 : Int32) (x4 : Int32) (x5 : Int32) (h : PH) : Option Rs := X12_wrongRows_f104 (G).2 t x2 x3 x4 x5 h
noncomputable def X12_wrongRows_g29 (G : (Nat → Int32 → Int32 → Int32 → PH → Option Rs) × (Nat → Int32 → Int32 → Int32 → Int32 → PH → Option Rs)) (t : Nat) (x2 : Int32) (x3 : Int32) (x4 : Int32) (x5 : Int32) (h : PH) : Option Rs := X12_wrongRows_f29 X12_rowsOf X12_of5 X12_nameAt X12_rightAt X12_arrowAt X12_setsRow (G).1 (X12_wrongRows_g104 G) t x2 x3 x4 x5 h
theorem X12_wrongRows_v14 {z : CZ} {G : (Nat → Int32 → Int32 → Int32 → PH → Option Rs) × (Nat → Int32 → Int32 → Int32 → Int32 → PH → Option Rs)} (hG14 : SK (X12_wrongRows_x z) 14 (X12_wrongRows_u14 (G).1)) (hG29 : SK (X12_wrongRows_x z) 29 (X12_wrongRows_u29 (G).2)) : SK (X12_wrongRows_x z) 14 (X12_wrongRows_u14 (X12_wrongRows_g14 G)) := X12_wrongRows_w14 hG29
theorem X12_wrongRows_v104 {z : CZ} {G : (Nat → Int32 → Int32 → Int32 → PH → Option Rs) × (Nat → Int32 → Int32 → Int32 → Int32 → PH → Option Rs)} (hG14 : SK (X12_wrongRows_x z) 14 (X12_wrongRows_u14 (G).1)) (hG29 : SK (X12_wrongRows_x z) 29 (X12_wrongRows_u29 (G).2)) : SK (X12_wrongRows_x z) 104 (X12_wrongRows_u104 (X12_wrongRows_g104 G)) := X12_wrongRows_w104 hG29
theorem X12_wrongRows_v29 {z : CZ} {G : (Nat → Int32 → Int32 → Int32 → PH → Option Rs) × (Nat → Int32 → Int32 → Int32 → Int32 → PH → Option Rs)} (hG14 : SK (X12_wrongRows_x z) 14 (X12_wrongRows_u14 (G).1)) (hG29 : SK (X12_wrongRows_x z) 29 (X12_wrongRows_u29 (G).2)) : SK (X12_wrongRows_x z) 29 (X12_wrongRows_u29 (X12_wrongRows_g29 G)) := X12_wrongRows_w29 hG14 (X12_wrongRows_v104 hG14 hG29)
noncomputable def X12_wrongRows_fam : Nat → (Nat → Int32 → Int32 → Int32 → PH → Option Rs) × (Nat → Int32 → Int32 → Int32 → Int32 → PH → Option Rs)
  | 0 => (fun _ _ _ _ _ => none, fun _ _ _ _ _ _ => none)
  | n + 1 => (X12_wrongRows_g14 (X12_wrongRows_fam n), X12_wrongRows_g29 (X12_wrongRows_fam n))
theorem X12_wrongRows_k {z : CZ} : ∀ n, SK (X12_wrongRows_x z) 14 (X12_wrongRows_u14 (X12_wrongRows_fam n).1) ∧ SK (X12_wrongRows_x z) 29 (X12_wrongRows_u29 (X12_wrongRows_fam n).2)
  | 0 => ⟨(fun ls st h r e => by
      obtain ⟨_, e⟩ := gL_of e
      obtain ⟨_, _, e⟩ := gT_of e
      obtain ⟨_, _, e⟩ := gI_of e
      obtain ⟨_, _, e⟩ := gI_of e
      obtain ⟨_, _, e⟩ := gI_of e
      cases e), (fun ls st h r e => by
      obtain ⟨_, e⟩ := gL_of e
      obtain ⟨_, _, e⟩ := gT_of e
      obtain ⟨_, _, e⟩ := gI_of e
      obtain ⟨_, _, e⟩ := gI_of e
      obtain ⟨_, _, e⟩ := gI_of e
      obtain ⟨_, _, e⟩ := gI_of e
      cases e)⟩
  | n + 1 => by
    obtain ⟨ih14, ih29⟩ := X12_wrongRows_k n
    exact ⟨X12_wrongRows_v14 ih14 ih29, X12_wrongRows_v29 ih14 ih29⟩
theorem X12_wrongRows_n0 {G G' : (Nat → Int32 → Int32 → Int32 → PH → Option Rs) × (Nat → Int32 → Int32 → Int32 → Int32 → PH → Option Rs)} (hg14 : ∀ a0 a1 a2 a3 a4, Mo ((G).1 a0 a1 a2 a3 a4) ((G').1 a0 a1 a2 a3 a4)) (hg29 : ∀ a0 a1 a2 a3 a4 a5, Mo ((G).2 a0 a1 a2 a3 a4 a5) ((G').2 a0 a1 a2 a3 a4 a5)) (t : Nat) (x1 : Int32) (x2 : Int32) (h : PH) : Mo (X12_wrongRows_g0 G t x1 x2 h) (X12_wrongRows_g0 G' t x1 x2 h) := X12_wrongRows_m0 hg14 t x1 x2 h
theorem X12_wrongRows_n14 {G G' : (Nat → Int32 → Int32 → Int32 → PH → Option Rs) × (Nat → Int32 → Int32 → Int32 → Int32 → PH → Option Rs)} (hg14 : ∀ a0 a1 a2 a3 a4, Mo ((G).1 a0 a1 a2 a3 a4) ((G').1 a0 a1 a2 a3 a4)) (hg29 : ∀ a0 a1 a2 a3 a4 a5, Mo ((G).2 a0 a1 a2 a3 a4 a5) ((G').2 a0 a1 a2 a3 a4 a5)) (t : Nat) (x2 : Int32) (x3 : Int32) (x4 : Int32) (h : PH) : Mo (X12_wrongRows_g14 G t x2 x3 x4 h) (X12_wrongRows_g14 G' t x2 x3 x4 h) := X12_wrongRows_m14 hg29 t x2 x3 x4 h
theorem X12_wrongRows_n104 {G G' : (Nat → Int32 → Int32 → Int32 → PH → Option Rs) × (Nat → Int32 → Int32 → Int32 → Int32 → PH → Option Rs)} (hg14 : ∀ a0 a1 a2 a3 a4, Mo ((G).1 a0 a1 a2 a3 a4) ((G').1 a0 a1 a2 a3 a4)) (hg29 : ∀ a0 a1 a2 a3 a4 a5, Mo ((G).2 a0 a1 a2 a3 a4 a5) ((G').2 a0 a1 a2 a3 a4 a5)) (t : Nat) (x2 : Int32) (x3 : Int32) (x4 : Int32) (x5 : Int32) (h : PH) : Mo (X12_wrongRows_g104 G t x2 x3 x4 x5 h) (X12_wrongRows_g104 G' t x2 x3 x4 x5 h) := X12_wrongRows_m104 hg29 t x2 x3 x4 x5 h
theorem X12_wrongRows_n29 {G G' : (Nat → Int32 → Int32 → Int32 → PH → Option Rs) × (Nat → Int32 → Int32 → Int32 → Int32 → PH → Option Rs)} (hg14 : ∀ a0 a1 a2 a3 a4, Mo ((G).1 a0 a1 a2 a3 a4) ((G').1 a0 a1 a2 a3 a4)) (hg29 : ∀ a0 a1 a2 a3 a4 a5, Mo ((G).2 a0 a1 a2 a3 a4 a5) ((G').2 a0 a1 a2 a3 a4 a5)) (t : Nat) (x2 : Int32) (x3 : Int32) (x4 : Int32) (x5 : Int32) (h : PH) : Mo (X12_wrongRows_g29 G t x2 x3 x4 x5 h) (X12_wrongRows_g29 G' t x2 x3 x4 x5 h) := X12_wrongRows_m29 hg14 (fun a0 a1 a2 a3 a4 a5 => X12_wrongRows_n104 hg14 hg29 a0 a1 a2 a3 a4 a5) t x2 x3 x4 x5 h
theorem X12_wrongRows_fm : ∀ n, (∀ a0 a1 a2 a3 a4, Mo ((X12_wrongRows_fam n).1 a0 a1 a2 a3 a4) ((X12_wrongRows_fam (n + 1)).1 a0 a1 a2 a3 a4)) ∧ (∀ a0 a1 a2 a3 a4 a5, Mo ((X12_wrongRows_fam n).2 a0 a1 a2 a3 a4 a5) ((X12_wrongRows_fam (n + 1)).2 a0 a1 a2 a3 a4 a5))
  | 0 => ⟨fun _ _ _ _ _ => mo_no, fun _ _ _ _ _ _ => mo_no⟩
  | n + 1 => by
    obtain ⟨ih14, ih29⟩ := X12_wrongRows_fm n
    exact ⟨fun a0 a1 a2 a3 a4 => X12_wrongRows_n14 ih14 ih29 a0 a1 a2 a3 a4, fun a0 a1 a2 a3 a4 a5 => X12_wrongRows_n29 ih14 ih29 a0 a1 a2 a3 a4 a5⟩
noncomputable def X12_wrongRows (t : Nat) (x1 : Int32) (x2 : Int32) (h : PH) : Option Rs := lim (fun n => X12_wrongRows_g0 (X12_wrongRows_fam n) t x1 x2 h)
theorem X12_wrongRows_iff {t : Nat} {x1 : Int32} {x2 : Int32} {h : PH} {r : Rs} : X12_wrongRows t x1 x2 h = some r ↔ ∃ n, X12_wrongRows_g0 (X12_wrongRows_fam n) t x1 x2 h = some r := lim_iff (fun n => by
  obtain ⟨ih14, ih29⟩ := X12_wrongRows_fm n
  exact X12_wrongRows_n0 ih14 ih29 t x1 x2 h)
noncomputable abbrev X12_wrongRows_F : List PV → PH → Option Rs := FW_T11II (X12_wrongRows)
set_option maxRecDepth 100000 in
theorem X12_wrongRows_gd (l : Launch) : Gd l 4 yX12_wrongRows cX12_wrongRows 7 (some .int) (X12_wrongRows_F)   := Gd_of (by decide +kernel) (fun z hzl as h r e => by
  obtain ⟨hst, e⟩ := gL_of e
  obtain ⟨t, q0, e⟩ := gT_of e
  obtain ⟨x1, q1, e⟩ := gI_of e
  obtain ⟨x2, q2, e⟩ := gI_of e
  rw [st_3 hst q0 q1 q2]
  obtain ⟨n, e⟩ := lim_of e
  obtain ⟨hG14, hG29⟩ := X12_wrongRows_k (z := z) n
  exact ⟨show 3 ≤ 7 by decide, X12_wrongRows_s0 hG14 _ _ _ _ ((X12_wrongRows_l0 X12_looks X12_findAll (X12_wrongRows_fam n).1 t x1 x2 h).trans e)⟩)
abbrev X12_wrong_x (z : CZ) : CX := mx RX12 cX12_wrong 2 5 (some .int) "wrong" z
noncomputable def X12_wrong_b0 (c_X12_areWheels : Int32 → PH → Option Rs) (c_X12_wrongRows : Nat → Int32 → Int32 → PH → Option Rs) : Kn := (a_il 1 (a_sI 1 (FW_I c_X12_areWheels) (a_z (a_ic (-1000000001) a_ir) (a_al 0 (a_il 1 (a_ic 0 (a_vI 11 2 (FW_T11II c_X12_wrongRows) a_ir)))))))
set_option maxRecDepth 100000 in
theorem X12_wrong_s0 {z : CZ} : SK (X12_wrong_x z) 0 (X12_wrong_b0 X12_areWheels X12_wrongRows) := (s_iloadn (pc := 0) dX12_wrong_0 rfl (s_sI (pc := 1) (run_static (X12_areWheels_gd _) (show 1 < 5 by decide) cy_X12_areWheels w_1673 w_1672 dX12_wrong_1) (s_ifeq (pc := 4) dX12_wrong_4 (by decide) (s_ldc (pc := 16) w_1466 dX12_wrong_16 (s_ir (pc := 18) rfl dX12_wrong_18)) (s_aloadn (pc := 7) dX12_wrong_7 rfl (s_iloadn (pc := 8) dX12_wrong_8 rfl (s_iconst (pc := 9) dX12_wrong_9 c_ic_0 (s_vI (pc := 10) (run_virtual (X12_wrongRows_gd _) (show 4 < 5 by decide) cy_X12_wrongRows (by decide) rfl w_1766 w_s71 w_1764 dX12_wrong_10) (s_goto (pc := 13) dX12_wrong_13 (by decide) (s_ir (pc := 18) rfl dX12_wrong_18)))))))))
noncomputable def X12_wrong_f0 (c_X12_areWheels : Int32 → PH → Option Rs) (c_X12_wrongRows : Nat → Int32 → Int32 → PH → Option Rs) (t : Nat) (x1 : Int32) (h : PH) : Option Rs :=
  cI (c_X12_areWheels x1 h) fun v2 h1 =>
  if v2 = 0 then
    some (some (.inl (-1000000001)), h1)
  else
    cI (c_X12_wrongRows t x1 0 h1) fun v4 h3 =>
    some (some (.inl v4), h3)
set_option maxRecDepth 100000 in
theorem X12_wrong_l0 (c_X12_areWheels : Int32 → PH → Option Rs) (c_X12_wrongRows : Nat → Int32 → Int32 → PH → Option Rs) (t : Nat) (x1 : Int32) (h : PH) : X12_wrong_b0 c_X12_areWheels c_X12_wrongRows [some (.inr (11, t + 1)), some (.inl x1)] [] h = X12_wrong_f0 c_X12_areWheels c_X12_wrongRows t x1 h := rfl
noncomputable def X12_wrong_g0 (t : Nat) (x1 : Int32) (h : PH) : Option Rs := X12_wrong_f0 X12_areWheels X12_wrongRows t x1 h
noncomputable def X12_wrong (t : Nat) (x1 : Int32) (h : PH) : Option Rs := X12_wrong_g0 t x1 h
noncomputable abbrev X12_wrong_F : List PV → PH → Option Rs := FW_T11I (X12_wrong)
set_option maxRecDepth 100000 in
theorem X12_wrong_gd (l : Launch) : Gd l 5 yX12_wrong cX12_wrong 2 (some .int) (X12_wrong_F)   := Gd_of (by decide +kernel) (fun z hzl as h r e => by
  obtain ⟨hst, e⟩ := gL_of e
  obtain ⟨t, q0, e⟩ := gT_of e
  obtain ⟨x1, q1, e⟩ := gI_of e
  rw [st_2 hst q0 q1]
  exact ⟨show 2 ≤ 2 by decide, X12_wrong_s0 _ _ _ _ ((X12_wrong_l0 X12_areWheels X12_wrongRows t x1 h).trans e)⟩)
abbrev X12_mend_x (z : CZ) : CX := mx RX12 cX12_mend 2 5 (some .int) "mend" z
noncomputable def X12_mend_b0 (c_X12_areWheels : Int32 → PH → Option Rs) (c_X12_saves : Nat → PH → Option Rs) (c_X12_wrongRows : Nat → Int32 → Int32 → PH → Option Rs) : Kn := (a_il 1 (a_sI 1 (FW_I c_X12_areWheels) (a_z (a_ic (-1000000001) a_ir) (a_al 0 (a_vV 11 0 (FW_T11 c_X12_saves) (a_al 0 (a_il 1 (a_ic 1 (a_vI 11 2 (FW_T11II c_X12_wrongRows) a_ir)))))))))
set_option maxRecDepth 100000 in
theorem X12_mend_s0 {z : CZ} : SK (X12_mend_x z) 0 (X12_mend_b0 X12_areWheels X12_saves X12_wrongRows) := (s_iloadn (pc := 0) dX12_mend_0 rfl (s_sI (pc := 1) (run_static (X12_areWheels_gd _) (show 1 < 5 by decide) cy_X12_areWheels w_1673 w_1672 dX12_mend_1) (s_ifne (pc := 4) dX12_mend_4 (by decide) (s_aloadn (pc := 10) dX12_mend_10 rfl (s_vV (pc := 11) (run_virtual (X12_saves_gd _) (show 0 < 5 by decide) cy_X12_saves (by decide) rfl w_1579 w_s42 w_1577 dX12_mend_11) (s_aloadn (pc := 14) dX12_mend_14 rfl (s_iloadn (pc := 15) dX12_mend_15 rfl (s_iconst (pc := 16) dX12_mend_16 c_ic_1 (s_vI (pc := 17) (run_virtual (X12_wrongRows_gd _) (show 4 < 5 by decide) cy_X12_wrongRows (by decide) rfl w_1766 w_s71 w_1764 dX12_mend_17) (s_ir (pc := 20) rfl dX12_mend_20))))))) (s_ldc (pc := 7) w_1466 dX12_mend_7 (s_ir (pc := 9) rfl dX12_mend_9)))))
noncomputable def X12_mend_f0 (c_X12_areWheels : Int32 → PH → Option Rs) (c_X12_saves : Nat → PH → Option Rs) (c_X12_wrongRows : Nat → Int32 → Int32 → PH → Option Rs) (t : Nat) (x1 : Int32) (h : PH) : Option Rs :=
  cI (c_X12_areWheels x1 h) fun v2 h1 =>
  if v2 = 0 then
    some (some (.inl (-1000000001)), h1)
  else
    cV (c_X12_saves t h1) fun h3 =>
    cI (c_X12_wrongRows t x1 1 h3) fun v5 h4 =>
    some (some (.inl v5), h4)
set_option maxRecDepth 100000 in
theorem X12_mend_l0 (c_X12_areWheels : Int32 → PH → Option Rs) (c_X12_saves : Nat → PH → Option Rs) (c_X12_wrongRows : Nat → Int32 → Int32 → PH → Option Rs) (t : Nat) (x1 : Int32) (h : PH) : X12_mend_b0 c_X12_areWheels c_X12_saves c_X12_wrongRows [some (.inr (11, t + 1)), some (.inl x1)] [] h = X12_mend_f0 c_X12_areWheels c_X12_saves c_X12_wrongRows t x1 h := rfl
noncomputable def X12_mend_g0 (t : Nat) (x1 : Int32) (h : PH) : Option Rs := X12_mend_f0 X12_areWheels X12_saves X12_wrongRows t x1 h
noncomputable def X12_mend (t : Nat) (x1 : Int32) (h : PH) : Option Rs := X12_mend_g0 t x1 h
noncomputable abbrev X12_mend_F : List PV → PH → Option Rs := FW_T11I (X12_mend)
set_option maxRecDepth 100000 in
theorem X12_mend_gd (l : Launch) : Gd l 5 yX12_mend cX12_mend 2 (some .int) (X12_mend_F)   := Gd_of (by decide +kernel) (fun z hzl as h r e => by
  obtain ⟨hst, e⟩ := gL_of e
  obtain ⟨t, q0, e⟩ := gT_of e
  obtain ⟨x1, q1, e⟩ := gI_of e
  rw [st_2 hst q0 q1]
  exact ⟨show 2 ≤ 2 by decide, X12_mend_s0 _ _ _ _ ((X12_mend_l0 X12_areWheels X12_saves X12_wrongRows t x1 h).trans e)⟩)
