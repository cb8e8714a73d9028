abbrev X12_isLit_x (z : CZ) : CX := mx RX12 cX12_isLit 4 2 (some .boolean) "isLit" z
noncomputable def X12_isLit_b0 (c_X12_of5 : Nat → Int32 → Int32 → PH → Option Rs) (c_X12_counts : Nat → Int32 → PH → Option Rs) (c_X12_rowsOf : Nat → Int32 → PH → Option Rs) (c_X12_worksOut : Nat → Int32 → PH → Option Rs) : Kn := (a_al 0 (a_il 1 (a_ic 1 (a_vI 11 2 (FW_T11II c_X12_of5) (a_is 2 (a_il 2 (a_ic 5 (a_eq (a_al 0 (a_gR 11 704 41 (a_ic 2 (a_ald 41 2624 (a_al 0 (a_il 1 (a_ic 4 (a_vI 11 2 (FW_T11II c_X12_of5) (a_lt (a_ic 1 a_zr) (a_ic 0 a_zr)))))))))) (a_il 2 (a_ic 3 (a_eq (a_al 0 (a_ic 0 (a_vI 11 1 (FW_T11I c_X12_counts) (a_is 3 (a_al 0 (a_gR 11 727 52 (a_ic 0 (a_al 0 (a_gR 11 704 41 (a_ic 1 (a_ald 41 2624 (a_ast 52 3328 (fun a => a) (a_al 0 (a_gR 11 727 52 (a_ic 1 (a_al 0 (a_gR 11 704 41 (a_ic 2 (a_ald 41 2624 (a_ast 52 3328 (fun a => a) (a_al 0 (a_gR 11 727 52 (a_ic 2 (a_al 0 (a_il 1 (a_vI 11 1 (FW_T11I c_X12_rowsOf) (a_ast 52 3328 (fun a => a) (a_il 3 (a_n (a_al 0 (a_gR 11 704 41 (a_ic 1 (a_ald 41 2624 (a_ic 18 (a_lt (a_al 0 (a_gR 11 704 41 (a_ic 1 (a_ald 41 2624 (a_ic 6 (a_lt (a_ic 1 a_zr) (a_ic 0 a_zr))))))) (a_ic 1 a_zr))))))) (a_al 0 (a_il 3 (a_vI 11 1 (FW_T11I c_X12_worksOut) (a_z (a_ic 0 a_zr) (a_ic 1 a_zr)))))))))))))))))))))))))))))))))) (a_ic 1 a_zr))))))))))))
set_option maxRecDepth 100000 in
theorem X12_isLit_s0 {z : CZ} : SK (X12_isLit_x z) 0 (X12_isLit_b0 X12_of5 X12_counts X12_rowsOf X12_worksOut) := (s_aloadn (pc := 0) dX12_isLit_0 rfl (s_iloadn (pc := 1) dX12_isLit_1 rfl (s_iconst (pc := 2) dX12_isLit_2 c_ic_1 (s_vI (pc := 3) (run_virtual (X12_of5_gd _) (show 0 < 2 by decide) cy_X12_of5 (by decide) rfl w_1534 w_s38 w_1532 dX12_isLit_3) (s_istoren (pc := 6) dX12_isLit_6 rfl (show 2 < 4 by decide) (s_iloadn (pc := 7) dX12_isLit_7 rfl (s_iconst (pc := 8) dX12_isLit_8 c_ic_5 (s_cmpne (pc := 9) dX12_isLit_9 (by decide) (s_iloadn (pc := 33) dX12_isLit_33 rfl (s_iconst (pc := 34) dX12_isLit_34 c_ic_3 (s_cmpeq (pc := 35) dX12_isLit_35 (by decide) (s_aloadn (pc := 40) dX12_isLit_40 rfl (s_iconst (pc := 41) dX12_isLit_41 c_ic_0 (s_vI (pc := 42) (run_virtual (X12_counts_gd _) (show 0 < 2 by decide) cy_X12_counts (by decide) rfl w_1482 w_s32 w_1480 dX12_isLit_42) (s_istoren (pc := 45) dX12_isLit_45 rfl (show 3 < 4 by decide) (s_aloadn (pc := 46) dX12_isLit_46 rfl (s_gR (pc := 47) (f := 23) ko_11 (by decide) rfl rfl w_1318 dX12_isLit_47 (s_iconst (pc := 50) dX12_isLit_50 c_ic_0 (s_aloadn (pc := 51) dX12_isLit_51 rfl (s_gR (pc := 52) (f := 0) ko_11 (by decide) rfl rfl w_1295 dX12_isLit_52 (s_iconst (pc := 55) dX12_isLit_55 c_ic_1 (s_iald (pc := 56) (by decide) (by decide) rfl rfl rfl dX12_isLit_56 (s_iast (pc := 57) (by decide) (by decide) rfl rfl rfl dX12_isLit_57 (s_aloadn (pc := 58) dX12_isLit_58 rfl (s_gR (pc := 59) (f := 23) ko_11 (by decide) rfl rfl w_1318 dX12_isLit_59 (s_iconst (pc := 62) dX12_isLit_62 c_ic_1 (s_aloadn (pc := 63) dX12_isLit_63 rfl (s_gR (pc := 64) (f := 0) ko_11 (by decide) rfl rfl w_1295 dX12_isLit_64 (s_iconst (pc := 67) dX12_isLit_67 c_ic_2 (s_iald (pc := 68) (by decide) (by decide) rfl rfl rfl dX12_isLit_68 (s_iast (pc := 69) (by decide) (by decide) rfl rfl rfl dX12_isLit_69 (s_aloadn (pc := 70) dX12_isLit_70 rfl (s_gR (pc := 71) (f := 23) ko_11 (by decide) rfl rfl w_1318 dX12_isLit_71 (s_iconst (pc := 74) dX12_isLit_74 c_ic_2 (s_aloadn (pc := 75) dX12_isLit_75 rfl (s_iloadn (pc := 76) dX12_isLit_76 rfl (s_vI (pc := 77) (run_virtual (X12_rowsOf_gd _) (show 1 < 2 by decide) cy_X12_rowsOf (by decide) rfl w_1538 w_s39 w_1536 dX12_isLit_77) (s_iast (pc := 80) (by decide) (by decide) rfl rfl rfl dX12_isLit_80 (s_iloadn (pc := 81) dX12_isLit_81 rfl (s_ifge (pc := 82) dX12_isLit_82 (by decide) (s_aloadn (pc := 115) dX12_isLit_115 rfl (s_iloadn (pc := 116) dX12_isLit_116 rfl (s_vI (pc := 117) (run_virtual (X12_worksOut_gd _) (show 1 < 2 by decide) cy_X12_worksOut (by decide) rfl w_1486 w_s33 w_1484 dX12_isLit_117) (s_ifeq (pc := 120) dX12_isLit_120 (by decide) (s_iconst (pc := 127) dX12_isLit_127 c_ic_0 (s_zr (pc := 128) rfl dX12_isLit_128)) (s_iconst (pc := 123) dX12_isLit_123 c_ic_1 (s_goto (pc := 124) dX12_isLit_124 (by decide) (s_zr (pc := 128) rfl dX12_isLit_128))))))) (s_aloadn (pc := 85) dX12_isLit_85 rfl (s_gR (pc := 86) (f := 0) ko_11 (by decide) rfl rfl w_1295 dX12_isLit_86 (s_iconst (pc := 89) dX12_isLit_89 c_ic_1 (s_iald (pc := 90) (by decide) (by decide) rfl rfl rfl dX12_isLit_90 (s_bipush (pc := 91) dX12_isLit_91 c_bp_18 (s_cmpge (pc := 93) dX12_isLit_93 (by decide) (s_iconst (pc := 107) dX12_isLit_107 c_ic_1 (s_goto (pc := 108) dX12_isLit_108 (by decide) (s_zr (pc := 128) rfl dX12_isLit_128))) (s_aloadn (pc := 96) dX12_isLit_96 rfl (s_gR (pc := 97) (f := 0) ko_11 (by decide) rfl rfl w_1295 dX12_isLit_97 (s_iconst (pc := 100) dX12_isLit_100 c_ic_1 (s_iald (pc := 101) (by decide) (by decide) rfl rfl rfl dX12_isLit_101 (s_bipush (pc := 102) dX12_isLit_102 c_bp_6 (s_cmpge (pc := 104) dX12_isLit_104 (by decide) (s_iconst (pc := 111) dX12_isLit_111 c_ic_0 (s_goto (pc := 112) dX12_isLit_112 (by decide) (s_zr (pc := 128) rfl dX12_isLit_128))) (s_iconst (pc := 107) dX12_isLit_107 c_ic_1 (s_goto (pc := 108) dX12_isLit_108 (by decide) (s_zr (pc := 128) rfl dX12_isLit_128)))))))))))))))))))))))))))))))))))))))))))) (s_iconst (pc := 38) dX12_isLit_38 c_ic_1 (s_zr (pc := 39) rfl dX12_isLit_39))))) (s_aloadn (pc := 12) dX12_isLit_12 rfl (s_gR (pc := 13) (f := 0) ko_11 (by decide) rfl rfl w_1295 dX12_isLit_13 (s_iconst (pc := 16) dX12_isLit_16 c_ic_2 (s_iald (pc := 17) (by decide) (by decide) rfl rfl rfl dX12_isLit_17 (s_aloadn (pc := 18) dX12_isLit_18 rfl (s_iloadn (pc := 19) dX12_isLit_19 rfl (s_iconst (pc := 20) dX12_isLit_20 c_ic_4 (s_vI (pc := 21) (run_virtual (X12_of5_gd _) (show 0 < 2 by decide) cy_X12_of5 (by decide) rfl w_1534 w_s38 w_1532 dX12_isLit_21) (s_cmpge (pc := 24) dX12_isLit_24 (by decide) (s_iconst (pc := 31) dX12_isLit_31 c_ic_0 (s_zr (pc := 32) rfl dX12_isLit_32)) (s_iconst (pc := 27) dX12_isLit_27 c_ic_1 (s_goto (pc := 28) dX12_isLit_28 (by decide) (s_zr (pc := 32) rfl dX12_isLit_32))))))))))))))))))))
noncomputable def X12_isLit_f0 (c_X12_of5 : Nat → Int32 → Int32 → PH → Option Rs) (c_X12_counts : Nat → Int32 → PH → Option Rs) (c_X12_rowsOf : Nat → Int32 → PH → Option Rs) (c_X12_worksOut : Nat → Int32 → PH → Option Rs) (t : Nat) (x1 : Int32) (h : PH) : Option Rs :=
  cI (c_X12_of5 t x1 1 h) fun v2 h1 =>
  if v2 = 5 then
    nn (hR h1 704 t 0) fun r26 =>
    ix 2 (hL h1 41 r26) fun j27 =>
    cI (c_X12_of5 t x1 4 h1) fun v29 h28 =>
    if (hI h1 2624 r26 j27) < v29 then
      bz 1 <|
      some (some (.inl 1), h28)
    else
      bz 0 <|
      some (some (.inl 0), h28)
  else
    if v2 = 3 then
      cI (c_X12_counts t 0 h1) fun v4 h3 =>
      nn (hR h3 704 t 0) fun r5 =>
      ix 1 (hL h3 41 r5) fun j6 =>
      nn (hR h3 727 t 0) fun r7 =>
      ix 0 (hL h3 52 r7) fun j8 =>
      wr (pI h3 3328 r7 j8 (hI h3 2624 r5 j6)) fun h9 =>
      nn (hR h9 704 t 0) fun r10 =>
      ix 2 (hL h9 41 r10) fun j11 =>
      nn (hR h9 727 t 0) fun r12 =>
      ix 1 (hL h9 52 r12) fun j13 =>
      wr (pI h9 3328 r12 j13 (hI h9 2624 r10 j11)) fun h14 =>
      cI (c_X12_rowsOf t x1 h14) fun v16 h15 =>
      nn (hR h14 727 t 0) fun r17 =>
      ix 2 (hL h15 52 r17) fun j18 =>
      wr (pI h15 3328 r17 j18 v16) fun h19 =>
      if v4 < 0 then
        nn (hR h19 704 t 0) fun r22 =>
        ix 1 (hL h19 41 r22) fun j23 =>
        if (hI h19 2624 r22 j23) < 18 then
          nn (hR h19 704 t 0) fun r24 =>
          ix 1 (hL h19 41 r24) fun j25 =>
          if (hI h19 2624 r24 j25) < 6 then
            bz 1 <|
            some (some (.inl 1), h19)
          else
            bz 0 <|
            some (some (.inl 0), h19)
        else
          bz 1 <|
          some (some (.inl 1), h19)
      else
        cI (c_X12_worksOut t v4 h19) fun v21 h20 =>
        if v21 = 0 then
          bz 0 <|
          some (some (.inl 0), h20)
        else
          bz 1 <|
          some (some (.inl 1), h20)
    else
      bz 1 <|
      some (some (.inl 1), h1)
set_option maxRecDepth 100000 in
theorem X12_isLit_l0 (c_X12_of5 : Nat → Int32 → Int32 → PH → Option Rs) (c_X12_counts : Nat → Int32 → PH → Option Rs) (c_X12_rowsOf : Nat → Int32 → PH → Option Rs) (c_X12_worksOut : Nat → Int32 → PH → Option Rs) (t : Nat) (x1 : Int32) (h : PH) : X12_isLit_b0 c_X12_of5 c_X12_counts c_X12_rowsOf c_X12_worksOut [some (.inr (11, t + 1)), some (.inl x1), none, none] [] h = X12_isLit_f0 c_X12_of5 c_X12_counts c_X12_rowsOf c_X12_worksOut t x1 h := rfl
noncomputable def X12_isLit_g0 (t : Nat) (x1 : Int32) (h : PH) : Option Rs := X12_isLit_f0 X12_of5 X12_counts X12_rowsOf X12_worksOut t x1 h
noncomputable def X12_isLit (t : Nat) (x1 : Int32) (h : PH) : Option Rs := X12_isLit_g0 t x1 h
noncomputable abbrev X12_isLit_F : List PV → PH → Option Rs := FW_T11I (X12_isLit)
set_option maxRecDepth 100000 in
theorem X12_isLit_gd (l : Launch) : Gd l 2 yX12_isLit cX12_isLit 4 (some .boolean) (X12_isLit_F)   := Gd_of (by decide +kernel) (fun z hzl as h r e => by
  obtain ⟨hst, e⟩ := gL_of e
  obtain ⟨t, q0, e⟩ := gT_of e
  obtain ⟨x1, q1, e⟩ := gI_of e
  rw [st_2 hst q0 q1]
  exact ⟨show 2 ≤ 4 by decide, X12_isLit_s0 _ _ _ _ ((X12_isLit_l0 X12_of5 X12_counts X12_rowsOf X12_worksOut t x1 h).trans e)⟩)
abbrev X12_isObeyed_x (z : CZ) : CX := mx RX12 cX12_isObeyed 4 2 (some .boolean) "isObeyed" z
noncomputable def X12_isObeyed_b0 (c_X12_counts : Nat → Int32 → PH → Option Rs) (c_X12_of5 : Nat → Int32 → Int32 → PH → Option Rs) (c_X12_seenBy : Int32 → PH → Option Rs) (c_X12_worksOut : Nat → Int32 → PH → Option Rs) : Kn := (a_al 0 (a_ic 2 (a_vI 11 1 (FW_T11I c_X12_counts) (a_is 3 (a_al 0 (a_gR 11 727 52 (a_ic 0 (a_al 0 (a_il 1 (a_ic 1 (a_vI 11 2 (FW_T11II c_X12_of5) (a_ast 52 3328 (fun a => a) (a_al 0 (a_gR 11 727 52 (a_ic 1 (a_al 0 (a_il 1 (a_ic 1 (a_vI 11 2 (FW_T11II c_X12_of5) (a_sI 1 (FW_I c_X12_seenBy) (a_ast 52 3328 (fun a => a) (a_al 0 (a_gR 11 727 52 (a_ic 2 (a_il 2 (a_ast 52 3328 (fun a => a) (a_al 0 (a_gR 11 727 52 (a_ic 3 (a_al 0 (a_gR 11 704 41 (a_ic 1 (a_ald 41 2624 (a_ast 52 3328 (fun a => a) (a_il 3 (a_n (a_ic 1 a_zr) (a_al 0 (a_il 3 (a_vI 11 1 (FW_T11I c_X12_worksOut) (a_z (a_ic 0 a_zr) (a_ic 1 a_zr)))))))))))))))))))))))))))))))))))))))))
set_option maxRecDepth 100000 in
theorem X12_isObeyed_s0 {z : CZ} : SK (X12_isObeyed_x z) 0 (X12_isObeyed_b0 X12_counts X12_of5 X12_seenBy X12_worksOut) := (s_aloadn (pc := 0) dX12_isObeyed_0 rfl (s_iconst (pc := 1) dX12_isObeyed_1 c_ic_2 (s_vI (pc := 2) (run_virtual (X12_counts_gd _) (show 0 < 2 by decide) cy_X12_counts (by decide) rfl w_1482 w_s32 w_1480 dX12_isObeyed_2) (s_istoren (pc := 5) dX12_isObeyed_5 rfl (show 3 < 4 by decide) (s_aloadn (pc := 6) dX12_isObeyed_6 rfl (s_gR (pc := 7) (f := 23) ko_11 (by decide) rfl rfl w_1318 dX12_isObeyed_7 (s_iconst (pc := 10) dX12_isObeyed_10 c_ic_0 (s_aloadn (pc := 11) dX12_isObeyed_11 rfl (s_iloadn (pc := 12) dX12_isObeyed_12 rfl (s_iconst (pc := 13) dX12_isObeyed_13 c_ic_1 (s_vI (pc := 14) (run_virtual (X12_of5_gd _) (show 0 < 2 by decide) cy_X12_of5 (by decide) rfl w_1534 w_s38 w_1532 dX12_isObeyed_14) (s_iast (pc := 17) (by decide) (by decide) rfl rfl rfl dX12_isObeyed_17 (s_aloadn (pc := 18) dX12_isObeyed_18 rfl (s_gR (pc := 19) (f := 23) ko_11 (by decide) rfl rfl w_1318 dX12_isObeyed_19 (s_iconst (pc := 22) dX12_isObeyed_22 c_ic_1 (s_aloadn (pc := 23) dX12_isObeyed_23 rfl (s_iloadn (pc := 24) dX12_isObeyed_24 rfl (s_iconst (pc := 25) dX12_isObeyed_25 c_ic_1 (s_vI (pc := 26) (run_virtual (X12_of5_gd _) (show 0 < 2 by decide) cy_X12_of5 (by decide) rfl w_1534 w_s38 w_1532 dX12_isObeyed_26) (s_sI (pc := 29) (run_static (X12_seenBy_gd _) (show 0 < 2 by decide) cy_X12_seenBy w_1544 w_1543 dX12_isObeyed_29) (s_iast (pc := 32) (by decide) (by decide) rfl rfl rfl dX12_isObeyed_32 (s_aloadn (pc := 33) dX12_isObeyed_33 rfl (s_gR (pc := 34) (f := 23) ko_11 (by decide) rfl rfl w_1318 dX12_isObeyed_34 (s_iconst (pc := 37) dX12_isObeyed_37 c_ic_2 (s_iloadn (pc := 38) dX12_isObeyed_38 rfl (s_iast (pc := 39) (by decide) (by decide) rfl rfl rfl dX12_isObeyed_39 (s_aloadn (pc := 40) dX12_isObeyed_40 rfl (s_gR (pc := 41) (f := 23) ko_11 (by decide) rfl rfl w_1318 dX12_isObeyed_41 (s_iconst (pc := 44) dX12_isObeyed_44 c_ic_3 (s_aloadn (pc := 45) dX12_isObeyed_45 rfl (s_gR (pc := 46) (f := 0) ko_11 (by decide) rfl rfl w_1295 dX12_isObeyed_46 (s_iconst (pc := 49) dX12_isObeyed_49 c_ic_1 (s_iald (pc := 50) (by decide) (by decide) rfl rfl rfl dX12_isObeyed_50 (s_iast (pc := 51) (by decide) (by decide) rfl rfl rfl dX12_isObeyed_51 (s_iloadn (pc := 52) dX12_isObeyed_52 rfl (s_iflt (pc := 53) dX12_isObeyed_53 (by decide) (s_iconst (pc := 64) dX12_isObeyed_64 c_ic_1 (s_goto (pc := 65) dX12_isObeyed_65 (by decide) (s_zr (pc := 69) rfl dX12_isObeyed_69))) (s_aloadn (pc := 56) dX12_isObeyed_56 rfl (s_iloadn (pc := 57) dX12_isObeyed_57 rfl (s_vI (pc := 58) (run_virtual (X12_worksOut_gd _) (show 1 < 2 by decide) cy_X12_worksOut (by decide) rfl w_1486 w_s33 w_1484 dX12_isObeyed_58) (s_ifeq (pc := 61) dX12_isObeyed_61 (by decide) (s_iconst (pc := 68) dX12_isObeyed_68 c_ic_0 (s_zr (pc := 69) rfl dX12_isObeyed_69)) (s_iconst (pc := 64) dX12_isObeyed_64 c_ic_1 (s_goto (pc := 65) dX12_isObeyed_65 (by decide) (s_zr (pc := 69) rfl dX12_isObeyed_69)))))))))))))))))))))))))))))))))))))))))))
noncomputable def X12_isObeyed_f0 (c_X12_counts : Nat → Int32 → PH → Option Rs) (c_X12_of5 : Nat → Int32 → Int32 → PH → Option Rs) (c_X12_seenBy : Int32 → PH → Option Rs) (c_X12_worksOut : Nat → Int32 → PH → Option Rs) (t : Nat) (x1 : Int32) (x2 : Int32) (h : PH) : Option Rs :=
  cI (c_X12_counts t 2 h) fun v2 h1 =>
  cI (c_X12_of5 t x1 1 h1) fun v4 h3 =>
  nn (hR h1 727 t 0) fun r5 =>
  ix 0 (hL h3 52 r5) fun j6 =>
  wr (pI h3 3328 r5 j6 v4) fun h7 =>
  cI (c_X12_of5 t x1 1 h7) fun v9 h8 =>
  cI (c_X12_seenBy v9 h8) fun v11 h10 =>
  nn (hR h7 727 t 0) fun r12 =>
  ix 1 (hL h10 52 r12) fun j13 =>
  wr (pI h10 3328 r12 j13 v11) fun h14 =>
  nn (hR h14 727 t 0) fun r15 =>
  ix 2 (hL h14 52 r15) fun j16 =>
  wr (pI h14 3328 r15 j16 x2) fun h17 =>
  nn (hR h17 704 t 0) fun r18 =>
  ix 1 (hL h17 41 r18) fun j19 =>
  nn (hR h17 727 t 0) fun r20 =>
  ix 3 (hL h17 52 r20) fun j21 =>
  wr (pI h17 3328 r20 j21 (hI h17 2624 r18 j19)) fun h22 =>
  if v2 < 0 then
    bz 1 <|
    some (some (.inl 1), h22)
  else
    cI (c_X12_worksOut t v2 h22) fun v24 h23 =>
    if v24 = 0 then
      bz 0 <|
      some (some (.inl 0), h23)
    else
      bz 1 <|
      some (some (.inl 1), h23)
set_option maxRecDepth 100000 in
theorem X12_isObeyed_l0 (c_X12_counts : Nat → Int32 → PH → Option Rs) (c_X12_of5 : Nat → Int32 → Int32 → PH → Option Rs) (c_X12_seenBy : Int32 → PH → Option Rs) (c_X12_worksOut : Nat → Int32 → PH → Option Rs) (t : Nat) (x1 : Int32) (x2 : Int32) (h : PH) : X12_isObeyed_b0 c_X12_counts c_X12_of5 c_X12_seenBy c_X12_worksOut [some (.inr (11, t + 1)), some (.inl x1), some (.inl x2), none] [] h = X12_isObeyed_f0 c_X12_counts c_X12_of5 c_X12_seenBy c_X12_worksOut t x1 x2 h := rfl
noncomputable def X12_isObeyed_g0 (t : Nat) (x1 : Int32) (x2 : Int32) (h : PH) : Option Rs := X12_isObeyed_f0 X12_counts X12_of5 X12_seenBy X12_worksOut t x1 x2 h
noncomputable def X12_isObeyed (t : Nat) (x1 : Int32) (x2 : Int32) (h : PH) : Option Rs := X12_isObeyed_g0 t x1 x2 h
noncomputable abbrev X12_isObeyed_F : List PV → PH → Option Rs := FW_T11II (X12_isObeyed)
set_option maxRecDepth 100000 in
theorem X12_isObeyed_gd (l : Launch) : Gd l 2 yX12_isObeyed cX12_isObeyed 4 (some .boolean) (X12_isObeyed_F)   := Gd_of (by decide +kernel) (fun z hzl as h r e => by
  obtain ⟨hst, e⟩ := gL_of e
  obtain ⟨t, q0, e⟩ := gT_of e
  obtain ⟨x1, q1, e⟩ := gI_of e
  obtain ⟨x2, q2, e⟩ := gI_of e
  rw [st_3 hst q0 q1 q2]
  exact ⟨show 3 ≤ 4 by decide, X12_isObeyed_s0 _ _ _ _ ((X12_isObeyed_l0 X12_counts X12_of5 X12_seenBy X12_worksOut t x1 x2 h).trans e)⟩)
abbrev X12_told_x (z : CZ) : CX := mx RX12 cX12_told 4 3 (some .int) "told" z
noncomputable def X12_told_b0 (c_X12_isSign : Nat → Int32 → PH → Option Rs) (c_X12_in : Int32 → Int32 → Int32 → PH → Option Rs) (c_X12_of5 : Nat → Int32 → Int32 → PH → Option Rs) (c_X12_rowsOf : Nat → Int32 → PH → Option Rs) (c_X12_mostBy : Int32 → PH → Option Rs) (c_X12_seenBy : Int32 → PH → Option Rs) (c_X12_priceBy : Int32 → Int32 → PH → Option Rs) (c_X12_isLit : Nat → Int32 → PH → Option Rs) (c_X12_isObeyed : Nat → Int32 → Int32 → PH → Option Rs) : Kn := (a_al 0 (a_il 1 (a_vI 11 1 (FW_T11I c_X12_isSign) (a_z (a_ic (-1000000001) a_ir) (a_il 2 (a_ic 0 (a_ic 9 (a_sI 3 (FW_III c_X12_in) (a_z (a_ic (-1000000001) a_ir) (a_al 0 (a_il 1 (a_ic 1 (a_vI 11 2 (FW_T11II c_X12_of5) (a_is 3 (a_il 2 (a_sw [(0, (a_al 0 (a_il 1 (a_ic 0 (a_vI 11 2 (FW_T11II c_X12_of5) a_ir))))), (1, (a_il 3 a_ir)), (2, (a_al 0 (a_il 1 (a_vI 11 1 (FW_T11I c_X12_rowsOf) a_ir)))), (3, (a_il 3 (a_sI 1 (FW_I c_X12_mostBy) a_ir))), (4, (a_il 3 (a_sI 1 (FW_I c_X12_seenBy) a_ir))), (5, (a_il 3 (a_al 0 (a_il 1 (a_vI 11 1 (FW_T11I c_X12_rowsOf) (a_sI 2 (FW_II c_X12_priceBy) a_ir)))))), (6, (a_al 0 (a_il 1 (a_vI 11 1 (FW_T11I c_X12_isLit) (a_z (a_ic 0 a_ir) (a_ic 1 a_ir)))))), (7, (a_al 0 (a_il 1 (a_ic 3 (a_vI 11 2 (FW_T11II c_X12_of5) a_ir))))), (8, (a_il 3 (a_ic 5 (a_eq (a_al 0 (a_il 1 (a_ic 4 (a_vI 11 2 (FW_T11II c_X12_of5) a_ir)))) (a_ic (-1000000005) a_ir)))))] (a_al 0 (a_il 1 (a_ic 0 (a_vI 11 2 (FW_T11II c_X12_isObeyed) (a_z (a_ic 0 a_ir) (a_ic 1 a_ir))))))))))))))))))))))
set_option maxRecDepth 100000 in
theorem X12_told_s0 {z : CZ} : SK (X12_told_x z) 0 (X12_told_b0 X12_isSign X12_in X12_of5 X12_rowsOf X12_mostBy X12_seenBy X12_priceBy X12_isLit X12_isObeyed) := (s_aloadn (pc := 0) dX12_told_0 rfl (s_iloadn (pc := 1) dX12_told_1 rfl (s_vI (pc := 2) (run_virtual (X12_isSign_gd _) (show 1 < 3 by decide) cy_X12_isSign (by decide) rfl w_1530 w_s37 w_1528 dX12_told_2) (s_ifeq (pc := 5) dX12_told_5 (by decide) (s_ldc (pc := 18) w_1466 dX12_told_18 (s_ir (pc := 20) rfl dX12_told_20)) (s_iloadn (pc := 8) dX12_told_8 rfl (s_iconst (pc := 9) dX12_told_9 c_ic_0 (s_bipush (pc := 10) dX12_told_10 c_bp_9 (s_sI (pc := 12) (run_static (X12_in_gd _) (show 0 < 3 by decide) cy_X12_in w_1464 w_1463 dX12_told_12) (s_ifne (pc := 15) dX12_told_15 (by decide) (s_aloadn (pc := 21) dX12_told_21 rfl (s_iloadn (pc := 22) dX12_told_22 rfl (s_iconst (pc := 23) dX12_told_23 c_ic_1 (s_vI (pc := 24) (run_virtual (X12_of5_gd _) (show 0 < 3 by decide) cy_X12_of5 (by decide) rfl w_1534 w_s38 w_1532 dX12_told_24) (s_istoren (pc := 27) dX12_told_27 rfl (show 3 < 4 by decide) (s_iloadn (pc := 28) dX12_told_28 rfl (s_table (pc := 29) dX12_told_29 (by decide) (by decide) ⟨c_ti_0, ⟨_, by decide, (s_aloadn (pc := 80) dX12_told_80 rfl (s_iloadn (pc := 81) dX12_told_81 rfl (s_iconst (pc := 82) dX12_told_82 c_ic_0 (s_vI (pc := 83) (run_virtual (X12_of5_gd _) (show 0 < 3 by decide) cy_X12_of5 (by decide) rfl w_1534 w_s38 w_1532 dX12_told_83) (s_ir (pc := 86) rfl dX12_told_86)))))⟩, ⟨c_ti_1, ⟨_, by decide, (s_iloadn (pc := 87) dX12_told_87 rfl (s_ir (pc := 88) rfl dX12_told_88))⟩, ⟨c_ti_2, ⟨_, by decide, (s_aloadn (pc := 89) dX12_told_89 rfl (s_iloadn (pc := 90) dX12_told_90 rfl (s_vI (pc := 91) (run_virtual (X12_rowsOf_gd _) (show 1 < 3 by decide) cy_X12_rowsOf (by decide) rfl w_1538 w_s39 w_1536 dX12_told_91) (s_ir (pc := 94) rfl dX12_told_94))))⟩, ⟨c_ti_3, ⟨_, by decide, (s_iloadn (pc := 95) dX12_told_95 rfl (s_sI (pc := 96) (run_static (X12_mostBy_gd _) (show 0 < 3 by decide) cy_X12_mostBy w_1541 w_1540 dX12_told_96) (s_ir (pc := 99) rfl dX12_told_99)))⟩, ⟨c_ti_4, ⟨_, by decide, (s_iloadn (pc := 100) dX12_told_100 rfl (s_sI (pc := 101) (run_static (X12_seenBy_gd _) (show 0 < 3 by decide) cy_X12_seenBy w_1544 w_1543 dX12_told_101) (s_ir (pc := 104) rfl dX12_told_104)))⟩, ⟨c_ti_5, ⟨_, by decide, (s_iloadn (pc := 105) dX12_told_105 rfl (s_aloadn (pc := 106) dX12_told_106 rfl (s_iloadn (pc := 107) dX12_told_107 rfl (s_vI (pc := 108) (run_virtual (X12_rowsOf_gd _) (show 1 < 3 by decide) cy_X12_rowsOf (by decide) rfl w_1538 w_s39 w_1536 dX12_told_108) (s_sI (pc := 111) (run_static (X12_priceBy_gd _) (show 0 < 3 by decide) cy_X12_priceBy w_1547 w_1546 dX12_told_111) (s_ir (pc := 114) rfl dX12_told_114))))))⟩, ⟨c_ti_6, ⟨_, by decide, (s_aloadn (pc := 115) dX12_told_115 rfl (s_iloadn (pc := 116) dX12_told_116 rfl (s_vI (pc := 117) (run_virtual (X12_isLit_gd _) (show 2 < 3 by decide) cy_X12_isLit (by decide) rfl w_1551 w_s40 w_1549 dX12_told_117) (s_ifeq (pc := 120) dX12_told_120 (by decide) (s_iconst (pc := 127) dX12_told_127 c_ic_0 (s_ir (pc := 128) rfl dX12_told_128)) (s_iconst (pc := 123) dX12_told_123 c_ic_1 (s_goto (pc := 124) dX12_told_124 (by decide) (s_ir (pc := 128) rfl dX12_told_128)))))))⟩, ⟨c_ti_7, ⟨_, by decide, (s_aloadn (pc := 129) dX12_told_129 rfl (s_iloadn (pc := 130) dX12_told_130 rfl (s_iconst (pc := 131) dX12_told_131 c_ic_3 (s_vI (pc := 132) (run_virtual (X12_of5_gd _) (show 0 < 3 by decide) cy_X12_of5 (by decide) rfl w_1534 w_s38 w_1532 dX12_told_132) (s_ir (pc := 135) rfl dX12_told_135)))))⟩, ⟨c_ti_8, ⟨_, by decide, (s_iloadn (pc := 136) dX12_told_136 rfl (s_iconst (pc := 137) dX12_told_137 c_ic_5 (s_cmpne (pc := 138) dX12_told_138 (by decide) (s_ldc (pc := 150) w_1515 dX12_told_150 (s_ir (pc := 152) rfl dX12_told_152)) (s_aloadn (pc := 141) dX12_told_141 rfl (s_iloadn (pc := 142) dX12_told_142 rfl (s_iconst (pc := 143) dX12_told_143 c_ic_4 (s_vI (pc := 144) (run_virtual (X12_of5_gd _) (show 0 < 3 by decide) cy_X12_of5 (by decide) rfl w_1534 w_s38 w_1532 dX12_told_144) (s_goto (pc := 147) dX12_told_147 (by decide) (s_ir (pc := 152) rfl dX12_told_152)))))))))⟩, trivial⟩⟩⟩⟩⟩⟩⟩⟩⟩ (s_aloadn (pc := 153) dX12_told_153 rfl (s_iloadn (pc := 154) dX12_told_154 rfl (s_iconst (pc := 155) dX12_told_155 c_ic_0 (s_vI (pc := 156) (run_virtual (X12_isObeyed_gd _) (show 2 < 3 by decide) cy_X12_isObeyed (by decide) rfl w_1555 w_s41 w_1553 dX12_told_156) (s_ifeq (pc := 159) dX12_told_159 (by decide) (s_iconst (pc := 166) dX12_told_166 c_ic_0 (s_ir (pc := 167) rfl dX12_told_167)) (s_iconst (pc := 162) dX12_told_162 c_ic_1 (s_goto (pc := 163) dX12_told_163 (by decide) (s_ir (pc := 167) rfl dX12_told_167))))))))))))))) (s_ldc (pc := 18) w_1466 dX12_told_18 (s_ir (pc := 20) rfl dX12_told_20)))))))))))
noncomputable def X12_told_f0 (c_X12_isSign : Nat → Int32 → PH → Option Rs) (c_X12_in : Int32 → Int32 → Int32 → PH → Option Rs) (c_X12_of5 : Nat → Int32 → Int32 → PH → Option Rs) (c_X12_rowsOf : Nat → Int32 → PH → Option Rs) (c_X12_mostBy : Int32 → PH → Option Rs) (c_X12_seenBy : Int32 → PH → Option Rs) (c_X12_priceBy : Int32 → Int32 → PH → Option Rs) (c_X12_isLit : Nat → Int32 → PH → Option Rs) (c_X12_isObeyed : Nat → Int32 → Int32 → PH → Option Rs) (t : Nat) (x1 : Int32) (x2 : Int32) (h : PH) : Option Rs :=
  cI (c_X12_isSign t x1 h) fun v2 h1 =>
  if v2 = 0 then
    some (some (.inl (-1000000001)), h1)
  else
    cI (c_X12_in x2 0 9 h1) fun v4 h3 =>
    if v4 = 0 then
      some (some (.inl (-1000000001)), h3)
    else
      cI (c_X12_of5 t x1 1 h3) fun v6 h5 =>
      if x2 = 0 then
        cI (c_X12_of5 t x1 0 h5) fun v8 h7 =>
        some (some (.inl v8), h7)
      else
      if x2 = 1 then
        some (some (.inl v6), h5)
      else
      if x2 = 2 then
        cI (c_X12_rowsOf t x1 h5) fun v10 h9 =>
        some (some (.inl v10), h9)
      else
      if x2 = 3 then
        cI (c_X12_mostBy v6 h5) fun v12 h11 =>
        some (some (.inl v12), h11)
      else
      if x2 = 4 then
        cI (c_X12_seenBy v6 h5) fun v14 h13 =>
        some (some (.inl v14), h13)
      else
      if x2 = 5 then
        cI (c_X12_rowsOf t x1 h5) fun v16 h15 =>
        cI (c_X12_priceBy v6 v16 h15) fun v18 h17 =>
        some (some (.inl v18), h17)
      else
      if x2 = 6 then
        cI (c_X12_isLit t x1 h5) fun v20 h19 =>
        if v20 = 0 then
          some (some (.inl 0), h19)
        else
          some (some (.inl 1), h19)
      else
      if x2 = 7 then
        cI (c_X12_of5 t x1 3 h5) fun v22 h21 =>
        some (some (.inl v22), h21)
      else
      if x2 = 8 then
        if v6 = 5 then
          cI (c_X12_of5 t x1 4 h5) fun v24 h23 =>
          some (some (.inl v24), h23)
        else
          some (some (.inl (-1000000005)), h5)
      else
        cI (c_X12_isObeyed t x1 0 h5) fun v26 h25 =>
        if v26 = 0 then
          some (some (.inl 0), h25)
        else
          some (some (.inl 1), h25)
set_option maxRecDepth 100000 in
theorem X12_told_l0 (c_X12_isSign : Nat → Int32 → PH → Option Rs) (c_X12_in : Int32 → Int32 → Int32 → PH → Option Rs) (c_X12_of5 : Nat → Int32 → Int32 → PH → Option Rs) (c_X12_rowsOf : Nat → Int32 → PH → Option Rs) (c_X12_mostBy : Int32 → PH → Option Rs) (c_X12_seenBy : Int32 → PH → Option Rs) (c_X12_priceBy : Int32 → Int32 → PH → Option Rs) (c_X12_isLit : Nat → Int32 → PH → Option Rs) (c_X12_isObeyed : Nat → Int32 → Int32 → PH → Option Rs) (t : Nat) (x1 : Int32) (x2 : Int32) (h : PH) : X12_told_b0 c_X12_isSign c_X12_in c_X12_of5 c_X12_rowsOf c_X12_mostBy c_X12_seenBy c_X12_priceBy c_X12_isLit c_X12_isObeyed [some (.inr (11, t + 1)), some (.inl x1), some (.inl x2), none] [] h = X12_told_f0 c_X12_isSign c_X12_in c_X12_of5 c_X12_rowsOf c_X12_mostBy c_X12_seenBy c_X12_priceBy c_X12_isLit c_X12_isObeyed t x1 x2 h := rfl
noncomputable def X12_told_g0 (t : Nat) (x1 : Int32) (x2 : Int32) (h : PH) : Option Rs := X12_told_f0 X12_isSign X12_in X12_of5 X12_rowsOf X12_mostBy X12_seenBy X12_priceBy X12_isLit X12_isObeyed t x1 x2 h
noncomputable def X12_told (t : Nat) (x1 : Int32) (x2 : Int32) (h : PH) : Option Rs := X12_told_g0 t x1 x2 h
noncomputable abbrev X12_told_F : List PV → PH → Option Rs := FW_T11II (X12_told)
set_option maxRecDepth 100000 in
theorem X12_told_gd (l : Launch) : Gd l 3 yX12_told cX12_told 4 (some .int) (X12_told_F)   := Gd_of (by decide +kernel) (fun z hzl as h r e => by
  obtain ⟨hst, e⟩ := gL_of e
  obtain ⟨t, q0, e⟩ := gT_of e
  obtain ⟨x1, q1, e⟩ := gI_of e
  obtain ⟨x2, q2, e⟩ := gI_of e
  rw [st_3 hst q0 q1 q2]
  exact ⟨show 3 ≤ 4 by decide, X12_told_s0 _ _ _ _ ((X12_told_l0 X12_isSign X12_in X12_of5 X12_rowsOf X12_mostBy X12_seenBy X12_priceBy X12_isLit X12_isObeyed t x1 x2 h).trans e)⟩)
abbrev X12_isUnder_x (z : CZ) : CX := mx RX12 cX12_isUnder 2 0 (some .boolean) "isUnder" z
noncomputable def X12_isUnder_b0 (k19 : Kn) : Kn := (a_il 1 (a_z (a_ic 1 a_zr) (a_il 0 (a_il 1 (a_eq (a_ic 1 a_zr) (a_il 1 (a_ic 1 (a_eq (a_il 0 (a_ic 3 (a_eq (a_ic 1 a_zr) k19))) k19))))))))
set_option maxRecDepth 100000 in
theorem X12_isUnder_s0 {z : CZ} {k19 : Kn} (hk19 : SK (X12_isUnder_x z) 19 k19) : SK (X12_isUnder_x z) 0 (X12_isUnder_b0 k19) := (s_iloadn (pc := 0) dX12_isUnder_0 rfl (s_ifeq (pc := 1) dX12_isUnder_1 (by decide) (s_iconst (pc := 29) dX12_isUnder_29 c_ic_1 (s_goto (pc := 30) dX12_isUnder_30 (by decide) (s_zr (pc := 34) rfl dX12_isUnder_34))) (s_iloadn (pc := 4) dX12_isUnder_4 rfl (s_iloadn (pc := 5) dX12_isUnder_5 rfl (s_cmpeq (pc := 6) dX12_isUnder_6 (by decide) (s_iconst (pc := 29) dX12_isUnder_29 c_ic_1 (s_goto (pc := 30) dX12_isUnder_30 (by decide) (s_zr (pc := 34) rfl dX12_isUnder_34))) (s_iloadn (pc := 9) dX12_isUnder_9 rfl (s_iconst (pc := 10) dX12_isUnder_10 c_ic_1 (s_cmpne (pc := 11) dX12_isUnder_11 (by decide) hk19 (s_iloadn (pc := 14) dX12_isUnder_14 rfl (s_iconst (pc := 15) dX12_isUnder_15 c_ic_3 (s_cmpeq (pc := 16) dX12_isUnder_16 (by decide) (s_iconst (pc := 29) dX12_isUnder_29 c_ic_1 (s_goto (pc := 30) dX12_isUnder_30 (by decide) (s_zr (pc := 34) rfl dX12_isUnder_34))) hk19)))))))))))
noncomputable def X12_isUnder_b19 : Kn := (a_il 1 (a_ic 2 (a_eq (a_il 0 (a_ic 4 (a_eq (a_ic 1 a_zr) (a_ic 0 a_zr)))) (a_ic 0 a_zr))))
set_option maxRecDepth 100000 in
theorem X12_isUnder_s19 {z : CZ} : SK (X12_isUnder_x z) 19 (X12_isUnder_b19) := (s_iloadn (pc := 19) dX12_isUnder_19 rfl (s_iconst (pc := 20) dX12_isUnder_20 c_ic_2 (s_cmpne (pc := 21) dX12_isUnder_21 (by decide) (s_iconst (pc := 33) dX12_isUnder_33 c_ic_0 (s_zr (pc := 34) rfl dX12_isUnder_34)) (s_iloadn (pc := 24) dX12_isUnder_24 rfl (s_iconst (pc := 25) dX12_isUnder_25 c_ic_4 (s_cmpne (pc := 26) dX12_isUnder_26 (by decide) (s_iconst (pc := 33) dX12_isUnder_33 c_ic_0 (s_zr (pc := 34) rfl dX12_isUnder_34)) (s_iconst (pc := 29) dX12_isUnder_29 c_ic_1 (s_goto (pc := 30) dX12_isUnder_30 (by decide) (s_zr (pc := 34) rfl dX12_isUnder_34)))))))))
noncomputable def X12_isUnder_u19 (g : Int32 → Int32 → PH → Option Rs) : Kn := fun ls st h => gL 0 st (gI ls 0 fun x0 => gI ls 1 fun x1 => g x0 x1 h)
noncomputable def X12_isUnder_f0 (g19 : Int32 → Int32 → PH → Option Rs) (x0 : Int32) (x1 : Int32) (h : PH) : Option Rs :=
  if x1 = 0 then
    bz 1 <|
    some (some (.inl 1), h)
  else
    if x0 = x1 then
      bz 1 <|
      some (some (.inl 1), h)
    else
      if x1 = 1 then
        if x0 = 3 then
          bz 1 <|
          some (some (.inl 1), h)
        else
          g19 x0 x1 h
      else
        g19 x0 x1 h
set_option maxRecDepth 100000 in
theorem X12_isUnder_l0 (g19 : Int32 → Int32 → PH → Option Rs) (x0 : Int32) (x1 : Int32) (h : PH) : X12_isUnder_b0 (X12_isUnder_u19 g19) [some (.inl x0), some (.inl x1)] [] h = X12_isUnder_f0 g19 x0 x1 h := rfl
theorem X12_isUnder_m0 {g19 G19 : Int32 → Int32 → PH → Option Rs} (hg19 : ∀ a0 a1 a2, Mo (g19 a0 a1 a2) (G19 a0 a1 a2)) (x0 : Int32) (x1 : Int32) (h : PH) : Mo (X12_isUnder_f0 g19 x0 x1 h) (X12_isUnder_f0 G19 x0 x1 h) := (mo_if (mo_bz mo_rf) (mo_if (mo_bz mo_rf) (mo_if (mo_if (mo_bz mo_rf) (hg19 x0 x1 h)) (hg19 x0 x1 h))))
noncomputable def X12_isUnder_f19 (x0 : Int32) (x1 : Int32) (h : PH) : Option Rs :=
  if x1 = 2 then
    if x0 = 4 then
      bz 1 <|
      some (some (.inl 1), h)
    else
      bz 0 <|
      some (some (.inl 0), h)
  else
    bz 0 <|
    some (some (.inl 0), h)
set_option maxRecDepth 100000 in
theorem X12_isUnder_l19 (x0 : Int32) (x1 : Int32) (h : PH) : X12_isUnder_b19 [some (.inl x0), some (.inl x1)] [] h = X12_isUnder_f19 x0 x1 h := rfl
theorem X12_isUnder_w19 {z : CZ} : SK (X12_isUnder_x z) 19 (X12_isUnder_u19 (X12_isUnder_f19)) := by
  intro ls st h r e
  obtain ⟨hst, e⟩ := gL_of e
  obtain ⟨x0, q0, e⟩ := gI_of e
  obtain ⟨x1, q1, e⟩ := gI_of e
  rw [st_0 hst]
  exact WK.sub (canon := [some (.inl x0), some (.inl x1)]) rfl ⟨q0, q1, trivial⟩ (X12_isUnder_s19 _ _ _ _ ((X12_isUnder_l19 x0 x1 h).trans e))
noncomputable def X12_isUnder_g19 (x0 : Int32) (x1 : Int32) (h : PH) : Option Rs := X12_isUnder_f19 x0 x1 h
noncomputable def X12_isUnder_g0 (x0 : Int32) (x1 : Int32) (h : PH) : Option Rs := X12_isUnder_f0 (X12_isUnder_g19) x0 x1 h
theorem X12_isUnder_v19 {z : CZ} : SK (X12_isUnder_x z) 19 (X12_isUnder_u19 (X12_isUnder_g19)) := X12_isUnder_w19
noncomputable def X12_isUnder (x0 : Int32) (x1 : Int32) (h : PH) : Option Rs := X12_isUnder_g0 x0 x1 h
noncomputable abbrev X12_isUnder_F : List PV → PH → Option Rs := FW_II (X12_isUnder)
set_option maxRecDepth 100000 in
theorem X12_isUnder_gd (l : Launch) : Gd l 0 yX12_isUnder cX12_isUnder 2 (some .boolean) (X12_isUnder_F)   := Gd_of (by decide +kernel) (fun z hzl as h r e => by
  obtain ⟨hst, e⟩ := gL_of e
  obtain ⟨x0, q0, e⟩ := gI_of e
  obtain ⟨x1, q1, e⟩ := gI_of e
  rw [st_2 hst q0 q1]
  exact ⟨show 2 ≤ 2 by decide, X12_isUnder_s0 (X12_isUnder_v19) _ _ _ _ ((X12_isUnder_l0 (X12_isUnder_g19) x0 x1 h).trans e)⟩)
abbrev X12_as_x (z : CZ) : CX := mx RX12 cX12_as 3 2 (some .int) "as" z
noncomputable def X12_as_b0 (c_X12_isSign : Nat → Int32 → PH → Option Rs) (c_X12_in : Int32 → Int32 → Int32 → PH → Option Rs) (c_X12_of5 : Nat → Int32 → Int32 → PH → Option Rs) (c_X12_isUnder : Int32 → Int32 → PH → Option Rs) (c_X12_rowsOf : Nat → Int32 → PH → Option Rs) : Kn := (a_al 0 (a_il 1 (a_vI 11 1 (FW_T11I c_X12_isSign) (a_z (a_ic (-1000000001) a_ir) (a_il 2 (a_ic 0 (a_ic 5 (a_sI 3 (FW_III c_X12_in) (a_z (a_ic (-1000000001) a_ir) (a_al 0 (a_il 1 (a_ic 1 (a_vI 11 2 (FW_T11II c_X12_of5) (a_il 2 (a_sI 2 (FW_II c_X12_isUnder) (a_z (a_ic (-1000000012) a_ir) (a_al 0 (a_il 1 (a_vI 11 1 (FW_T11I c_X12_rowsOf) a_ir)))))))))))))))))))
set_option maxRecDepth 100000 in
theorem X12_as_s0 {z : CZ} : SK (X12_as_x z) 0 (X12_as_b0 X12_isSign X12_in X12_of5 X12_isUnder X12_rowsOf) := (s_aloadn (pc := 0) dX12_as_0 rfl (s_iloadn (pc := 1) dX12_as_1 rfl (s_vI (pc := 2) (run_virtual (X12_isSign_gd _) (show 1 < 2 by decide) cy_X12_isSign (by decide) rfl w_1530 w_s37 w_1528 dX12_as_2) (s_ifeq (pc := 5) dX12_as_5 (by decide) (s_ldc (pc := 17) w_1466 dX12_as_17 (s_ir (pc := 19) rfl dX12_as_19)) (s_iloadn (pc := 8) dX12_as_8 rfl (s_iconst (pc := 9) dX12_as_9 c_ic_0 (s_iconst (pc := 10) dX12_as_10 c_ic_5 (s_sI (pc := 11) (run_static (X12_in_gd _) (show 0 < 2 by decide) cy_X12_in w_1464 w_1463 dX12_as_11) (s_ifne (pc := 14) dX12_as_14 (by decide) (s_aloadn (pc := 20) dX12_as_20 rfl (s_iloadn (pc := 21) dX12_as_21 rfl (s_iconst (pc := 22) dX12_as_22 c_ic_1 (s_vI (pc := 23) (run_virtual (X12_of5_gd _) (show 0 < 2 by decide) cy_X12_of5 (by decide) rfl w_1534 w_s38 w_1532 dX12_as_23) (s_iloadn (pc := 26) dX12_as_26 rfl (s_sI (pc := 27) (run_static (X12_isUnder_gd _) (show 0 < 2 by decide) cy_X12_isUnder w_1562 w_1561 dX12_as_27) (s_ifeq (pc := 30) dX12_as_30 (by decide) (s_ldc (pc := 41) w_1564 dX12_as_41 (s_ir (pc := 43) rfl dX12_as_43)) (s_aloadn (pc := 33) dX12_as_33 rfl (s_iloadn (pc := 34) dX12_as_34 rfl (s_vI (pc := 35) (run_virtual (X12_rowsOf_gd _) (show 1 < 2 by decide) cy_X12_rowsOf (by decide) rfl w_1538 w_s39 w_1536 dX12_as_35) (s_goto (pc := 38) dX12_as_38 (by decide) (s_ir (pc := 43) rfl dX12_as_43)))))))))))) (s_ldc (pc := 17) w_1466 dX12_as_17 (s_ir (pc := 19) rfl dX12_as_19)))))))))))
noncomputable def X12_as_f0 (c_X12_isSign : Nat → Int32 → PH → Option Rs) (c_X12_in : Int32 → Int32 → Int32 → PH → Option Rs) (c_X12_of5 : Nat → Int32 → Int32 → PH → Option Rs) (c_X12_isUnder : Int32 → Int32 → PH → Option Rs) (c_X12_rowsOf : Nat → Int32 → PH → Option Rs) (t : Nat) (x1 : Int32) (x2 : Int32) (h : PH) : Option Rs :=
  cI (c_X12_isSign t x1 h) fun v2 h1 =>
  if v2 = 0 then
    some (some (.inl (-1000000001)), h1)
  else
    cI (c_X12_in x2 0 5 h1) fun v4 h3 =>
    if v4 = 0 then
      some (some (.inl (-1000000001)), h3)
    else
      cI (c_X12_of5 t x1 1 h3) fun v6 h5 =>
      cI (c_X12_isUnder v6 x2 h5) fun v8 h7 =>
      if v8 = 0 then
        some (some (.inl (-1000000012)), h7)
      else
        cI (c_X12_rowsOf t x1 h7) fun v10 h9 =>
        some (some (.inl v10), h9)
set_option maxRecDepth 100000 in
theorem X12_as_l0 (c_X12_isSign : Nat → Int32 → PH → Option Rs) (c_X12_in : Int32 → Int32 → Int32 → PH → Option Rs) (c_X12_of5 : Nat → Int32 → Int32 → PH → Option Rs) (c_X12_isUnder : Int32 → Int32 → PH → Option Rs) (c_X12_rowsOf : Nat → Int32 → PH → Option Rs) (t : Nat) (x1 : Int32) (x2 : Int32) (h : PH) : X12_as_b0 c_X12_isSign c_X12_in c_X12_of5 c_X12_isUnder c_X12_rowsOf [some (.inr (11, t + 1)), some (.inl x1), some (.inl x2)] [] h = X12_as_f0 c_X12_isSign c_X12_in c_X12_of5 c_X12_isUnder c_X12_rowsOf t x1 x2 h := rfl
noncomputable def X12_as_g0 (t : Nat) (x1 : Int32) (x2 : Int32) (h : PH) : Option Rs := X12_as_f0 X12_isSign X12_in X12_of5 X12_isUnder X12_rowsOf t x1 x2 h
noncomputable def X12_as (t : Nat) (x1 : Int32) (x2 : Int32) (h : PH) : Option Rs := X12_as_g0 t x1 x2 h
noncomputable abbrev X12_as_F : List PV → PH → Option Rs := FW_T11II (X12_as)
set_option maxRecDepth 100000 in
theorem X12_as_gd (l : Launch) : Gd l 2 yX12_as cX12_as 3 (some .int) (X12_as_F)   := Gd_of (by decide +kernel) (fun z hzl as h r e => by
  obtain ⟨hst, e⟩ := gL_of e
  obtain ⟨t, q0, e⟩ := gT_of e
  obtain ⟨x1, q1, e⟩ := gI_of e
  obtain ⟨x2, q2, e⟩ := gI_of e
  rw [st_3 hst q0 q1 q2]
  exact ⟨show 3 ≤ 3 by decide, X12_as_s0 _ _ _ _ ((X12_as_l0 X12_isSign X12_in X12_of5 X12_isUnder X12_rowsOf t x1 x2 h).trans e)⟩)
abbrev X12_turns_x (z : CZ) : CX := mx RX12 cX12_turns 4 2 (some .int) "turns" z
noncomputable def X12_turns_b0 (c_X12_isSign : Nat → Int32 → PH → Option Rs) (c_X12_in : Int32 → Int32 → Int32 → PH → Option Rs) (c_X12_of5 : Nat → Int32 → Int32 → PH → Option Rs) : Kn := (a_al 0 (a_il 1 (a_vI 11 1 (FW_T11I c_X12_isSign) (a_z (a_ic (-1000000001) a_ir) (a_il 2 (a_ic 0 (a_ic 4 (a_sI 3 (FW_III c_X12_in) (a_z (a_ic (-1000000001) a_ir) (a_al 0 (a_il 1 (a_ic 1 (a_vI 11 2 (FW_T11II c_X12_of5) (a_is 3 (a_il 3 (a_ic 5 (a_eq (a_ic (-1000000002) a_ir) (a_al 0 (a_gR 11 704 41 (a_ic 155 (a_ic 5 (a_il 1 (a_b (fun a b => a * b) (a_b (fun a b => a + b) (a_ic 1 (a_b (fun a b => a + b) (a_il 2 (a_ast 41 2624 (fun a => a) (a_il 3 a_ir)))))))))))))))))))))))))))))
set_option maxRecDepth 100000 in
theorem X12_turns_s0 {z : CZ} : SK (X12_turns_x z) 0 (X12_turns_b0 X12_isSign X12_in X12_of5) := (s_aloadn (pc := 0) dX12_turns_0 rfl (s_iloadn (pc := 1) dX12_turns_1 rfl (s_vI (pc := 2) (run_virtual (X12_isSign_gd _) (show 1 < 2 by decide) cy_X12_isSign (by decide) rfl w_1530 w_s37 w_1528 dX12_turns_2) (s_ifeq (pc := 5) dX12_turns_5 (by decide) (s_ldc (pc := 17) w_1466 dX12_turns_17 (s_ir (pc := 19) rfl dX12_turns_19)) (s_iloadn (pc := 8) dX12_turns_8 rfl (s_iconst (pc := 9) dX12_turns_9 c_ic_0 (s_iconst (pc := 10) dX12_turns_10 c_ic_4 (s_sI (pc := 11) (run_static (X12_in_gd _) (show 0 < 2 by decide) cy_X12_in w_1464 w_1463 dX12_turns_11) (s_ifne (pc := 14) dX12_turns_14 (by decide) (s_aloadn (pc := 20) dX12_turns_20 rfl (s_iloadn (pc := 21) dX12_turns_21 rfl (s_iconst (pc := 22) dX12_turns_22 c_ic_1 (s_vI (pc := 23) (run_virtual (X12_of5_gd _) (show 0 < 2 by decide) cy_X12_of5 (by decide) rfl w_1534 w_s38 w_1532 dX12_turns_23) (s_istoren (pc := 26) dX12_turns_26 rfl (show 3 < 4 by decide) (s_iloadn (pc := 27) dX12_turns_27 rfl (s_iconst (pc := 28) dX12_turns_28 c_ic_5 (s_cmpne (pc := 29) dX12_turns_29 (by decide) (s_aloadn (pc := 35) dX12_turns_35 rfl (s_gR (pc := 36) (f := 0) ko_11 (by decide) rfl rfl w_1295 dX12_turns_36 (s_sipush (pc := 39) dX12_turns_39 c_sp_155 (s_iconst (pc := 42) dX12_turns_42 c_ic_5 (s_iloadn (pc := 43) dX12_turns_43 rfl (s_imul (pc := 44) dX12_turns_44 (s_iadd (pc := 45) dX12_turns_45 (s_iconst (pc := 46) dX12_turns_46 c_ic_1 (s_iadd (pc := 47) dX12_turns_47 (s_iloadn (pc := 48) dX12_turns_48 rfl (s_iast (pc := 49) (by decide) (by decide) rfl rfl rfl dX12_turns_49 (s_iloadn (pc := 50) dX12_turns_50 rfl (s_ir (pc := 51) rfl dX12_turns_51))))))))))))) (s_ldc (pc := 32) w_1471 dX12_turns_32 (s_ir (pc := 34) rfl dX12_turns_34)))))))))) (s_ldc (pc := 17) w_1466 dX12_turns_17 (s_ir (pc := 19) rfl dX12_turns_19)))))))))))
noncomputable def X12_turns_f0 (c_X12_isSign : Nat → Int32 → PH → Option Rs) (c_X12_in : Int32 → Int32 → Int32 → PH → Option Rs) (c_X12_of5 : Nat → Int32 → Int32 → PH → Option Rs) (t : Nat) (x1 : Int32) (x2 : Int32) (h : PH) : Option Rs :=
  cI (c_X12_isSign t x1 h) fun v2 h1 =>
  if v2 = 0 then
    some (some (.inl (-1000000001)), h1)
  else
    cI (c_X12_in x2 0 4 h1) fun v4 h3 =>
    if v4 = 0 then
      some (some (.inl (-1000000001)), h3)
    else
      cI (c_X12_of5 t x1 1 h3) fun v6 h5 =>
      if v6 = 5 then
        some (some (.inl (-1000000002)), h5)
      else
        nn (hR h5 704 t 0) fun r7 =>
        ix ((155 + (5 * x1)) + 1) (hL h5 41 r7) fun j8 =>
        wr (pI h5 2624 r7 j8 x2) fun h9 =>
        some (some (.inl v6), h9)
set_option maxRecDepth 100000 in
theorem X12_turns_l0 (c_X12_isSign : Nat → Int32 → PH → Option Rs) (c_X12_in : Int32 → Int32 → Int32 → PH → Option Rs) (c_X12_of5 : Nat → Int32 → Int32 → PH → Option Rs) (t : Nat) (x1 : Int32) (x2 : Int32) (h : PH) : X12_turns_b0 c_X12_isSign c_X12_in c_X12_of5 [some (.inr (11, t + 1)), some (.inl x1), some (.inl x2), none] [] h = X12_turns_f0 c_X12_isSign c_X12_in c_X12_of5 t x1 x2 h := rfl
noncomputable def X12_turns_g0 (t : Nat) (x1 : Int32) (x2 : Int32) (h : PH) : Option Rs := X12_turns_f0 X12_isSign X12_in X12_of5 t x1 x2 h
noncomputable def X12_turns (t : Nat) (x1 : Int32) (x2 : Int32) (h : PH) : Option Rs := X12_turns_g0 t x1 x2 h
noncomputable abbrev X12_turns_F : List PV → PH → Option Rs := FW_T11II (X12_turns)
set_option maxRecDepth 100000 in
theorem X12_turns_gd (l : Launch) : Gd l 2 yX12_turns cX12_turns 4 (some .int) (X12_turns_F)   := Gd_of (by decide +kernel) (fun z hzl as h r e => by
  obtain ⟨hst, e⟩ := gL_of e
  obtain ⟨t, q0, e⟩ := gT_of e
  obtain ⟨x1, q1, e⟩ := gI_of e
  obtain ⟨x2, q2, e⟩ := gI_of e
  rw [st_3 hst q0 q1 q2]
  exact ⟨show 3 ≤ 4 by decide, X12_turns_s0 _ _ _ _ ((X12_turns_l0 X12_isSign X12_in X12_of5 t x1 x2 h).trans e)⟩)
abbrev X12_undo_x (z : CZ) : CX := mx RX12 cX12_undo 2 0 (some .int) "undo" z
noncomputable def X12_undo_b0 (k22 : Kn) : Kn := (a_al 0 (a_gI 11 709 (a_z (a_ic (-1000000002) a_ir) (a_al 0 (a_dup (a_gI 11 709 (a_ic 1 (a_b (fun a b => a - b) (a_pI 11 709 (a_ic 0 (a_is 1 k22)))))))))))
set_option maxRecDepth 100000 in
theorem X12_undo_s0 {z : CZ} {k22 : Kn} (hk22 : SK (X12_undo_x z) 22 k22) : SK (X12_undo_x z) 0 (X12_undo_b0 k22) := (s_aloadn (pc := 0) dX12_undo_0 rfl (s_gI (pc := 1) (f := 5) ko_11 (by decide) rfl rfl w_1300 dX12_undo_1 (s_ifne (pc := 4) dX12_undo_4 (by decide) (s_aloadn (pc := 10) dX12_undo_10 rfl (s_dup (pc := 11) dX12_undo_11 (s_gI (pc := 12) (f := 5) ko_11 (by decide) rfl rfl w_1300 dX12_undo_12 (s_iconst (pc := 15) dX12_undo_15 c_ic_1 (s_isub (pc := 16) dX12_undo_16 (s_pI (pc := 17) (f := 5) ko_11 (by decide) rfl rfl rfl (by decide +kernel) w_1300 dX12_undo_17 (s_iconst (pc := 20) dX12_undo_20 c_ic_0 (s_istoren (pc := 21) dX12_undo_21 rfl (show 1 < 2 by decide) hk22)))))))) (s_ldc (pc := 7) w_1471 dX12_undo_7 (s_ir (pc := 9) rfl dX12_undo_9)))))
noncomputable def X12_undo_b22 (k22 k65 : Kn) : Kn := (a_il 1 (a_ic 14 (a_lt (a_al 0 (a_gR 11 704 41 (a_ic 155 (a_ic 5 (a_il 1 (a_b (fun a b => a * b) (a_b (fun a b => a + b) (a_ic 2 (a_b (fun a b => a + b) (a_al 0 (a_gR 11 708 44 (a_ic 182 (a_al 0 (a_gI 11 709 (a_b (fun a b => a * b) (a_il 1 (a_b (fun a b => a + b) (a_ald 44 2816 (a_ast 41 2624 (fun a => a) (a_inc 1 1 k22)))))))))))))))))))) (a_ic 0 (a_is 1 k65)))))
set_option maxRecDepth 100000 in
theorem X12_undo_s22 {z : CZ} {k22 k65 : Kn} (hk22 : SK (X12_undo_x z) 22 k22) (hk65 : SK (X12_undo_x z) 65 k65) : SK (X12_undo_x z) 22 (X12_undo_b22 k22 k65) := (s_iloadn (pc := 22) dX12_undo_22 rfl (s_bipush (pc := 23) dX12_undo_23 c_bp_14 (s_cmpge (pc := 25) dX12_undo_25 (by decide) (s_iconst (pc := 63) dX12_undo_63 c_ic_0 (s_istoren (pc := 64) dX12_undo_64 rfl (show 1 < 2 by decide) hk65)) (s_aloadn (pc := 28) dX12_undo_28 rfl (s_gR (pc := 29) (f := 0) ko_11 (by decide) rfl rfl w_1295 dX12_undo_29 (s_sipush (pc := 32) dX12_undo_32 c_sp_155 (s_iconst (pc := 35) dX12_undo_35 c_ic_5 (s_iloadn (pc := 36) dX12_undo_36 rfl (s_imul (pc := 37) dX12_undo_37 (s_iadd (pc := 38) dX12_undo_38 (s_iconst (pc := 39) dX12_undo_39 c_ic_2 (s_iadd (pc := 40) dX12_undo_40 (s_aloadn (pc := 41) dX12_undo_41 rfl (s_gR (pc := 42) (f := 4) ko_11 (by decide) rfl rfl w_1299 dX12_undo_42 (s_sipush (pc := 45) dX12_undo_45 c_sp_182 (s_aloadn (pc := 48) dX12_undo_48 rfl (s_gI (pc := 49) (f := 5) ko_11 (by decide) rfl rfl w_1300 dX12_undo_49 (s_imul (pc := 52) dX12_undo_52 (s_iloadn (pc := 53) dX12_undo_53 rfl (s_iadd (pc := 54) dX12_undo_54 (s_iald (pc := 55) (by decide) (by decide) rfl rfl rfl dX12_undo_55 (s_iast (pc := 56) (by decide) (by decide) rfl rfl rfl dX12_undo_56 (s_iinc (pc := 57) dX12_undo_57 c_ic_1 (show 1 < 2 by decide) (s_goto (pc := 60) dX12_undo_60 (by decide) hk22))))))))))))))))))))))))
noncomputable def X12_undo_b65 (k65 : Kn) : Kn := (a_il 1 (a_ic 168 (a_lt (a_al 0 (a_gR 11 704 41 (a_ic 225 (a_il 1 (a_b (fun a b => a + b) (a_al 0 (a_gR 11 708 44 (a_ic 182 (a_al 0 (a_gI 11 709 (a_b (fun a b => a * b) (a_ic 14 (a_b (fun a b => a + b) (a_il 1 (a_b (fun a b => a + b) (a_ald 44 2816 (a_ast 41 2624 (fun a => a) (a_inc 1 1 k65)))))))))))))))))) (a_al 0 (a_gI 11 709 a_ir)))))
set_option maxRecDepth 100000 in
theorem X12_undo_s65 {z : CZ} {k65 : Kn} (hk65 : SK (X12_undo_x z) 65 k65) : SK (X12_undo_x z) 65 (X12_undo_b65 k65) := (s_iloadn (pc := 65) dX12_undo_65 rfl (s_sipush (pc := 66) dX12_undo_66 c_sp_168 (s_cmpge (pc := 69) dX12_undo_69 (by decide) (s_aloadn (pc := 106) dX12_undo_106 rfl (s_gI (pc := 107) (f := 5) ko_11 (by decide) rfl rfl w_1300 dX12_undo_107 (s_ir (pc := 110) rfl dX12_undo_110))) (s_aloadn (pc := 72) dX12_undo_72 rfl (s_gR (pc := 73) (f := 0) ko_11 (by decide) rfl rfl w_1295 dX12_undo_73 (s_sipush (pc := 76) dX12_undo_76 c_sp_225 (s_iloadn (pc := 79) dX12_undo_79 rfl (s_iadd (pc := 80) dX12_undo_80 (s_aloadn (pc := 81) dX12_undo_81 rfl (s_gR (pc := 82) (f := 4) ko_11 (by decide) rfl rfl w_1299 dX12_undo_82 (s_sipush (pc := 85) dX12_undo_85 c_sp_182 (s_aloadn (pc := 88) dX12_undo_88 rfl (s_gI (pc := 89) (f := 5) ko_11 (by decide) rfl rfl w_1300 dX12_undo_89 (s_imul (pc := 92) dX12_undo_92 (s_bipush (pc := 93) dX12_undo_93 c_bp_14 (s_iadd (pc := 95) dX12_undo_95 (s_iloadn (pc := 96) dX12_undo_96 rfl (s_iadd (pc := 97) dX12_undo_97 (s_iald (pc := 98) (by decide) (by decide) rfl rfl rfl dX12_undo_98 (s_iast (pc := 99) (by decide) (by decide) rfl rfl rfl dX12_undo_99 (s_iinc (pc := 100) dX12_undo_100 c_ic_1 (show 1 < 2 by decide) (s_goto (pc := 103) dX12_undo_103 (by decide) hk65))))))))))))))))))))))
noncomputable def X12_undo_u22 (g : Nat → Int32 → PH → Option Rs) : Kn := fun ls st h => gL 0 st (gT 11 ls 0 fun t => gI ls 1 fun x1 => g t x1 h)
noncomputable def X12_undo_u65 (g : Nat → Int32 → PH → Option Rs) : Kn := fun ls st h => gL 0 st (gT 11 ls 0 fun t => gI ls 1 fun x1 => g t x1 h)
noncomputable def X12_undo_f0 (g22 : Nat → Int32 → PH → Option Rs) (t : Nat) (h : PH) : Option Rs :=
  if (hI h 709 t 0) = 0 then
    some (some (.inl (-1000000002)), h)
  else
    wr (pI h 709 t 0 ((hI h 709 t 0) - 1)) fun h1 =>
    g22 t 0 h1
set_option maxRecDepth 100000 in
theorem X12_undo_l0 (g22 : Nat → Int32 → PH → Option Rs) (t : Nat) (h : PH) : X12_undo_b0 (X12_undo_u22 g22) [some (.inr (11, t + 1)), none] [] h = X12_undo_f0 g22 t h := rfl
theorem X12_undo_m0 {g22 G22 : Nat → Int32 → PH → Option Rs} (hg22 : ∀ a0 a1 a2, Mo (g22 a0 a1 a2) (G22 a0 a1 a2)) (t : Nat) (h : PH) : Mo (X12_undo_f0 g22 t h) (X12_undo_f0 G22 t h) := (mo_if mo_rf (mo_wr fun h1 => (hg22 t 0 h1)))
noncomputable def X12_undo_f22 (g22 : Nat → Int32 → PH → Option Rs) (g65 : Nat → Int32 → PH → Option Rs) (t : Nat) (x1 : Int32) (h : PH) : Option Rs :=
  if x1 < 14 then
    nn (hR h 708 t 0) fun r2 =>
    ix ((182 * (hI h 709 t 0)) + x1) (hL h 44 r2) fun j3 =>
    nn (hR h 704 t 0) fun r4 =>
    ix ((155 + (5 * x1)) + 2) (hL h 41 r4) fun j5 =>
    wr (pI h 2624 r4 j5 (hI h 2816 r2 j3)) fun h6 =>
    g22 t (x1 + 1) h6
  else
    g65 t 0 h
set_option maxRecDepth 100000 in
theorem X12_undo_l22 (g22 : Nat → Int32 → PH → Option Rs) (g65 : Nat → Int32 → PH → Option Rs) (t : Nat) (x1 : Int32) (h : PH) : X12_undo_b22 (X12_undo_u22 g22) (X12_undo_u65 g65) [some (.inr (11, t + 1)), some (.inl x1)] [] h = X12_undo_f22 g22 g65 t x1 h := rfl
theorem X12_undo_m22 {g22 G22 : Nat → Int32 → PH → Option Rs} {g65 G65 : Nat → Int32 → PH → Option Rs} (hg22 : ∀ a0 a1 a2, Mo (g22 a0 a1 a2) (G22 a0 a1 a2)) (hg65 : ∀ a0 a1 a2, Mo (g65 a0 a1 a2) (G65 a0 a1 a2)) (t : Nat) (x1 : Int32) (h : PH) : Mo (X12_undo_f22 g22 g65 t x1 h) (X12_undo_f22 G22 G65 t x1 h) := (mo_if (mo_nn fun r2 => (mo_ix fun j3 => (mo_nn fun r4 => (mo_ix fun j5 => (mo_wr fun h6 => (hg22 t (x1 + 1) h6)))))) (hg65 t 0 h))
theorem X12_undo_w22 {z : CZ} {g22 : Nat → Int32 → PH → Option Rs} {g65 : Nat → Int32 → PH → Option Rs} (hk22 : SK (X12_undo_x z) 22 (X12_undo_u22 g22)) (hk65 : SK (X12_undo_x z) 65 (X12_undo_u65 g65)) : SK (X12_undo_x z) 22 (X12_undo_u22 (X12_undo_f22 g22 g65)) := by
  intro ls st h r e
  obtain ⟨hst, e⟩ := gL_of e
  obtain ⟨t, q0, e⟩ := gT_of e
  obtain ⟨x1, q1, e⟩ := gI_of e
  rw [st_0 hst]
  exact WK.sub (canon := [some (.inr (11, t + 1)), some (.inl x1)]) rfl ⟨q0, q1, trivial⟩ (X12_undo_s22 hk22 hk65 _ _ _ _ ((X12_undo_l22 g22 g65 t x1 h).trans e))
noncomputable def X12_undo_f65 (g65 : Nat → Int32 → PH → Option Rs) (t : Nat) (x1 : Int32) (h : PH) : Option Rs :=
  if x1 < 168 then
    nn (hR h 708 t 0) fun r7 =>
    ix (((182 * (hI h 709 t 0)) + 14) + x1) (hL h 44 r7) fun j8 =>
    nn (hR h 704 t 0) fun r9 =>
    ix (225 + x1) (hL h 41 r9) fun j10 =>
    wr (pI h 2624 r9 j10 (hI h 2816 r7 j8)) fun h11 =>
    g65 t (x1 + 1) h11
  else
    some (some (.inl (hI h 709 t 0)), h)
set_option maxRecDepth 100000 in
theorem X12_undo_l65 (g65 : Nat → Int32 → PH → Option Rs) (t : Nat) (x1 : Int32) (h : PH) : X12_undo_b65 (X12_undo_u65 g65) [some (.inr (11, t + 1)), some (.inl x1)] [] h = X12_undo_f65 g65 t x1 h := rfl
theorem X12_undo_m65 {g65 G65 : Nat → Int32 → PH → Option Rs} (hg65 : ∀ a0 a1 a2, Mo (g65 a0 a1 a2) (G65 a0 a1 a2)) (t : Nat) (x1 : Int32) (h : PH) : Mo (X12_undo_f65 g65 t x1 h) (X12_undo_f65 G65 t x1 h) := (mo_if (mo_nn fun r7 => (mo_ix fun j8 => (mo_nn fun r9 => (mo_ix fun j10 => (mo_wr fun h11 => (hg65 t (x1 + 1) h11)))))) mo_rf)
theorem X12_undo_w65 {z : CZ} {g65 : Nat → Int32 → PH → Option Rs} (hk65 : SK (X12_undo_x z) 65 (X12_undo_u65 g65)) : SK (X12_undo_x z) 65 (X12_undo_u65 (X12_undo_f65 g65)) := by
  intro ls st h r e
  obtain ⟨hst, e⟩ := gL_of e
  obtain ⟨t, q0, e⟩ := gT_of e
  obtain ⟨x1, q1, e⟩ := gI_of e
  rw [st_0 hst]
  exact WK.sub (canon := [some (.inr (11, t + 1)), some (.inl x1)]) rfl ⟨q0, q1, trivial⟩ (X12_undo_s65 hk65 _ _ _ _ ((X12_undo_l65 g65 t x1 h).trans e))
noncomputable def X12_undo_g0 (G : (Nat → Int32 → PH → Option Rs) × (Nat → Int32 → PH → Option Rs)) (t : Nat) (h : PH) : Option Rs := X12_undo_f0 (G).1 t h
noncomputable def X12_undo_g22 (G : (Nat → Int32 → PH → Option Rs) × (Nat → Int32 → PH → Option Rs)) (t : Nat) (x1 : Int32) (h : PH) : Option Rs := X12_undo_f22 (G).1 (G).2 t x1 h
noncomputable def X12_undo_g65 (G : (Nat → Int32 → PH → Option Rs) × (Nat → Int32 → PH → Option Rs)) (t : Nat) (x1 : Int32) (h : PH) : Option Rs := X12_undo_f65 (G).2 t x1 h
theorem X12_undo_v22 {z : CZ} {G : (Nat → Int32 → PH → Option Rs) × (Nat → Int32 → PH → Option Rs)} (hG22 : SK (X12_undo_x z) 22 (X12_undo_u22 (G).1)) (hG65 : SK (X12_undo_x z) 65 (X12_undo_u65 (G).2)) : SK (X12_undo_x z) 22 (X12_undo_u22 (X12_undo_g22 G)) := X12_undo_w22 hG22 hG65
theorem X12_undo_v65 {z : CZ} {G : (Nat → Int32 → PH → Option Rs) × (Nat → Int32 → PH → Option Rs)} (hG22 : SK (X12_undo_x z) 22 (X12_undo_u22 (G).1)) (hG65 : SK (X12_undo_x z) 65 (X12_undo_u65 (G).2)) : SK (X12_undo_x z) 65 (X12_undo_u65 (X12_undo_g65 G)) := X12_undo_w65 hG65
noncomputable def X12_undo_fam : Nat → (Nat → Int32 → PH → Option Rs) × (Nat → Int32 → PH → Option Rs)
  | 0 => (fun _ _ _ => none, fun _ _ _ => none)
  | n + 1 => (X12_undo_g22 (X12_undo_fam n), X12_undo_g65 (X12_undo_fam n))
theorem X12_undo_k {z : CZ} : ∀ n, SK (X12_undo_x z) 22 (X12_undo_u22 (X12_undo_fam n).1) ∧ SK (X12_undo_x z) 65 (X12_undo_u65 (X12_undo_fam n).2)
  | 0 => ⟨(fun ls st h r e => by
      obtain ⟨_, e⟩ := gL_of e
      obtain ⟨_, _, e⟩ := gT_of e
      obtain ⟨_, _, e⟩ := gI_of e
      cases e), (fun ls st h r e => by
      obtain ⟨_, e⟩ := gL_of e
      obtain ⟨_, _, e⟩ := gT_of e
      obtain ⟨_, _, e⟩ := gI_of e
      cases e)⟩
  | n + 1 => by
    obtain ⟨ih22, ih65⟩ := X12_undo_k n
    exact ⟨X12_undo_v22 ih22 ih65, X12_undo_v65 ih22 ih65⟩
theorem X12_undo_n0 {G G' : (Nat → Int32 → PH → Option Rs) × (Nat → Int32 → PH → Option Rs)} (hg22 : ∀ a0 a1 a2, Mo ((G).1 a0 a1 a2) ((G').1 a0 a1 a2)) (hg65 : ∀ a0 a1 a2, Mo ((G).2 a0 a1 a2) ((G').2 a0 a1 a2)) (t : Nat) (h : PH) : Mo (X12_undo_g0 G t h) (X12_undo_g0 G' t h) := X12_undo_m0 hg22 t h
theorem X12_undo_n22 {G G' : (Nat → Int32 → PH → Option Rs) × (Nat → Int32 → PH → Option Rs)} (hg22 : ∀ a0 a1 a2, Mo ((G).1 a0 a1 a2) ((G').1 a0 a1 a2)) (hg65 : ∀ a0 a1 a2, Mo ((G).2 a0 a1 a2) ((G').2 a0 a1 a2)) (t : Nat) (x1 : Int32) (h : PH) : Mo (X12_undo_g22 G t x1 h) (X12_undo_g22 G' t x1 h) := X12_undo_m22 hg22 hg65 t x1 h
theorem X12_undo_n65 {G G' : (Nat → Int32 → PH → Option Rs) × (Nat → Int32 → PH → Option Rs)} (hg22 : ∀ a0 a1 a2, Mo ((G).1 a0 a1 a2) ((G').1 a0 a1 a2)) (hg65 : ∀ a0 a1 a2, Mo ((G).2 a0 a1 a2) ((G').2 a0 a1 a2)) (t : Nat) (x1 : Int32) (h : PH) : Mo (X12_undo_g65 G t x1 h) (X12_undo_g65 G' t x1 h) := X12_undo_m65 hg65 t x1 h
theorem X12_undo_fm : ∀ n, (∀ a0 a1 a2, Mo ((X12_undo_fam n).1 a0 a1 a2) ((X12_undo_fam (n + 1)).1 a0 a1 a2)) ∧ (∀ a0 a1 a2, Mo ((X12_undo_fam n).2 a0 a1 a2) ((X12_undo_fam (n + 1)).2 a0 a1 a2))
  | 0 => ⟨fun _ _ _ => mo_no, fun _ _ _ => mo_no⟩
  | n + 1 => by
    obtain ⟨ih22, ih65⟩ := X12_undo_fm n
    exact ⟨fun a0 a1 a2 => X12_undo_n22 ih22 ih65 a0 a1 a2, fun a0 a1 a2 => X12_undo_n65 ih22 ih65 a0 a1 a2⟩
noncomputable def X12_undo (t : Nat) (h : PH) : Option Rs := lim (fun n => X12_undo_g0 (X12_undo_fam n) t h)
theorem X12_undo_iff {t : Nat} {h : PH} {r : Rs} : X12_undo t h = some r ↔ ∃ n, X12_undo_g0 (X12_undo_fam n) t h = some r := lim_iff (fun n => by
  obtain ⟨ih22, ih65⟩ := X12_undo_fm n
  exact X12_undo_n0 ih22 ih65 t h)
noncomputable abbrev X12_undo_F : List PV → PH → Option Rs := FW_T11 (X12_undo)
set_option maxRecDepth 100000 in
theorem X12_undo_gd (l : Launch) : Gd l 0 yX12_undo cX12_undo 2 (some .int) (X12_undo_F)   := Gd_of (by decide +kernel) (fun z hzl as h r e => by
  obtain ⟨hst, e⟩ := gL_of e
  obtain ⟨t, q0, e⟩ := gT_of e
  rw [st_1 hst q0]
  obtain ⟨n, e⟩ := lim_of e
  obtain ⟨hG22, hG65⟩ := X12_undo_k (z := z) n
  exact ⟨show 1 ≤ 2 by decide, X12_undo_s0 hG22 _ _ _ _ ((X12_undo_l0 (X12_undo_fam n).1 t h).trans e)⟩)
abbrev X12_saves_x (z : CZ) : CX := mx RX12 cX12_saves 2 0 none "saves" z
noncomputable def X12_saves_b0 (k11 k50 : Kn) : Kn := (a_al 0 (a_gI 11 709 (a_ic 16 (a_eq (a_ic 0 (a_is 1 k11)) k50))))
set_option maxRecDepth 100000 in
theorem X12_saves_s0 {z : CZ} {k11 k50 : Kn} (hk11 : SK (X12_saves_x z) 11 k11) (hk50 : SK (X12_saves_x z) 50 k50) : SK (X12_saves_x z) 0 (X12_saves_b0 k11 k50) := (s_aloadn (pc := 0) dX12_saves_0 rfl (s_gI (pc := 1) (f := 5) ko_11 (by decide) rfl rfl w_1300 dX12_saves_1 (s_bipush (pc := 4) dX12_saves_4 c_bp_16 (s_cmpne (pc := 6) dX12_saves_6 (by decide) hk50 (s_iconst (pc := 9) dX12_saves_9 c_ic_0 (s_istoren (pc := 10) dX12_saves_10 rfl (show 1 < 2 by decide) hk11))))))
noncomputable def X12_saves_b11 (k11 k50 : Kn) : Kn := (a_il 1 (a_ic 2730 (a_lt (a_al 0 (a_gR 11 708 44 (a_il 1 (a_al 0 (a_gR 11 708 44 (a_il 1 (a_ic 182 (a_b (fun a b => a + b) (a_ald 44 2816 (a_ast 44 2816 (fun a => a) (a_inc 1 1 k11))))))))))) (a_al 0 (a_dup (a_gI 11 709 (a_ic 1 (a_b (fun a b => a - b) (a_pI 11 709 k50)))))))))
set_option maxRecDepth 100000 in
theorem X12_saves_s11 {z : CZ} {k11 k50 : Kn} (hk11 : SK (X12_saves_x z) 11 k11) (hk50 : SK (X12_saves_x z) 50 k50) : SK (X12_saves_x z) 11 (X12_saves_b11 k11 k50) := (s_iloadn (pc := 11) dX12_saves_11 rfl (s_sipush (pc := 12) dX12_saves_12 c_sp_2730 (s_cmpge (pc := 15) dX12_saves_15 (by decide) (s_aloadn (pc := 40) dX12_saves_40 rfl (s_dup (pc := 41) dX12_saves_41 (s_gI (pc := 42) (f := 5) ko_11 (by decide) rfl rfl w_1300 dX12_saves_42 (s_iconst (pc := 45) dX12_saves_45 c_ic_1 (s_isub (pc := 46) dX12_saves_46 (s_pI (pc := 47) (f := 5) ko_11 (by decide) rfl rfl rfl (by decide +kernel) w_1300 dX12_saves_47 hk50)))))) (s_aloadn (pc := 18) dX12_saves_18 rfl (s_gR (pc := 19) (f := 4) ko_11 (by decide) rfl rfl w_1299 dX12_saves_19 (s_iloadn (pc := 22) dX12_saves_22 rfl (s_aloadn (pc := 23) dX12_saves_23 rfl (s_gR (pc := 24) (f := 4) ko_11 (by decide) rfl rfl w_1299 dX12_saves_24 (s_iloadn (pc := 27) dX12_saves_27 rfl (s_sipush (pc := 28) dX12_saves_28 c_sp_182 (s_iadd (pc := 31) dX12_saves_31 (s_iald (pc := 32) (by decide) (by decide) rfl rfl rfl dX12_saves_32 (s_iast (pc := 33) (by decide) (by decide) rfl rfl rfl dX12_saves_33 (s_iinc (pc := 34) dX12_saves_34 c_ic_1 (show 1 < 2 by decide) (s_goto (pc := 37) dX12_saves_37 (by decide) hk11)))))))))))))))
noncomputable def X12_saves_b50 (k52 : Kn) : Kn := (a_ic 0 (a_is 1 k52))
set_option maxRecDepth 100000 in
theorem X12_saves_s50 {z : CZ} {k52 : Kn} (hk52 : SK (X12_saves_x z) 52 k52) : SK (X12_saves_x z) 50 (X12_saves_b50 k52) := (s_iconst (pc := 50) dX12_saves_50 c_ic_0 (s_istoren (pc := 51) dX12_saves_51 rfl (show 1 < 2 by decide) hk52))
noncomputable def X12_saves_b52 (k52 k95 : Kn) : Kn := (a_il 1 (a_ic 14 (a_lt (a_al 0 (a_gR 11 708 44 (a_ic 182 (a_al 0 (a_gI 11 709 (a_b (fun a b => a * b) (a_il 1 (a_b (fun a b => a + b) (a_al 0 (a_gR 11 704 41 (a_ic 155 (a_ic 5 (a_il 1 (a_b (fun a b => a * b) (a_b (fun a b => a + b) (a_ic 2 (a_b (fun a b => a + b) (a_ald 41 2624 (a_ast 44 2816 (fun a => a) (a_inc 1 1 k52)))))))))))))))))))) (a_ic 0 (a_is 1 k95)))))
set_option maxRecDepth 100000 in
theorem X12_saves_s52 {z : CZ} {k52 k95 : Kn} (hk52 : SK (X12_saves_x z) 52 k52) (hk95 : SK (X12_saves_x z) 95 k95) : SK (X12_saves_x z) 52 (X12_saves_b52 k52 k95) := (s_iloadn (pc := 52) dX12_saves_52 rfl (s_bipush (pc := 53) dX12_saves_53 c_bp_14 (s_cmpge (pc := 55) dX12_saves_55 (by decide) (s_iconst (pc := 93) dX12_saves_93 c_ic_0 (s_istoren (pc := 94) dX12_saves_94 rfl (show 1 < 2 by decide) hk95)) (s_aloadn (pc := 58) dX12_saves_58 rfl (s_gR (pc := 59) (f := 4) ko_11 (by decide) rfl rfl w_1299 dX12_saves_59 (s_sipush (pc := 62) dX12_saves_62 c_sp_182 (s_aloadn (pc := 65) dX12_saves_65 rfl (s_gI (pc := 66) (f := 5) ko_11 (by decide) rfl rfl w_1300 dX12_saves_66 (s_imul (pc := 69) dX12_saves_69 (s_iloadn (pc := 70) dX12_saves_70 rfl (s_iadd (pc := 71) dX12_saves_71 (s_aloadn (pc := 72) dX12_saves_72 rfl (s_gR (pc := 73) (f := 0) ko_11 (by decide) rfl rfl w_1295 dX12_saves_73 (s_sipush (pc := 76) dX12_saves_76 c_sp_155 (s_iconst (pc := 79) dX12_saves_79 c_ic_5 (s_iloadn (pc := 80) dX12_saves_80 rfl (s_imul (pc := 81) dX12_saves_81 (s_iadd (pc := 82) dX12_saves_82 (s_iconst (pc := 83) dX12_saves_83 c_ic_2 (s_iadd (pc := 84) dX12_saves_84 (s_iald (pc := 85) (by decide) (by decide) rfl rfl rfl dX12_saves_85 (s_iast (pc := 86) (by decide) (by decide) rfl rfl rfl dX12_saves_86 (s_iinc (pc := 87) dX12_saves_87 c_ic_1 (show 1 < 2 by decide) (s_goto (pc := 90) dX12_saves_90 (by decide) hk52))))))))))))))))))))))))
noncomputable def X12_saves_b95 (k95 : Kn) : Kn := (a_il 1 (a_ic 168 (a_lt (a_al 0 (a_gR 11 708 44 (a_ic 182 (a_al 0 (a_gI 11 709 (a_b (fun a b => a * b) (a_ic 14 (a_b (fun a b => a + b) (a_il 1 (a_b (fun a b => a + b) (a_al 0 (a_gR 11 704 41 (a_ic 225 (a_il 1 (a_b (fun a b => a + b) (a_ald 41 2624 (a_ast 44 2816 (fun a => a) (a_inc 1 1 k95)))))))))))))))))) (a_al 0 (a_dup (a_gI 11 709 (a_ic 1 (a_b (fun a b => a + b) (a_pI 11 709 a_vr)))))))))
set_option maxRecDepth 100000 in
theorem X12_saves_s95 {z : CZ} {k95 : Kn} (hk95 : SK (X12_saves_x z) 95 k95) : SK (X12_saves_x z) 95 (X12_saves_b95 k95) := (s_iloadn (pc := 95) dX12_saves_95 rfl (s_sipush (pc := 96) dX12_saves_96 c_sp_168 (s_cmpge (pc := 99) dX12_saves_99 (by decide) (s_aloadn (pc := 136) dX12_saves_136 rfl (s_dup (pc := 137) dX12_saves_137 (s_gI (pc := 138) (f := 5) ko_11 (by decide) rfl rfl w_1300 dX12_saves_138 (s_iconst (pc := 141) dX12_saves_141 c_ic_1 (s_iadd (pc := 142) dX12_saves_142 (s_pI (pc := 143) (f := 5) ko_11 (by decide) rfl rfl rfl (by decide +kernel) w_1300 dX12_saves_143 (s_vr (pc := 146) rfl dX12_saves_146))))))) (s_aloadn (pc := 102) dX12_saves_102 rfl (s_gR (pc := 103) (f := 4) ko_11 (by decide) rfl rfl w_1299 dX12_saves_103 (s_sipush (pc := 106) dX12_saves_106 c_sp_182 (s_aloadn (pc := 109) dX12_saves_109 rfl (s_gI (pc := 110) (f := 5) ko_11 (by decide) rfl rfl w_1300 dX12_saves_110 (s_imul (pc := 113) dX12_saves_113 (s_bipush (pc := 114) dX12_saves_114 c_bp_14 (s_iadd (pc := 116) dX12_saves_116 (s_iloadn (pc := 117) dX12_saves_117 rfl (s_iadd (pc := 118) dX12_saves_118 (s_aloadn (pc := 119) dX12_saves_119 rfl (s_gR (pc := 120) (f := 0) ko_11 (by decide) rfl rfl w_1295 dX12_saves_120 (s_sipush (pc := 123) dX12_saves_123 c_sp_225 (s_iloadn (pc := 126) dX12_saves_126 rfl (s_iadd (pc := 127) dX12_saves_127 (s_iald (pc := 128) (by decide) (by decide) rfl rfl rfl dX12_saves_128 (s_iast (pc := 129) (by decide) (by decide) rfl rfl rfl dX12_saves_129 (s_iinc (pc := 130) dX12_saves_130 c_ic_1 (show 1 < 2 by decide) (s_goto (pc := 133) dX12_saves_133 (by decide) hk95))))))))))))))))))))))
noncomputable def X12_saves_u11 (g : Nat → Int32 → PH → Option Rs) : Kn := fun ls st h => gL 0 st (gT 11 ls 0 fun t => gI ls 1 fun x1 => g t x1 h)
noncomputable def X12_saves_u50 (g : Nat → PH → Option Rs) : Kn := fun ls st h => gL 0 st (gT 11 ls 0 fun t => g t h)
noncomputable def X12_saves_u52 (g : Nat → Int32 → PH → Option Rs) : Kn := fun ls st h => gL 0 st (gT 11 ls 0 fun t => gI ls 1 fun x1 => g t x1 h)
noncomputable def X12_saves_u95 (g : Nat → Int32 → PH → Option Rs) : Kn := fun ls st h => gL 0 st (gT 11 ls 0 fun t => gI ls 1 fun x1 => g t x1 h)
noncomputable def X12_saves_f0 (g11 : Nat → Int32 → PH → Option Rs) (g50 : Nat → PH → Option Rs) (t : Nat) (h : PH) : Option Rs :=
  if (hI h 709 t 0) = 16 then
    g11 t 0 h
  else
    g50 t h
set_option maxRecDepth 100000 in
theorem X12_saves_l0 (g11 : Nat → Int32 → PH → Option Rs) (g50 : Nat → PH → Option Rs) (t : Nat) (h : PH) : X12_saves_b0 (X12_saves_u11 g11) (X12_saves_u50 g50) [some (.inr (11, t + 1)), none] [] h = X12_saves_f0 g11 g50 t h := rfl
theorem X12_saves_m0 {g11 G11 : Nat → Int32 → PH → Option Rs} {g50 G50 : Nat → PH → Option Rs} (hg11 : ∀ a0 a1 a2, Mo (g11 a0 a1 a2) (G11 a0 a1 a2)) (hg50 : ∀ a0 a1, Mo (g50 a0 a1) (G50 a0 a1)) (t : Nat) (h : PH) : Mo (X12_saves_f0 g11 g50 t h) (X12_saves_f0 G11 G50 t h) := (mo_if (hg11 t 0 h) (hg50 t h))
noncomputable def X12_saves_f11 (g11 : Nat → Int32 → PH → Option Rs) (g50 : Nat → PH → Option Rs) (t : Nat) (x1 : Int32) (h : PH) : Option Rs :=
  if x1 < 2730 then
    nn (hR h 708 t 0) fun r2 =>
    ix (x1 + 182) (hL h 44 r2) fun j3 =>
    nn (hR h 708 t 0) fun r4 =>
    ix x1 (hL h 44 r4) fun j5 =>
    wr (pI h 2816 r4 j5 (hI h 2816 r2 j3)) fun h6 =>
    g11 t (x1 + 1) h6
  else
    wr (pI h 709 t 0 ((hI h 709 t 0) - 1)) fun h1 =>
    g50 t h1
set_option maxRecDepth 100000 in
theorem X12_saves_l11 (g11 : Nat → Int32 → PH → Option Rs) (g50 : Nat → PH → Option Rs) (t : Nat) (x1 : Int32) (h : PH) : X12_saves_b11 (X12_saves_u11 g11) (X12_saves_u50 g50) [some (.inr (11, t + 1)), some (.inl x1)] [] h = X12_saves_f11 g11 g50 t x1 h := rfl
theorem X12_saves_m11 {g11 G11 : Nat → Int32 → PH → Option Rs} {g50 G50 : Nat → PH → Option Rs} (hg11 : ∀ a0 a1 a2, Mo (g11 a0 a1 a2) (G11 a0 a1 a2)) (hg50 : ∀ a0 a1, Mo (g50 a0 a1) (G50 a0 a1)) (t : Nat) (x1 : Int32) (h : PH) : Mo (X12_saves_f11 g11 g50 t x1 h) (X12_saves_f11 G11 G50 t x1 h) := (mo_if (mo_nn fun r2 => (mo_ix fun j3 => (mo_nn fun r4 => (mo_ix fun j5 => (mo_wr fun h6 => (hg11 t (x1 + 1) h6)))))) (mo_wr fun h1 => (hg50 t h1)))
theorem X12_saves_w11 {z : CZ} {g11 : Nat → Int32 → PH → Option Rs} {g50 : Nat → PH → Option Rs} (hk11 : SK (X12_saves_x z) 11 (X12_saves_u11 g11)) (hk50 : SK (X12_saves_x z) 50 (X12_saves_u50 g50)) : SK (X12_saves_x z) 11 (X12_saves_u11 (X12_saves_f11 g11 g50)) := by
  intro ls st h r e
  obtain ⟨hst, e⟩ := gL_of e
  obtain ⟨t, q0, e⟩ := gT_of e
  obtain ⟨x1, q1, e⟩ := gI_of e
  rw [st_0 hst]
  exact WK.sub (canon := [some (.inr (11, t + 1)), some (.inl x1)]) rfl ⟨q0, q1, trivial⟩ (X12_saves_s11 hk11 hk50 _ _ _ _ ((X12_saves_l11 g11 g50 t x1 h).trans e))
noncomputable def X12_saves_f50 (g52 : Nat → Int32 → PH → Option Rs) (t : Nat) (h : PH) : Option Rs :=
  g52 t 0 h
set_option maxRecDepth 100000 in
theorem X12_saves_l50 (g52 : Nat → Int32 → PH → Option Rs) (t : Nat) (h : PH) : X12_saves_b50 (X12_saves_u52 g52) [some (.inr (11, t + 1)), none] [] h = X12_saves_f50 g52 t h := rfl
theorem X12_saves_m50 {g52 G52 : Nat → Int32 → PH → Option Rs} (hg52 : ∀ a0 a1 a2, Mo (g52 a0 a1 a2) (G52 a0 a1 a2)) (t : Nat) (h : PH) : Mo (X12_saves_f50 g52 t h) (X12_saves_f50 G52 t h) := (hg52 t 0 h)
theorem X12_saves_w50 {z : CZ} {g52 : Nat → Int32 → PH → Option Rs} (hk52 : SK (X12_saves_x z) 52 (X12_saves_u52 g52)) : SK (X12_saves_x z) 50 (X12_saves_u50 (X12_saves_f50 g52)) := by
  intro ls st h r e
  obtain ⟨hst, e⟩ := gL_of e
  obtain ⟨t, q0, e⟩ := gT_of e
  rw [st_0 hst]
  exact WK.sub (canon := [some (.inr (11, t + 1)), none]) rfl ⟨q0, trivial⟩ (X12_saves_s50 hk52 _ _ _ _ ((X12_saves_l50 g52 t h).trans e))
noncomputable def X12_saves_f52 (g52 : Nat → Int32 → PH → Option Rs) (g95 : Nat → Int32 → PH → Option Rs) (t : Nat) (x1 : Int32) (h : PH) : Option Rs :=
  if x1 < 14 then
    nn (hR h 704 t 0) fun r7 =>
    ix ((155 + (5 * x1)) + 2) (hL h 41 r7) fun j8 =>
    nn (hR h 708 t 0) fun r9 =>
    ix ((182 * (hI h 709 t 0)) + x1) (hL h 44 r9) fun j10 =>
    wr (pI h 2816 r9 j10 (hI h 2624 r7 j8)) fun h11 =>
    g52 t (x1 + 1) h11
  else
    g95 t 0 h
set_option maxRecDepth 100000 in
theorem X12_saves_l52 (g52 : Nat → Int32 → PH → Option Rs) (g95 : Nat → Int32 → PH → Option Rs) (t : Nat) (x1 : Int32) (h : PH) : X12_saves_b52 (X12_saves_u52 g52) (X12_saves_u95 g95) [some (.inr (11, t + 1)), some (.inl x1)] [] h = X12_saves_f52 g52 g95 t x1 h := rfl
theorem X12_saves_m52 {g52 G52 : Nat → Int32 → PH → Option Rs} {g95 G95 : Nat → Int32 → PH → Option Rs} (hg52 : ∀ a0 a1 a2, Mo (g52 a0 a1 a2) (G52 a0 a1 a2)) (hg95 : ∀ a0 a1 a2, Mo (g95 a0 a1 a2) (G95 a0 a1 a2)) (t : Nat) (x1 : Int32) (h : PH) : Mo (X12_saves_f52 g52 g95 t x1 h) (X12_saves_f52 G52 G95 t x1 h) := (mo_if (mo_nn fun r7 => (mo_ix fun j8 => (mo_nn fun r9 => (mo_ix fun j10 => (mo_wr fun h11 => (hg52 t (x1 + 1) h11)))))) (hg95 t 0 h))
theorem X12_saves_w52 {z : CZ} {g52 : Nat → Int32 → PH → Option Rs} {g95 : Nat → Int32 → PH → Option Rs} (hk52 : SK (X12_saves_x z) 52 (X12_saves_u52 g52)) (hk95 : SK (X12_saves_x z) 95 (X12_saves_u95 g95)) : SK (X12_saves_x z) 52 (X12_saves_u52 (X12_saves_f52 g52 g95)) := by
  intro ls st h r e
  obtain ⟨hst, e⟩ := gL_of e
  obtain ⟨t, q0, e⟩ := gT_of e
  obtain ⟨x1, q1, e⟩ := gI_of e
  rw [st_0 hst]
  exact WK.sub (canon := [some (.inr (11, t + 1)), some (.inl x1)]) rfl ⟨q0, q1, trivial⟩ (X12_saves_s52 hk52 hk95 _ _ _ _ ((X12_saves_l52 g52 g95 t x1 h).trans e))
noncomputable def X12_saves_f95 (g95 : Nat → Int32 → PH → Option Rs) (t : Nat) (x1 : Int32) (h : PH) : Option Rs :=
  if x1 < 168 then
    nn (hR h 704 t 0) fun r13 =>
    ix (225 + x1) (hL h 41 r13) fun j14 =>
    nn (hR h 708 t 0) fun r15 =>
    ix (((182 * (hI h 709 t 0)) + 14) + x1) (hL h 44 r15) fun j16 =>
    wr (pI h 2816 r15 j16 (hI h 2624 r13 j14)) fun h17 =>
    g95 t (x1 + 1) h17
  else
    wr (pI h 709 t 0 ((hI h 709 t 0) + 1)) fun h12 =>
    some (none, h12)
set_option maxRecDepth 100000 in
theorem X12_saves_l95 (g95 : Nat → Int32 → PH → Option Rs) (t : Nat) (x1 : Int32) (h : PH) : X12_saves_b95 (X12_saves_u95 g95) [some (.inr (11, t + 1)), some (.inl x1)] [] h = X12_saves_f95 g95 t x1 h := rfl
theorem X12_saves_m95 {g95 G95 : Nat → Int32 → PH → Option Rs} (hg95 : ∀ a0 a1 a2, Mo (g95 a0 a1 a2) (G95 a0 a1 a2)) (t : Nat) (x1 : Int32) (h : PH) : Mo (X12_saves_f95 g95 t x1 h) (X12_saves_f95 G95 t x1 h) := (mo_if (mo_nn fun r13 => (mo_ix fun j14 => (mo_nn fun r15 => (mo_ix fun j16 => (mo_wr fun h17 => (hg95 t (x1 + 1) h17)))))) (mo_wr fun h12 => mo_rf))
theorem X12_saves_w95 {z : CZ} {g95 : Nat → Int32 → PH → Option Rs} (hk95 : SK (X12_saves_x z) 95 (X12_saves_u95 g95)) : SK (X12_saves_x z) 95 (X12_saves_u95 (X12_saves_f95 g95)) := by
  intro ls st h r e
  obtain ⟨hst, e⟩ := gL_of e
  obtain ⟨t, q0, e⟩ := gT_of e
  obtain ⟨x1, q1, e⟩ := gI_of e
  rw [st_0 hst]
  exact WK.sub (canon := [some (.inr (11, t + 1)), some (.inl x1)]) rfl ⟨q0, q1, trivial⟩ (X12_saves_s95 hk95 _ _ _ _ ((X12_saves_l95 g95 t x1 h).trans e))
noncomputable def X12_saves_g50 (G : (Nat → Int32 → PH → Option Rs) × (Nat → Int32 → PH → Option Rs) × (Nat → Int32 → PH → Option Rs)) (t : Nat) (h : PH) : Option Rs := X12_saves_f50 (G).2.1 t h
noncomputable def X12_saves_g0 (G : (Nat → Int32 → PH → Option Rs) × (Nat → Int32 → PH → Option Rs) × (Nat → Int32 → PH → Option Rs)) (t : Nat) (h : PH) : Option Rs := X12_saves_f0 (G).1 (X12_saves_g50 G) t h
noncomputable def X12_saves_g11 (G : (Nat → Int32 → PH → Option Rs) × (Nat → Int32 → PH → Option Rs) × (Nat → Int32 → PH → Option Rs)) (t : Nat) (x1 : Int32) (h : PH) : Option Rs := X12_saves_f11 (G).1 (X12_saves_g50 G) t x1 h
noncomputable def X12_saves_g52 (G : (Nat → Int32 → PH → Option Rs) × (Nat → Int32 → PH → Option Rs) × (Nat → Int32 → PH → Option Rs)) (t : Nat) (x1 : Int32) (h : PH) : Option Rs := X12_saves_f52 (G).2.1 (G).2.2 t x1 h
noncomputable def X12_saves_g95 (G : (Nat → Int32 → PH → Option Rs) × (Nat → Int32 → PH → Option Rs) × (Nat → Int32 → PH → Option Rs)) (t : Nat) (x1 : Int32) (h : PH) : Option Rs := X12_saves_f95 (G).2.2 t x1 h
theorem X12_saves_v50 {z : CZ} {G : (Nat → Int32 → PH → Option Rs) × (Nat → Int32 → PH → Option Rs) × (Nat → Int32 → PH → Option Rs)} (hG11 : SK (X12_saves_x z) 11 (X12_saves_u11 (G).1)) (hG52 : SK (X12_saves_x z) 52 (X12_saves_u52 (G).2.1)) (hG95 : SK (X12_saves_x z) 95 (X12_saves_u95 (G).2.2)) : SK (X12_saves_x z) 50 (X12_saves_u50 (X12_saves_g50 G)) := X12_saves_w50 hG52
theorem X12_saves_v11 {z : CZ} {G : (Nat → Int32 → PH → Option Rs) × (Nat → Int32 → PH → Option Rs) × (Nat → Int32 → PH → Option Rs)} (hG11 : SK (X12_saves_x z) 11 (X12_saves_u11 (G).1)) (hG52 : SK (X12_saves_x z) 52 (X12_saves_u52 (G).2.1)) (hG95 : SK (X12_saves_x z) 95 (X12_saves_u95 (G).2.2)) : SK (X12_saves_x z) 11 (X12_saves_u11 (X12_saves_g11 G)) := X12_saves_w11 hG11 (X12_saves_v50 hG11 hG52 hG95)
theorem X12_saves_v52 {z : CZ} {G : (Nat → Int32 → PH → Option Rs) × (Nat → Int32 → PH → Option Rs) × (Nat → Int32 → PH → Option Rs)} (hG11 : SK (X12_saves_x z) 11 (X12_saves_u11 (G).1)) (hG52 : SK (X12_saves_x z) 52 (X12_saves_u52 (G).2.1)) (hG95 : SK (X12_saves_x z) 95 (X12_saves_u95 (G).2.2)) : SK (X12_saves_x z) 52 (X12_saves_u52 (X12_saves_g52 G)) := X12_saves_w52 hG52 hG95
theorem X12_saves_v95 {z : CZ} {G : (Nat → Int32 → PH → Option Rs) × (Nat → Int32 → PH → Option Rs) × (Nat → Int32 → PH → Option Rs)} (hG11 : SK (X12_saves_x z) 11 (X12_saves_u11 (G).1)) (hG52 : SK (X12_saves_x z) 52 (X12_saves_u52 (G).2.1)) (hG95 : SK (X12_saves_x z) 95 (X12_saves_u95 (G).2.2)) : SK (X12_saves_x z) 95 (X12_saves_u95 (X12_saves_g95 G)) := X12_saves_w95 hG95
noncomputable def X12_saves_fam : Nat → (Nat → Int32 → PH → Option Rs) × (Nat → Int32 → PH → Option Rs) × (Nat → Int32 → PH → Option Rs)
  | 0 => (fun _ _ _ => none, fun _ _ _ => none, fun _ _ _ => none)
  | n + 1 => (X12_saves_g11 (X12_saves_fam n), X12_saves_g52 (X12_saves_fam n), X12_saves_g95 (X12_saves_fam n))
theorem X12_saves_k {z : CZ} : ∀ n, SK (X12_saves_x z) 11 (X12_saves_u11 (X12_saves_fam n).1) ∧ SK (X12_saves_x z) 52 (X12_saves_u52 (X12_saves_fam n).2.1) ∧ SK (X12_saves_x z) 95 (X12_saves_u95 (X12_saves_fam n).2.2)
  | 0 => ⟨(fun ls st h r e => by
      obtain ⟨_, e⟩ := gL_of e
      obtain ⟨_, _, e⟩ := gT_of e
      obtain ⟨_, _, e⟩ := gI_of e
      cases e), (fun ls st h r e => by
      obtain ⟨_, e⟩ := gL_of e
      obtain ⟨_, _, e⟩ := gT_of e
      obtain ⟨_, _, e⟩ := gI_of e
      cases e), (fun ls st h r e => by
      obtain ⟨_, e⟩ := gL_of e
      obtain ⟨_, _, e⟩ := gT_of e
      obtain ⟨_, _, e⟩ := gI_of e
      cases e)⟩
  | n + 1 => by
    obtain ⟨ih11, ih52, ih95⟩ := X12_saves_k n
    exact ⟨X12_saves_v11 ih11 ih52 ih95, X12_saves_v52 ih11 ih52 ih95, X12_saves_v95 ih11 ih52 ih95⟩
theorem X12_saves_n50 {G G' : (Nat → Int32 → PH → Option Rs) × (Nat → Int32 → PH → Option Rs) × (Nat → Int32 → PH → Option Rs)} (hg11 : ∀ a0 a1 a2, Mo ((G).1 a0 a1 a2) ((G').1 a0 a1 a2)) (hg52 : ∀ a0 a1 a2, Mo ((G).2.1 a0 a1 a2) ((G').2.1 a0 a1 a2)) (hg95 : ∀ a0 a1 a2, Mo ((G).2.2 a0 a1 a2) ((G').2.2 a0 a1 a2)) (t : Nat) (h : PH) : Mo (X12_saves_g50 G t h) (X12_saves_g50 G' t h) := X12_saves_m50 hg52 t h
theorem X12_saves_n0 {G G' : (Nat → Int32 → PH → Option Rs) × (Nat → Int32 → PH → Option Rs) × (Nat → Int32 → PH → Option Rs)} (hg11 : ∀ a0 a1 a2, Mo ((G).1 a0 a1 a2) ((G').1 a0 a1 a2)) (hg52 : ∀ a0 a1 a2, Mo ((G).2.1 a0 a1 a2) ((G').2.1 a0 a1 a2)) (hg95 : ∀ a0 a1 a2, Mo ((G).2.2 a0 a1 a2) ((G').2.2 a0 a1 a2)) (t : Nat) (h : PH) : Mo (X12_saves_g0 G t h) (X12_saves_g0 G' t h) := X12_saves_m0 hg11 (fun a0 a1 => X12_saves_n50 hg11 hg52 hg95 a0 a1) t h
theorem X12_saves_n11 {G G' : (Nat → Int32 → PH → Option Rs) × (Nat → Int32 → PH → Option Rs) × (Nat → Int32 → PH → Option Rs)} (hg11 : ∀ a0 a1 a2, Mo ((G).1 a0 a1 a2) ((G').1 a0 a1 a2)) (hg52 : ∀ a0 a1 a2, Mo ((G).2.1 a0 a1 a2) ((G').2.1 a0 a1 a2)) (hg95 : ∀ a0 a1 a2, Mo ((G).2.2 a0 a1 a2) ((G').2.2 a0 a1 a2)) (t : Nat) (x1 : Int32) (h : PH) : Mo (X12_saves_g11 G t x1 h) (X12_saves_g11 G' t x1 h) := X12_saves_m11 hg11 (fun a0 a1 => X12_saves_n50 hg11 hg52 hg95 a0 a1) t x1 h
theorem X12_saves_n52 {G G' : (Nat → Int32 → PH → Option Rs) × (Nat → Int32 → PH → Option Rs) × (Nat → Int32 → PH → Option Rs)} (hg11 : ∀ a0 a1 a2, Mo ((G).1 a0 a1 a2) ((G').1 a0 a1 a2)) (hg52 : ∀ a0 a1 a2, Mo ((G).2.1 a0 a1 a2) ((G').2.1 a0 a1 a2)) (hg95 : ∀ a0 a1 a2, Mo ((G).2.2 a0 a1 a2) ((G').2.2 a0 a1 a2)) (t : Nat) (x1 : Int32) (h : PH) : Mo (X12_saves_g52 G t x1 h) (X12_saves_g52 G' t x1 h) := X12_saves_m52 hg52 hg95 t x1 h
theorem X12_saves_n95 {G G' : (Nat → Int32 → PH → Option Rs) × (Nat → Int32 → PH → Option Rs) × (Nat → Int32 → PH → Option Rs)} (hg11 : ∀ a0 a1 a2, Mo ((G).1 a0 a1 a2) ((G').1 a0 a1 a2)) (hg52 : ∀ a0 a1 a2, Mo ((G).2.1 a0 a1 a2) ((G').2.1 a0 a1 a2)) (hg95 : ∀ a0 a1 a2, Mo ((G).2.2 a0 a1 a2) ((G').2.2 a0 a1 a2)) (t : Nat) (x1 : Int32) (h : PH) : Mo (X12_saves_g95 G t x1 h) (X12_saves_g95 G' t x1 h) := X12_saves_m95 hg95 t x1 h
theorem X12_saves_fm : ∀ n, (∀ a0 a1 a2, Mo ((X12_saves_fam n).1 a0 a1 a2) ((X12_saves_fam (n + 1)).1 a0 a1 a2)) ∧ (∀ a0 a1 a2, Mo ((X12_saves_fam n).2.1 a0 a1 a2) ((X12_saves_fam (n + 1)).2.1 a0 a1 a2)) ∧ (∀ a0 a1 a2, Mo ((X12_saves_fam n).2.2 a0 a1 a2) ((X12_saves_fam (n + 1)).2.2 a0 a1 a2))
  | 0 => ⟨fun _ _ _ => mo_no, fun _ _ _ => mo_no, fun _ _ _ => mo_no⟩
  | n + 1 => by
    obtain ⟨ih11, ih52, ih95⟩ := X12_saves_fm n
    exact ⟨fun a0 a1 a2 => X12_saves_n11 ih11 ih52 ih95 a0 a1 a2, fun a0 a1 a2 => X12_saves_n52 ih11 ih52 ih95 a0 a1 a2, fun a0 a1 a2 => X12_saves_n95 ih11 ih52 ih95 a0 a1 a2⟩
noncomputable def X12_saves (t : Nat) (h : PH) : Option Rs := lim (fun n => X12_saves_g0 (X12_saves_fam n) t h)
theorem X12_saves_iff {t : Nat} {h : PH} {r : Rs} : X12_saves t h = some r ↔ ∃ n, X12_saves_g0 (X12_saves_fam n) t h = some r := lim_iff (fun n => by
  obtain ⟨ih11, ih52, ih95⟩ := X12_saves_fm n
  exact X12_saves_n0 ih11 ih52 ih95 t h)
noncomputable abbrev X12_saves_F : List PV → PH → Option Rs := FW_T11 (X12_saves)
set_option maxRecDepth 100000 in
theorem X12_saves_gd (l : Launch) : Gd l 0 yX12_saves cX12_saves 2 none (X12_saves_F)   := Gd_of (by decide +kernel) (fun z hzl as h r e => by
  obtain ⟨hst, e⟩ := gL_of e
  obtain ⟨t, q0, e⟩ := gT_of e
  rw [st_1 hst q0]
  obtain ⟨n, e⟩ := lim_of e
  obtain ⟨hG11, hG52, hG95⟩ := X12_saves_k (z := z) n
  exact ⟨show 1 ≤ 2 by decide, X12_saves_s0 hG11 (X12_saves_v50 hG11 hG52 hG95) _ _ _ _ ((X12_saves_l0 (X12_saves_fam n).1 (X12_saves_g50 (X12_saves_fam n)) t h).trans e)⟩)
abbrev X12_setsRow_x (z : CZ) : CX := mx RX12 cX12_setsRow 5 0 none "setsRow" z
noncomputable def X12_setsRow_b0 : Kn := (a_al 0 (a_gR 11 704 41 (a_ic 225 (a_ic 12 (a_il 1 (a_b (fun a b => a * b) (a_b (fun a b => a + b) (a_ic 2 (a_il 2 (a_b (fun a b => a * b) (a_b (fun a b => a + b) (a_il 3 (a_ast 41 2624 (fun a => a) (a_al 0 (a_gR 11 704 41 (a_ic 225 (a_ic 12 (a_il 1 (a_b (fun a b => a * b) (a_b (fun a b => a + b) (a_ic 2 (a_il 2 (a_b (fun a b => a * b) (a_b (fun a b => a + b) (a_ic 1 (a_b (fun a b => a + b) (a_il 4 (a_ast 41 2624 (fun a => a) a_vr))))))))))))))))))))))))))))
set_option maxRecDepth 100000 in
theorem X12_setsRow_s0 {z : CZ} : SK (X12_setsRow_x z) 0 (X12_setsRow_b0) := (s_aloadn (pc := 0) dX12_setsRow_0 rfl (s_gR (pc := 1) (f := 0) ko_11 (by decide) rfl rfl w_1295 dX12_setsRow_1 (s_sipush (pc := 4) dX12_setsRow_4 c_sp_225 (s_bipush (pc := 7) dX12_setsRow_7 c_bp_12 (s_iloadn (pc := 9) dX12_setsRow_9 rfl (s_imul (pc := 10) dX12_setsRow_10 (s_iadd (pc := 11) dX12_setsRow_11 (s_iconst (pc := 12) dX12_setsRow_12 c_ic_2 (s_iloadn (pc := 13) dX12_setsRow_13 rfl (s_imul (pc := 14) dX12_setsRow_14 (s_iadd (pc := 15) dX12_setsRow_15 (s_iloadn (pc := 16) dX12_setsRow_16 rfl (s_iast (pc := 17) (by decide) (by decide) rfl rfl rfl dX12_setsRow_17 (s_aloadn (pc := 18) dX12_setsRow_18 rfl (s_gR (pc := 19) (f := 0) ko_11 (by decide) rfl rfl w_1295 dX12_setsRow_19 (s_sipush (pc := 22) dX12_setsRow_22 c_sp_225 (s_bipush (pc := 25) dX12_setsRow_25 c_bp_12 (s_iloadn (pc := 27) dX12_setsRow_27 rfl (s_imul (pc := 28) dX12_setsRow_28 (s_iadd (pc := 29) dX12_setsRow_29 (s_iconst (pc := 30) dX12_setsRow_30 c_ic_2 (s_iloadn (pc := 31) dX12_setsRow_31 rfl (s_imul (pc := 32) dX12_setsRow_32 (s_iadd (pc := 33) dX12_setsRow_33 (s_iconst (pc := 34) dX12_setsRow_34 c_ic_1 (s_iadd (pc := 35) dX12_setsRow_35 (s_iload (pc := 36) dX12_setsRow_36 (s_iast (pc := 38) (by decide) (by decide) rfl rfl rfl dX12_setsRow_38 (s_vr (pc := 39) rfl dX12_setsRow_39)))))))))))))))))))))))))))))
noncomputable def X12_setsRow_f0 (t : Nat) (x1 : Int32) (x2 : Int32) (x3 : Int32) (x4 : Int32) (h : PH) : Option Rs :=
  nn (hR h 704 t 0) fun r1 =>
  ix ((225 + (12 * x1)) + (2 * x2)) (hL h 41 r1) fun j2 =>
  wr (pI h 2624 r1 j2 x3) fun h3 =>
  nn (hR h3 704 t 0) fun r4 =>
  ix (((225 + (12 * x1)) + (2 * x2)) + 1) (hL h3 41 r4) fun j5 =>
  wr (pI h3 2624 r4 j5 x4) fun h6 =>
  some (none, h6)
set_option maxRecDepth 100000 in
theorem X12_setsRow_l0 (t : Nat) (x1 : Int32) (x2 : Int32) (x3 : Int32) (x4 : Int32) (h : PH) : X12_setsRow_b0 [some (.inr (11, t + 1)), some (.inl x1), some (.inl x2), some (.inl x3), some (.inl x4)] [] h = X12_setsRow_f0 t x1 x2 x3 x4 h := rfl
noncomputable def X12_setsRow_g0 (t : Nat) (x1 : Int32) (x2 : Int32) (x3 : Int32) (x4 : Int32) (h : PH) : Option Rs := X12_setsRow_f0 t x1 x2 x3 x4 h
noncomputable def X12_setsRow (t : Nat) (x1 : Int32) (x2 : Int32) (x3 : Int32) (x4 : Int32) (h : PH) : Option Rs := X12_setsRow_g0 t x1 x2 x3 x4 h
noncomputable abbrev X12_setsRow_F : List PV → PH → Option Rs := FW_T11IIII (X12_setsRow)
set_option maxRecDepth 100000 in
theorem X12_setsRow_gd (l : Launch) : Gd l 0 yX12_setsRow cX12_setsRow 5 none (X12_setsRow_F)   := Gd_of (by decide +kernel) (fun z hzl as h r e => by
  obtain ⟨hst, e⟩ := gL_of e
  obtain ⟨t, q0, e⟩ := gT_of e
  obtain ⟨x1, q1, e⟩ := gI_of e
  obtain ⟨x2, q2, e⟩ := gI_of e
  obtain ⟨x3, q3, e⟩ := gI_of e
  obtain ⟨x4, q4, e⟩ := gI_of e
  rw [st_5 hst q0 q1 q2 q3 q4]
  exact ⟨show 5 ≤ 5 by decide, X12_setsRow_s0 _ _ _ _ ((X12_setsRow_l0 t x1 x2 x3 x4 h).trans e)⟩)
