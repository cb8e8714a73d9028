abbrev X9_follow_x (z : CZ) : CX := mx RX9 cX9_follow 5 1 none "follow" z
noncomputable def X9_follow_b0 (k2 : Kn) : Kn := (a_ic 0 (a_is 2 k2))
set_option maxRecDepth 100000 in
theorem X9_follow_s0 {z : CZ} {k2 : Kn} (hk2 : SK (X9_follow_x z) 2 k2) : SK (X9_follow_x z) 0 (X9_follow_b0 k2) := (s_iconst (pc := 0) dX9_follow_0 c_ic_0 (s_istoren (pc := 1) dX9_follow_1 rfl (show 2 < 5 by decide) hk2))
noncomputable def X9_follow_b2 (c_X6_firstRowOf : Nat → Int32 → PH → Option Rs) (k82 : Kn) : Kn := (a_il 2 (a_al 0 (a_gI 8 515 (a_lt (a_al 0 (a_gR 8 513 1 (a_gR 1 68 18 (a_al 0 (a_gR 8 514 31 (a_il 2 (a_ald 31 1984 (a_rald 18 1152 5 (a_as 3 (a_al 3 (a_il 1 (a_vI 5 1 (FW_T5I c_X6_firstRowOf) (a_is 4 (a_il 4 (a_ic (-1) (a_eq k82 (a_al 0 (a_gR 8 517 32 (a_al 3 (a_gI 5 320 (a_ald 32 2048 (a_ic (-1) (a_eq (a_al 0 (a_gR 8 517 32 (a_al 3 (a_gI 5 320 (a_al 0 (a_gR 8 514 31 (a_il 2 (a_ald 31 1984 (a_ast 32 2048 (fun a => a) (a_al 0 (a_gR 8 518 33 (a_al 3 (a_gI 5 320 (a_al 3 (a_gR 5 326 28 (a_il 4 (a_ald 28 1792 (a_ast 33 2112 (fun a => a) k82)))))))))))))))))) k82))))))))))))))))))))))) a_vr))))
set_option maxRecDepth 100000 in
theorem X9_follow_s2 {z : CZ} {k82 : Kn} (hk82 : SK (X9_follow_x z) 82 k82) : SK (X9_follow_x z) 2 (X9_follow_b2 X6_firstRowOf k82) := (s_iloadn (pc := 2) dX9_follow_2 rfl (s_aloadn (pc := 3) dX9_follow_3 rfl (s_gI (pc := 4) (f := 3) ko_8 (by decide) rfl rfl w_335 dX9_follow_4 (s_cmpge (pc := 7) dX9_follow_7 (by decide) (s_vr (pc := 88) rfl dX9_follow_88) (s_aloadn (pc := 10) dX9_follow_10 rfl (s_gR (pc := 11) (f := 1) ko_8 (by decide) rfl rfl w_333 dX9_follow_11 (s_gR (pc := 14) (f := 4) ko_1 (by decide) rfl rfl w_231 dX9_follow_14 (s_aloadn (pc := 17) dX9_follow_17 rfl (s_gR (pc := 18) (f := 2) ko_8 (by decide) rfl rfl w_334 dX9_follow_18 (s_iloadn (pc := 21) dX9_follow_21 rfl (s_iald (pc := 22) (by decide) (by decide) rfl rfl rfl dX9_follow_22 (s_rald (pc := 23) (by decide) (by decide) rfl rfl rfl dX9_follow_23 (s_astoren (pc := 24) dX9_follow_24 rfl (show 3 < 5 by decide) (s_aloadn (pc := 25) dX9_follow_25 rfl (s_iloadn (pc := 26) dX9_follow_26 rfl (s_vI (pc := 27) (run_virtual (X6_firstRowOf_gd _) (show 0 < 1 by decide) cy_X6_firstRowOf (by decide) rfl w_981 w_982 w_980 dX9_follow_27) (s_istore (pc := 30) dX9_follow_30 (show 4 < 5 by decide) (s_iload (pc := 32) dX9_follow_32 (s_iconst (pc := 34) dX9_follow_34 c_ic_m1 (s_cmpeq (pc := 35) dX9_follow_35 (by decide) hk82 (s_aloadn (pc := 38) dX9_follow_38 rfl (s_gR (pc := 39) (f := 5) ko_8 (by decide) rfl rfl w_337 dX9_follow_39 (s_aloadn (pc := 42) dX9_follow_42 rfl (s_gI (pc := 43) (f := 0) ko_5 (by decide) rfl rfl w_168 dX9_follow_43 (s_iald (pc := 46) (by decide) (by decide) rfl rfl rfl dX9_follow_46 (s_iconst (pc := 47) dX9_follow_47 c_ic_m1 (s_cmpne (pc := 48) dX9_follow_48 (by decide) hk82 (s_aloadn (pc := 51) dX9_follow_51 rfl (s_gR (pc := 52) (f := 5) ko_8 (by decide) rfl rfl w_337 dX9_follow_52 (s_aloadn (pc := 55) dX9_follow_55 rfl (s_gI (pc := 56) (f := 0) ko_5 (by decide) rfl rfl w_168 dX9_follow_56 (s_aloadn (pc := 59) dX9_follow_59 rfl (s_gR (pc := 60) (f := 2) ko_8 (by decide) rfl rfl w_334 dX9_follow_60 (s_iloadn (pc := 63) dX9_follow_63 rfl (s_iald (pc := 64) (by decide) (by decide) rfl rfl rfl dX9_follow_64 (s_iast (pc := 65) (by decide) (by decide) rfl rfl rfl dX9_follow_65 (s_aloadn (pc := 66) dX9_follow_66 rfl (s_gR (pc := 67) (f := 6) ko_8 (by decide) rfl rfl w_338 dX9_follow_67 (s_aloadn (pc := 70) dX9_follow_70 rfl (s_gI (pc := 71) (f := 0) ko_5 (by decide) rfl rfl w_168 dX9_follow_71 (s_aloadn (pc := 74) dX9_follow_74 rfl (s_gR (pc := 75) (f := 6) ko_5 (by decide) rfl rfl w_193 dX9_follow_75 (s_iload (pc := 78) dX9_follow_78 (s_iald (pc := 80) (by decide) (by decide) rfl rfl rfl dX9_follow_80 (s_iast (pc := 81) (by decide) (by decide) rfl rfl rfl dX9_follow_81 hk82)))))))))))))))))))))))))))))))))))))))))))))
noncomputable def X9_follow_b82 (k2 : Kn) : Kn := (a_inc 2 1 k2)
set_option maxRecDepth 100000 in
theorem X9_follow_s82 {z : CZ} {k2 : Kn} (hk2 : SK (X9_follow_x z) 2 k2) : SK (X9_follow_x z) 82 (X9_follow_b82 k2) := (s_iinc (pc := 82) dX9_follow_82 c_ic_1 (show 2 < 5 by decide) (s_goto (pc := 85) dX9_follow_85 (by decide) hk2))
noncomputable def X9_follow_u2 (g : Nat → Int32 → Int32 → PH → Option Rs) : Kn := fun ls st h => gL 0 st (gT 8 ls 0 fun t => gI ls 1 fun x1 => gI ls 2 fun x2 => g t x1 x2 h)
noncomputable def X9_follow_u82 (g : Nat → Int32 → Int32 → PH → Option Rs) : Kn := fun ls st h => gL 0 st (gT 8 ls 0 fun t => gI ls 1 fun x1 => gI ls 2 fun x2 => g t x1 x2 h)
noncomputable def X9_follow_f0 (g2 : Nat → Int32 → Int32 → PH → Option Rs) (t : Nat) (x1 : Int32) (h : PH) : Option Rs :=
  g2 t x1 0 h
set_option maxRecDepth 100000 in
theorem X9_follow_l0 (g2 : Nat → Int32 → Int32 → PH → Option Rs) (t : Nat) (x1 : Int32) (h : PH) : X9_follow_b0 (X9_follow_u2 g2) [some (.inr (8, t + 1)), some (.inl x1), none, none, none] [] h = X9_follow_f0 g2 t x1 h := rfl
theorem X9_follow_m0 {g2 G2 : Nat → Int32 → Int32 → PH → Option Rs} (hg2 : ∀ a0 a1 a2 a3, Mo (g2 a0 a1 a2 a3) (G2 a0 a1 a2 a3)) (t : Nat) (x1 : Int32) (h : PH) : Mo (X9_follow_f0 g2 t x1 h) (X9_follow_f0 G2 t x1 h) := (hg2 t x1 0 h)
noncomputable def X9_follow_f2 (c_X6_firstRowOf : Nat → Int32 → PH → Option Rs) (g82 : Nat → Int32 → Int32 → PH → Option Rs) (t : Nat) (x1 : Int32) (x2 : Int32) (h : PH) : Option Rs :=
  if x2 < (hI h 515 t 0) then
    nn (hR h 513 t 0) fun r1 =>
    nn (hR h 514 t 0) fun r2 =>
    ix x2 (hL h 31 r2) fun j3 =>
    nn (hR h 68 r1 0) fun r4 =>
    ix (hI h 1984 r2 j3) (hL h 18 r4) fun j5 =>
    nn (hR h 1152 r4 j5) fun r6 =>
    cI (c_X6_firstRowOf r6 x1 h) fun v8 h7 =>
    if v8 = (-1) then
      g82 t x1 x2 h7
    else
      nn (hR h 1152 r4 j5) fun r9 =>
      nn (hR h7 517 t 0) fun r10 =>
      ix (hI h7 320 r9 0) (hL h7 32 r10) fun j11 =>
      if (hI h7 2048 r10 j11) = (-1) then
        nn (hR h 1152 r4 j5) fun r12 =>
        nn (hR h7 514 t 0) fun r13 =>
        ix x2 (hL h7 31 r13) fun j14 =>
        nn (hR h7 517 t 0) fun r15 =>
        ix (hI h7 320 r12 0) (hL h7 32 r15) fun j16 =>
        wr (pI h7 2048 r15 j16 (hI h7 1984 r13 j14)) fun h17 =>
        nn (hR h 1152 r4 j5) fun r18 =>
        nn (hR h 1152 r4 j5) fun r19 =>
        nn (hR h17 326 r19 0) fun r20 =>
        ix v8 (hL h17 28 r20) fun j21 =>
        nn (hR h17 518 t 0) fun r22 =>
        ix (hI h17 320 r18 0) (hL h17 33 r22) fun j23 =>
        wr (pI h17 2112 r22 j23 (hI h17 1792 r20 j21)) fun h24 =>
        g82 t x1 x2 h24
      else
        g82 t x1 x2 h7
  else
    some (none, h)
set_option maxRecDepth 100000 in
theorem X9_follow_l2 (c_X6_firstRowOf : Nat → Int32 → PH → Option Rs) (g82 : Nat → Int32 → Int32 → PH → Option Rs) (t : Nat) (x1 : Int32) (x2 : Int32) (h : PH) : X9_follow_b2 c_X6_firstRowOf (X9_follow_u82 g82) [some (.inr (8, t + 1)), some (.inl x1), some (.inl x2), none, none] [] h = X9_follow_f2 c_X6_firstRowOf g82 t x1 x2 h := rfl
theorem X9_follow_m2 {c_X6_firstRowOf : Nat → Int32 → PH → Option Rs} {g82 G82 : Nat → Int32 → Int32 → PH → Option Rs} (hg82 : ∀ a0 a1 a2 a3, Mo (g82 a0 a1 a2 a3) (G82 a0 a1 a2 a3)) (t : Nat) (x1 : Int32) (x2 : Int32) (h : PH) : Mo (X9_follow_f2 c_X6_firstRowOf g82 t x1 x2 h) (X9_follow_f2 c_X6_firstRowOf G82 t x1 x2 h) := (mo_if (mo_nn fun r1 => (mo_nn fun r2 => (mo_ix fun j3 => (mo_nn fun r4 => (mo_ix fun j5 => (mo_nn fun r6 => (mo_cI fun v8 h7 => (mo_if (hg82 t x1 x2 h7) (mo_nn fun r9 => (mo_nn fun r10 => (mo_ix fun j11 => (mo_if (mo_nn fun r12 => (mo_nn fun r13 => (mo_ix fun j14 => (mo_nn fun r15 => (mo_ix fun j16 => (mo_wr fun h17 => (mo_nn fun r18 => (mo_nn fun r19 => (mo_nn fun r20 => (mo_ix fun j21 => (mo_nn fun r22 => (mo_ix fun j23 => (mo_wr fun h24 => (hg82 t x1 x2 h24)))))))))))))) (hg82 t x1 x2 h7))))))))))))) mo_rf)
theorem X9_follow_w2 {z : CZ} {g82 : Nat → Int32 → Int32 → PH → Option Rs} (hk82 : SK (X9_follow_x z) 82 (X9_follow_u82 g82)) : SK (X9_follow_x z) 2 (X9_follow_u2 (X9_follow_f2 X6_firstRowOf g82)) := by
  intro ls st h r e
  obtain ⟨hst, e⟩ := gL_of e
  obtain ⟨t, q0, e⟩ := gT_of e
  obtain ⟨x1, q1, e⟩ := gI_of e
  obtain ⟨x2, q2, e⟩ := gI_of e
  rw [st_0 hst]
  exact WK.sub (canon := [some (.inr (8, t + 1)), some (.inl x1), some (.inl x2), none, none]) rfl ⟨q0, q1, q2, trivial⟩ (X9_follow_s2 hk82 _ _ _ _ ((X9_follow_l2 X6_firstRowOf g82 t x1 x2 h).trans e))
noncomputable def X9_follow_f82 (g2 : Nat → Int32 → Int32 → PH → Option Rs) (t : Nat) (x1 : Int32) (x2 : Int32) (h : PH) : Option Rs :=
  g2 t x1 (x2 + 1) h
set_option maxRecDepth 100000 in
theorem X9_follow_l82 (g2 : Nat → Int32 → Int32 → PH → Option Rs) (t : Nat) (x1 : Int32) (x2 : Int32) (h : PH) : X9_follow_b82 (X9_follow_u2 g2) [some (.inr (8, t + 1)), some (.inl x1), some (.inl x2), none, none] [] h = X9_follow_f82 g2 t x1 x2 h := rfl
theorem X9_follow_m82 {g2 G2 : Nat → Int32 → Int32 → PH → Option Rs} (hg2 : ∀ a0 a1 a2 a3, Mo (g2 a0 a1 a2 a3) (G2 a0 a1 a2 a3)) (t : Nat) (x1 : Int32) (x2 : Int32) (h : PH) : Mo (X9_follow_f82 g2 t x1 x2 h) (X9_follow_f82 G2 t x1 x2 h) := (hg2 t x1 (x2 + 1) h)
theorem X9_follow_w82 {z : CZ} {g2 : Nat → Int32 → Int32 → PH → Option Rs} (hk2 : SK (X9_follow_x z) 2 (X9_follow_u2 g2)) : SK (X9_follow_x z) 82 (X9_follow_u82 (X9_follow_f82 g2)) := by
  intro ls st h r e
  obtain ⟨hst, e⟩ := gL_of e
  obtain ⟨t, q0, e⟩ := gT_of e
  obtain ⟨x1, q1, e⟩ := gI_of e
  obtain ⟨x2, q2, e⟩ := gI_of e
  rw [st_0 hst]
  exact WK.sub (canon := [some (.inr (8, t + 1)), some (.inl x1), some (.inl x2), none, none]) rfl ⟨q0, q1, q2, trivial⟩ (X9_follow_s82 hk2 _ _ _ _ ((X9_follow_l82 g2 t x1 x2 h).trans e))
noncomputable def X9_follow_g0 (G : (Nat → Int32 → Int32 → PH → Option Rs)) (t : Nat) (x1 : Int32) (h : PH) : Option Rs := X9_follow_f0 (G) t x1 h
noncomputable def X9_follow_g82 (G : (Nat → Int32 → Int32 → PH → Option Rs)) (t : Nat) (x1 : Int32) (x2 : Int32) (h : PH) : Option Rs := X9_follow_f82 (G) t x1 x2 h
noncomputable def X9_follow_g2 (G : (Nat → Int32 → Int32 → PH → Option Rs)) (t : Nat) (x1 : Int32) (x2 : Int32) (h : PH) : Option Rs := X9_follow_f2 X6_firstRowOf (X9_follow_g82 G) t x1 x2 h
theorem X9_follow_v82 {z : CZ} {G : (Nat → Int32 → Int32 → PH → Option Rs)} (hG2 : SK (X9_follow_x z) 2 (X9_follow_u2 (G))) : SK (X9_follow_x z) 82 (X9_follow_u82 (X9_follow_g82 G)) := X9_follow_w82 hG2
theorem X9_follow_v2 {z : CZ} {G : (Nat → Int32 → Int32 → PH → Option Rs)} (hG2 : SK (X9_follow_x z) 2 (X9_follow_u2 (G))) : SK (X9_follow_x z) 2 (X9_follow_u2 (X9_follow_g2 G)) := X9_follow_w2 (X9_follow_v82 hG2)
noncomputable def X9_follow_fam : Nat → (Nat → Int32 → Int32 → PH → Option Rs)
  | 0 => fun _ _ _ _ => none
  | n + 1 => X9_follow_g2 (X9_follow_fam n)
theorem X9_follow_k {z : CZ} : ∀ n, SK (X9_follow_x z) 2 (X9_follow_u2 (X9_follow_fam n))
  | 0 => (fun ls st h r e => by
      obtain ⟨_, e⟩ := gL_of e
      obtain ⟨_, _, e⟩ := gT_of e
      obtain ⟨_, _, e⟩ := gI_of e
      obtain ⟨_, _, e⟩ := gI_of e
      cases e)
  | n + 1 => by
    obtain ih2 := X9_follow_k n
    exact X9_follow_v2 ih2
theorem X9_follow_n0 {G G' : (Nat → Int32 → Int32 → PH → Option Rs)} (hg2 : ∀ a0 a1 a2 a3, Mo ((G) a0 a1 a2 a3) ((G') a0 a1 a2 a3)) (t : Nat) (x1 : Int32) (h : PH) : Mo (X9_follow_g0 G t x1 h) (X9_follow_g0 G' t x1 h) := X9_follow_m0 hg2 t x1 h
theorem X9_follow_n82 {G G' : (Nat → Int32 → Int32 → PH → Option Rs)} (hg2 : ∀ a0 a1 a2 a3, Mo ((G) a0 a1 a2 a3) ((G') a0 a1 a2 a3)) (t : Nat) (x1 : Int32) (x2 : Int32) (h : PH) : Mo (X9_follow_g82 G t x1 x2 h) (X9_follow_g82 G' t x1 x2 h) := X9_follow_m82 hg2 t x1 x2 h
theorem X9_follow_n2 {G G' : (Nat → Int32 → Int32 → PH → Option Rs)} (hg2 : ∀ a0 a1 a2 a3, Mo ((G) a0 a1 a2 a3) ((G') a0 a1 a2 a3)) (t : Nat) (x1 : Int32) (x2 : Int32) (h : PH) : Mo (X9_follow_g2 G t x1 x2 h) (X9_follow_g2 G' t x1 x2 h) := X9_follow_m2 (fun a0 a1 a2 a3 => X9_follow_n82 hg2 a0 a1 a2 a3) t x1 x2 h
theorem X9_follow_fm : ∀ n, (∀ a0 a1 a2 a3, Mo ((X9_follow_fam n) a0 a1 a2 a3) ((X9_follow_fam (n + 1)) a0 a1 a2 a3))
  | 0 => fun _ _ _ _ => mo_no
  | n + 1 => by
    obtain ih2 := X9_follow_fm n
    exact fun a0 a1 a2 a3 => X9_follow_n2 ih2 a0 a1 a2 a3
noncomputable def X9_follow (t : Nat) (x1 : Int32) (h : PH) : Option Rs := lim (fun n => X9_follow_g0 (X9_follow_fam n) t x1 h)
theorem X9_follow_iff {t : Nat} {x1 : Int32} {h : PH} {r : Rs} : X9_follow t x1 h = some r ↔ ∃ n, X9_follow_g0 (X9_follow_fam n) t x1 h = some r := lim_iff (fun n => by
  obtain ih2 := X9_follow_fm n
  exact X9_follow_n0 ih2 t x1 h)
noncomputable abbrev X9_follow_F : List PV → PH → Option Rs := FW_T8I (X9_follow)
set_option maxRecDepth 100000 in
theorem X9_follow_gd (l : Launch) : Gd l 1 yX9_follow cX9_follow 5 none (X9_follow_F)   := Gd_of (by decide +kernel) (fun z hzl as h r e => by
  obtain ⟨hst, e⟩ := gL_of e
  obtain ⟨t, q0, e⟩ := gT_of e
  obtain ⟨x1, q1, e⟩ := gI_of e
  rw [st_2 hst q0 q1]
  obtain ⟨n, e⟩ := lim_of e
  obtain hG2 := X9_follow_k (z := z) n
  exact ⟨show 2 ≤ 5 by decide, X9_follow_s0 hG2 _ _ _ _ ((X9_follow_l0 (X9_follow_fam n) t x1 h).trans e)⟩)
abbrev X9_headFor_x (z : CZ) : CX := mx RX9 cX9_headFor 2 2 none "headFor" z
noncomputable def X9_headFor_b0 (c_J7_fill_53178_32 : Nat → Int32 → PH → Option Rs) (c_J7_fill_53178_34 : Nat → Int32 → PH → Option Rs) (c_X9_follow : Nat → Int32 → PH → Option Rs) : Kn := (a_al 0 (a_il 1 (a_pI 8 516 (a_al 0 (a_gR 8 517 32 (a_ic (-1) (a_sV 2 (FW_R32I c_J7_fill_53178_32) (a_al 0 (a_gR 8 519 34 (a_ic (-1) (a_sV 2 (FW_R34I c_J7_fill_53178_34) (a_al 0 (a_al 0 (a_gI 8 516 (a_vV 8 1 (FW_T8I c_X9_follow) (a_al 0 (a_gR 8 513 1 (a_gR 1 67 17 (a_al 0 (a_gI 8 516 (a_ald 17 1088 (a_ic (-1) (a_eq a_vr (a_al 0 (a_ic 10 (a_al 0 (a_gR 8 513 1 (a_gR 1 67 17 (a_al 0 (a_gI 8 516 (a_ald 17 1088 (a_b (fun a b => a + b) (a_vV 8 1 (FW_T8I c_X9_follow) a_vr)))))))))))))))))))))))))))))))))
set_option maxRecDepth 100000 in
theorem X9_headFor_s0 {z : CZ} : SK (X9_headFor_x z) 0 (X9_headFor_b0 J7_fill_53178_32 J7_fill_53178_34 X9_follow) := (s_aloadn (pc := 0) dX9_headFor_0 rfl (s_iloadn (pc := 1) dX9_headFor_1 rfl (s_pI (pc := 2) (f := 4) ko_8 (by decide) rfl rfl rfl (by decide +kernel) w_336 dX9_headFor_2 (s_aloadn (pc := 5) dX9_headFor_5 rfl (s_gR (pc := 6) (f := 5) ko_8 (by decide) rfl rfl w_337 dX9_headFor_6 (s_iconst (pc := 9) dX9_headFor_9 c_ic_m1 (s_sV (pc := 10) (run_static (J7_fill_53178_32_gd _) (show 0 < 2 by decide) cy_J7_fill_53178 w_211 w_975 dX9_headFor_10) (s_aloadn (pc := 13) dX9_headFor_13 rfl (s_gR (pc := 14) (f := 7) ko_8 (by decide) rfl rfl w_339 dX9_headFor_14 (s_iconst (pc := 17) dX9_headFor_17 c_ic_m1 (s_sV (pc := 18) (run_static (J7_fill_53178_34_gd _) (show 0 < 2 by decide) cy_J7_fill_53178 w_211 w_975 dX9_headFor_18) (s_aloadn (pc := 21) dX9_headFor_21 rfl (s_aloadn (pc := 22) dX9_headFor_22 rfl (s_gI (pc := 23) (f := 4) ko_8 (by decide) rfl rfl w_336 dX9_headFor_23 (s_vV (pc := 26) (run_virtual (X9_follow_gd _) (show 1 < 2 by decide) cy_X9_follow (by decide) rfl w_978 w_s16 w_976 dX9_headFor_26) (s_aloadn (pc := 29) dX9_headFor_29 rfl (s_gR (pc := 30) (f := 1) ko_8 (by decide) rfl rfl w_333 dX9_headFor_30 (s_gR (pc := 33) (f := 3) ko_1 (by decide) rfl rfl w_225 dX9_headFor_33 (s_aloadn (pc := 36) dX9_headFor_36 rfl (s_gI (pc := 37) (f := 4) ko_8 (by decide) rfl rfl w_336 dX9_headFor_37 (s_iald (pc := 40) (by decide) (by decide) rfl rfl rfl dX9_headFor_40 (s_iconst (pc := 41) dX9_headFor_41 c_ic_m1 (s_cmpeq (pc := 42) dX9_headFor_42 (by decide) (s_vr (pc := 64) rfl dX9_headFor_64) (s_aloadn (pc := 45) dX9_headFor_45 rfl (s_bipush (pc := 46) dX9_headFor_46 c_bp_10 (s_aloadn (pc := 48) dX9_headFor_48 rfl (s_gR (pc := 49) (f := 1) ko_8 (by decide) rfl rfl w_333 dX9_headFor_49 (s_gR (pc := 52) (f := 3) ko_1 (by decide) rfl rfl w_225 dX9_headFor_52 (s_aloadn (pc := 55) dX9_headFor_55 rfl (s_gI (pc := 56) (f := 4) ko_8 (by decide) rfl rfl w_336 dX9_headFor_56 (s_iald (pc := 59) (by decide) (by decide) rfl rfl rfl dX9_headFor_59 (s_iadd (pc := 60) dX9_headFor_60 (s_vV (pc := 61) (run_virtual (X9_follow_gd _) (show 1 < 2 by decide) cy_X9_follow (by decide) rfl w_978 w_s16 w_976 dX9_headFor_61) (s_vr (pc := 64) rfl dX9_headFor_64))))))))))))))))))))))))))))))))))
noncomputable def X9_headFor_f0 (c_J7_fill_53178_32 : Nat → Int32 → PH → Option Rs) (c_J7_fill_53178_34 : Nat → Int32 → PH → Option Rs) (c_X9_follow : Nat → Int32 → PH → Option Rs) (t : Nat) (x1 : Int32) (h : PH) : Option Rs :=
  wr (pI h 516 t 0 x1) fun h1 =>
  cV (c_J7_fill_53178_32 (hR h1 517 t 0) (-1) h1) fun h2 =>
  cV (c_J7_fill_53178_34 (hR h2 519 t 0) (-1) h2) fun h3 =>
  cV (c_X9_follow t (hI h3 516 t 0) h3) fun h4 =>
  nn (hR h4 513 t 0) fun r5 =>
  nn (hR h4 67 r5 0) fun r6 =>
  ix (hI h4 516 t 0) (hL h4 17 r6) fun j7 =>
  if (hI h4 1088 r6 j7) = (-1) then
    some (none, h4)
  else
    nn (hR h4 513 t 0) fun r8 =>
    nn (hR h4 67 r8 0) fun r9 =>
    ix (hI h4 516 t 0) (hL h4 17 r9) fun j10 =>
    cV (c_X9_follow t (10 + (hI h4 1088 r9 j10)) h4) fun h11 =>
    some (none, h11)
set_option maxRecDepth 100000 in
theorem X9_headFor_l0 (c_J7_fill_53178_32 : Nat → Int32 → PH → Option Rs) (c_J7_fill_53178_34 : Nat → Int32 → PH → Option Rs) (c_X9_follow : Nat → Int32 → PH → Option Rs) (t : Nat) (x1 : Int32) (h : PH) : X9_headFor_b0 c_J7_fill_53178_32 c_J7_fill_53178_34 c_X9_follow [some (.inr (8, t + 1)), some (.inl x1)] [] h = X9_headFor_f0 c_J7_fill_53178_32 c_J7_fill_53178_34 c_X9_follow t x1 h := rfl
noncomputable def X9_headFor_g0 (t : Nat) (x1 : Int32) (h : PH) : Option Rs := X9_headFor_f0 J7_fill_53178_32 J7_fill_53178_34 X9_follow t x1 h
noncomputable def X9_headFor (t : Nat) (x1 : Int32) (h : PH) : Option Rs := X9_headFor_g0 t x1 h
noncomputable abbrev X9_headFor_F : List PV → PH → Option Rs := FW_T8I (X9_headFor)
set_option maxRecDepth 100000 in
theorem X9_headFor_gd (l : Launch) : Gd l 2 yX9_headFor cX9_headFor 2 none (X9_headFor_F)   := Gd_of (by decide +kernel) (fun z hzl as h r e => by
  obtain ⟨hst, e⟩ := gL_of e
  obtain ⟨t, q0, e⟩ := gT_of e
  obtain ⟨x1, q1, e⟩ := gI_of e
  rw [st_2 hst q0 q1]
  exact ⟨show 2 ≤ 2 by decide, X9_headFor_s0 _ _ _ _ ((X9_headFor_l0 J7_fill_53178_32 J7_fill_53178_34 X9_follow t x1 h).trans e)⟩)
abbrev X4_openWay_x (z : CZ) : CX := mx RX4 cX4_openWay 4 1 (some .int) "openWay" z
noncomputable def X4_openWay_b0 (c_X1_wayFrom : Nat → Int32 → Int32 → PH → Option Rs) : Kn := (a_al 0 (a_gR 3 193 1 (a_il 1 (a_il 2 (a_vI 1 2 (FW_T1II c_X1_wayFrom) (a_is 3 (a_il 3 (a_ic (-1) (a_eq (a_ic (-1) a_ir) (a_al 0 (a_gR 3 194 24 (a_il 3 (a_ald 24 1536 (a_z (a_ic (-1) a_ir) (a_il 3 a_ir)))))))))))))))
set_option maxRecDepth 100000 in
theorem X4_openWay_s0 {z : CZ} : SK (X4_openWay_x z) 0 (X4_openWay_b0 X1_wayFrom) := (s_aloadn (pc := 0) dX4_openWay_0 rfl (s_gR (pc := 1) (f := 1) ko_3 (by decide) rfl rfl w_313 dX4_openWay_1 (s_iloadn (pc := 4) dX4_openWay_4 rfl (s_iloadn (pc := 5) dX4_openWay_5 rfl (s_vI (pc := 6) (run_virtual (X1_wayFrom_gd _) (show 0 < 1 by decide) cy_X1_wayFrom (by decide) rfl w_557 w_558 w_996 dX4_openWay_6) (s_istoren (pc := 9) dX4_openWay_9 rfl (show 3 < 4 by decide) (s_iloadn (pc := 10) dX4_openWay_10 rfl (s_iconst (pc := 11) dX4_openWay_11 c_ic_m1 (s_cmpeq (pc := 12) dX4_openWay_12 (by decide) (s_iconst (pc := 28) dX4_openWay_28 c_ic_m1 (s_ir (pc := 29) rfl dX4_openWay_29)) (s_aloadn (pc := 15) dX4_openWay_15 rfl (s_gR (pc := 16) (f := 2) ko_3 (by decide) rfl rfl w_315 dX4_openWay_16 (s_iloadn (pc := 19) dX4_openWay_19 rfl (s_zald (pc := 20) (by decide) (by decide) rfl rfl rfl dX4_openWay_20 (s_ifeq (pc := 21) dX4_openWay_21 (by decide) (s_iconst (pc := 28) dX4_openWay_28 c_ic_m1 (s_ir (pc := 29) rfl dX4_openWay_29)) (s_iloadn (pc := 24) dX4_openWay_24 rfl (s_goto (pc := 25) dX4_openWay_25 (by decide) (s_ir (pc := 29) rfl dX4_openWay_29)))))))))))))))))
noncomputable def X4_openWay_f0 (c_X1_wayFrom : Nat → Int32 → Int32 → PH → Option Rs) (t : Nat) (x1 : Int32) (x2 : Int32) (h : PH) : Option Rs :=
  nn (hR h 193 t 0) fun r1 =>
  cI (c_X1_wayFrom r1 x1 x2 h) fun v3 h2 =>
  if v3 = (-1) then
    some (some (.inl (-1)), h2)
  else
    nn (hR h2 194 t 0) fun r4 =>
    ix v3 (hL h2 24 r4) fun j5 =>
    if (hI h2 1536 r4 j5) = 0 then
      some (some (.inl (-1)), h2)
    else
      some (some (.inl v3), h2)
set_option maxRecDepth 100000 in
theorem X4_openWay_l0 (c_X1_wayFrom : Nat → Int32 → Int32 → PH → Option Rs) (t : Nat) (x1 : Int32) (x2 : Int32) (h : PH) : X4_openWay_b0 c_X1_wayFrom [some (.inr (3, t + 1)), some (.inl x1), some (.inl x2), none] [] h = X4_openWay_f0 c_X1_wayFrom t x1 x2 h := rfl
noncomputable def X4_openWay_g0 (t : Nat) (x1 : Int32) (x2 : Int32) (h : PH) : Option Rs := X4_openWay_f0 X1_wayFrom t x1 x2 h
noncomputable def X4_openWay (t : Nat) (x1 : Int32) (x2 : Int32) (h : PH) : Option Rs := X4_openWay_g0 t x1 x2 h
noncomputable abbrev X4_openWay_F : List PV → PH → Option Rs := FW_T3II (X4_openWay)
set_option maxRecDepth 100000 in
theorem X4_openWay_gd (l : Launch) : Gd l 1 yX4_openWay cX4_openWay 4 (some .int) (X4_openWay_F)   := Gd_of (by decide +kernel) (fun z hzl as h r e => by
  obtain ⟨hst, e⟩ := gL_of e
  obtain ⟨t, q0, e⟩ := gT_of e
  obtain ⟨x1, q1, e⟩ := gI_of e
  obtain ⟨x2, q2, e⟩ := gI_of e
  rw [st_3 hst q0 q1 q2]
  exact ⟨show 3 ≤ 4 by decide, X4_openWay_s0 _ _ _ _ ((X4_openWay_l0 X1_wayFrom t x1 x2 h).trans e)⟩)
abbrev X9_onlyDirection_x (z : CZ) : CX := mx RX9 cX9_onlyDirection 4 2 (some .int) "onlyDirection" z
noncomputable def X9_onlyDirection_b0 (k4 : Kn) : Kn := (a_ic (-1) (a_is 2 (a_ic 0 (a_is 3 k4))))
set_option maxRecDepth 100000 in
theorem X9_onlyDirection_s0 {z : CZ} {k4 : Kn} (hk4 : SK (X9_onlyDirection_x z) 4 k4) : SK (X9_onlyDirection_x z) 0 (X9_onlyDirection_b0 k4) := (s_iconst (pc := 0) dX9_onlyDirection_0 c_ic_m1 (s_istoren (pc := 1) dX9_onlyDirection_1 rfl (show 2 < 4 by decide) (s_iconst (pc := 2) dX9_onlyDirection_2 c_ic_0 (s_istoren (pc := 3) dX9_onlyDirection_3 rfl (show 3 < 4 by decide) hk4))))
noncomputable def X9_onlyDirection_b4 (c_X4_openWay : Nat → Int32 → Int32 → PH → Option Rs) (k40 : Kn) : Kn := (a_il 3 (a_ic 8 (a_lt (a_il 3 (a_il 1 (a_eq k40 (a_al 0 (a_gR 8 512 3 (a_al 0 (a_gI 8 526 (a_il 3 (a_vI 3 2 (FW_T3II c_X4_openWay) (a_ic (-1) (a_eq k40 (a_il 2 (a_ic (-1) (a_eq (a_il 3 (a_is 2 k40)) (a_ic (-1) a_ir))))))))))))))) (a_il 2 a_ir))))
set_option maxRecDepth 100000 in
theorem X9_onlyDirection_s4 {z : CZ} {k40 : Kn} (hk40 : SK (X9_onlyDirection_x z) 40 k40) : SK (X9_onlyDirection_x z) 4 (X9_onlyDirection_b4 X4_openWay k40) := (s_iloadn (pc := 4) dX9_onlyDirection_4 rfl (s_bipush (pc := 5) dX9_onlyDirection_5 c_bp_8 (s_cmpge (pc := 7) dX9_onlyDirection_7 (by decide) (s_iloadn (pc := 46) dX9_onlyDirection_46 rfl (s_ir (pc := 47) rfl dX9_onlyDirection_47)) (s_iloadn (pc := 10) dX9_onlyDirection_10 rfl (s_iloadn (pc := 11) dX9_onlyDirection_11 rfl (s_cmpeq (pc := 12) dX9_onlyDirection_12 (by decide) hk40 (s_aloadn (pc := 15) dX9_onlyDirection_15 rfl (s_gR (pc := 16) (f := 0) ko_8 (by decide) rfl rfl w_331 dX9_onlyDirection_16 (s_aloadn (pc := 19) dX9_onlyDirection_19 rfl (s_gI (pc := 20) (f := 14) ko_8 (by decide) rfl rfl w_350 dX9_onlyDirection_20 (s_iloadn (pc := 23) dX9_onlyDirection_23 rfl (s_vI (pc := 24) (run_virtual (X4_openWay_gd _) (show 1 < 2 by decide) cy_X4_openWay (by decide) rfl w_993 w_994 w_992 dX9_onlyDirection_24) (s_iconst (pc := 27) dX9_onlyDirection_27 c_ic_m1 (s_cmpeq (pc := 28) dX9_onlyDirection_28 (by decide) hk40 (s_iloadn (pc := 31) dX9_onlyDirection_31 rfl (s_iconst (pc := 32) dX9_onlyDirection_32 c_ic_m1 (s_cmpeq (pc := 33) dX9_onlyDirection_33 (by decide) (s_iloadn (pc := 38) dX9_onlyDirection_38 rfl (s_istoren (pc := 39) dX9_onlyDirection_39 rfl (show 2 < 4 by decide) hk40)) (s_iconst (pc := 36) dX9_onlyDirection_36 c_ic_m1 (s_ir (pc := 37) rfl dX9_onlyDirection_37)))))))))))))))))))
noncomputable def X9_onlyDirection_b40 (k4 : Kn) : Kn := (a_inc 3 1 k4)
set_option maxRecDepth 100000 in
theorem X9_onlyDirection_s40 {z : CZ} {k4 : Kn} (hk4 : SK (X9_onlyDirection_x z) 4 k4) : SK (X9_onlyDirection_x z) 40 (X9_onlyDirection_b40 k4) := (s_iinc (pc := 40) dX9_onlyDirection_40 c_ic_1 (show 3 < 4 by decide) (s_goto (pc := 43) dX9_onlyDirection_43 (by decide) hk4))
noncomputable def X9_onlyDirection_u4 (g : Nat → Int32 → Int32 → Int32 → PH → Option Rs) : Kn := fun ls st h => gL 0 st (gT 8 ls 0 fun t => gI ls 1 fun x1 => gI ls 2 fun x2 => gI ls 3 fun x3 => g t x1 x2 x3 h)
noncomputable def X9_onlyDirection_u40 (g : Nat → Int32 → Int32 → Int32 → PH → Option Rs) : Kn := fun ls st h => gL 0 st (gT 8 ls 0 fun t => gI ls 1 fun x1 => gI ls 2 fun x2 => gI ls 3 fun x3 => g t x1 x2 x3 h)
noncomputable def X9_onlyDirection_f0 (g4 : Nat → Int32 → Int32 → Int32 → PH → Option Rs) (t : Nat) (x1 : Int32) (h : PH) : Option Rs :=
  g4 t x1 (-1) 0 h
set_option maxRecDepth 100000 in
theorem X9_onlyDirection_l0 (g4 : Nat → Int32 → Int32 → Int32 → PH → Option Rs) (t : Nat) (x1 : Int32) (h : PH) : X9_onlyDirection_b0 (X9_onlyDirection_u4 g4) [some (.inr (8, t + 1)), some (.inl x1), none, none] [] h = X9_onlyDirection_f0 g4 t x1 h := rfl
theorem X9_onlyDirection_m0 {g4 G4 : Nat → Int32 → Int32 → Int32 → PH → Option Rs} (hg4 : ∀ a0 a1 a2 a3 a4, Mo (g4 a0 a1 a2 a3 a4) (G4 a0 a1 a2 a3 a4)) (t : Nat) (x1 : Int32) (h : PH) : Mo (X9_onlyDirection_f0 g4 t x1 h) (X9_onlyDirection_f0 G4 t x1 h) := (hg4 t x1 (-1) 0 h)
noncomputable def X9_onlyDirection_f4 (c_X4_openWay : Nat → Int32 → Int32 → PH → Option Rs) (g40 : Nat → Int32 → Int32 → Int32 → PH → Option Rs) (t : Nat) (x1 : Int32) (x2 : Int32) (x3 : Int32) (h : PH) : Option Rs :=
  if x3 < 8 then
    if x3 = x1 then
      g40 t x1 x2 x3 h
    else
      nn (hR h 512 t 0) fun r1 =>
      cI (c_X4_openWay r1 (hI h 526 t 0) x3 h) fun v3 h2 =>
      if v3 = (-1) then
        g40 t x1 x2 x3 h2
      else
        if x2 = (-1) then
          g40 t x1 x3 x3 h2
        else
          some (some (.inl (-1)), h2)
  else
    some (some (.inl x2), h)
set_option maxRecDepth 100000 in
theorem X9_onlyDirection_l4 (c_X4_openWay : Nat → Int32 → Int32 → PH → Option Rs) (g40 : Nat → Int32 → Int32 → Int32 → PH → Option Rs) (t : Nat) (x1 : Int32) (x2 : Int32) (x3 : Int32) (h : PH) : X9_onlyDirection_b4 c_X4_openWay (X9_onlyDirection_u40 g40) [some (.inr (8, t + 1)), some (.inl x1), some (.inl x2), some (.inl x3)] [] h = X9_onlyDirection_f4 c_X4_openWay g40 t x1 x2 x3 h := rfl
theorem X9_onlyDirection_m4 {c_X4_openWay : Nat → Int32 → Int32 → PH → Option Rs} {g40 G40 : Nat → Int32 → Int32 → Int32 → PH → Option Rs} (hg40 : ∀ a0 a1 a2 a3 a4, Mo (g40 a0 a1 a2 a3 a4) (G40 a0 a1 a2 a3 a4)) (t : Nat) (x1 : Int32) (x2 : Int32) (x3 : Int32) (h : PH) : Mo (X9_onlyDirection_f4 c_X4_openWay g40 t x1 x2 x3 h) (X9_onlyDirection_f4 c_X4_openWay G40 t x1 x2 x3 h) := (mo_if (mo_if (hg40 t x1 x2 x3 h) (mo_nn fun r1 => (mo_cI fun v3 h2 => (mo_if (hg40 t x1 x2 x3 h2) (mo_if (hg40 t x1 x3 x3 h2) mo_rf))))) mo_rf)
theorem X9_onlyDirection_w4 {z : CZ} {g40 : Nat → Int32 → Int32 → Int32 → PH → Option Rs} (hk40 : SK (X9_onlyDirection_x z) 40 (X9_onlyDirection_u40 g40)) : SK (X9_onlyDirection_x z) 4 (X9_onlyDirection_u4 (X9_onlyDirection_f4 X4_openWay g40)) := by
  intro ls st h r e
  obtain ⟨hst, e⟩ := gL_of e
  obtain ⟨t, q0, e⟩ := gT_of e
  obtain ⟨x1, q1, e⟩ := gI_of e
  obtain ⟨x2, q2, e⟩ := gI_of e
  obtain ⟨x3, q3, e⟩ := gI_of e
  rw [st_0 hst]
  exact WK.sub (canon := [some (.inr (8, t + 1)), some (.inl x1), some (.inl x2), some (.inl x3)]) rfl ⟨q0, q1, q2, q3, trivial⟩ (X9_onlyDirection_s4 hk40 _ _ _ _ ((X9_onlyDirection_l4 X4_openWay g40 t x1 x2 x3 h).trans e))
noncomputable def X9_onlyDirection_f40 (g4 : Nat → Int32 → Int32 → Int32 → PH → Option Rs) (t : Nat) (x1 : Int32) (x2 : Int32) (x3 : Int32) (h : PH) : Option Rs :=
  g4 t x1 x2 (x3 + 1) h
set_option maxRecDepth 100000 in
theorem X9_onlyDirection_l40 (g4 : Nat → Int32 → Int32 → Int32 → PH → Option Rs) (t : Nat) (x1 : Int32) (x2 : Int32) (x3 : Int32) (h : PH) : X9_onlyDirection_b40 (X9_onlyDirection_u4 g4) [some (.inr (8, t + 1)), some (.inl x1), some (.inl x2), some (.inl x3)] [] h = X9_onlyDirection_f40 g4 t x1 x2 x3 h := rfl
theorem X9_onlyDirection_m40 {g4 G4 : Nat → Int32 → Int32 → Int32 → PH → Option Rs} (hg4 : ∀ a0 a1 a2 a3 a4, Mo (g4 a0 a1 a2 a3 a4) (G4 a0 a1 a2 a3 a4)) (t : Nat) (x1 : Int32) (x2 : Int32) (x3 : Int32) (h : PH) : Mo (X9_onlyDirection_f40 g4 t x1 x2 x3 h) (X9_onlyDirection_f40 G4 t x1 x2 x3 h) := (hg4 t x1 x2 (x3 + 1) h)
theorem X9_onlyDirection_w40 {z : CZ} {g4 : Nat → Int32 → Int32 → Int32 → PH → Option Rs} (hk4 : SK (X9_onlyDirection_x z) 4 (X9_onlyDirection_u4 g4)) : SK (X9_onlyDirection_x z) 40 (X9_onlyDirection_u40 (X9_onlyDirection_f40 g4)) := by
  intro ls st h r e
  obtain ⟨hst, e⟩ := gL_of e
  obtain ⟨t, q0, e⟩ := gT_of e
  obtain ⟨x1, q1, e⟩ := gI_of e
  obtain ⟨x2, q2, e⟩ := gI_of e
  obtain ⟨x3, q3, e⟩ := gI_of e
  rw [st_0 hst]
  exact WK.sub (canon := [some (.inr (8, t + 1)), some (.inl x1), some (.inl x2), some (.inl x3)]) rfl ⟨q0, q1, q2, q3, trivial⟩ (X9_onlyDirection_s40 hk4 _ _ _ _ ((X9_onlyDirection_l40 g4 t x1 x2 x3 h).trans e))
noncomputable def X9_onlyDirection_g0 (G : (Nat → Int32 → Int32 → Int32 → PH → Option Rs)) (t : Nat) (x1 : Int32) (h : PH) : Option Rs := X9_onlyDirection_f0 (G) t x1 h
noncomputable def X9_onlyDirection_g40 (G : (Nat → Int32 → Int32 → Int32 → PH → Option Rs)) (t : Nat) (x1 : Int32) (x2 : Int32) (x3 : Int32) (h : PH) : Option Rs := X9_onlyDirection_f40 (G) t x1 x2 x3 h
noncomputable def X9_onlyDirection_g4 (G : (Nat → Int32 → Int32 → Int32 → PH → Option Rs)) (t : Nat) (x1 : Int32) (x2 : Int32) (x3 : Int32) (h : PH) : Option Rs := X9_onlyDirection_f4 X4_openWay (X9_onlyDirection_g40 G) t x1 x2 x3 h
theorem X9_onlyDirection_v40 {z : CZ} {G : (Nat → Int32 → Int32 → Int32 → PH → Option Rs)} (hG4 : SK (X9_onlyDirection_x z) 4 (X9_onlyDirection_u4 (G))) : SK (X9_onlyDirection_x z) 40 (X9_onlyDirection_u40 (X9_onlyDirection_g40 G)) := X9_onlyDirection_w40 hG4
theorem X9_onlyDirection_v4 {z : CZ} {G : (Nat → Int32 → Int32 → Int32 → PH → Option Rs)} (hG4 : SK (X9_onlyDirection_x z) 4 (X9_onlyDirection_u4 (G))) : SK (X9_onlyDirection_x z) 4 (X9_onlyDirection_u4 (X9_onlyDirection_g4 G)) := X9_onlyDirection_w4 (X9_onlyDirection_v40 hG4)
noncomputable def X9_onlyDirection_fam : Nat → (Nat → Int32 → Int32 → Int32 → PH → Option Rs)
  | 0 => fun _ _ _ _ _ => none
  | n + 1 => X9_onlyDirection_g4 (X9_onlyDirection_fam n)
theorem X9_onlyDirection_k {z : CZ} : ∀ n, SK (X9_onlyDirection_x z) 4 (X9_onlyDirection_u4 (X9_onlyDirection_fam n))
  | 0 => (fun ls st h r e => by
      obtain ⟨_, e⟩ := gL_of e
      obtain ⟨_, _, e⟩ := gT_of e
      obtain ⟨_, _, e⟩ := gI_of e
      obtain ⟨_, _, e⟩ := gI_of e
      obtain ⟨_, _, e⟩ := gI_of e
      cases e)
  | n + 1 => by
    obtain ih4 := X9_onlyDirection_k n
    exact X9_onlyDirection_v4 ih4
theorem X9_onlyDirection_n0 {G G' : (Nat → Int32 → Int32 → Int32 → PH → Option Rs)} (hg4 : ∀ a0 a1 a2 a3 a4, Mo ((G) a0 a1 a2 a3 a4) ((G') a0 a1 a2 a3 a4)) (t : Nat) (x1 : Int32) (h : PH) : Mo (X9_onlyDirection_g0 G t x1 h) (X9_onlyDirection_g0 G' t x1 h) := X9_onlyDirection_m0 hg4 t x1 h
theorem X9_onlyDirection_n40 {G G' : (Nat → Int32 → Int32 → Int32 → PH → Option Rs)} (hg4 : ∀ a0 a1 a2 a3 a4, Mo ((G) a0 a1 a2 a3 a4) ((G') a0 a1 a2 a3 a4)) (t : Nat) (x1 : Int32) (x2 : Int32) (x3 : Int32) (h : PH) : Mo (X9_onlyDirection_g40 G t x1 x2 x3 h) (X9_onlyDirection_g40 G' t x1 x2 x3 h) := X9_onlyDirection_m40 hg4 t x1 x2 x3 h
theorem X9_onlyDirection_n4 {G G' : (Nat → Int32 → Int32 → Int32 → PH → Option Rs)} (hg4 : ∀ a0 a1 a2 a3 a4, Mo ((G) a0 a1 a2 a3 a4) ((G') a0 a1 a2 a3 a4)) (t : Nat) (x1 : Int32) (x2 : Int32) (x3 : Int32) (h : PH) : Mo (X9_onlyDirection_g4 G t x1 x2 x3 h) (X9_onlyDirection_g4 G' t x1 x2 x3 h) := X9_onlyDirection_m4 (fun a0 a1 a2 a3 a4 => X9_onlyDirection_n40 hg4 a0 a1 a2 a3 a4) t x1 x2 x3 h
theorem X9_onlyDirection_fm : ∀ n, (∀ a0 a1 a2 a3 a4, Mo ((X9_onlyDirection_fam n) a0 a1 a2 a3 a4) ((X9_onlyDirection_fam (n + 1)) a0 a1 a2 a3 a4))
  | 0 => fun _ _ _ _ _ => mo_no
  | n + 1 => by
    obtain ih4 := X9_onlyDirection_fm n
    exact fun a0 a1 a2 a3 a4 => X9_onlyDirection_n4 ih4 a0 a1 a2 a3 a4
noncomputable def X9_onlyDirection (t : Nat) (x1 : Int32) (h : PH) : Option Rs := lim (fun n => X9_onlyDirection_g0 (X9_onlyDirection_fam n) t x1 h)
theorem X9_onlyDirection_iff {t : Nat} {x1 : Int32} {h : PH} {r : Rs} : X9_onlyDirection t x1 h = some r ↔ ∃ n, X9_onlyDirection_g0 (X9_onlyDirection_fam n) t x1 h = some r := lim_iff (fun n => by
  obtain ih4 := X9_onlyDirection_fm n
  exact X9_onlyDirection_n0 ih4 t x1 h)
noncomputable abbrev X9_onlyDirection_F : List PV → PH → Option Rs := FW_T8I (X9_onlyDirection)
set_option maxRecDepth 100000 in
theorem X9_onlyDirection_gd (l : Launch) : Gd l 2 yX9_onlyDirection cX9_onlyDirection 4 (some .int) (X9_onlyDirection_F)   := Gd_of (by decide +kernel) (fun z hzl as h r e => by
  obtain ⟨hst, e⟩ := gL_of e
  obtain ⟨t, q0, e⟩ := gT_of e
  obtain ⟨x1, q1, e⟩ := gI_of e
  rw [st_2 hst q0 q1]
  obtain ⟨n, e⟩ := lim_of e
  obtain hG4 := X9_onlyDirection_k (z := z) n
  exact ⟨show 2 ≤ 4 by decide, X9_onlyDirection_s0 hG4 _ _ _ _ ((X9_onlyDirection_l0 (X9_onlyDirection_fam n) t x1 h).trans e)⟩)
abbrev X9_directionFrom_x (z : CZ) : CX := mx RX9 cX9_directionFrom 2 3 (some .int) "directionFrom" z
noncomputable def X9_directionFrom_b0 (c_X4_openWay : Nat → Int32 → Int32 → PH → Option Rs) (c_X11_opposite : Int32 → PH → Option Rs) (k91 : Kn) : Kn := (a_al 0 (a_gR 8 519 34 (a_al 0 (a_gI 8 526 (a_ald 34 2176 (a_ic (-1) (a_eq (a_al 0 (a_gR 8 517 32 (a_al 0 (a_gI 8 526 (a_ald 32 2048 (a_ic (-1) (a_eq (a_al 0 (a_gR 8 512 3 (a_al 0 (a_gI 8 526 (a_il 1 (a_vI 3 2 (FW_T3II c_X4_openWay) (a_ic (-1) (a_eq (a_al 0 (a_il 1 (a_ic (-1) (a_eq (a_ic (-1) k91) (a_il 1 (a_sI 1 (FW_I c_X11_opposite) k91)))))) (a_il 1 a_ir))))))))) (a_al 0 (a_al 0 (a_gR 8 517 32 (a_al 0 (a_gI 8 526 (a_ald 32 2048 (a_pI 8 527 (a_al 0 (a_gR 8 518 33 (a_al 0 (a_gI 8 526 (a_ald 33 2112 a_ir))))))))))))))))))) (a_al 0 (a_gR 8 519 34 (a_al 0 (a_gI 8 526 (a_ald 34 2176 a_ir))))))))))))
set_option maxRecDepth 100000 in
theorem X9_directionFrom_s0 {z : CZ} {k91 : Kn} (hk91 : SK (X9_directionFrom_x z) 91 k91) : SK (X9_directionFrom_x z) 0 (X9_directionFrom_b0 X4_openWay X11_opposite k91) := (s_aloadn (pc := 0) dX9_directionFrom_0 rfl (s_gR (pc := 1) (f := 7) ko_8 (by decide) rfl rfl w_339 dX9_directionFrom_1 (s_aloadn (pc := 4) dX9_directionFrom_4 rfl (s_gI (pc := 5) (f := 14) ko_8 (by decide) rfl rfl w_350 dX9_directionFrom_5 (s_iald (pc := 8) (by decide) (by decide) rfl rfl rfl dX9_directionFrom_8 (s_iconst (pc := 9) dX9_directionFrom_9 c_ic_m1 (s_cmpeq (pc := 10) dX9_directionFrom_10 (by decide) (s_aloadn (pc := 23) dX9_directionFrom_23 rfl (s_gR (pc := 24) (f := 5) ko_8 (by decide) rfl rfl w_337 dX9_directionFrom_24 (s_aloadn (pc := 27) dX9_directionFrom_27 rfl (s_gI (pc := 28) (f := 14) ko_8 (by decide) rfl rfl w_350 dX9_directionFrom_28 (s_iald (pc := 31) (by decide) (by decide) rfl rfl rfl dX9_directionFrom_31 (s_iconst (pc := 32) dX9_directionFrom_32 c_ic_m1 (s_cmpeq (pc := 33) dX9_directionFrom_33 (by decide) (s_aloadn (pc := 59) dX9_directionFrom_59 rfl (s_gR (pc := 60) (f := 0) ko_8 (by decide) rfl rfl w_331 dX9_directionFrom_60 (s_aloadn (pc := 63) dX9_directionFrom_63 rfl (s_gI (pc := 64) (f := 14) ko_8 (by decide) rfl rfl w_350 dX9_directionFrom_64 (s_iloadn (pc := 67) dX9_directionFrom_67 rfl (s_vI (pc := 68) (run_virtual (X4_openWay_gd _) (show 1 < 3 by decide) cy_X4_openWay (by decide) rfl w_993 w_994 w_992 dX9_directionFrom_68) (s_iconst (pc := 71) dX9_directionFrom_71 c_ic_m1 (s_cmpeq (pc := 72) dX9_directionFrom_72 (by decide) (s_aloadn (pc := 77) dX9_directionFrom_77 rfl (s_iloadn (pc := 78) dX9_directionFrom_78 rfl (s_iconst (pc := 79) dX9_directionFrom_79 c_ic_m1 (s_cmpne (pc := 80) dX9_directionFrom_80 (by decide) (s_iloadn (pc := 87) dX9_directionFrom_87 rfl (s_sI (pc := 88) (run_staticN (X11_opposite_gd _) (show 0 < 3 by decide) cy_X11_opposite w_561 nw_997 dX9_directionFrom_88) hk91)) (s_iconst (pc := 83) dX9_directionFrom_83 c_ic_m1 (s_goto (pc := 84) dX9_directionFrom_84 (by decide) hk91)))))) (s_iloadn (pc := 75) dX9_directionFrom_75 rfl (s_ir (pc := 76) rfl dX9_directionFrom_76)))))))))) (s_aloadn (pc := 36) dX9_directionFrom_36 rfl (s_aloadn (pc := 37) dX9_directionFrom_37 rfl (s_gR (pc := 38) (f := 5) ko_8 (by decide) rfl rfl w_337 dX9_directionFrom_38 (s_aloadn (pc := 41) dX9_directionFrom_41 rfl (s_gI (pc := 42) (f := 14) ko_8 (by decide) rfl rfl w_350 dX9_directionFrom_42 (s_iald (pc := 45) (by decide) (by decide) rfl rfl rfl dX9_directionFrom_45 (s_pI (pc := 46) (f := 15) ko_8 (by decide) rfl rfl rfl (by decide +kernel) w_352 dX9_directionFrom_46 (s_aloadn (pc := 49) dX9_directionFrom_49 rfl (s_gR (pc := 50) (f := 6) ko_8 (by decide) rfl rfl w_338 dX9_directionFrom_50 (s_aloadn (pc := 53) dX9_directionFrom_53 rfl (s_gI (pc := 54) (f := 14) ko_8 (by decide) rfl rfl w_350 dX9_directionFrom_54 (s_iald (pc := 57) (by decide) (by decide) rfl rfl rfl dX9_directionFrom_57 (s_ir (pc := 58) rfl dX9_directionFrom_58)))))))))))))))))))) (s_aloadn (pc := 13) dX9_directionFrom_13 rfl (s_gR (pc := 14) (f := 7) ko_8 (by decide) rfl rfl w_339 dX9_directionFrom_14 (s_aloadn (pc := 17) dX9_directionFrom_17 rfl (s_gI (pc := 18) (f := 14) ko_8 (by decide) rfl rfl w_350 dX9_directionFrom_18 (s_iald (pc := 21) (by decide) (by decide) rfl rfl rfl dX9_directionFrom_21 (s_ir (pc := 22) rfl dX9_directionFrom_22)))))))))))))
noncomputable def X9_directionFrom_b91 (c_X9_onlyDirection : Nat → Int32 → PH → Option Rs) : Kn := (a_vI 8 1 (FW_T8I c_X9_onlyDirection) a_ir)
set_option maxRecDepth 100000 in
theorem X9_directionFrom_s91 {z : CZ} : SK (X9_directionFrom_x z) 91 (X9_directionFrom_b91 X9_onlyDirection) := (s_vI (pc := 91) (run_virtual (X9_onlyDirection_gd _) (show 2 < 3 by decide) cy_X9_onlyDirection (by decide) rfl w_1000 w_s18 w_998 dX9_directionFrom_91) (s_ir (pc := 94) rfl dX9_directionFrom_94))
noncomputable def X9_directionFrom_u91 (g : Int32 → Nat → PH → Option Rs) : Kn := fun ls st h => gL 2 st (gI (st.map some) 0 fun s0 => gT 8 (st.map some) 1 fun s1 => g s0 s1 h)
noncomputable def X9_directionFrom_f0 (c_X4_openWay : Nat → Int32 → Int32 → PH → Option Rs) (c_X11_opposite : Int32 → PH → Option Rs) (g91 : Int32 → Nat → PH → Option Rs) (t : Nat) (x1 : Int32) (h : PH) : Option Rs :=
  nn (hR h 519 t 0) fun r1 =>
  ix (hI h 526 t 0) (hL h 34 r1) fun j2 =>
  if (hI h 2176 r1 j2) = (-1) then
    nn (hR h 517 t 0) fun r3 =>
    ix (hI h 526 t 0) (hL h 32 r3) fun j4 =>
    if (hI h 2048 r3 j4) = (-1) then
      nn (hR h 512 t 0) fun r5 =>
      cI (c_X4_openWay r5 (hI h 526 t 0) x1 h) fun v7 h6 =>
      if v7 = (-1) then
        if x1 = (-1) then
          g91 (-1) t h6
        else
          cI (c_X11_opposite x1 h6) fun v9 h8 =>
          g91 v9 t h8
      else
        some (some (.inl x1), h6)
    else
      nn (hR h 517 t 0) fun r10 =>
      ix (hI h 526 t 0) (hL h 32 r10) fun j11 =>
      wr (pI h 527 t 0 (hI h 2048 r10 j11)) fun h12 =>
      nn (hR h12 518 t 0) fun r13 =>
      ix (hI h12 526 t 0) (hL h12 33 r13) fun j14 =>
      some (some (.inl (hI h12 2112 r13 j14)), h12)
  else
    nn (hR h 519 t 0) fun r15 =>
    ix (hI h 526 t 0) (hL h 34 r15) fun j16 =>
    some (some (.inl (hI h 2176 r15 j16)), h)
set_option maxRecDepth 100000 in
theorem X9_directionFrom_l0 (c_X4_openWay : Nat → Int32 → Int32 → PH → Option Rs) (c_X11_opposite : Int32 → PH → Option Rs) (g91 : Int32 → Nat → PH → Option Rs) (t : Nat) (x1 : Int32) (h : PH) : X9_directionFrom_b0 c_X4_openWay c_X11_opposite (X9_directionFrom_u91 g91) [some (.inr (8, t + 1)), some (.inl x1)] [] h = X9_directionFrom_f0 c_X4_openWay c_X11_opposite g91 t x1 h := rfl
theorem X9_directionFrom_m0 {c_X4_openWay : Nat → Int32 → Int32 → PH → Option Rs} {c_X11_opposite : Int32 → PH → Option Rs} {g91 G91 : Int32 → Nat → PH → Option Rs} (hg91 : ∀ a0 a1 a2, Mo (g91 a0 a1 a2) (G91 a0 a1 a2)) (t : Nat) (x1 : Int32) (h : PH) : Mo (X9_directionFrom_f0 c_X4_openWay c_X11_opposite g91 t x1 h) (X9_directionFrom_f0 c_X4_openWay c_X11_opposite G91 t x1 h) := (mo_nn fun r1 => (mo_ix fun j2 => (mo_if (mo_nn fun r3 => (mo_ix fun j4 => (mo_if (mo_nn fun r5 => (mo_cI fun v7 h6 => (mo_if (mo_if (hg91 (-1) t h6) (mo_cI fun v9 h8 => (hg91 v9 t h8))) mo_rf))) (mo_nn fun r10 => (mo_ix fun j11 => (mo_wr fun h12 => (mo_nn fun r13 => (mo_ix fun j14 => mo_rf)))))))) (mo_nn fun r15 => (mo_ix fun j16 => mo_rf)))))
noncomputable def X9_directionFrom_f91 (c_X9_onlyDirection : Nat → Int32 → PH → Option Rs) (s0 : Int32) (s1 : Nat) (h : PH) : Option Rs :=
  cI (c_X9_onlyDirection s1 s0 h) fun v18 h17 =>
  some (some (.inl v18), h17)
set_option maxRecDepth 100000 in
theorem X9_directionFrom_l91 (c_X9_onlyDirection : Nat → Int32 → PH → Option Rs) (s0 : Int32) (s1 : Nat) (h : PH) : X9_directionFrom_b91 c_X9_onlyDirection [none, none] [.inl s0, .inr (8, s1 + 1)] h = X9_directionFrom_f91 c_X9_onlyDirection s0 s1 h := rfl
theorem X9_directionFrom_w91 {z : CZ} : SK (X9_directionFrom_x z) 91 (X9_directionFrom_u91 (X9_directionFrom_f91 X9_onlyDirection)) := by
  intro ls st h r e
  obtain ⟨hst, e⟩ := gL_of e
  obtain ⟨s0, q0, e⟩ := gI_of e
  obtain ⟨s1, q1, e⟩ := gT_of e
  rw [st_2 hst q0 q1]
  exact WK.sub (canon := [none, none]) rfl trivial (X9_directionFrom_s91 _ _ _ _ ((X9_directionFrom_l91 X9_onlyDirection s0 s1 h).trans e))
noncomputable def X9_directionFrom_g91 (s0 : Int32) (s1 : Nat) (h : PH) : Option Rs := X9_directionFrom_f91 X9_onlyDirection s0 s1 h
noncomputable def X9_directionFrom_g0 (t : Nat) (x1 : Int32) (h : PH) : Option Rs := X9_directionFrom_f0 X4_openWay X11_opposite (X9_directionFrom_g91) t x1 h
theorem X9_directionFrom_v91 {z : CZ} : SK (X9_directionFrom_x z) 91 (X9_directionFrom_u91 (X9_directionFrom_g91)) := X9_directionFrom_w91
noncomputable def X9_directionFrom (t : Nat) (x1 : Int32) (h : PH) : Option Rs := X9_directionFrom_g0 t x1 h
noncomputable abbrev X9_directionFrom_F : List PV → PH → Option Rs := FW_T8I (X9_directionFrom)
set_option maxRecDepth 100000 in
theorem X9_directionFrom_gd (l : Launch) : Gd l 3 yX9_directionFrom cX9_directionFrom 2 (some .int) (X9_directionFrom_F)   := Gd_of (by decide +kernel) (fun z hzl as h r e => by
  obtain ⟨hst, e⟩ := gL_of e
  obtain ⟨t, q0, e⟩ := gT_of e
  obtain ⟨x1, q1, e⟩ := gI_of e
  rw [st_2 hst q0 q1]
  exact ⟨show 2 ≤ 2 by decide, X9_directionFrom_s0 (X9_directionFrom_v91) _ _ _ _ ((X9_directionFrom_l0 X4_openWay X11_opposite (X9_directionFrom_g91) t x1 h).trans e)⟩)
abbrev X10_endFrom_x (z : CZ) : CX := mx RX10 cX10_endFrom 2 0 (some .int) "endFrom" z
noncomputable def X10_endFrom_b0 : Kn := (a_il 1 (a_al 0 (a_gI 9 576 (a_eq (a_al 0 (a_gI 9 577 a_ir)) (a_al 0 (a_gI 9 576 a_ir))))))
set_option maxRecDepth 100000 in
theorem X10_endFrom_s0 {z : CZ} : SK (X10_endFrom_x z) 0 (X10_endFrom_b0) := (s_iloadn (pc := 0) dX10_endFrom_0 rfl (s_aloadn (pc := 1) dX10_endFrom_1 rfl (s_gI (pc := 2) (f := 0) ko_9 (by decide) rfl rfl w_126 dX10_endFrom_2 (s_cmpne (pc := 5) dX10_endFrom_5 (by decide) (s_aloadn (pc := 15) dX10_endFrom_15 rfl (s_gI (pc := 16) (f := 0) ko_9 (by decide) rfl rfl w_126 dX10_endFrom_16 (s_ir (pc := 19) rfl dX10_endFrom_19))) (s_aloadn (pc := 8) dX10_endFrom_8 rfl (s_gI (pc := 9) (f := 1) ko_9 (by decide) rfl rfl w_130 dX10_endFrom_9 (s_goto (pc := 12) dX10_endFrom_12 (by decide) (s_ir (pc := 19) rfl dX10_endFrom_19))))))))
noncomputable def X10_endFrom_f0 (t : Nat) (x1 : Int32) (h : PH) : Option Rs :=
  if x1 = (hI h 576 t 0) then
    some (some (.inl (hI h 577 t 0)), h)
  else
    some (some (.inl (hI h 576 t 0)), h)
set_option maxRecDepth 100000 in
theorem X10_endFrom_l0 (t : Nat) (x1 : Int32) (h : PH) : X10_endFrom_b0 [some (.inr (9, t + 1)), some (.inl x1)] [] h = X10_endFrom_f0 t x1 h := rfl
noncomputable def X10_endFrom_g0 (t : Nat) (x1 : Int32) (h : PH) : Option Rs := X10_endFrom_f0 t x1 h
noncomputable def X10_endFrom (t : Nat) (x1 : Int32) (h : PH) : Option Rs := X10_endFrom_g0 t x1 h
noncomputable abbrev X10_endFrom_F : List PV → PH → Option Rs := FW_T9I (X10_endFrom)
set_option maxRecDepth 100000 in
theorem X10_endFrom_gd (l : Launch) : Gd l 0 yX10_endFrom cX10_endFrom 2 (some .int) (X10_endFrom_F)   := Gd_of (by decide +kernel) (fun z hzl as h r e => by
  obtain ⟨hst, e⟩ := gL_of e
  obtain ⟨t, q0, e⟩ := gT_of e
  obtain ⟨x1, q1, e⟩ := gI_of e
  rw [st_2 hst q0 q1]
  exact ⟨show 2 ≤ 2 by decide, X10_endFrom_s0 _ _ _ _ ((X10_endFrom_l0 t x1 h).trans e)⟩)
abbrev X9_take_x (z : CZ) : CX := mx RX9 cX9_take 4 2 none "take" z
noncomputable def X9_take_b0 (c_X4_openWay : Nat → Int32 → Int32 → PH → Option Rs) (c_X10_endFrom : Nat → Int32 → PH → Option Rs) (k116 : Kn) : Kn := (a_al 0 (a_gR 8 512 3 (a_al 0 (a_gI 8 526 (a_il 1 (a_vI 3 2 (FW_T3II c_X4_openWay) (a_is 2 (a_il 2 (a_ic (-1) (a_eq (a_al 0 (a_ic 2 (a_pI 8 523 a_vr))) (a_al 0 (a_dup (a_gI 8 524 (a_al 0 (a_gR 8 513 1 (a_gR 1 64 14 (a_il 2 (a_rald 14 896 9 (a_gI 9 580 (a_b (fun a b => a + b) (a_pI 8 524 (a_al 0 (a_al 0 (a_gR 8 513 1 (a_gR 1 64 14 (a_il 2 (a_rald 14 896 9 (a_al 0 (a_gI 8 526 (a_vI 9 1 (FW_T9I c_X10_endFrom) (a_pI 8 526 (a_al 0 (a_dup (a_gI 8 525 (a_ic 1 (a_b (fun a b => a + b) (a_pI 8 525 (a_al 0 (a_gR 8 522 36 (a_al 0 (a_gI 8 525 (a_al 0 (a_gI 8 526 (a_ast 36 2304 (fun a => a) (a_al 0 (a_gI 8 526 (a_ic 8 (a_b (fun a b => a * b) (a_il 1 (a_b (fun a b => a + b) (a_is 3 (a_al 0 (a_gR 8 520 35 (a_il 3 (a_ald 35 2240 (a_al 0 (a_gI 8 521 (a_eq (a_al 0 (a_ic 3 (a_pI 8 523 k116))) k116))))))))))))))))))))))))))))))))))))))))))))))))))))))))))
set_option maxRecDepth 100000 in
theorem X9_take_s0 {z : CZ} {k116 : Kn} (hk116 : SK (X9_take_x z) 116 k116) : SK (X9_take_x z) 0 (X9_take_b0 X4_openWay X10_endFrom k116) := (s_aloadn (pc := 0) dX9_take_0 rfl (s_gR (pc := 1) (f := 0) ko_8 (by decide) rfl rfl w_331 dX9_take_1 (s_aloadn (pc := 4) dX9_take_4 rfl (s_gI (pc := 5) (f := 14) ko_8 (by decide) rfl rfl w_350 dX9_take_5 (s_iloadn (pc := 8) dX9_take_8 rfl (s_vI (pc := 9) (run_virtual (X4_openWay_gd _) (show 1 < 2 by decide) cy_X4_openWay (by decide) rfl w_993 w_994 w_992 dX9_take_9) (s_istoren (pc := 12) dX9_take_12 rfl (show 2 < 4 by decide) (s_iloadn (pc := 13) dX9_take_13 rfl (s_iconst (pc := 14) dX9_take_14 c_ic_m1 (s_cmpne (pc := 15) dX9_take_15 (by decide) (s_aloadn (pc := 24) dX9_take_24 rfl (s_dup (pc := 25) dX9_take_25 (s_gI (pc := 26) (f := 12) ko_8 (by decide) rfl rfl w_346 dX9_take_26 (s_aloadn (pc := 29) dX9_take_29 rfl (s_gR (pc := 30) (f := 1) ko_8 (by decide) rfl rfl w_333 dX9_take_30 (s_gR (pc := 33) (f := 0) ko_1 (by decide) rfl rfl w_217 dX9_take_33 (s_iloadn (pc := 36) dX9_take_36 rfl (s_rald (pc := 37) (by decide) (by decide) rfl rfl rfl dX9_take_37 (s_gI (pc := 38) (f := 4) ko_9 (by decide) rfl rfl w_142 dX9_take_38 (s_iadd (pc := 41) dX9_take_41 (s_pI (pc := 42) (f := 12) ko_8 (by decide) rfl rfl rfl (by decide +kernel) w_346 dX9_take_42 (s_aloadn (pc := 45) dX9_take_45 rfl (s_aloadn (pc := 46) dX9_take_46 rfl (s_gR (pc := 47) (f := 1) ko_8 (by decide) rfl rfl w_333 dX9_take_47 (s_gR (pc := 50) (f := 0) ko_1 (by decide) rfl rfl w_217 dX9_take_50 (s_iloadn (pc := 53) dX9_take_53 rfl (s_rald (pc := 54) (by decide) (by decide) rfl rfl rfl dX9_take_54 (s_aloadn (pc := 55) dX9_take_55 rfl (s_gI (pc := 56) (f := 14) ko_8 (by decide) rfl rfl w_350 dX9_take_56 (s_vI (pc := 59) (run_virtual (X10_endFrom_gd _) (show 0 < 2 by decide) cy_X10_endFrom (by decide) rfl w_1007 w_1008 w_1006 dX9_take_59) (s_pI (pc := 62) (f := 14) ko_8 (by decide) rfl rfl rfl (by decide +kernel) w_350 dX9_take_62 (s_aloadn (pc := 65) dX9_take_65 rfl (s_dup (pc := 66) dX9_take_66 (s_gI (pc := 67) (f := 13) ko_8 (by decide) rfl rfl w_348 dX9_take_67 (s_iconst (pc := 70) dX9_take_70 c_ic_1 (s_iadd (pc := 71) dX9_take_71 (s_pI (pc := 72) (f := 13) ko_8 (by decide) rfl rfl rfl (by decide +kernel) w_348 dX9_take_72 (s_aloadn (pc := 75) dX9_take_75 rfl (s_gR (pc := 76) (f := 10) ko_8 (by decide) rfl rfl w_342 dX9_take_76 (s_aloadn (pc := 79) dX9_take_79 rfl (s_gI (pc := 80) (f := 13) ko_8 (by decide) rfl rfl w_348 dX9_take_80 (s_aloadn (pc := 83) dX9_take_83 rfl (s_gI (pc := 84) (f := 14) ko_8 (by decide) rfl rfl w_350 dX9_take_84 (s_iast (pc := 87) (by decide) (by decide) rfl rfl rfl dX9_take_87 (s_aloadn (pc := 88) dX9_take_88 rfl (s_gI (pc := 89) (f := 14) ko_8 (by decide) rfl rfl w_350 dX9_take_89 (s_bipush (pc := 92) dX9_take_92 c_bp_8 (s_imul (pc := 94) dX9_take_94 (s_iloadn (pc := 95) dX9_take_95 rfl (s_iadd (pc := 96) dX9_take_96 (s_istoren (pc := 97) dX9_take_97 rfl (show 3 < 4 by decide) (s_aloadn (pc := 98) dX9_take_98 rfl (s_gR (pc := 99) (f := 8) ko_8 (by decide) rfl rfl w_340 dX9_take_99 (s_iloadn (pc := 102) dX9_take_102 rfl (s_iald (pc := 103) (by decide) (by decide) rfl rfl rfl dX9_take_103 (s_aloadn (pc := 104) dX9_take_104 rfl (s_gI (pc := 105) (f := 9) ko_8 (by decide) rfl rfl w_341 dX9_take_105 (s_cmpne (pc := 108) dX9_take_108 (by decide) hk116 (s_aloadn (pc := 111) dX9_take_111 rfl (s_iconst (pc := 112) dX9_take_112 c_ic_3 (s_pI (pc := 113) (f := 11) ko_8 (by decide) rfl rfl rfl (by decide +kernel) w_344 dX9_take_113 hk116))))))))))))))))))))))))))))))))))))))))))))))))))) (s_aloadn (pc := 18) dX9_take_18 rfl (s_iconst (pc := 19) dX9_take_19 c_ic_2 (s_pI (pc := 20) (f := 11) ko_8 (by decide) rfl rfl rfl (by decide +kernel) w_344 dX9_take_20 (s_vr (pc := 23) rfl dX9_take_23))))))))))))))
noncomputable def X9_take_b116 : Kn := (a_al 0 (a_gR 8 520 35 (a_il 3 (a_al 0 (a_gI 8 521 (a_ast 35 2240 (fun a => a) a_vr))))))
set_option maxRecDepth 100000 in
theorem X9_take_s116 {z : CZ} : SK (X9_take_x z) 116 (X9_take_b116) := (s_aloadn (pc := 116) dX9_take_116 rfl (s_gR (pc := 117) (f := 8) ko_8 (by decide) rfl rfl w_340 dX9_take_117 (s_iloadn (pc := 120) dX9_take_120 rfl (s_aloadn (pc := 121) dX9_take_121 rfl (s_gI (pc := 122) (f := 9) ko_8 (by decide) rfl rfl w_341 dX9_take_122 (s_iast (pc := 125) (by decide) (by decide) rfl rfl rfl dX9_take_125 (s_vr (pc := 126) rfl dX9_take_126)))))))
noncomputable def X9_take_u116 (g : Nat → Int32 → PH → Option Rs) : Kn := fun ls st h => gL 0 st (gT 8 ls 0 fun t => gI ls 3 fun x3 => g t x3 h)
noncomputable def X9_take_f0 (c_X4_openWay : Nat → Int32 → Int32 → PH → Option Rs) (c_X10_endFrom : Nat → Int32 → PH → Option Rs) (g116 : Nat → Int32 → PH → Option Rs) (t : Nat) (x1 : Int32) (h : PH) : Option Rs :=
  nn (hR h 512 t 0) fun r1 =>
  cI (c_X4_openWay r1 (hI h 526 t 0) x1 h) fun v3 h2 =>
  if v3 = (-1) then
    wr (pI h2 523 t 0 2) fun h23 =>
    some (none, h23)
  else
    nn (hR h2 513 t 0) fun r4 =>
    nn (hR h2 64 r4 0) fun r5 =>
    ix v3 (hL h2 14 r5) fun j6 =>
    nn (hR h2 896 r5 j6) fun r7 =>
    wr (pI h2 524 t 0 ((hI h2 524 t 0) + (hI h2 580 r7 0))) fun h8 =>
    nn (hR h8 513 t 0) fun r9 =>
    nn (hR h8 64 r9 0) fun r10 =>
    ix v3 (hL h8 14 r10) fun j11 =>
    nn (hR h8 896 r10 j11) fun r12 =>
    cI (c_X10_endFrom r12 (hI h8 526 t 0) h8) fun v14 h13 =>
    wr (pI h13 526 t 0 v14) fun h15 =>
    wr (pI h15 525 t 0 ((hI h15 525 t 0) + 1)) fun h16 =>
    nn (hR h16 522 t 0) fun r17 =>
    ix (hI h16 525 t 0) (hL h16 36 r17) fun j18 =>
    wr (pI h16 2304 r17 j18 (hI h16 526 t 0)) fun h19 =>
    nn (hR h19 520 t 0) fun r20 =>
    ix (((hI h19 526 t 0) * 8) + x1) (hL h19 35 r20) fun j21 =>
    if (hI h19 2240 r20 j21) = (hI h19 521 t 0) then
      wr (pI h19 523 t 0 3) fun h22 =>
      g116 t (((hI h19 526 t 0) * 8) + x1) h22
    else
      g116 t (((hI h19 526 t 0) * 8) + x1) h19
set_option maxRecDepth 100000 in
theorem X9_take_l0 (c_X4_openWay : Nat → Int32 → Int32 → PH → Option Rs) (c_X10_endFrom : Nat → Int32 → PH → Option Rs) (g116 : Nat → Int32 → PH → Option Rs) (t : Nat) (x1 : Int32) (h : PH) : X9_take_b0 c_X4_openWay c_X10_endFrom (X9_take_u116 g116) [some (.inr (8, t + 1)), some (.inl x1), none, none] [] h = X9_take_f0 c_X4_openWay c_X10_endFrom g116 t x1 h := rfl
theorem X9_take_m0 {c_X4_openWay : Nat → Int32 → Int32 → PH → Option Rs} {c_X10_endFrom : Nat → Int32 → PH → Option Rs} {g116 G116 : Nat → Int32 → PH → Option Rs} (hg116 : ∀ a0 a1 a2, Mo (g116 a0 a1 a2) (G116 a0 a1 a2)) (t : Nat) (x1 : Int32) (h : PH) : Mo (X9_take_f0 c_X4_openWay c_X10_endFrom g116 t x1 h) (X9_take_f0 c_X4_openWay c_X10_endFrom G116 t x1 h) := (mo_nn fun r1 => (mo_cI fun v3 h2 => (mo_if (mo_wr fun h23 => mo_rf) (mo_nn fun r4 => (mo_nn fun r5 => (mo_ix fun j6 => (mo_nn fun r7 => (mo_wr fun h8 => (mo_nn fun r9 => (mo_nn fun r10 => (mo_ix fun j11 => (mo_nn fun r12 => (mo_cI fun v14 h13 => (mo_wr fun h15 => (mo_wr fun h16 => (mo_nn fun r17 => (mo_ix fun j18 => (mo_wr fun h19 => (mo_nn fun r20 => (mo_ix fun j21 => (mo_if (mo_wr fun h22 => (hg116 t (((hI h19 526 t 0) * 8) + x1) h22)) (hg116 t (((hI h19 526 t 0) * 8) + x1) h19))))))))))))))))))))))
noncomputable def X9_take_f116 (t : Nat) (x3 : Int32) (h : PH) : Option Rs :=
  nn (hR h 520 t 0) fun r24 =>
  ix x3 (hL h 35 r24) fun j25 =>
  wr (pI h 2240 r24 j25 (hI h 521 t 0)) fun h26 =>
  some (none, h26)
set_option maxRecDepth 100000 in
theorem X9_take_l116 (t : Nat) (x3 : Int32) (h : PH) : X9_take_b116 [some (.inr (8, t + 1)), none, none, some (.inl x3)] [] h = X9_take_f116 t x3 h := rfl
theorem X9_take_w116 {z : CZ} : SK (X9_take_x z) 116 (X9_take_u116 (X9_take_f116)) := by
  intro ls st h r e
  obtain ⟨hst, e⟩ := gL_of e
  obtain ⟨t, q0, e⟩ := gT_of e
  obtain ⟨x3, q1, e⟩ := gI_of e
  rw [st_0 hst]
  exact WK.sub (canon := [some (.inr (8, t + 1)), none, none, some (.inl x3)]) rfl ⟨q0, q1, trivial⟩ (X9_take_s116 _ _ _ _ ((X9_take_l116 t x3 h).trans e))
noncomputable def X9_take_g116 (t : Nat) (x3 : Int32) (h : PH) : Option Rs := X9_take_f116 t x3 h
noncomputable def X9_take_g0 (t : Nat) (x1 : Int32) (h : PH) : Option Rs := X9_take_f0 X4_openWay X10_endFrom (X9_take_g116) t x1 h
theorem X9_take_v116 {z : CZ} : SK (X9_take_x z) 116 (X9_take_u116 (X9_take_g116)) := X9_take_w116
noncomputable def X9_take (t : Nat) (x1 : Int32) (h : PH) : Option Rs := X9_take_g0 t x1 h
noncomputable abbrev X9_take_F : List PV → PH → Option Rs := FW_T8I (X9_take)
set_option maxRecDepth 100000 in
theorem X9_take_gd (l : Launch) : Gd l 2 yX9_take cX9_take 4 none (X9_take_F)   := Gd_of (by decide +kernel) (fun z hzl as h r e => by
  obtain ⟨hst, e⟩ := gL_of e
  obtain ⟨t, q0, e⟩ := gT_of e
  obtain ⟨x1, q1, e⟩ := gI_of e
  rw [st_2 hst q0 q1]
  exact ⟨show 2 ≤ 4 by decide, X9_take_s0 (X9_take_v116) _ _ _ _ ((X9_take_l0 X4_openWay X10_endFrom (X9_take_g116) t x1 h).trans e)⟩)
abbrev X9_go_x (z : CZ) : CX := mx RX9 cX9_go 4 4 (some .int) "go" z
noncomputable def X9_go_b0 (k30 : Kn) : Kn := (a_al 0 (a_dup (a_gI 8 521 (a_ic 1 (a_b (fun a b => a + b) (a_pI 8 521 (a_al 0 (a_ic 0 (a_pI 8 524 (a_al 0 (a_ic 0 (a_pI 8 525 (a_al 0 (a_ic (-1) (a_pI 8 527 (a_al 0 (a_il 1 (a_pI 8 526 k30))))))))))))))))))
set_option maxRecDepth 100000 in
theorem X9_go_s0 {z : CZ} {k30 : Kn} (hk30 : SK (X9_go_x z) 30 k30) : SK (X9_go_x z) 0 (X9_go_b0 k30) := (s_aloadn (pc := 0) dX9_go_0 rfl (s_dup (pc := 1) dX9_go_1 (s_gI (pc := 2) (f := 9) ko_8 (by decide) rfl rfl w_341 dX9_go_2 (s_iconst (pc := 5) dX9_go_5 c_ic_1 (s_iadd (pc := 6) dX9_go_6 (s_pI (pc := 7) (f := 9) ko_8 (by decide) rfl rfl rfl (by decide +kernel) w_341 dX9_go_7 (s_aloadn (pc := 10) dX9_go_10 rfl (s_iconst (pc := 11) dX9_go_11 c_ic_0 (s_pI (pc := 12) (f := 12) ko_8 (by decide) rfl rfl rfl (by decide +kernel) w_346 dX9_go_12 (s_aloadn (pc := 15) dX9_go_15 rfl (s_iconst (pc := 16) dX9_go_16 c_ic_0 (s_pI (pc := 17) (f := 13) ko_8 (by decide) rfl rfl rfl (by decide +kernel) w_348 dX9_go_17 (s_aloadn (pc := 20) dX9_go_20 rfl (s_iconst (pc := 21) dX9_go_21 c_ic_m1 (s_pI (pc := 22) (f := 15) ko_8 (by decide) rfl rfl rfl (by decide +kernel) w_352 dX9_go_22 (s_aloadn (pc := 25) dX9_go_25 rfl (s_iloadn (pc := 26) dX9_go_26 rfl (s_pI (pc := 27) (f := 14) ko_8 (by decide) rfl rfl rfl (by decide +kernel) w_350 dX9_go_27 hk30))))))))))))))))))
noncomputable def X9_go_b30 (k46 : Kn) : Kn := (a_al 0 (a_gR 8 522 36 (a_ic 0 (a_il 1 (a_ast 36 2304 (fun a => a) (a_al 0 (a_ic 0 (a_pI 8 523 (a_ic (-1) (a_is 2 (a_ic 0 (a_is 3 k46))))))))))))
set_option maxRecDepth 100000 in
theorem X9_go_s30 {z : CZ} {k46 : Kn} (hk46 : SK (X9_go_x z) 46 k46) : SK (X9_go_x z) 30 (X9_go_b30 k46) := (s_aloadn (pc := 30) dX9_go_30 rfl (s_gR (pc := 31) (f := 10) ko_8 (by decide) rfl rfl w_342 dX9_go_31 (s_iconst (pc := 34) dX9_go_34 c_ic_0 (s_iloadn (pc := 35) dX9_go_35 rfl (s_iast (pc := 36) (by decide) (by decide) rfl rfl rfl dX9_go_36 (s_aloadn (pc := 37) dX9_go_37 rfl (s_iconst (pc := 38) dX9_go_38 c_ic_0 (s_pI (pc := 39) (f := 11) ko_8 (by decide) rfl rfl rfl (by decide +kernel) w_344 dX9_go_39 (s_iconst (pc := 42) dX9_go_42 c_ic_m1 (s_istoren (pc := 43) dX9_go_43 rfl (show 2 < 4 by decide) (s_iconst (pc := 44) dX9_go_44 c_ic_0 (s_istoren (pc := 45) dX9_go_45 rfl (show 3 < 4 by decide) hk46))))))))))))
noncomputable def X9_go_b46 (c_X9_directionFrom : Nat → Int32 → PH → Option Rs) (c_X9_take : Nat → Int32 → PH → Option Rs) (k97 k103 : Kn) : Kn := (a_il 3 (a_ic 60 (a_lt (a_al 0 (a_gI 8 523 (a_z (a_al 0 (a_gI 8 526 (a_al 0 (a_gR 8 513 1 (a_gR 1 66 16 (a_al 0 (a_gI 8 516 (a_ald 16 1024 (a_eq (a_al 0 (a_ic 1 (a_pI 8 523 k97))) (a_al 0 (a_il 2 (a_vI 8 1 (FW_T8I c_X9_directionFrom) (a_is 2 (a_al 0 (a_il 2 (a_vV 8 1 (FW_T8I c_X9_take) k97)))))))))))))))) k103))) k103)))
set_option maxRecDepth 100000 in
theorem X9_go_s46 {z : CZ} {k97 k103 : Kn} (hk97 : SK (X9_go_x z) 97 k97) (hk103 : SK (X9_go_x z) 103 k103) : SK (X9_go_x z) 46 (X9_go_b46 X9_directionFrom X9_take k97 k103) := (s_iloadn (pc := 46) dX9_go_46 rfl (s_bipush (pc := 47) dX9_go_47 c_bp_60 (s_cmpge (pc := 49) dX9_go_49 (by decide) hk103 (s_aloadn (pc := 52) dX9_go_52 rfl (s_gI (pc := 53) (f := 11) ko_8 (by decide) rfl rfl w_344 dX9_go_53 (s_ifne (pc := 56) dX9_go_56 (by decide) hk103 (s_aloadn (pc := 59) dX9_go_59 rfl (s_gI (pc := 60) (f := 14) ko_8 (by decide) rfl rfl w_350 dX9_go_60 (s_aloadn (pc := 63) dX9_go_63 rfl (s_gR (pc := 64) (f := 1) ko_8 (by decide) rfl rfl w_333 dX9_go_64 (s_gR (pc := 67) (f := 2) ko_1 (by decide) rfl rfl w_222 dX9_go_67 (s_aloadn (pc := 70) dX9_go_70 rfl (s_gI (pc := 71) (f := 4) ko_8 (by decide) rfl rfl w_336 dX9_go_71 (s_iald (pc := 74) (by decide) (by decide) rfl rfl rfl dX9_go_74 (s_cmpne (pc := 75) dX9_go_75 (by decide) (s_aloadn (pc := 86) dX9_go_86 rfl (s_iloadn (pc := 87) dX9_go_87 rfl (s_vI (pc := 88) (run_virtual (X9_directionFrom_gd _) (show 3 < 4 by decide) cy_X9_directionFrom (by decide) rfl w_990 w_s17 w_988 dX9_go_88) (s_istoren (pc := 91) dX9_go_91 rfl (show 2 < 4 by decide) (s_aloadn (pc := 92) dX9_go_92 rfl (s_iloadn (pc := 93) dX9_go_93 rfl (s_vV (pc := 94) (run_virtual (X9_take_gd _) (show 2 < 4 by decide) cy_X9_take (by decide) rfl w_1004 w_s19 w_1002 dX9_go_94) hk97))))))) (s_aloadn (pc := 78) dX9_go_78 rfl (s_iconst (pc := 79) dX9_go_79 c_ic_1 (s_pI (pc := 80) (f := 11) ko_8 (by decide) rfl rfl rfl (by decide +kernel) w_344 dX9_go_80 (s_goto (pc := 83) dX9_go_83 (by decide) hk97)))))))))))))))))))
noncomputable def X9_go_b97 (k46 : Kn) : Kn := (a_inc 3 1 k46)
set_option maxRecDepth 100000 in
theorem X9_go_s97 {z : CZ} {k46 : Kn} (hk46 : SK (X9_go_x z) 46 k46) : SK (X9_go_x z) 97 (X9_go_b97 k46) := (s_iinc (pc := 97) dX9_go_97 c_ic_1 (show 3 < 4 by decide) (s_goto (pc := 100) dX9_go_100 (by decide) hk46))
noncomputable def X9_go_b103 : Kn := (a_al 0 (a_gI 8 523 a_ir))
set_option maxRecDepth 100000 in
theorem X9_go_s103 {z : CZ} : SK (X9_go_x z) 103 (X9_go_b103) := (s_aloadn (pc := 103) dX9_go_103 rfl (s_gI (pc := 104) (f := 11) ko_8 (by decide) rfl rfl w_344 dX9_go_104 (s_ir (pc := 107) rfl dX9_go_107)))
noncomputable def X9_go_u30 (g : Nat → Int32 → PH → Option Rs) : Kn := fun ls st h => gL 0 st (gT 8 ls 0 fun t => gI ls 1 fun x1 => g t x1 h)
noncomputable def X9_go_u46 (g : Nat → Int32 → Int32 → PH → Option Rs) : Kn := fun ls st h => gL 0 st (gT 8 ls 0 fun t => gI ls 2 fun x2 => gI ls 3 fun x3 => g t x2 x3 h)
noncomputable def X9_go_u97 (g : Nat → Int32 → Int32 → PH → Option Rs) : Kn := fun ls st h => gL 0 st (gT 8 ls 0 fun t => gI ls 2 fun x2 => gI ls 3 fun x3 => g t x2 x3 h)
noncomputable def X9_go_u103 (g : Nat → PH → Option Rs) : Kn := fun ls st h => gL 0 st (gT 8 ls 0 fun t => g t h)
noncomputable def X9_go_f0 (g30 : Nat → Int32 → PH → Option Rs) (t : Nat) (x1 : Int32) (h : PH) : Option Rs :=
  wr (pI h 521 t 0 ((hI h 521 t 0) + 1)) fun h1 =>
  wr (pI h1 524 t 0 0) fun h2 =>
  wr (pI h2 525 t 0 0) fun h3 =>
  wr (pI h3 527 t 0 (-1)) fun h4 =>
  wr (pI h4 526 t 0 x1) fun h5 =>
  g30 t x1 h5
set_option maxRecDepth 100000 in
theorem X9_go_l0 (g30 : Nat → Int32 → PH → Option Rs) (t : Nat) (x1 : Int32) (h : PH) : X9_go_b0 (X9_go_u30 g30) [some (.inr (8, t + 1)), some (.inl x1), none, none] [] h = X9_go_f0 g30 t x1 h := rfl
theorem X9_go_m0 {g30 G30 : Nat → Int32 → PH → Option Rs} (hg30 : ∀ a0 a1 a2, Mo (g30 a0 a1 a2) (G30 a0 a1 a2)) (t : Nat) (x1 : Int32) (h : PH) : Mo (X9_go_f0 g30 t x1 h) (X9_go_f0 G30 t x1 h) := (mo_wr fun h1 => (mo_wr fun h2 => (mo_wr fun h3 => (mo_wr fun h4 => (mo_wr fun h5 => (hg30 t x1 h5))))))
noncomputable def X9_go_f30 (g46 : Nat → Int32 → Int32 → PH → Option Rs) (t : Nat) (x1 : Int32) (h : PH) : Option Rs :=
  nn (hR h 522 t 0) fun r6 =>
  ix 0 (hL h 36 r6) fun j7 =>
  wr (pI h 2304 r6 j7 x1) fun h8 =>
  wr (pI h8 523 t 0 0) fun h9 =>
  g46 t (-1) 0 h9
set_option maxRecDepth 100000 in
theorem X9_go_l30 (g46 : Nat → Int32 → Int32 → PH → Option Rs) (t : Nat) (x1 : Int32) (h : PH) : X9_go_b30 (X9_go_u46 g46) [some (.inr (8, t + 1)), some (.inl x1), none, none] [] h = X9_go_f30 g46 t x1 h := rfl
theorem X9_go_m30 {g46 G46 : Nat → Int32 → Int32 → PH → Option Rs} (hg46 : ∀ a0 a1 a2 a3, Mo (g46 a0 a1 a2 a3) (G46 a0 a1 a2 a3)) (t : Nat) (x1 : Int32) (h : PH) : Mo (X9_go_f30 g46 t x1 h) (X9_go_f30 G46 t x1 h) := (mo_nn fun r6 => (mo_ix fun j7 => (mo_wr fun h8 => (mo_wr fun h9 => (hg46 t (-1) 0 h9)))))
theorem X9_go_w30 {z : CZ} {g46 : Nat → Int32 → Int32 → PH → Option Rs} (hk46 : SK (X9_go_x z) 46 (X9_go_u46 g46)) : SK (X9_go_x z) 30 (X9_go_u30 (X9_go_f30 g46)) := by
  intro ls st h r e
  obtain ⟨hst, e⟩ := gL_of e
  obtain ⟨t, q0, e⟩ := gT_of e
  obtain ⟨x1, q1, e⟩ := gI_of e
  rw [st_0 hst]
  exact WK.sub (canon := [some (.inr (8, t + 1)), some (.inl x1), none, none]) rfl ⟨q0, q1, trivial⟩ (X9_go_s30 hk46 _ _ _ _ ((X9_go_l30 g46 t x1 h).trans e))
noncomputable def X9_go_f46 (c_X9_directionFrom : Nat → Int32 → PH → Option Rs) (c_X9_take : Nat → Int32 → PH → Option Rs) (g97 : Nat → Int32 → Int32 → PH → Option Rs) (g103 : Nat → PH → Option Rs) (t : Nat) (x2 : Int32) (x3 : Int32) (h : PH) : Option Rs :=
  if x3 < 60 then
    if (hI h 523 t 0) = 0 then
      nn (hR h 513 t 0) fun r10 =>
      nn (hR h 66 r10 0) fun r11 =>
      ix (hI h 516 t 0) (hL h 16 r11) fun j12 =>
      if (hI h 526 t 0) = (hI h 1024 r11 j12) then
        wr (pI h 523 t 0 1) fun h16 =>
        g97 t x2 x3 h16
      else
        cI (c_X9_directionFrom t x2 h) fun v14 h13 =>
        cV (c_X9_take t v14 h13) fun h15 =>
        g97 t v14 x3 h15
    else
      g103 t h
  else
    g103 t h
set_option maxRecDepth 100000 in
theorem X9_go_l46 (c_X9_directionFrom : Nat → Int32 → PH → Option Rs) (c_X9_take : Nat → Int32 → PH → Option Rs) (g97 : Nat → Int32 → Int32 → PH → Option Rs) (g103 : Nat → PH → Option Rs) (t : Nat) (x2 : Int32) (x3 : Int32) (h : PH) : X9_go_b46 c_X9_directionFrom c_X9_take (X9_go_u97 g97) (X9_go_u103 g103) [some (.inr (8, t + 1)), none, some (.inl x2), some (.inl x3)] [] h = X9_go_f46 c_X9_directionFrom c_X9_take g97 g103 t x2 x3 h := rfl
theorem X9_go_m46 {c_X9_directionFrom : Nat → Int32 → PH → Option Rs} {c_X9_take : Nat → Int32 → PH → Option Rs} {g97 G97 : Nat → Int32 → Int32 → PH → Option Rs} {g103 G103 : Nat → PH → Option Rs} (hg97 : ∀ a0 a1 a2 a3, Mo (g97 a0 a1 a2 a3) (G97 a0 a1 a2 a3)) (hg103 : ∀ a0 a1, Mo (g103 a0 a1) (G103 a0 a1)) (t : Nat) (x2 : Int32) (x3 : Int32) (h : PH) : Mo (X9_go_f46 c_X9_directionFrom c_X9_take g97 g103 t x2 x3 h) (X9_go_f46 c_X9_directionFrom c_X9_take G97 G103 t x2 x3 h) := (mo_if (mo_if (mo_nn fun r10 => (mo_nn fun r11 => (mo_ix fun j12 => (mo_if (mo_wr fun h16 => (hg97 t x2 x3 h16)) (mo_cI fun v14 h13 => (mo_cV fun h15 => (hg97 t v14 x3 h15))))))) (hg103 t h)) (hg103 t h))
theorem X9_go_w46 {z : CZ} {g97 : Nat → Int32 → Int32 → PH → Option Rs} {g103 : Nat → PH → Option Rs} (hk97 : SK (X9_go_x z) 97 (X9_go_u97 g97)) (hk103 : SK (X9_go_x z) 103 (X9_go_u103 g103)) : SK (X9_go_x z) 46 (X9_go_u46 (X9_go_f46 X9_directionFrom X9_take g97 g103)) := by
  intro ls st h r e
  obtain ⟨hst, e⟩ := gL_of e
  obtain ⟨t, q0, e⟩ := gT_of e
  obtain ⟨x2, q1, e⟩ := gI_of e
  obtain ⟨x3, q2, e⟩ := gI_of e
  rw [st_0 hst]
  exact WK.sub (canon := [some (.inr (8, t + 1)), none, some (.inl x2), some (.inl x3)]) rfl ⟨q0, q1, q2, trivial⟩ (X9_go_s46 hk97 hk103 _ _ _ _ ((X9_go_l46 X9_directionFrom X9_take g97 g103 t x2 x3 h).trans e))
noncomputable def X9_go_f97 (g46 : Nat → Int32 → Int32 → PH → Option Rs) (t : Nat) (x2 : Int32) (x3 : Int32) (h : PH) : Option Rs :=
  g46 t x2 (x3 + 1) h
set_option maxRecDepth 100000 in
theorem X9_go_l97 (g46 : Nat → Int32 → Int32 → PH → Option Rs) (t : Nat) (x2 : Int32) (x3 : Int32) (h : PH) : X9_go_b97 (X9_go_u46 g46) [some (.inr (8, t + 1)), none, some (.inl x2), some (.inl x3)] [] h = X9_go_f97 g46 t x2 x3 h := rfl
theorem X9_go_m97 {g46 G46 : Nat → Int32 → Int32 → PH → Option Rs} (hg46 : ∀ a0 a1 a2 a3, Mo (g46 a0 a1 a2 a3) (G46 a0 a1 a2 a3)) (t : Nat) (x2 : Int32) (x3 : Int32) (h : PH) : Mo (X9_go_f97 g46 t x2 x3 h) (X9_go_f97 G46 t x2 x3 h) := (hg46 t x2 (x3 + 1) h)
theorem X9_go_w97 {z : CZ} {g46 : Nat → Int32 → Int32 → PH → Option Rs} (hk46 : SK (X9_go_x z) 46 (X9_go_u46 g46)) : SK (X9_go_x z) 97 (X9_go_u97 (X9_go_f97 g46)) := by
  intro ls st h r e
  obtain ⟨hst, e⟩ := gL_of e
  obtain ⟨t, q0, e⟩ := gT_of e
  obtain ⟨x2, q1, e⟩ := gI_of e
  obtain ⟨x3, q2, e⟩ := gI_of e
  rw [st_0 hst]
  exact WK.sub (canon := [some (.inr (8, t + 1)), none, some (.inl x2), some (.inl x3)]) rfl ⟨q0, q1, q2, trivial⟩ (X9_go_s97 hk46 _ _ _ _ ((X9_go_l97 g46 t x2 x3 h).trans e))
noncomputable def X9_go_f103 (t : Nat) (h : PH) : Option Rs :=
  some (some (.inl (hI h 523 t 0)), h)
set_option maxRecDepth 100000 in
theorem X9_go_l103 (t : Nat) (h : PH) : X9_go_b103 [some (.inr (8, t + 1)), none, none, none] [] h = X9_go_f103 t h := rfl
theorem X9_go_w103 {z : CZ} : SK (X9_go_x z) 103 (X9_go_u103 (X9_go_f103)) := by
  intro ls st h r e
  obtain ⟨hst, e⟩ := gL_of e
  obtain ⟨t, q0, e⟩ := gT_of e
  rw [st_0 hst]
  exact WK.sub (canon := [some (.inr (8, t + 1)), none, none, none]) rfl ⟨q0, trivial⟩ (X9_go_s103 _ _ _ _ ((X9_go_l103 t h).trans e))
noncomputable def X9_go_g30 (G : (Nat → Int32 → Int32 → PH → Option Rs)) (t : Nat) (x1 : Int32) (h : PH) : Option Rs := X9_go_f30 (G) t x1 h
noncomputable def X9_go_g0 (G : (Nat → Int32 → Int32 → PH → Option Rs)) (t : Nat) (x1 : Int32) (h : PH) : Option Rs := X9_go_f0 (X9_go_g30 G) t x1 h
noncomputable def X9_go_g97 (G : (Nat → Int32 → Int32 → PH → Option Rs)) (t : Nat) (x2 : Int32) (x3 : Int32) (h : PH) : Option Rs := X9_go_f97 (G) t x2 x3 h
noncomputable def X9_go_g103 (G : (Nat → Int32 → Int32 → PH → Option Rs)) (t : Nat) (h : PH) : Option Rs := X9_go_f103 t h
noncomputable def X9_go_g46 (G : (Nat → Int32 → Int32 → PH → Option Rs)) (t : Nat) (x2 : Int32) (x3 : Int32) (h : PH) : Option Rs := X9_go_f46 X9_directionFrom X9_take (X9_go_g97 G) (X9_go_g103 G) t x2 x3 h
theorem X9_go_v30 {z : CZ} {G : (Nat → Int32 → Int32 → PH → Option Rs)} (hG46 : SK (X9_go_x z) 46 (X9_go_u46 (G))) : SK (X9_go_x z) 30 (X9_go_u30 (X9_go_g30 G)) := X9_go_w30 hG46
theorem X9_go_v97 {z : CZ} {G : (Nat → Int32 → Int32 → PH → Option Rs)} (hG46 : SK (X9_go_x z) 46 (X9_go_u46 (G))) : SK (X9_go_x z) 97 (X9_go_u97 (X9_go_g97 G)) := X9_go_w97 hG46
theorem X9_go_v103 {z : CZ} {G : (Nat → Int32 → Int32 → PH → Option Rs)} (hG46 : SK (X9_go_x z) 46 (X9_go_u46 (G))) : SK (X9_go_x z) 103 (X9_go_u103 (X9_go_g103 G)) := X9_go_w103
theorem X9_go_v46 {z : CZ} {G : (Nat → Int32 → Int32 → PH → Option Rs)} (hG46 : SK (X9_go_x z) 46 (X9_go_u46 (G))) : SK (X9_go_x z) 46 (X9_go_u46 (X9_go_g46 G)) := X9_go_w46 (X9_go_v97 hG46) (X9_go_v103 hG46)
noncomputable def X9_go_fam : Nat → (Nat → Int32 → Int32 → PH → Option Rs)
  | 0 => fun _ _ _ _ => none
  | n + 1 => X9_go_g46 (X9_go_fam n)
theorem X9_go_k {z : CZ} : ∀ n, SK (X9_go_x z) 46 (X9_go_u46 (X9_go_fam n))
  | 0 => (fun ls st h r e => by
      obtain ⟨_, e⟩ := gL_of e
      obtain ⟨_, _, e⟩ := gT_of e
      obtain ⟨_, _, e⟩ := gI_of e
      obtain ⟨_, _, e⟩ := gI_of e
      cases e)
  | n + 1 => by
    obtain ih46 := X9_go_k n
    exact X9_go_v46 ih46
theorem X9_go_n30 {G G' : (Nat → Int32 → Int32 → PH → Option Rs)} (hg46 : ∀ a0 a1 a2 a3, Mo ((G) a0 a1 a2 a3) ((G') a0 a1 a2 a3)) (t : Nat) (x1 : Int32) (h : PH) : Mo (X9_go_g30 G t x1 h) (X9_go_g30 G' t x1 h) := X9_go_m30 hg46 t x1 h
theorem X9_go_n0 {G G' : (Nat → Int32 → Int32 → PH → Option Rs)} (hg46 : ∀ a0 a1 a2 a3, Mo ((G) a0 a1 a2 a3) ((G') a0 a1 a2 a3)) (t : Nat) (x1 : Int32) (h : PH) : Mo (X9_go_g0 G t x1 h) (X9_go_g0 G' t x1 h) := X9_go_m0 (fun a0 a1 a2 => X9_go_n30 hg46 a0 a1 a2) t x1 h
theorem X9_go_n97 {G G' : (Nat → Int32 → Int32 → PH → Option Rs)} (hg46 : ∀ a0 a1 a2 a3, Mo ((G) a0 a1 a2 a3) ((G') a0 a1 a2 a3)) (t : Nat) (x2 : Int32) (x3 : Int32) (h : PH) : Mo (X9_go_g97 G t x2 x3 h) (X9_go_g97 G' t x2 x3 h) := X9_go_m97 hg46 t x2 x3 h
theorem X9_go_n103 {G G' : (Nat → Int32 → Int32 → PH → Option Rs)} (hg46 : ∀ a0 a1 a2 a3, Mo ((G) a0 a1 a2 a3) ((G') a0 a1 a2 a3)) (t : Nat) (h : PH) : Mo (X9_go_g103 G t h) (X9_go_g103 G' t h) := mo_rf
theorem X9_go_n46 {G G' : (Nat → Int32 → Int32 → PH → Option Rs)} (hg46 : ∀ a0 a1 a2 a3, Mo ((G) a0 a1 a2 a3) ((G') a0 a1 a2 a3)) (t : Nat) (x2 : Int32) (x3 : Int32) (h : PH) : Mo (X9_go_g46 G t x2 x3 h) (X9_go_g46 G' t x2 x3 h) := X9_go_m46 (fun a0 a1 a2 a3 => X9_go_n97 hg46 a0 a1 a2 a3) (fun a0 a1 => X9_go_n103 hg46 a0 a1) t x2 x3 h
theorem X9_go_fm : ∀ n, (∀ a0 a1 a2 a3, Mo ((X9_go_fam n) a0 a1 a2 a3) ((X9_go_fam (n + 1)) a0 a1 a2 a3))
  | 0 => fun _ _ _ _ => mo_no
  | n + 1 => by
    obtain ih46 := X9_go_fm n
    exact fun a0 a1 a2 a3 => X9_go_n46 ih46 a0 a1 a2 a3
noncomputable def X9_go (t : Nat) (x1 : Int32) (h : PH) : Option Rs := lim (fun n => X9_go_g0 (X9_go_fam n) t x1 h)
theorem X9_go_iff {t : Nat} {x1 : Int32} {h : PH} {r : Rs} : X9_go t x1 h = some r ↔ ∃ n, X9_go_g0 (X9_go_fam n) t x1 h = some r := lim_iff (fun n => by
  obtain ih46 := X9_go_fm n
  exact X9_go_n0 ih46 t x1 h)
noncomputable abbrev X9_go_F : List PV → PH → Option Rs := FW_T8I (X9_go)
set_option maxRecDepth 100000 in
theorem X9_go_gd (l : Launch) : Gd l 4 yX9_go cX9_go 4 (some .int) (X9_go_F)   := Gd_of (by decide +kernel) (fun z hzl as h r e => by
  obtain ⟨hst, e⟩ := gL_of e
  obtain ⟨t, q0, e⟩ := gT_of e
  obtain ⟨x1, q1, e⟩ := gI_of e
  rw [st_2 hst q0 q1]
  obtain ⟨n, e⟩ := lim_of e
  obtain hG46 := X9_go_k (z := z) n
  exact ⟨show 2 ≤ 4 by decide, X9_go_s0 (X9_go_v30 hG46) _ _ _ _ ((X9_go_l0 (X9_go_g30 (X9_go_fam n)) t x1 h).trans e)⟩)
abbrev X11_walkOf_x (z : CZ) : CX := mx RX11 cX11_walkOf 5 33 (some (.object "StrangerSigns$Walker")) "walkOf" z
noncomputable def X11_walkOf_b0 (c_X9_enter : Nat → Nat → PH → Option Rs) (c_X9_headFor : Nat → Int32 → PH → Option Rs) (c_X9_go : Nat → Int32 → PH → Option Rs) : Kn := (a_al 0 (a_gR 10 643 37 (a_il 3 (a_rald 37 2368 8 (a_as 4 (a_al 4 (a_al 0 (a_gR 10 640 1 (a_vV 8 1 (FW_T8R1 c_X9_enter) (a_al 4 (a_il 2 (a_vV 8 1 (FW_T8I c_X9_headFor) (a_al 4 (a_il 1 (a_vI 8 1 (FW_T8I c_X9_go) (a_pop (a_al 4 a_ar)))))))))))))))))
set_option maxRecDepth 100000 in
theorem X11_walkOf_s0 {z : CZ} : SK (X11_walkOf_x z) 0 (X11_walkOf_b0 X9_enter X9_headFor X9_go) := (s_aloadn (pc := 0) dX11_walkOf_0 rfl (s_gR (pc := 1) (f := 3) ko_10 (by decide) rfl rfl w_507 dX11_walkOf_1 (s_iloadn (pc := 4) dX11_walkOf_4 rfl (s_rald (pc := 5) (by decide) (by decide) rfl rfl rfl dX11_walkOf_5 (s_astore (pc := 6) dX11_walkOf_6 (show 4 < 5 by decide) (s_aload (pc := 8) dX11_walkOf_8 (s_aloadn (pc := 10) dX11_walkOf_10 rfl (s_gR (pc := 11) (f := 0) ko_10 (by decide) rfl rfl w_504 dX11_walkOf_11 (s_vV (pc := 14) (run_virtual (X9_enter_gd _) (show 32 < 33 by decide) cy_X9_enter (by decide) rfl w_960 w_961 w_959 dX11_walkOf_14) (s_aload (pc := 17) dX11_walkOf_17 (s_iloadn (pc := 19) dX11_walkOf_19 rfl (s_vV (pc := 20) (run_virtual (X9_headFor_gd _) (show 2 < 33 by decide) cy_X9_headFor (by decide) rfl w_972 w_973 w_971 dX11_walkOf_20) (s_aload (pc := 23) dX11_walkOf_23 (s_iloadn (pc := 25) dX11_walkOf_25 rfl (s_vI (pc := 26) (run_virtual (X9_go_gd _) (show 4 < 33 by decide) cy_X9_go (by decide) rfl w_985 w_986 w_984 dX11_walkOf_26) (s_pop (pc := 29) dX11_walkOf_29 (s_aload (pc := 30) dX11_walkOf_30 (s_ar (pc := 32) (Or.inl ⟨_, rfl⟩) dX11_walkOf_32))))))))))))))))))
noncomputable def X11_walkOf_f0 (c_X9_enter : Nat → Nat → PH → Option Rs) (c_X9_headFor : Nat → Int32 → PH → Option Rs) (c_X9_go : Nat → Int32 → PH → Option Rs) (t : Nat) (x1 : Int32) (x2 : Int32) (x3 : Int32) (h : PH) : Option Rs :=
  nn (hR h 643 t 0) fun r1 =>
  ix x3 (hL h 37 r1) fun j2 =>
  nn (hR h 2368 r1 j2) fun r3 =>
  cV (c_X9_enter r3 (hR h 640 t 0) h) fun h4 =>
  nn (hR h 2368 r1 j2) fun r5 =>
  cV (c_X9_headFor r5 x2 h4) fun h6 =>
  nn (hR h 2368 r1 j2) fun r7 =>
  cI (c_X9_go r7 x1 h6) fun v9 h8 =>
  some (some (.inr (8, hR h 2368 r1 j2)), h8)
set_option maxRecDepth 100000 in
theorem X11_walkOf_l0 (c_X9_enter : Nat → Nat → PH → Option Rs) (c_X9_headFor : Nat → Int32 → PH → Option Rs) (c_X9_go : Nat → Int32 → PH → Option Rs) (t : Nat) (x1 : Int32) (x2 : Int32) (x3 : Int32) (h : PH) : X11_walkOf_b0 c_X9_enter c_X9_headFor c_X9_go [some (.inr (10, t + 1)), some (.inl x1), some (.inl x2), some (.inl x3), none] [] h = X11_walkOf_f0 c_X9_enter c_X9_headFor c_X9_go t x1 x2 x3 h := rfl
noncomputable def X11_walkOf_g0 (t : Nat) (x1 : Int32) (x2 : Int32) (x3 : Int32) (h : PH) : Option Rs := X11_walkOf_f0 X9_enter X9_headFor X9_go t x1 x2 x3 h
noncomputable def X11_walkOf (t : Nat) (x1 : Int32) (x2 : Int32) (x3 : Int32) (h : PH) : Option Rs := X11_walkOf_g0 t x1 x2 x3 h
noncomputable abbrev X11_walkOf_F : List PV → PH → Option Rs := FW_T10III (X11_walkOf)
set_option maxRecDepth 100000 in
theorem X11_walkOf_gd (l : Launch) : Gd l 33 yX11_walkOf cX11_walkOf 5 (some (.object "StrangerSigns$Walker")) (X11_walkOf_F)   := Gd_of (by decide +kernel) (fun z hzl as h r e => by
  obtain ⟨hst, e⟩ := gL_of e
  obtain ⟨t, q0, e⟩ := gT_of e
  obtain ⟨x1, q1, e⟩ := gI_of e
  obtain ⟨x2, q2, e⟩ := gI_of e
  obtain ⟨x3, q3, e⟩ := gI_of e
  rw [st_4 hst q0 q1 q2 q3]
  exact ⟨show 4 ≤ 5 by decide, X11_walkOf_s0 _ _ _ _ ((X11_walkOf_l0 X9_enter X9_headFor X9_go t x1 x2 x3 h).trans e)⟩)
abbrev X11_walk_x (z : CZ) : CX := mx RX11 cX11_walk 6 34 (some .int) "walk" z
noncomputable def X11_walk_b0 (c_X11_isTrip : Nat → Int32 → Int32 → Int32 → PH → Option Rs) (c_X11_isWithin : Int32 → Int32 → PH → Option Rs) (c_X11_walkOf : Nat → Int32 → Int32 → Int32 → PH → Option Rs) (c_X11_orNone : Int32 → PH → Option Rs) : Kn := (a_al 0 (a_il 1 (a_il 2 (a_il 3 (a_vI 10 3 (FW_T10III c_X11_isTrip) (a_z (a_ic (-1000000001) a_ir) (a_il 4 (a_ic 5 (a_sI 2 (FW_II c_X11_isWithin) (a_z (a_ic (-1000000001) a_ir) (a_al 0 (a_il 1 (a_il 2 (a_il 3 (a_vR 10 8 3 (FW_T10III c_X11_walkOf) (a_as 5 (a_il 4 (a_sw [(0, (a_al 5 (a_gI 8 523 a_ir))), (1, (a_al 5 (a_gI 8 524 a_ir))), (2, (a_al 5 (a_gI 8 526 a_ir))), (3, (a_al 5 (a_gI 8 525 a_ir)))] (a_al 5 (a_gI 8 527 (a_sI 1 (FW_I c_X11_orNone) a_ir)))))))))))))))))))))
set_option maxRecDepth 100000 in
theorem X11_walk_s0 {z : CZ} : SK (X11_walk_x z) 0 (X11_walk_b0 X11_isTrip X11_isWithin X11_walkOf X11_orNone) := (s_aloadn (pc := 0) dX11_walk_0 rfl (s_iloadn (pc := 1) dX11_walk_1 rfl (s_iloadn (pc := 2) dX11_walk_2 rfl (s_iloadn (pc := 3) dX11_walk_3 rfl (s_vI (pc := 4) (run_virtual (X11_isTrip_gd _) (show 2 < 34 by decide) cy_X11_isTrip (by decide) rfl w_953 w_s14 w_951 dX11_walk_4) (s_ifeq (pc := 7) dX11_walk_7 (by decide) (s_ldc (pc := 19) w_551 dX11_walk_19 (s_ir (pc := 21) rfl dX11_walk_21)) (s_iload (pc := 10) dX11_walk_10 (s_iconst (pc := 12) dX11_walk_12 c_ic_5 (s_sI (pc := 13) (run_static (X11_isWithin_gd _) (show 0 < 34 by decide) cy_X11_isWithin w_549 w_552 dX11_walk_13) (s_ifne (pc := 16) dX11_walk_16 (by decide) (s_aloadn (pc := 22) dX11_walk_22 rfl (s_iloadn (pc := 23) dX11_walk_23 rfl (s_iloadn (pc := 24) dX11_walk_24 rfl (s_iloadn (pc := 25) dX11_walk_25 rfl (s_vR (pc := 26) (run_virtual (X11_walkOf_gd _) (show 33 < 34 by decide) cy_X11_walkOf (by decide) rfl w_957 w_s15 w_955 dX11_walk_26) (s_astore (pc := 29) dX11_walk_29 (show 5 < 6 by decide) (s_iload (pc := 31) dX11_walk_31 (s_table (pc := 33) dX11_walk_33 (by decide) (by decide) ⟨c_ti_0, ⟨_, by decide, (s_aload (pc := 64) dX11_walk_64 (s_gI (pc := 66) (f := 11) ko_8 (by decide) rfl rfl w_345 dX11_walk_66 (s_ir (pc := 69) rfl dX11_walk_69)))⟩, ⟨c_ti_1, ⟨_, by decide, (s_aload (pc := 70) dX11_walk_70 (s_gI (pc := 72) (f := 12) ko_8 (by decide) rfl rfl w_347 dX11_walk_72 (s_ir (pc := 75) rfl dX11_walk_75)))⟩, ⟨c_ti_2, ⟨_, by decide, (s_aload (pc := 76) dX11_walk_76 (s_gI (pc := 78) (f := 14) ko_8 (by decide) rfl rfl w_351 dX11_walk_78 (s_ir (pc := 81) rfl dX11_walk_81)))⟩, ⟨c_ti_3, ⟨_, by decide, (s_aload (pc := 82) dX11_walk_82 (s_gI (pc := 84) (f := 13) ko_8 (by decide) rfl rfl w_349 dX11_walk_84 (s_ir (pc := 87) rfl dX11_walk_87)))⟩, trivial⟩⟩⟩⟩ (s_aload (pc := 88) dX11_walk_88 (s_gI (pc := 90) (f := 15) ko_8 (by decide) rfl rfl w_353 dX11_walk_90 (s_sI (pc := 93) (run_static (X11_orNone_gd _) (show 0 < 34 by decide) cy_X11_orNone w_609 w_608 dX11_walk_93) (s_ir (pc := 96) rfl dX11_walk_96)))))))))))) (s_ldc (pc := 19) w_551 dX11_walk_19 (s_ir (pc := 21) rfl dX11_walk_21))))))))))))
noncomputable def X11_walk_f0 (c_X11_isTrip : Nat → Int32 → Int32 → Int32 → PH → Option Rs) (c_X11_isWithin : Int32 → Int32 → PH → Option Rs) (c_X11_walkOf : Nat → Int32 → Int32 → Int32 → PH → Option Rs) (c_X11_orNone : Int32 → PH → Option Rs) (t : Nat) (x1 : Int32) (x2 : Int32) (x3 : Int32) (x4 : Int32) (h : PH) : Option Rs :=
  cI (c_X11_isTrip t x1 x2 x3 h) fun v2 h1 =>
  if v2 = 0 then
    some (some (.inl (-1000000001)), h1)
  else
    cI (c_X11_isWithin x4 5 h1) fun v4 h3 =>
    if v4 = 0 then
      some (some (.inl (-1000000001)), h3)
    else
      cR 8 (c_X11_walkOf t x1 x2 x3 h3) fun r6 h5 =>
      if x4 = 0 then
        nn r6 fun r7 =>
        some (some (.inl (hI h5 523 r7 0)), h5)
      else
      if x4 = 1 then
        nn r6 fun r8 =>
        some (some (.inl (hI h5 524 r8 0)), h5)
      else
      if x4 = 2 then
        nn r6 fun r9 =>
        some (some (.inl (hI h5 526 r9 0)), h5)
      else
      if x4 = 3 then
        nn r6 fun r10 =>
        some (some (.inl (hI h5 525 r10 0)), h5)
      else
        nn r6 fun r11 =>
        cI (c_X11_orNone (hI h5 527 r11 0) h5) fun v13 h12 =>
        some (some (.inl v13), h12)
set_option maxRecDepth 100000 in
theorem X11_walk_l0 (c_X11_isTrip : Nat → Int32 → Int32 → Int32 → PH → Option Rs) (c_X11_isWithin : Int32 → Int32 → PH → Option Rs) (c_X11_walkOf : Nat → Int32 → Int32 → Int32 → PH → Option Rs) (c_X11_orNone : Int32 → PH → Option Rs) (t : Nat) (x1 : Int32) (x2 : Int32) (x3 : Int32) (x4 : Int32) (h : PH) : X11_walk_b0 c_X11_isTrip c_X11_isWithin c_X11_walkOf c_X11_orNone [some (.inr (10, t + 1)), some (.inl x1), some (.inl x2), some (.inl x3), some (.inl x4), none] [] h = X11_walk_f0 c_X11_isTrip c_X11_isWithin c_X11_walkOf c_X11_orNone t x1 x2 x3 x4 h := rfl
noncomputable def X11_walk_g0 (t : Nat) (x1 : Int32) (x2 : Int32) (x3 : Int32) (x4 : Int32) (h : PH) : Option Rs := X11_walk_f0 X11_isTrip X11_isWithin X11_walkOf X11_orNone t x1 x2 x3 x4 h
noncomputable def X11_walk (t : Nat) (x1 : Int32) (x2 : Int32) (x3 : Int32) (x4 : Int32) (h : PH) : Option Rs := X11_walk_g0 t x1 x2 x3 x4 h
noncomputable abbrev X11_walk_F : List PV → PH → Option Rs := FW_T10IIII (X11_walk)
set_option maxRecDepth 100000 in
theorem X11_walk_gd (l : Launch) : Gd l 34 yX11_walk cX11_walk 6 (some .int) (X11_walk_F)   := Gd_of (by decide +kernel) (fun z hzl as h r e => by
  obtain ⟨hst, e⟩ := gL_of e
  obtain ⟨t, q0, e⟩ := gT_of e
  obtain ⟨x1, q1, e⟩ := gI_of e
  obtain ⟨x2, q2, e⟩ := gI_of e
  obtain ⟨x3, q3, e⟩ := gI_of e
  obtain ⟨x4, q4, e⟩ := gI_of e
  rw [st_5 hst q0 q1 q2 q3 q4]
  exact ⟨show 5 ≤ 6 by decide, X11_walk_s0 _ _ _ _ ((X11_walk_l0 X11_isTrip X11_isWithin X11_walkOf X11_orNone t x1 x2 x3 x4 h).trans e)⟩)
abbrev X11_via_x (z : CZ) : CX := mx RX11 cX11_via 6 34 (some .int) "via" z
noncomputable def X11_via_b0 (c_X11_isTrip : Nat → Int32 → Int32 → Int32 → PH → Option Rs) (c_X11_walkOf : Nat → Int32 → Int32 → Int32 → PH → Option Rs) : Kn := (a_al 0 (a_il 1 (a_il 2 (a_il 3 (a_vI 10 3 (FW_T10III c_X11_isTrip) (a_z (a_ic (-1000000001) a_ir) (a_il 4 (a_n (a_ic (-1000000001) a_ir) (a_al 0 (a_il 1 (a_il 2 (a_il 3 (a_vR 10 8 3 (FW_T10III c_X11_walkOf) (a_as 5 (a_il 4 (a_al 5 (a_gI 8 525 (a_gt (a_ic (-1000000005) a_ir) (a_il 4 (a_al 5 (a_gR 8 522 36 (a_len 36 (a_lt (a_al 5 (a_gR 8 522 36 (a_il 4 (a_ald 36 2304 a_ir)))) (a_ic (-1000000005) a_ir))))))))))))))))))))))))
set_option maxRecDepth 100000 in
theorem X11_via_s0 {z : CZ} : SK (X11_via_x z) 0 (X11_via_b0 X11_isTrip X11_walkOf) := (s_aloadn (pc := 0) dX11_via_0 rfl (s_iloadn (pc := 1) dX11_via_1 rfl (s_iloadn (pc := 2) dX11_via_2 rfl (s_iloadn (pc := 3) dX11_via_3 rfl (s_vI (pc := 4) (run_virtual (X11_isTrip_gd _) (show 2 < 34 by decide) cy_X11_isTrip (by decide) rfl w_953 w_s14 w_951 dX11_via_4) (s_ifeq (pc := 7) dX11_via_7 (by decide) (s_ldc (pc := 15) w_551 dX11_via_15 (s_ir (pc := 17) rfl dX11_via_17)) (s_iload (pc := 10) dX11_via_10 (s_ifge (pc := 12) dX11_via_12 (by decide) (s_aloadn (pc := 18) dX11_via_18 rfl (s_iloadn (pc := 19) dX11_via_19 rfl (s_iloadn (pc := 20) dX11_via_20 rfl (s_iloadn (pc := 21) dX11_via_21 rfl (s_vR (pc := 22) (run_virtual (X11_walkOf_gd _) (show 33 < 34 by decide) cy_X11_walkOf (by decide) rfl w_957 w_s15 w_955 dX11_via_22) (s_astore (pc := 25) dX11_via_25 (show 5 < 6 by decide) (s_iload (pc := 27) dX11_via_27 (s_aload (pc := 29) dX11_via_29 (s_gI (pc := 31) (f := 13) ko_8 (by decide) rfl rfl w_349 dX11_via_31 (s_cmpgt (pc := 34) dX11_via_34 (by decide) (s_ldc (pc := 59) w_611 dX11_via_59 (s_ir (pc := 61) rfl dX11_via_61)) (s_iload (pc := 37) dX11_via_37 (s_aload (pc := 39) dX11_via_39 (s_gR (pc := 41) (f := 10) ko_8 (by decide) rfl rfl w_343 dX11_via_41 (s_len (pc := 44) (by decide) (by decide) rfl dX11_via_44 (s_cmpge (pc := 45) dX11_via_45 (by decide) (s_ldc (pc := 59) w_611 dX11_via_59 (s_ir (pc := 61) rfl dX11_via_61)) (s_aload (pc := 48) dX11_via_48 (s_gR (pc := 50) (f := 10) ko_8 (by decide) rfl rfl w_343 dX11_via_50 (s_iload (pc := 53) dX11_via_53 (s_iald (pc := 55) (by decide) (by decide) rfl rfl rfl dX11_via_55 (s_goto (pc := 56) dX11_via_56 (by decide) (s_ir (pc := 61) rfl dX11_via_61))))))))))))))))))))) (s_ldc (pc := 15) w_551 dX11_via_15 (s_ir (pc := 17) rfl dX11_via_17))))))))))
noncomputable def X11_via_f0 (c_X11_isTrip : Nat → Int32 → Int32 → Int32 → PH → Option Rs) (c_X11_walkOf : Nat → Int32 → Int32 → Int32 → PH → Option Rs) (t : Nat) (x1 : Int32) (x2 : Int32) (x3 : Int32) (x4 : Int32) (h : PH) : Option Rs :=
  cI (c_X11_isTrip t x1 x2 x3 h) fun v2 h1 =>
  if v2 = 0 then
    some (some (.inl (-1000000001)), h1)
  else
    if x4 < 0 then
      some (some (.inl (-1000000001)), h1)
    else
      cR 8 (c_X11_walkOf t x1 x2 x3 h1) fun r4 h3 =>
      nn r4 fun r5 =>
      if (hI h3 525 r5 0) < x4 then
        some (some (.inl (-1000000005)), h3)
      else
        nn r4 fun r6 =>
        nn (hR h3 522 r6 0) fun r7 =>
        if x4 < (Int32.ofNat (hL h3 36 r7)) then
          nn r4 fun r8 =>
          nn (hR h3 522 r8 0) fun r9 =>
          ix x4 (hL h3 36 r9) fun j10 =>
          some (some (.inl (hI h3 2304 r9 j10)), h3)
        else
          some (some (.inl (-1000000005)), h3)
set_option maxRecDepth 100000 in
theorem X11_via_l0 (c_X11_isTrip : Nat → Int32 → Int32 → Int32 → PH → Option Rs) (c_X11_walkOf : Nat → Int32 → Int32 → Int32 → PH → Option Rs) (t : Nat) (x1 : Int32) (x2 : Int32) (x3 : Int32) (x4 : Int32) (h : PH) : X11_via_b0 c_X11_isTrip c_X11_walkOf [some (.inr (10, t + 1)), some (.inl x1), some (.inl x2), some (.inl x3), some (.inl x4), none] [] h = X11_via_f0 c_X11_isTrip c_X11_walkOf t x1 x2 x3 x4 h := rfl
noncomputable def X11_via_g0 (t : Nat) (x1 : Int32) (x2 : Int32) (x3 : Int32) (x4 : Int32) (h : PH) : Option Rs := X11_via_f0 X11_isTrip X11_walkOf t x1 x2 x3 x4 h
noncomputable def X11_via (t : Nat) (x1 : Int32) (x2 : Int32) (x3 : Int32) (x4 : Int32) (h : PH) : Option Rs := X11_via_g0 t x1 x2 x3 x4 h
noncomputable abbrev X11_via_F : List PV → PH → Option Rs := FW_T10IIII (X11_via)
set_option maxRecDepth 100000 in
theorem X11_via_gd (l : Launch) : Gd l 34 yX11_via cX11_via 6 (some .int) (X11_via_F)   := Gd_of (by decide +kernel) (fun z hzl as h r e => by
  obtain ⟨hst, e⟩ := gL_of e
  obtain ⟨t, q0, e⟩ := gT_of e
  obtain ⟨x1, q1, e⟩ := gI_of e
  obtain ⟨x2, q2, e⟩ := gI_of e
  obtain ⟨x3, q3, e⟩ := gI_of e
  obtain ⟨x4, q4, e⟩ := gI_of e
  rw [st_5 hst q0 q1 q2 q3 q4]
  exact ⟨show 5 ≤ 6 by decide, X11_via_s0 _ _ _ _ ((X11_via_l0 X11_isTrip X11_walkOf t x1 x2 x3 x4 h).trans e)⟩)
abbrev X11_roadsFor_x (z : CZ) : CX := mx RX11 cX11_roadsFor 3 4 (some (.object "StrangerSigns$Roads")) "roadsFor" z
noncomputable def X11_roadsFor_b0 (c_X4_survey : Nat → Nat → PH → Option Rs) : Kn := (a_al 0 (a_gR 10 643 37 (a_il 1 (a_rald 37 2368 8 (a_gR 8 512 3 (a_as 2 (a_al 2 (a_al 0 (a_gR 10 640 1 (a_vV 3 1 (FW_T3R1 c_X4_survey) (a_al 2 a_ar)))))))))))
set_option maxRecDepth 100000 in
theorem X11_roadsFor_s0 {z : CZ} : SK (X11_roadsFor_x z) 0 (X11_roadsFor_b0 X4_survey) := (s_aloadn (pc := 0) dX11_roadsFor_0 rfl (s_gR (pc := 1) (f := 3) ko_10 (by decide) rfl rfl w_507 dX11_roadsFor_1 (s_iloadn (pc := 4) dX11_roadsFor_4 rfl (s_rald (pc := 5) (by decide) (by decide) rfl rfl rfl dX11_roadsFor_5 (s_gR (pc := 6) (f := 0) ko_8 (by decide) rfl rfl w_332 dX11_roadsFor_6 (s_astoren (pc := 9) dX11_roadsFor_9 rfl (show 2 < 3 by decide) (s_aloadn (pc := 10) dX11_roadsFor_10 rfl (s_aloadn (pc := 11) dX11_roadsFor_11 rfl (s_gR (pc := 12) (f := 0) ko_10 (by decide) rfl rfl w_504 dX11_roadsFor_12 (s_vV (pc := 15) (run_virtual (X4_survey_gd _) (show 3 < 4 by decide) cy_X4_survey (by decide) rfl w_964 w_965 w_1022 dX11_roadsFor_15) (s_aloadn (pc := 18) dX11_roadsFor_18 rfl (s_ar (pc := 19) (Or.inl ⟨_, rfl⟩) dX11_roadsFor_19))))))))))))
noncomputable def X11_roadsFor_f0 (c_X4_survey : Nat → Nat → PH → Option Rs) (t : Nat) (x1 : Int32) (h : PH) : Option Rs :=
  nn (hR h 643 t 0) fun r1 =>
  ix x1 (hL h 37 r1) fun j2 =>
  nn (hR h 2368 r1 j2) fun r3 =>
  nn (hR h 512 r3 0) fun r4 =>
  cV (c_X4_survey r4 (hR h 640 t 0) h) fun h5 =>
  some (some (.inr (3, hR h 512 r3 0)), h5)
set_option maxRecDepth 100000 in
theorem X11_roadsFor_l0 (c_X4_survey : Nat → Nat → PH → Option Rs) (t : Nat) (x1 : Int32) (h : PH) : X11_roadsFor_b0 c_X4_survey [some (.inr (10, t + 1)), some (.inl x1), none] [] h = X11_roadsFor_f0 c_X4_survey t x1 h := rfl
noncomputable def X11_roadsFor_g0 (t : Nat) (x1 : Int32) (h : PH) : Option Rs := X11_roadsFor_f0 X4_survey t x1 h
noncomputable def X11_roadsFor (t : Nat) (x1 : Int32) (h : PH) : Option Rs := X11_roadsFor_g0 t x1 h
noncomputable abbrev X11_roadsFor_F : List PV → PH → Option Rs := FW_T10I (X11_roadsFor)
set_option maxRecDepth 100000 in
theorem X11_roadsFor_gd (l : Launch) : Gd l 4 yX11_roadsFor cX11_roadsFor 3 (some (.object "StrangerSigns$Roads")) (X11_roadsFor_F)   := Gd_of (by decide +kernel) (fun z hzl as h r e => by
  obtain ⟨hst, e⟩ := gL_of e
  obtain ⟨t, q0, e⟩ := gT_of e
  obtain ⟨x1, q1, e⟩ := gI_of e
  rw [st_2 hst q0 q1]
  exact ⟨show 2 ≤ 3 by decide, X11_roadsFor_s0 _ _ _ _ ((X11_roadsFor_l0 X4_survey t x1 h).trans e)⟩)
abbrev X4_shortenOne_x (z : CZ) : CX := mx RX4 cX4_shortenOne 5 0 (some .boolean) "shortenOne" z
noncomputable def X4_shortenOne_b0 (k22 : Kn) : Kn := (a_al 0 (a_gR 3 195 25 (a_il 2 (a_ald 25 1600 (a_il 3 (a_b (fun a b => a + b) (a_al 0 (a_gR 3 195 25 (a_il 1 (a_ald 25 1600 (a_lt (a_ic 1 k22) (a_ic 0 k22))))))))))))
set_option maxRecDepth 100000 in
theorem X4_shortenOne_s0 {z : CZ} {k22 : Kn} (hk22 : SK (X4_shortenOne_x z) 22 k22) : SK (X4_shortenOne_x z) 0 (X4_shortenOne_b0 k22) := (s_aloadn (pc := 0) dX4_shortenOne_0 rfl (s_gR (pc := 1) (f := 3) ko_3 (by decide) rfl rfl w_316 dX4_shortenOne_1 (s_iloadn (pc := 4) dX4_shortenOne_4 rfl (s_iald (pc := 5) (by decide) (by decide) rfl rfl rfl dX4_shortenOne_5 (s_iloadn (pc := 6) dX4_shortenOne_6 rfl (s_iadd (pc := 7) dX4_shortenOne_7 (s_aloadn (pc := 8) dX4_shortenOne_8 rfl (s_gR (pc := 9) (f := 3) ko_3 (by decide) rfl rfl w_316 dX4_shortenOne_9 (s_iloadn (pc := 12) dX4_shortenOne_12 rfl (s_iald (pc := 13) (by decide) (by decide) rfl rfl rfl dX4_shortenOne_13 (s_cmpge (pc := 14) dX4_shortenOne_14 (by decide) (s_iconst (pc := 21) dX4_shortenOne_21 c_ic_0 hk22) (s_iconst (pc := 17) dX4_shortenOne_17 c_ic_1 (s_goto (pc := 18) dX4_shortenOne_18 (by decide) hk22)))))))))))))
noncomputable def X4_shortenOne_b22 : Kn := (a_is 4 (a_il 4 (a_z (a_il 4 a_zr) (a_al 0 (a_gR 3 195 25 (a_il 1 (a_al 0 (a_gR 3 195 25 (a_il 2 (a_ald 25 1600 (a_il 3 (a_b (fun a b => a + b) (a_ast 25 1600 (fun a => a) (a_il 4 a_zr))))))))))))))
set_option maxRecDepth 100000 in
theorem X4_shortenOne_s22 {z : CZ} : SK (X4_shortenOne_x z) 22 (X4_shortenOne_b22) := (s_istore (pc := 22) dX4_shortenOne_22 (show 4 < 5 by decide) (s_iload (pc := 24) dX4_shortenOne_24 (s_ifeq (pc := 26) dX4_shortenOne_26 (by decide) (s_iload (pc := 43) dX4_shortenOne_43 (s_zr (pc := 45) rfl dX4_shortenOne_45)) (s_aloadn (pc := 29) dX4_shortenOne_29 rfl (s_gR (pc := 30) (f := 3) ko_3 (by decide) rfl rfl w_316 dX4_shortenOne_30 (s_iloadn (pc := 33) dX4_shortenOne_33 rfl (s_aloadn (pc := 34) dX4_shortenOne_34 rfl (s_gR (pc := 35) (f := 3) ko_3 (by decide) rfl rfl w_316 dX4_shortenOne_35 (s_iloadn (pc := 38) dX4_shortenOne_38 rfl (s_iald (pc := 39) (by decide) (by decide) rfl rfl rfl dX4_shortenOne_39 (s_iloadn (pc := 40) dX4_shortenOne_40 rfl (s_iadd (pc := 41) dX4_shortenOne_41 (s_iast (pc := 42) (by decide) (by decide) rfl rfl rfl dX4_shortenOne_42 (s_iload (pc := 43) dX4_shortenOne_43 (s_zr (pc := 45) rfl dX4_shortenOne_45)))))))))))))))
noncomputable def X4_shortenOne_u22 (g : Nat → Int32 → Int32 → Int32 → Int32 → PH → Option Rs) : Kn := fun ls st h => gL 1 st (gT 3 ls 0 fun t => gI ls 1 fun x1 => gI ls 2 fun x2 => gI ls 3 fun x3 => gI (st.map some) 0 fun s0 => g t x1 x2 x3 s0 h)
noncomputable def X4_shortenOne_f0 (g22 : Nat → Int32 → Int32 → Int32 → Int32 → PH → Option Rs) (t : Nat) (x1 : Int32) (x2 : Int32) (x3 : Int32) (h : PH) : Option Rs :=
  nn (hR h 195 t 0) fun r1 =>
  ix x2 (hL h 25 r1) fun j2 =>
  nn (hR h 195 t 0) fun r3 =>
  ix x1 (hL h 25 r3) fun j4 =>
  if ((hI h 1600 r1 j2) + x3) < (hI h 1600 r3 j4) then
    g22 t x1 x2 x3 1 h
  else
    g22 t x1 x2 x3 0 h
set_option maxRecDepth 100000 in
theorem X4_shortenOne_l0 (g22 : Nat → Int32 → Int32 → Int32 → Int32 → PH → Option Rs) (t : Nat) (x1 : Int32) (x2 : Int32) (x3 : Int32) (h : PH) : X4_shortenOne_b0 (X4_shortenOne_u22 g22) [some (.inr (3, t + 1)), some (.inl x1), some (.inl x2), some (.inl x3), none] [] h = X4_shortenOne_f0 g22 t x1 x2 x3 h := rfl
theorem X4_shortenOne_m0 {g22 G22 : Nat → Int32 → Int32 → Int32 → Int32 → PH → Option Rs} (hg22 : ∀ a0 a1 a2 a3 a4 a5, Mo (g22 a0 a1 a2 a3 a4 a5) (G22 a0 a1 a2 a3 a4 a5)) (t : Nat) (x1 : Int32) (x2 : Int32) (x3 : Int32) (h : PH) : Mo (X4_shortenOne_f0 g22 t x1 x2 x3 h) (X4_shortenOne_f0 G22 t x1 x2 x3 h) := (mo_nn fun r1 => (mo_ix fun j2 => (mo_nn fun r3 => (mo_ix fun j4 => (mo_if (hg22 t x1 x2 x3 1 h) (hg22 t x1 x2 x3 0 h))))))
noncomputable def X4_shortenOne_f22 (t : Nat) (x1 : Int32) (x2 : Int32) (x3 : Int32) (s0 : Int32) (h : PH) : Option Rs :=
  if s0 = 0 then
    bz s0 <|
    some (some (.inl s0), h)
  else
    nn (hR h 195 t 0) fun r5 =>
    ix x2 (hL h 25 r5) fun j6 =>
    nn (hR h 195 t 0) fun r7 =>
    ix x1 (hL h 25 r7) fun j8 =>
    wr (pI h 1600 r7 j8 ((hI h 1600 r5 j6) + x3)) fun h9 =>
    bz s0 <|
    some (some (.inl s0), h9)
set_option maxRecDepth 100000 in
theorem X4_shortenOne_l22 (t : Nat) (x1 : Int32) (x2 : Int32) (x3 : Int32) (s0 : Int32) (h : PH) : X4_shortenOne_b22 [some (.inr (3, t + 1)), some (.inl x1), some (.inl x2), some (.inl x3), none] [.inl s0] h = X4_shortenOne_f22 t x1 x2 x3 s0 h := rfl
theorem X4_shortenOne_w22 {z : CZ} : SK (X4_shortenOne_x z) 22 (X4_shortenOne_u22 (X4_shortenOne_f22)) := by
  intro ls st h r e
  obtain ⟨hst, e⟩ := gL_of e
  obtain ⟨t, q0, e⟩ := gT_of e
  obtain ⟨x1, q1, e⟩ := gI_of e
  obtain ⟨x2, q2, e⟩ := gI_of e
  obtain ⟨x3, q3, e⟩ := gI_of e
  obtain ⟨s0, q4, e⟩ := gI_of e
  rw [st_1 hst q4]
  exact WK.sub (canon := [some (.inr (3, t + 1)), some (.inl x1), some (.inl x2), some (.inl x3), none]) rfl ⟨q0, q1, q2, q3, trivial⟩ (X4_shortenOne_s22 _ _ _ _ ((X4_shortenOne_l22 t x1 x2 x3 s0 h).trans e))
noncomputable def X4_shortenOne_g22 (t : Nat) (x1 : Int32) (x2 : Int32) (x3 : Int32) (s0 : Int32) (h : PH) : Option Rs := X4_shortenOne_f22 t x1 x2 x3 s0 h
noncomputable def X4_shortenOne_g0 (t : Nat) (x1 : Int32) (x2 : Int32) (x3 : Int32) (h : PH) : Option Rs := X4_shortenOne_f0 (X4_shortenOne_g22) t x1 x2 x3 h
theorem X4_shortenOne_v22 {z : CZ} : SK (X4_shortenOne_x z) 22 (X4_shortenOne_u22 (X4_shortenOne_g22)) := X4_shortenOne_w22
noncomputable def X4_shortenOne (t : Nat) (x1 : Int32) (x2 : Int32) (x3 : Int32) (h : PH) : Option Rs := X4_shortenOne_g0 t x1 x2 x3 h
noncomputable abbrev X4_shortenOne_F : List PV → PH → Option Rs := FW_T3III (X4_shortenOne)
set_option maxRecDepth 100000 in
theorem X4_shortenOne_gd (l : Launch) : Gd l 0 yX4_shortenOne cX4_shortenOne 5 (some .boolean) (X4_shortenOne_F)   := Gd_of (by decide +kernel) (fun z hzl as h r e => by
  obtain ⟨hst, e⟩ := gL_of e
  obtain ⟨t, q0, e⟩ := gT_of e
  obtain ⟨x1, q1, e⟩ := gI_of e
  obtain ⟨x2, q2, e⟩ := gI_of e
  obtain ⟨x3, q3, e⟩ := gI_of e
  rw [st_4 hst q0 q1 q2 q3]
  exact ⟨show 4 ≤ 5 by decide, X4_shortenOne_s0 (X4_shortenOne_v22) _ _ _ _ ((X4_shortenOne_l0 (X4_shortenOne_g22) t x1 x2 x3 h).trans e)⟩)
