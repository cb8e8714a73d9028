abbrev X3_lookAtWord_x (z : CZ) : CX := mx RX3 cX3_lookAtWord 3 1 none "lookAtWord" z
noncomputable def X3_lookAtWord_b0 (c_X3_isLetter : Nat → Int32 → PH → Option Rs) (k9 : Kn) : Kn := (a_al 0 (a_al 0 (a_gI 2 131 (a_vI 2 1 (FW_T2I c_X3_isLetter) (a_is 2 k9)))))
set_option maxRecDepth 100000 in
theorem X3_lookAtWord_s0 {z : CZ} {k9 : Kn} (hk9 : SK (X3_lookAtWord_x z) 9 k9) : SK (X3_lookAtWord_x z) 0 (X3_lookAtWord_b0 X3_isLetter k9) := (s_aloadn (pc := 0) dX3_lookAtWord_0 rfl (s_aloadn (pc := 1) dX3_lookAtWord_1 rfl (s_gI (pc := 2) (f := 3) ko_2 (by decide) rfl rfl w_416 dX3_lookAtWord_2 (s_vI (pc := 5) (run_virtual (X3_isLetter_gd _) (show 0 < 1 by decide) cy_X3_isLetter (by decide) rfl w_743 w_s2 w_741 dX3_lookAtWord_5) (s_istoren (pc := 8) dX3_lookAtWord_8 rfl (show 2 < 3 by decide) hk9)))))
noncomputable def X3_lookAtWord_b9 (c_X3_isDigit : Nat → Int32 → PH → Option Rs) (c_X3_isLetter : Nat → Int32 → PH → Option Rs) (k49 k62 : Kn) : Kn := (a_al 0 (a_gI 2 132 (a_al 0 (a_gI 2 129 (a_lt (a_il 2 (a_z (a_al 0 (a_al 0 (a_gI 2 132 (a_vI 2 1 (FW_T2I c_X3_isDigit) (a_z k62 k49))))) (a_al 0 (a_al 0 (a_gI 2 132 (a_vI 2 1 (FW_T2I c_X3_isLetter) (a_z k62 k49))))))) k62)))))
set_option maxRecDepth 100000 in
theorem X3_lookAtWord_s9 {z : CZ} {k49 k62 : Kn} (hk49 : SK (X3_lookAtWord_x z) 49 k49) (hk62 : SK (X3_lookAtWord_x z) 62 k62) : SK (X3_lookAtWord_x z) 9 (X3_lookAtWord_b9 X3_isDigit X3_isLetter k49 k62) := (s_aloadn (pc := 9) dX3_lookAtWord_9 rfl (s_gI (pc := 10) (f := 4) ko_2 (by decide) rfl rfl w_417 dX3_lookAtWord_10 (s_aloadn (pc := 13) dX3_lookAtWord_13 rfl (s_gI (pc := 14) (f := 1) ko_2 (by decide) rfl rfl w_413 dX3_lookAtWord_14 (s_cmpge (pc := 17) dX3_lookAtWord_17 (by decide) hk62 (s_iloadn (pc := 20) dX3_lookAtWord_20 rfl (s_ifeq (pc := 21) dX3_lookAtWord_21 (by decide) (s_aloadn (pc := 38) dX3_lookAtWord_38 rfl (s_aloadn (pc := 39) dX3_lookAtWord_39 rfl (s_gI (pc := 40) (f := 4) ko_2 (by decide) rfl rfl w_417 dX3_lookAtWord_40 (s_vI (pc := 43) (run_virtual (X3_isDigit_gd _) (show 0 < 1 by decide) cy_X3_isDigit (by decide) rfl w_747 w_s3 w_745 dX3_lookAtWord_43) (s_ifeq (pc := 46) dX3_lookAtWord_46 (by decide) hk62 hk49))))) (s_aloadn (pc := 24) dX3_lookAtWord_24 rfl (s_aloadn (pc := 25) dX3_lookAtWord_25 rfl (s_gI (pc := 26) (f := 4) ko_2 (by decide) rfl rfl w_417 dX3_lookAtWord_26 (s_vI (pc := 29) (run_virtual (X3_isLetter_gd _) (show 0 < 1 by decide) cy_X3_isLetter (by decide) rfl w_743 w_s2 w_741 dX3_lookAtWord_29) (s_ifeq (pc := 32) dX3_lookAtWord_32 (by decide) hk62 (s_goto (pc := 35) dX3_lookAtWord_35 (by decide) hk49)))))))))))))
noncomputable def X3_lookAtWord_b49 (k9 : Kn) : Kn := (a_al 0 (a_dup (a_gI 2 132 (a_ic 1 (a_b (fun a b => a + b) (a_pI 2 132 k9))))))
set_option maxRecDepth 100000 in
theorem X3_lookAtWord_s49 {z : CZ} {k9 : Kn} (hk9 : SK (X3_lookAtWord_x z) 9 k9) : SK (X3_lookAtWord_x z) 49 (X3_lookAtWord_b49 k9) := (s_aloadn (pc := 49) dX3_lookAtWord_49 rfl (s_dup (pc := 50) dX3_lookAtWord_50 (s_gI (pc := 51) (f := 4) ko_2 (by decide) rfl rfl w_417 dX3_lookAtWord_51 (s_iconst (pc := 54) dX3_lookAtWord_54 c_ic_1 (s_iadd (pc := 55) dX3_lookAtWord_55 (s_pI (pc := 56) (f := 4) ko_2 (by decide) rfl rfl rfl (by decide +kernel) w_417 dX3_lookAtWord_56 (s_goto (pc := 59) dX3_lookAtWord_59 (by decide) hk9)))))))
noncomputable def X3_lookAtWord_b62 (k87 : Kn) : Kn := (a_al 0 (a_al 0 (a_gI 2 131 (a_il 1 (a_eq (a_ic (-4) k87) (a_il 2 (a_z (a_ic (-3) k87) (a_ic (-2) k87))))))))
set_option maxRecDepth 100000 in
theorem X3_lookAtWord_s62 {z : CZ} {k87 : Kn} (hk87 : SK (X3_lookAtWord_x z) 87 k87) : SK (X3_lookAtWord_x z) 62 (X3_lookAtWord_b62 k87) := (s_aloadn (pc := 62) dX3_lookAtWord_62 rfl (s_aloadn (pc := 63) dX3_lookAtWord_63 rfl (s_gI (pc := 64) (f := 3) ko_2 (by decide) rfl rfl w_416 dX3_lookAtWord_64 (s_iloadn (pc := 67) dX3_lookAtWord_67 rfl (s_cmpne (pc := 68) dX3_lookAtWord_68 (by decide) (s_iloadn (pc := 76) dX3_lookAtWord_76 rfl (s_ifeq (pc := 77) dX3_lookAtWord_77 (by decide) (s_bipush (pc := 85) dX3_lookAtWord_85 c_bp_m3 hk87) (s_bipush (pc := 80) dX3_lookAtWord_80 c_bp_m2 (s_goto (pc := 82) dX3_lookAtWord_82 (by decide) hk87)))) (s_bipush (pc := 71) dX3_lookAtWord_71 c_bp_m4 (s_goto (pc := 73) dX3_lookAtWord_73 (by decide) hk87)))))))
noncomputable def X3_lookAtWord_b87 : Kn := (a_pI 2 130 a_vr)
set_option maxRecDepth 100000 in
theorem X3_lookAtWord_s87 {z : CZ} : SK (X3_lookAtWord_x z) 87 (X3_lookAtWord_b87) := (s_pI (pc := 87) (f := 2) ko_2 (by decide) rfl rfl rfl (by decide +kernel) w_415 dX3_lookAtWord_87 (s_vr (pc := 90) rfl dX3_lookAtWord_90))
noncomputable def X3_lookAtWord_u9 (g : Nat → Int32 → Int32 → PH → Option Rs) : Kn := fun ls st h => gL 0 st (gT 2 ls 0 fun t => gI ls 1 fun x1 => gI ls 2 fun x2 => g t x1 x2 h)
noncomputable def X3_lookAtWord_u49 (g : Nat → Int32 → Int32 → PH → Option Rs) : Kn := fun ls st h => gL 0 st (gT 2 ls 0 fun t => gI ls 1 fun x1 => gI ls 2 fun x2 => g t x1 x2 h)
noncomputable def X3_lookAtWord_u62 (g : Nat → Int32 → Int32 → PH → Option Rs) : Kn := fun ls st h => gL 0 st (gT 2 ls 0 fun t => gI ls 1 fun x1 => gI ls 2 fun x2 => g t x1 x2 h)
noncomputable def X3_lookAtWord_u87 (g : Int32 → Nat → PH → Option Rs) : Kn := fun ls st h => gL 2 st (gI (st.map some) 0 fun s0 => gT 2 (st.map some) 1 fun s1 => g s0 s1 h)
noncomputable def X3_lookAtWord_f0 (c_X3_isLetter : Nat → Int32 → PH → Option Rs) (g9 : Nat → Int32 → Int32 → PH → Option Rs) (t : Nat) (x1 : Int32) (h : PH) : Option Rs :=
  cI (c_X3_isLetter t (hI h 131 t 0) h) fun v2 h1 =>
  g9 t x1 v2 h1
set_option maxRecDepth 100000 in
theorem X3_lookAtWord_l0 (c_X3_isLetter : Nat → Int32 → PH → Option Rs) (g9 : Nat → Int32 → Int32 → PH → Option Rs) (t : Nat) (x1 : Int32) (h : PH) : X3_lookAtWord_b0 c_X3_isLetter (X3_lookAtWord_u9 g9) [some (.inr (2, t + 1)), some (.inl x1), none] [] h = X3_lookAtWord_f0 c_X3_isLetter g9 t x1 h := rfl
theorem X3_lookAtWord_m0 {c_X3_isLetter : Nat → Int32 → PH → Option Rs} {g9 G9 : Nat → Int32 → Int32 → PH → Option Rs} (hg9 : ∀ a0 a1 a2 a3, Mo (g9 a0 a1 a2 a3) (G9 a0 a1 a2 a3)) (t : Nat) (x1 : Int32) (h : PH) : Mo (X3_lookAtWord_f0 c_X3_isLetter g9 t x1 h) (X3_lookAtWord_f0 c_X3_isLetter G9 t x1 h) := (mo_cI fun v2 h1 => (hg9 t x1 v2 h1))
noncomputable def X3_lookAtWord_f9 (c_X3_isDigit : Nat → Int32 → PH → Option Rs) (c_X3_isLetter : Nat → Int32 → PH → Option Rs) (g49 : Nat → Int32 → Int32 → PH → Option Rs) (g62 : Nat → Int32 → Int32 → PH → Option Rs) (t : Nat) (x1 : Int32) (x2 : Int32) (h : PH) : Option Rs :=
  if (hI h 132 t 0) < (hI h 129 t 0) then
    if x2 = 0 then
      cI (c_X3_isDigit t (hI h 132 t 0) h) fun v4 h3 =>
      if v4 = 0 then
        g62 t x1 x2 h3
      else
        g49 t x1 x2 h3
    else
      cI (c_X3_isLetter t (hI h 132 t 0) h) fun v6 h5 =>
      if v6 = 0 then
        g62 t x1 x2 h5
      else
        g49 t x1 x2 h5
  else
    g62 t x1 x2 h
set_option maxRecDepth 100000 in
theorem X3_lookAtWord_l9 (c_X3_isDigit : Nat → Int32 → PH → Option Rs) (c_X3_isLetter : Nat → Int32 → PH → Option Rs) (g49 : Nat → Int32 → Int32 → PH → Option Rs) (g62 : Nat → Int32 → Int32 → PH → Option Rs) (t : Nat) (x1 : Int32) (x2 : Int32) (h : PH) : X3_lookAtWord_b9 c_X3_isDigit c_X3_isLetter (X3_lookAtWord_u49 g49) (X3_lookAtWord_u62 g62) [some (.inr (2, t + 1)), some (.inl x1), some (.inl x2)] [] h = X3_lookAtWord_f9 c_X3_isDigit c_X3_isLetter g49 g62 t x1 x2 h := rfl
theorem X3_lookAtWord_m9 {c_X3_isDigit : Nat → Int32 → PH → Option Rs} {c_X3_isLetter : Nat → Int32 → PH → Option Rs} {g49 G49 : Nat → Int32 → Int32 → PH → Option Rs} {g62 G62 : Nat → Int32 → Int32 → PH → Option Rs} (hg49 : ∀ a0 a1 a2 a3, Mo (g49 a0 a1 a2 a3) (G49 a0 a1 a2 a3)) (hg62 : ∀ a0 a1 a2 a3, Mo (g62 a0 a1 a2 a3) (G62 a0 a1 a2 a3)) (t : Nat) (x1 : Int32) (x2 : Int32) (h : PH) : Mo (X3_lookAtWord_f9 c_X3_isDigit c_X3_isLetter g49 g62 t x1 x2 h) (X3_lookAtWord_f9 c_X3_isDigit c_X3_isLetter G49 G62 t x1 x2 h) := (mo_if (mo_if (mo_cI fun v4 h3 => (mo_if (hg62 t x1 x2 h3) (hg49 t x1 x2 h3))) (mo_cI fun v6 h5 => (mo_if (hg62 t x1 x2 h5) (hg49 t x1 x2 h5)))) (hg62 t x1 x2 h))
theorem X3_lookAtWord_w9 {z : CZ} {g49 : Nat → Int32 → Int32 → PH → Option Rs} {g62 : Nat → Int32 → Int32 → PH → Option Rs} (hk49 : SK (X3_lookAtWord_x z) 49 (X3_lookAtWord_u49 g49)) (hk62 : SK (X3_lookAtWord_x z) 62 (X3_lookAtWord_u62 g62)) : SK (X3_lookAtWord_x z) 9 (X3_lookAtWord_u9 (X3_lookAtWord_f9 X3_isDigit X3_isLetter g49 g62)) := by
  intro ls st h r e
  obtain ⟨hst, e⟩ := gL_of e
  obtain ⟨t, q0, e⟩ := gT_of e
  obtain ⟨x1, q1, e⟩ := gI_of e
  obtain ⟨x2, q2, e⟩ := gI_of e
  rw [st_0 hst]
  exact WK.sub (canon := [some (.inr (2, t + 1)), some (.inl x1), some (.inl x2)]) rfl ⟨q0, q1, q2, trivial⟩ (X3_lookAtWord_s9 hk49 hk62 _ _ _ _ ((X3_lookAtWord_l9 X3_isDigit X3_isLetter g49 g62 t x1 x2 h).trans e))
noncomputable def X3_lookAtWord_f49 (g9 : Nat → Int32 → Int32 → PH → Option Rs) (t : Nat) (x1 : Int32) (x2 : Int32) (h : PH) : Option Rs :=
  wr (pI h 132 t 0 ((hI h 132 t 0) + 1)) fun h7 =>
  g9 t x1 x2 h7
set_option maxRecDepth 100000 in
theorem X3_lookAtWord_l49 (g9 : Nat → Int32 → Int32 → PH → Option Rs) (t : Nat) (x1 : Int32) (x2 : Int32) (h : PH) : X3_lookAtWord_b49 (X3_lookAtWord_u9 g9) [some (.inr (2, t + 1)), some (.inl x1), some (.inl x2)] [] h = X3_lookAtWord_f49 g9 t x1 x2 h := rfl
theorem X3_lookAtWord_m49 {g9 G9 : Nat → Int32 → Int32 → PH → Option Rs} (hg9 : ∀ a0 a1 a2 a3, Mo (g9 a0 a1 a2 a3) (G9 a0 a1 a2 a3)) (t : Nat) (x1 : Int32) (x2 : Int32) (h : PH) : Mo (X3_lookAtWord_f49 g9 t x1 x2 h) (X3_lookAtWord_f49 G9 t x1 x2 h) := (mo_wr fun h7 => (hg9 t x1 x2 h7))
theorem X3_lookAtWord_w49 {z : CZ} {g9 : Nat → Int32 → Int32 → PH → Option Rs} (hk9 : SK (X3_lookAtWord_x z) 9 (X3_lookAtWord_u9 g9)) : SK (X3_lookAtWord_x z) 49 (X3_lookAtWord_u49 (X3_lookAtWord_f49 g9)) := by
  intro ls st h r e
  obtain ⟨hst, e⟩ := gL_of e
  obtain ⟨t, q0, e⟩ := gT_of e
  obtain ⟨x1, q1, e⟩ := gI_of e
  obtain ⟨x2, q2, e⟩ := gI_of e
  rw [st_0 hst]
  exact WK.sub (canon := [some (.inr (2, t + 1)), some (.inl x1), some (.inl x2)]) rfl ⟨q0, q1, q2, trivial⟩ (X3_lookAtWord_s49 hk9 _ _ _ _ ((X3_lookAtWord_l49 g9 t x1 x2 h).trans e))
noncomputable def X3_lookAtWord_f62 (g87 : Int32 → Nat → PH → Option Rs) (t : Nat) (x1 : Int32) (x2 : Int32) (h : PH) : Option Rs :=
  if (hI h 131 t 0) = x1 then
    g87 (-4) t h
  else
    if x2 = 0 then
      g87 (-3) t h
    else
      g87 (-2) t h
set_option maxRecDepth 100000 in
theorem X3_lookAtWord_l62 (g87 : Int32 → Nat → PH → Option Rs) (t : Nat) (x1 : Int32) (x2 : Int32) (h : PH) : X3_lookAtWord_b62 (X3_lookAtWord_u87 g87) [some (.inr (2, t + 1)), some (.inl x1), some (.inl x2)] [] h = X3_lookAtWord_f62 g87 t x1 x2 h := rfl
theorem X3_lookAtWord_m62 {g87 G87 : Int32 → Nat → PH → Option Rs} (hg87 : ∀ a0 a1 a2, Mo (g87 a0 a1 a2) (G87 a0 a1 a2)) (t : Nat) (x1 : Int32) (x2 : Int32) (h : PH) : Mo (X3_lookAtWord_f62 g87 t x1 x2 h) (X3_lookAtWord_f62 G87 t x1 x2 h) := (mo_if (hg87 (-4) t h) (mo_if (hg87 (-3) t h) (hg87 (-2) t h)))
theorem X3_lookAtWord_w62 {z : CZ} {g87 : Int32 → Nat → PH → Option Rs} (hk87 : SK (X3_lookAtWord_x z) 87 (X3_lookAtWord_u87 g87)) : SK (X3_lookAtWord_x z) 62 (X3_lookAtWord_u62 (X3_lookAtWord_f62 g87)) := by
  intro ls st h r e
  obtain ⟨hst, e⟩ := gL_of e
  obtain ⟨t, q0, e⟩ := gT_of e
  obtain ⟨x1, q1, e⟩ := gI_of e
  obtain ⟨x2, q2, e⟩ := gI_of e
  rw [st_0 hst]
  exact WK.sub (canon := [some (.inr (2, t + 1)), some (.inl x1), some (.inl x2)]) rfl ⟨q0, q1, q2, trivial⟩ (X3_lookAtWord_s62 hk87 _ _ _ _ ((X3_lookAtWord_l62 g87 t x1 x2 h).trans e))
noncomputable def X3_lookAtWord_f87 (s0 : Int32) (s1 : Nat) (h : PH) : Option Rs :=
  wr (pI h 130 s1 0 s0) fun h8 =>
  some (none, h8)
set_option maxRecDepth 100000 in
theorem X3_lookAtWord_l87 (s0 : Int32) (s1 : Nat) (h : PH) : X3_lookAtWord_b87 [none, none, none] [.inl s0, .inr (2, s1 + 1)] h = X3_lookAtWord_f87 s0 s1 h := rfl
theorem X3_lookAtWord_w87 {z : CZ} : SK (X3_lookAtWord_x z) 87 (X3_lookAtWord_u87 (X3_lookAtWord_f87)) := by
  intro ls st h r e
  obtain ⟨hst, e⟩ := gL_of e
  obtain ⟨s0, q0, e⟩ := gI_of e
  obtain ⟨s1, q1, e⟩ := gT_of e
  rw [st_2 hst q0 q1]
  exact WK.sub (canon := [none, none, none]) rfl trivial (X3_lookAtWord_s87 _ _ _ _ ((X3_lookAtWord_l87 s0 s1 h).trans e))
noncomputable def X3_lookAtWord_g0 (G : (Nat → Int32 → Int32 → PH → Option Rs)) (t : Nat) (x1 : Int32) (h : PH) : Option Rs := X3_lookAtWord_f0 X3_isLetter (G) t x1 h
noncomputable def X3_lookAtWord_g49 (G : (Nat → Int32 → Int32 → PH → Option Rs)) (t : Nat) (x1 : Int32) (x2 : Int32) (h : PH) : Option Rs := X3_lookAtWord_f49 (G) t x1 x2 h
noncomputable def X3_lookAtWord_g87 (G : (Nat → Int32 → Int32 → PH → Option Rs)) (s0 : Int32) (s1 : Nat) (h : PH) : Option Rs := X3_lookAtWord_f87 s0 s1 h
noncomputable def X3_lookAtWord_g62 (G : (Nat → Int32 → Int32 → PH → Option Rs)) (t : Nat) (x1 : Int32) (x2 : Int32) (h : PH) : Option Rs := X3_lookAtWord_f62 (X3_lookAtWord_g87 G) t x1 x2 h
noncomputable def X3_lookAtWord_g9 (G : (Nat → Int32 → Int32 → PH → Option Rs)) (t : Nat) (x1 : Int32) (x2 : Int32) (h : PH) : Option Rs := X3_lookAtWord_f9 X3_isDigit X3_isLetter (X3_lookAtWord_g49 G) (X3_lookAtWord_g62 G) t x1 x2 h
theorem X3_lookAtWord_v49 {z : CZ} {G : (Nat → Int32 → Int32 → PH → Option Rs)} (hG9 : SK (X3_lookAtWord_x z) 9 (X3_lookAtWord_u9 (G))) : SK (X3_lookAtWord_x z) 49 (X3_lookAtWord_u49 (X3_lookAtWord_g49 G)) := X3_lookAtWord_w49 hG9
theorem X3_lookAtWord_v87 {z : CZ} {G : (Nat → Int32 → Int32 → PH → Option Rs)} (hG9 : SK (X3_lookAtWord_x z) 9 (X3_lookAtWord_u9 (G))) : SK (X3_lookAtWord_x z) 87 (X3_lookAtWord_u87 (X3_lookAtWord_g87 G)) := X3_lookAtWord_w87
theorem X3_lookAtWord_v62 {z : CZ} {G : (Nat → Int32 → Int32 → PH → Option Rs)} (hG9 : SK (X3_lookAtWord_x z) 9 (X3_lookAtWord_u9 (G))) : SK (X3_lookAtWord_x z) 62 (X3_lookAtWord_u62 (X3_lookAtWord_g62 G)) := X3_lookAtWord_w62 (X3_lookAtWord_v87 hG9)
theorem X3_lookAtWord_v9 {z : CZ} {G : (Nat → Int32 → Int32 → PH → Option Rs)} (hG9 : SK (X3_lookAtWord_x z) 9 (X3_lookAtWord_u9 (G))) : SK (X3_lookAtWord_x z) 9 (X3_lookAtWord_u9 (X3_lookAtWord_g9 G)) := X3_lookAtWord_w9 (X3_lookAtWord_v49 hG9) (X3_lookAtWord_v62 hG9)
noncomputable def X3_lookAtWord_fam : Nat → (Nat → Int32 → Int32 → PH → Option Rs)
  | 0 => fun _ _ _ _ => none
  | n + 1 => X3_lookAtWord_g9 (X3_lookAtWord_fam n)
theorem X3_lookAtWord_k {z : CZ} : ∀ n, SK (X3_lookAtWord_x z) 9 (X3_lookAtWord_u9 (X3_lookAtWord_fam n))
  | 0 => (fun ls st h r e => by
      obtain ⟨_, e⟩ := gL_of e
      obtain ⟨_, _, e⟩ := gT_of e
      obtain ⟨_, _, e⟩ := gI_of e
      obtain ⟨_, _, e⟩ := gI_of e
      cases e)
  | n + 1 => by
    obtain ih9 := X3_lookAtWord_k n
    exact X3_lookAtWord_v9 ih9
theorem X3_lookAtWord_n0 {G G' : (Nat → Int32 → Int32 → PH → Option Rs)} (hg9 : ∀ a0 a1 a2 a3, Mo ((G) a0 a1 a2 a3) ((G') a0 a1 a2 a3)) (t : Nat) (x1 : Int32) (h : PH) : Mo (X3_lookAtWord_g0 G t x1 h) (X3_lookAtWord_g0 G' t x1 h) := X3_lookAtWord_m0 hg9 t x1 h
theorem X3_lookAtWord_n49 {G G' : (Nat → Int32 → Int32 → PH → Option Rs)} (hg9 : ∀ a0 a1 a2 a3, Mo ((G) a0 a1 a2 a3) ((G') a0 a1 a2 a3)) (t : Nat) (x1 : Int32) (x2 : Int32) (h : PH) : Mo (X3_lookAtWord_g49 G t x1 x2 h) (X3_lookAtWord_g49 G' t x1 x2 h) := X3_lookAtWord_m49 hg9 t x1 x2 h
theorem X3_lookAtWord_n87 {G G' : (Nat → Int32 → Int32 → PH → Option Rs)} (hg9 : ∀ a0 a1 a2 a3, Mo ((G) a0 a1 a2 a3) ((G') a0 a1 a2 a3)) (s0 : Int32) (s1 : Nat) (h : PH) : Mo (X3_lookAtWord_g87 G s0 s1 h) (X3_lookAtWord_g87 G' s0 s1 h) := mo_rf
theorem X3_lookAtWord_n62 {G G' : (Nat → Int32 → Int32 → PH → Option Rs)} (hg9 : ∀ a0 a1 a2 a3, Mo ((G) a0 a1 a2 a3) ((G') a0 a1 a2 a3)) (t : Nat) (x1 : Int32) (x2 : Int32) (h : PH) : Mo (X3_lookAtWord_g62 G t x1 x2 h) (X3_lookAtWord_g62 G' t x1 x2 h) := X3_lookAtWord_m62 (fun a0 a1 a2 => X3_lookAtWord_n87 hg9 a0 a1 a2) t x1 x2 h
theorem X3_lookAtWord_n9 {G G' : (Nat → Int32 → Int32 → PH → Option Rs)} (hg9 : ∀ a0 a1 a2 a3, Mo ((G) a0 a1 a2 a3) ((G') a0 a1 a2 a3)) (t : Nat) (x1 : Int32) (x2 : Int32) (h : PH) : Mo (X3_lookAtWord_g9 G t x1 x2 h) (X3_lookAtWord_g9 G' t x1 x2 h) := X3_lookAtWord_m9 (fun a0 a1 a2 a3 => X3_lookAtWord_n49 hg9 a0 a1 a2 a3) (fun a0 a1 a2 a3 => X3_lookAtWord_n62 hg9 a0 a1 a2 a3) t x1 x2 h
theorem X3_lookAtWord_fm : ∀ n, (∀ a0 a1 a2 a3, Mo ((X3_lookAtWord_fam n) a0 a1 a2 a3) ((X3_lookAtWord_fam (n + 1)) a0 a1 a2 a3))
  | 0 => fun _ _ _ _ => mo_no
  | n + 1 => by
    obtain ih9 := X3_lookAtWord_fm n
    exact fun a0 a1 a2 a3 => X3_lookAtWord_n9 ih9 a0 a1 a2 a3
noncomputable def X3_lookAtWord (t : Nat) (x1 : Int32) (h : PH) : Option Rs := lim (fun n => X3_lookAtWord_g0 (X3_lookAtWord_fam n) t x1 h)
theorem X3_lookAtWord_iff {t : Nat} {x1 : Int32} {h : PH} {r : Rs} : X3_lookAtWord t x1 h = some r ↔ ∃ n, X3_lookAtWord_g0 (X3_lookAtWord_fam n) t x1 h = some r := lim_iff (fun n => by
  obtain ih9 := X3_lookAtWord_fm n
  exact X3_lookAtWord_n0 ih9 t x1 h)
noncomputable abbrev X3_lookAtWord_F : List PV → PH → Option Rs := FW_T2I (X3_lookAtWord)
set_option maxRecDepth 100000 in
theorem X3_lookAtWord_gd (l : Launch) : Gd l 1 yX3_lookAtWord cX3_lookAtWord 3 none (X3_lookAtWord_F)   := Gd_of (by decide +kernel) (fun z hzl as h r e => by
  obtain ⟨hst, e⟩ := gL_of e
  obtain ⟨t, q0, e⟩ := gT_of e
  obtain ⟨x1, q1, e⟩ := gI_of e
  rw [st_2 hst q0 q1]
  obtain ⟨n, e⟩ := lim_of e
  obtain hG9 := X3_lookAtWord_k (z := z) n
  exact ⟨show 2 ≤ 3 by decide, X3_lookAtWord_s0 hG9 _ _ _ _ ((X3_lookAtWord_l0 X3_isLetter (X3_lookAtWord_fam n) t x1 h).trans e)⟩)
abbrev X3_look_x (z : CZ) : CX := mx RX3 cX3_look 2 2 none "look" z
noncomputable def X3_look_b0 (k18 k26 : Kn) : Kn := (a_al 0 (a_gI 2 130 (a_ic (-2) (a_eq k18 (a_al 0 (a_gI 2 130 (a_ic (-3) (a_eq k18 (a_ic (-1) k26)))))))))
set_option maxRecDepth 100000 in
theorem X3_look_s0 {z : CZ} {k18 k26 : Kn} (hk18 : SK (X3_look_x z) 18 k18) (hk26 : SK (X3_look_x z) 26 k26) : SK (X3_look_x z) 0 (X3_look_b0 k18 k26) := (s_aloadn (pc := 0) dX3_look_0 rfl (s_gI (pc := 1) (f := 2) ko_2 (by decide) rfl rfl w_415 dX3_look_1 (s_bipush (pc := 4) dX3_look_4 c_bp_m2 (s_cmpeq (pc := 6) dX3_look_6 (by decide) hk18 (s_aloadn (pc := 9) dX3_look_9 rfl (s_gI (pc := 10) (f := 2) ko_2 (by decide) rfl rfl w_415 dX3_look_10 (s_bipush (pc := 13) dX3_look_13 c_bp_m3 (s_cmpne (pc := 15) dX3_look_15 (by decide) (s_iconst (pc := 25) dX3_look_25 c_ic_m1 hk26) hk18))))))))
noncomputable def X3_look_b18 (k26 : Kn) : Kn := (a_al 0 (a_gI 2 132 k26))
set_option maxRecDepth 100000 in
theorem X3_look_s18 {z : CZ} {k26 : Kn} (hk26 : SK (X3_look_x z) 26 k26) : SK (X3_look_x z) 18 (X3_look_b18 k26) := (s_aloadn (pc := 18) dX3_look_18 rfl (s_gI (pc := 19) (f := 4) ko_2 (by decide) rfl rfl w_417 dX3_look_19 (s_goto (pc := 22) dX3_look_22 (by decide) hk26)))
noncomputable def X3_look_b26 (k35 : Kn) : Kn := (a_is 1 (a_al 0 (a_al 0 (a_gI 2 132 (a_pI 2 131 k35)))))
set_option maxRecDepth 100000 in
theorem X3_look_s26 {z : CZ} {k35 : Kn} (hk35 : SK (X3_look_x z) 35 k35) : SK (X3_look_x z) 26 (X3_look_b26 k35) := (s_istoren (pc := 26) dX3_look_26 rfl (show 1 < 2 by decide) (s_aloadn (pc := 27) dX3_look_27 rfl (s_aloadn (pc := 28) dX3_look_28 rfl (s_gI (pc := 29) (f := 4) ko_2 (by decide) rfl rfl w_417 dX3_look_29 (s_pI (pc := 32) (f := 3) ko_2 (by decide) rfl rfl rfl (by decide +kernel) w_416 dX3_look_32 hk35)))))
noncomputable def X3_look_b35 (k35 k73 : Kn) : Kn := (a_al 0 (a_gI 2 131 (a_al 0 (a_gI 2 129 (a_lt (a_al 0 (a_gR 2 128 22 (a_al 0 (a_gI 2 131 (a_ald 22 1408 (a_ic 32 (a_eq (a_al 0 (a_dup (a_gI 2 131 (a_ic 1 (a_b (fun a b => a + b) (a_pI 2 131 k35)))))) k73))))))) k73)))))
set_option maxRecDepth 100000 in
theorem X3_look_s35 {z : CZ} {k35 k73 : Kn} (hk35 : SK (X3_look_x z) 35 k35) (hk73 : SK (X3_look_x z) 73 k73) : SK (X3_look_x z) 35 (X3_look_b35 k35 k73) := (s_aloadn (pc := 35) dX3_look_35 rfl (s_gI (pc := 36) (f := 3) ko_2 (by decide) rfl rfl w_416 dX3_look_36 (s_aloadn (pc := 39) dX3_look_39 rfl (s_gI (pc := 40) (f := 1) ko_2 (by decide) rfl rfl w_413 dX3_look_40 (s_cmpge (pc := 43) dX3_look_43 (by decide) hk73 (s_aloadn (pc := 46) dX3_look_46 rfl (s_gR (pc := 47) (f := 0) ko_2 (by decide) rfl rfl w_412 dX3_look_47 (s_aloadn (pc := 50) dX3_look_50 rfl (s_gI (pc := 51) (f := 3) ko_2 (by decide) rfl rfl w_416 dX3_look_51 (s_bald (pc := 54) (by decide) (by decide) rfl rfl rfl dX3_look_54 (s_bipush (pc := 55) dX3_look_55 c_bp_32 (s_cmpne (pc := 57) dX3_look_57 (by decide) hk73 (s_aloadn (pc := 60) dX3_look_60 rfl (s_dup (pc := 61) dX3_look_61 (s_gI (pc := 62) (f := 3) ko_2 (by decide) rfl rfl w_416 dX3_look_62 (s_iconst (pc := 65) dX3_look_65 c_ic_1 (s_iadd (pc := 66) dX3_look_66 (s_pI (pc := 67) (f := 3) ko_2 (by decide) rfl rfl rfl (by decide +kernel) w_416 dX3_look_67 (s_goto (pc := 70) dX3_look_70 (by decide) hk35)))))))))))))))))))
noncomputable def X3_look_b73 (c_X3_isLetter : Nat → Int32 → PH → Option Rs) (c_X3_isDigit : Nat → Int32 → PH → Option Rs) (k122 : Kn) : Kn := (a_al 0 (a_al 0 (a_gI 2 131 (a_pI 2 132 (a_al 0 (a_gI 2 131 (a_al 0 (a_gI 2 129 (a_lt (a_al 0 (a_al 0 (a_gI 2 131 (a_vI 2 1 (FW_T2I c_X3_isLetter) (a_z (a_al 0 (a_al 0 (a_gI 2 131 (a_vI 2 1 (FW_T2I c_X3_isDigit) (a_z (a_al 0 (a_al 0 (a_gR 2 128 22 (a_al 0 (a_gI 2 131 (a_ald 22 1408 (a_ic 255 (a_b (fun a b => a &&& b) (a_pI 2 130 (a_al 0 (a_al 0 (a_gI 2 131 (a_ic 1 (a_b (fun a b => a + b) (a_pI 2 132 a_vr))))))))))))))) k122))))) k122))))) (a_al 0 (a_ic (-1) (a_pI 2 130 a_vr))))))))))))
set_option maxRecDepth 100000 in
theorem X3_look_s73 {z : CZ} {k122 : Kn} (hk122 : SK (X3_look_x z) 122 k122) : SK (X3_look_x z) 73 (X3_look_b73 X3_isLetter X3_isDigit k122) := (s_aloadn (pc := 73) dX3_look_73 rfl (s_aloadn (pc := 74) dX3_look_74 rfl (s_gI (pc := 75) (f := 3) ko_2 (by decide) rfl rfl w_416 dX3_look_75 (s_pI (pc := 78) (f := 4) ko_2 (by decide) rfl rfl rfl (by decide +kernel) w_417 dX3_look_78 (s_aloadn (pc := 81) dX3_look_81 rfl (s_gI (pc := 82) (f := 3) ko_2 (by decide) rfl rfl w_416 dX3_look_82 (s_aloadn (pc := 85) dX3_look_85 rfl (s_gI (pc := 86) (f := 1) ko_2 (by decide) rfl rfl w_413 dX3_look_86 (s_cmplt (pc := 89) dX3_look_89 (by decide) (s_aloadn (pc := 100) dX3_look_100 rfl (s_aloadn (pc := 101) dX3_look_101 rfl (s_gI (pc := 102) (f := 3) ko_2 (by decide) rfl rfl w_416 dX3_look_102 (s_vI (pc := 105) (run_virtual (X3_isLetter_gd _) (show 0 < 2 by decide) cy_X3_isLetter (by decide) rfl w_743 w_s2 w_741 dX3_look_105) (s_ifne (pc := 108) dX3_look_108 (by decide) hk122 (s_aloadn (pc := 111) dX3_look_111 rfl (s_aloadn (pc := 112) dX3_look_112 rfl (s_gI (pc := 113) (f := 3) ko_2 (by decide) rfl rfl w_416 dX3_look_113 (s_vI (pc := 116) (run_virtual (X3_isDigit_gd _) (show 0 < 2 by decide) cy_X3_isDigit (by decide) rfl w_747 w_s3 w_745 dX3_look_116) (s_ifeq (pc := 119) dX3_look_119 (by decide) (s_aloadn (pc := 130) dX3_look_130 rfl (s_aloadn (pc := 131) dX3_look_131 rfl (s_gR (pc := 132) (f := 0) ko_2 (by decide) rfl rfl w_412 dX3_look_132 (s_aloadn (pc := 135) dX3_look_135 rfl (s_gI (pc := 136) (f := 3) ko_2 (by decide) rfl rfl w_416 dX3_look_136 (s_bald (pc := 139) (by decide) (by decide) rfl rfl rfl dX3_look_139 (s_sipush (pc := 140) dX3_look_140 c_sp_255 (s_iand (pc := 143) dX3_look_143 (s_pI (pc := 144) (f := 2) ko_2 (by decide) rfl rfl rfl (by decide +kernel) w_415 dX3_look_144 (s_aloadn (pc := 147) dX3_look_147 rfl (s_aloadn (pc := 148) dX3_look_148 rfl (s_gI (pc := 149) (f := 3) ko_2 (by decide) rfl rfl w_416 dX3_look_149 (s_iconst (pc := 152) dX3_look_152 c_ic_1 (s_iadd (pc := 153) dX3_look_153 (s_pI (pc := 154) (f := 4) ko_2 (by decide) rfl rfl rfl (by decide +kernel) w_417 dX3_look_154 (s_vr (pc := 157) rfl dX3_look_157)))))))))))))))) hk122)))))))))) (s_aloadn (pc := 92) dX3_look_92 rfl (s_iconst (pc := 93) dX3_look_93 c_ic_m1 (s_pI (pc := 94) (f := 2) ko_2 (by decide) rfl rfl rfl (by decide +kernel) w_415 dX3_look_94 (s_goto (pc := 97) dX3_look_97 (by decide) (s_vr (pc := 157) rfl dX3_look_157))))))))))))))
noncomputable def X3_look_b122 (c_X3_lookAtWord : Nat → Int32 → PH → Option Rs) : Kn := (a_al 0 (a_il 1 (a_vV 2 1 (FW_T2I c_X3_lookAtWord) a_vr)))
set_option maxRecDepth 100000 in
theorem X3_look_s122 {z : CZ} : SK (X3_look_x z) 122 (X3_look_b122 X3_lookAtWord) := (s_aloadn (pc := 122) dX3_look_122 rfl (s_iloadn (pc := 123) dX3_look_123 rfl (s_vV (pc := 124) (run_virtual (X3_lookAtWord_gd _) (show 1 < 2 by decide) cy_X3_lookAtWord (by decide) rfl w_751 w_s4 w_749 dX3_look_124) (s_goto (pc := 127) dX3_look_127 (by decide) (s_vr (pc := 157) rfl dX3_look_157)))))
noncomputable def X3_look_u18 (g : Nat → PH → Option Rs) : Kn := fun ls st h => gL 0 st (gT 2 ls 0 fun t => g t h)
noncomputable def X3_look_u26 (g : Nat → Int32 → PH → Option Rs) : Kn := fun ls st h => gL 1 st (gT 2 ls 0 fun t => gI (st.map some) 0 fun s0 => g t s0 h)
noncomputable def X3_look_u35 (g : Nat → Int32 → PH → Option Rs) : Kn := fun ls st h => gL 0 st (gT 2 ls 0 fun t => gI ls 1 fun x1 => g t x1 h)
noncomputable def X3_look_u73 (g : Nat → Int32 → PH → Option Rs) : Kn := fun ls st h => gL 0 st (gT 2 ls 0 fun t => gI ls 1 fun x1 => g t x1 h)
noncomputable def X3_look_u122 (g : Nat → Int32 → PH → Option Rs) : Kn := fun ls st h => gL 0 st (gT 2 ls 0 fun t => gI ls 1 fun x1 => g t x1 h)
noncomputable def X3_look_f0 (g18 : Nat → PH → Option Rs) (g26 : Nat → Int32 → PH → Option Rs) (t : Nat) (h : PH) : Option Rs :=
  if (hI h 130 t 0) = (-2) then
    g18 t h
  else
    if (hI h 130 t 0) = (-3) then
      g18 t h
    else
      g26 t (-1) h
set_option maxRecDepth 100000 in
theorem X3_look_l0 (g18 : Nat → PH → Option Rs) (g26 : Nat → Int32 → PH → Option Rs) (t : Nat) (h : PH) : X3_look_b0 (X3_look_u18 g18) (X3_look_u26 g26) [some (.inr (2, t + 1)), none] [] h = X3_look_f0 g18 g26 t h := rfl
theorem X3_look_m0 {g18 G18 : Nat → PH → Option Rs} {g26 G26 : Nat → Int32 → PH → Option Rs} (hg18 : ∀ a0 a1, Mo (g18 a0 a1) (G18 a0 a1)) (hg26 : ∀ a0 a1 a2, Mo (g26 a0 a1 a2) (G26 a0 a1 a2)) (t : Nat) (h : PH) : Mo (X3_look_f0 g18 g26 t h) (X3_look_f0 G18 G26 t h) := (mo_if (hg18 t h) (mo_if (hg18 t h) (hg26 t (-1) h)))
noncomputable def X3_look_f18 (g26 : Nat → Int32 → PH → Option Rs) (t : Nat) (h : PH) : Option Rs :=
  g26 t (hI h 132 t 0) h
set_option maxRecDepth 100000 in
theorem X3_look_l18 (g26 : Nat → Int32 → PH → Option Rs) (t : Nat) (h : PH) : X3_look_b18 (X3_look_u26 g26) [some (.inr (2, t + 1)), none] [] h = X3_look_f18 g26 t h := rfl
theorem X3_look_m18 {g26 G26 : Nat → Int32 → PH → Option Rs} (hg26 : ∀ a0 a1 a2, Mo (g26 a0 a1 a2) (G26 a0 a1 a2)) (t : Nat) (h : PH) : Mo (X3_look_f18 g26 t h) (X3_look_f18 G26 t h) := (hg26 t (hI h 132 t 0) h)
theorem X3_look_w18 {z : CZ} {g26 : Nat → Int32 → PH → Option Rs} (hk26 : SK (X3_look_x z) 26 (X3_look_u26 g26)) : SK (X3_look_x z) 18 (X3_look_u18 (X3_look_f18 g26)) := by
  intro ls st h r e
  obtain ⟨hst, e⟩ := gL_of e
  obtain ⟨t, q0, e⟩ := gT_of e
  rw [st_0 hst]
  exact WK.sub (canon := [some (.inr (2, t + 1)), none]) rfl ⟨q0, trivial⟩ (X3_look_s18 hk26 _ _ _ _ ((X3_look_l18 g26 t h).trans e))
noncomputable def X3_look_f26 (g35 : Nat → Int32 → PH → Option Rs) (t : Nat) (s0 : Int32) (h : PH) : Option Rs :=
  wr (pI h 131 t 0 (hI h 132 t 0)) fun h1 =>
  g35 t s0 h1
set_option maxRecDepth 100000 in
theorem X3_look_l26 (g35 : Nat → Int32 → PH → Option Rs) (t : Nat) (s0 : Int32) (h : PH) : X3_look_b26 (X3_look_u35 g35) [some (.inr (2, t + 1)), none] [.inl s0] h = X3_look_f26 g35 t s0 h := rfl
theorem X3_look_m26 {g35 G35 : Nat → Int32 → PH → Option Rs} (hg35 : ∀ a0 a1 a2, Mo (g35 a0 a1 a2) (G35 a0 a1 a2)) (t : Nat) (s0 : Int32) (h : PH) : Mo (X3_look_f26 g35 t s0 h) (X3_look_f26 G35 t s0 h) := (mo_wr fun h1 => (hg35 t s0 h1))
theorem X3_look_w26 {z : CZ} {g35 : Nat → Int32 → PH → Option Rs} (hk35 : SK (X3_look_x z) 35 (X3_look_u35 g35)) : SK (X3_look_x z) 26 (X3_look_u26 (X3_look_f26 g35)) := by
  intro ls st h r e
  obtain ⟨hst, e⟩ := gL_of e
  obtain ⟨t, q0, e⟩ := gT_of e
  obtain ⟨s0, q1, e⟩ := gI_of e
  rw [st_1 hst q1]
  exact WK.sub (canon := [some (.inr (2, t + 1)), none]) rfl ⟨q0, trivial⟩ (X3_look_s26 hk35 _ _ _ _ ((X3_look_l26 g35 t s0 h).trans e))
noncomputable def X3_look_f35 (g35 : Nat → Int32 → PH → Option Rs) (g73 : Nat → Int32 → PH → Option Rs) (t : Nat) (x1 : Int32) (h : PH) : Option Rs :=
  if (hI h 131 t 0) < (hI h 129 t 0) then
    nn (hR h 128 t 0) fun r2 =>
    ix (hI h 131 t 0) (hL h 22 r2) fun j3 =>
    if (hI h 1408 r2 j3) = 32 then
      wr (pI h 131 t 0 ((hI h 131 t 0) + 1)) fun h4 =>
      g35 t x1 h4
    else
      g73 t x1 h
  else
    g73 t x1 h
set_option maxRecDepth 100000 in
theorem X3_look_l35 (g35 : Nat → Int32 → PH → Option Rs) (g73 : Nat → Int32 → PH → Option Rs) (t : Nat) (x1 : Int32) (h : PH) : X3_look_b35 (X3_look_u35 g35) (X3_look_u73 g73) [some (.inr (2, t + 1)), some (.inl x1)] [] h = X3_look_f35 g35 g73 t x1 h := rfl
theorem X3_look_m35 {g35 G35 : Nat → Int32 → PH → Option Rs} {g73 G73 : Nat → Int32 → PH → Option Rs} (hg35 : ∀ a0 a1 a2, Mo (g35 a0 a1 a2) (G35 a0 a1 a2)) (hg73 : ∀ a0 a1 a2, Mo (g73 a0 a1 a2) (G73 a0 a1 a2)) (t : Nat) (x1 : Int32) (h : PH) : Mo (X3_look_f35 g35 g73 t x1 h) (X3_look_f35 G35 G73 t x1 h) := (mo_if (mo_nn fun r2 => (mo_ix fun j3 => (mo_if (mo_wr fun h4 => (hg35 t x1 h4)) (hg73 t x1 h)))) (hg73 t x1 h))
theorem X3_look_w35 {z : CZ} {g35 : Nat → Int32 → PH → Option Rs} {g73 : Nat → Int32 → PH → Option Rs} (hk35 : SK (X3_look_x z) 35 (X3_look_u35 g35)) (hk73 : SK (X3_look_x z) 73 (X3_look_u73 g73)) : SK (X3_look_x z) 35 (X3_look_u35 (X3_look_f35 g35 g73)) := by
  intro ls st h r e
  obtain ⟨hst, e⟩ := gL_of e
  obtain ⟨t, q0, e⟩ := gT_of e
  obtain ⟨x1, q1, e⟩ := gI_of e
  rw [st_0 hst]
  exact WK.sub (canon := [some (.inr (2, t + 1)), some (.inl x1)]) rfl ⟨q0, q1, trivial⟩ (X3_look_s35 hk35 hk73 _ _ _ _ ((X3_look_l35 g35 g73 t x1 h).trans e))
noncomputable def X3_look_f73 (c_X3_isLetter : Nat → Int32 → PH → Option Rs) (c_X3_isDigit : Nat → Int32 → PH → Option Rs) (g122 : Nat → Int32 → PH → Option Rs) (t : Nat) (x1 : Int32) (h : PH) : Option Rs :=
  wr (pI h 132 t 0 (hI h 131 t 0)) fun h5 =>
  if (hI h5 131 t 0) < (hI h5 129 t 0) then
    cI (c_X3_isLetter t (hI h5 131 t 0) h5) fun v7 h6 =>
    if v7 = 0 then
      cI (c_X3_isDigit t (hI h6 131 t 0) h6) fun v9 h8 =>
      if v9 = 0 then
        nn (hR h8 128 t 0) fun r10 =>
        ix (hI h8 131 t 0) (hL h8 22 r10) fun j11 =>
        wr (pI h8 130 t 0 ((hI h8 1408 r10 j11) &&& 255)) fun h12 =>
        wr (pI h12 132 t 0 ((hI h12 131 t 0) + 1)) fun h13 =>
        some (none, h13)
      else
        g122 t x1 h8
    else
      g122 t x1 h6
  else
    wr (pI h5 130 t 0 (-1)) fun h14 =>
    some (none, h14)
set_option maxRecDepth 100000 in
theorem X3_look_l73 (c_X3_isLetter : Nat → Int32 → PH → Option Rs) (c_X3_isDigit : Nat → Int32 → PH → Option Rs) (g122 : Nat → Int32 → PH → Option Rs) (t : Nat) (x1 : Int32) (h : PH) : X3_look_b73 c_X3_isLetter c_X3_isDigit (X3_look_u122 g122) [some (.inr (2, t + 1)), some (.inl x1)] [] h = X3_look_f73 c_X3_isLetter c_X3_isDigit g122 t x1 h := rfl
theorem X3_look_m73 {c_X3_isLetter : Nat → Int32 → PH → Option Rs} {c_X3_isDigit : Nat → Int32 → PH → Option Rs} {g122 G122 : Nat → Int32 → PH → Option Rs} (hg122 : ∀ a0 a1 a2, Mo (g122 a0 a1 a2) (G122 a0 a1 a2)) (t : Nat) (x1 : Int32) (h : PH) : Mo (X3_look_f73 c_X3_isLetter c_X3_isDigit g122 t x1 h) (X3_look_f73 c_X3_isLetter c_X3_isDigit G122 t x1 h) := (mo_wr fun h5 => (mo_if (mo_cI fun v7 h6 => (mo_if (mo_cI fun v9 h8 => (mo_if (mo_nn fun r10 => (mo_ix fun j11 => (mo_wr fun h12 => (mo_wr fun h13 => mo_rf)))) (hg122 t x1 h8))) (hg122 t x1 h6))) (mo_wr fun h14 => mo_rf)))
theorem X3_look_w73 {z : CZ} {g122 : Nat → Int32 → PH → Option Rs} (hk122 : SK (X3_look_x z) 122 (X3_look_u122 g122)) : SK (X3_look_x z) 73 (X3_look_u73 (X3_look_f73 X3_isLetter X3_isDigit g122)) := by
  intro ls st h r e
  obtain ⟨hst, e⟩ := gL_of e
  obtain ⟨t, q0, e⟩ := gT_of e
  obtain ⟨x1, q1, e⟩ := gI_of e
  rw [st_0 hst]
  exact WK.sub (canon := [some (.inr (2, t + 1)), some (.inl x1)]) rfl ⟨q0, q1, trivial⟩ (X3_look_s73 hk122 _ _ _ _ ((X3_look_l73 X3_isLetter X3_isDigit g122 t x1 h).trans e))
noncomputable def X3_look_f122 (c_X3_lookAtWord : Nat → Int32 → PH → Option Rs) (t : Nat) (x1 : Int32) (h : PH) : Option Rs :=
  cV (c_X3_lookAtWord t x1 h) fun h15 =>
  some (none, h15)
set_option maxRecDepth 100000 in
theorem X3_look_l122 (c_X3_lookAtWord : Nat → Int32 → PH → Option Rs) (t : Nat) (x1 : Int32) (h : PH) : X3_look_b122 c_X3_lookAtWord [some (.inr (2, t + 1)), some (.inl x1)] [] h = X3_look_f122 c_X3_lookAtWord t x1 h := rfl
theorem X3_look_w122 {z : CZ} : SK (X3_look_x z) 122 (X3_look_u122 (X3_look_f122 X3_lookAtWord)) := by
  intro ls st h r e
  obtain ⟨hst, e⟩ := gL_of e
  obtain ⟨t, q0, e⟩ := gT_of e
  obtain ⟨x1, q1, e⟩ := gI_of e
  rw [st_0 hst]
  exact WK.sub (canon := [some (.inr (2, t + 1)), some (.inl x1)]) rfl ⟨q0, q1, trivial⟩ (X3_look_s122 _ _ _ _ ((X3_look_l122 X3_lookAtWord t x1 h).trans e))
noncomputable def X3_look_g26 (G : (Nat → Int32 → PH → Option Rs)) (t : Nat) (s0 : Int32) (h : PH) : Option Rs := X3_look_f26 (G) t s0 h
noncomputable def X3_look_g18 (G : (Nat → Int32 → PH → Option Rs)) (t : Nat) (h : PH) : Option Rs := X3_look_f18 (X3_look_g26 G) t h
noncomputable def X3_look_g0 (G : (Nat → Int32 → PH → Option Rs)) (t : Nat) (h : PH) : Option Rs := X3_look_f0 (X3_look_g18 G) (X3_look_g26 G) t h
noncomputable def X3_look_g122 (G : (Nat → Int32 → PH → Option Rs)) (t : Nat) (x1 : Int32) (h : PH) : Option Rs := X3_look_f122 X3_lookAtWord t x1 h
noncomputable def X3_look_g73 (G : (Nat → Int32 → PH → Option Rs)) (t : Nat) (x1 : Int32) (h : PH) : Option Rs := X3_look_f73 X3_isLetter X3_isDigit (X3_look_g122 G) t x1 h
noncomputable def X3_look_g35 (G : (Nat → Int32 → PH → Option Rs)) (t : Nat) (x1 : Int32) (h : PH) : Option Rs := X3_look_f35 (G) (X3_look_g73 G) t x1 h
theorem X3_look_v26 {z : CZ} {G : (Nat → Int32 → PH → Option Rs)} (hG35 : SK (X3_look_x z) 35 (X3_look_u35 (G))) : SK (X3_look_x z) 26 (X3_look_u26 (X3_look_g26 G)) := X3_look_w26 hG35
theorem X3_look_v18 {z : CZ} {G : (Nat → Int32 → PH → Option Rs)} (hG35 : SK (X3_look_x z) 35 (X3_look_u35 (G))) : SK (X3_look_x z) 18 (X3_look_u18 (X3_look_g18 G)) := X3_look_w18 (X3_look_v26 hG35)
theorem X3_look_v122 {z : CZ} {G : (Nat → Int32 → PH → Option Rs)} (hG35 : SK (X3_look_x z) 35 (X3_look_u35 (G))) : SK (X3_look_x z) 122 (X3_look_u122 (X3_look_g122 G)) := X3_look_w122
theorem X3_look_v73 {z : CZ} {G : (Nat → Int32 → PH → Option Rs)} (hG35 : SK (X3_look_x z) 35 (X3_look_u35 (G))) : SK (X3_look_x z) 73 (X3_look_u73 (X3_look_g73 G)) := X3_look_w73 (X3_look_v122 hG35)
theorem X3_look_v35 {z : CZ} {G : (Nat → Int32 → PH → Option Rs)} (hG35 : SK (X3_look_x z) 35 (X3_look_u35 (G))) : SK (X3_look_x z) 35 (X3_look_u35 (X3_look_g35 G)) := X3_look_w35 hG35 (X3_look_v73 hG35)
noncomputable def X3_look_fam : Nat → (Nat → Int32 → PH → Option Rs)
  | 0 => fun _ _ _ => none
  | n + 1 => X3_look_g35 (X3_look_fam n)
theorem X3_look_k {z : CZ} : ∀ n, SK (X3_look_x z) 35 (X3_look_u35 (X3_look_fam n))
  | 0 => (fun ls st h r e => by
      obtain ⟨_, e⟩ := gL_of e
      obtain ⟨_, _, e⟩ := gT_of e
      obtain ⟨_, _, e⟩ := gI_of e
      cases e)
  | n + 1 => by
    obtain ih35 := X3_look_k n
    exact X3_look_v35 ih35
theorem X3_look_n26 {G G' : (Nat → Int32 → PH → Option Rs)} (hg35 : ∀ a0 a1 a2, Mo ((G) a0 a1 a2) ((G') a0 a1 a2)) (t : Nat) (s0 : Int32) (h : PH) : Mo (X3_look_g26 G t s0 h) (X3_look_g26 G' t s0 h) := X3_look_m26 hg35 t s0 h
theorem X3_look_n18 {G G' : (Nat → Int32 → PH → Option Rs)} (hg35 : ∀ a0 a1 a2, Mo ((G) a0 a1 a2) ((G') a0 a1 a2)) (t : Nat) (h : PH) : Mo (X3_look_g18 G t h) (X3_look_g18 G' t h) := X3_look_m18 (fun a0 a1 a2 => X3_look_n26 hg35 a0 a1 a2) t h
theorem X3_look_n0 {G G' : (Nat → Int32 → PH → Option Rs)} (hg35 : ∀ a0 a1 a2, Mo ((G) a0 a1 a2) ((G') a0 a1 a2)) (t : Nat) (h : PH) : Mo (X3_look_g0 G t h) (X3_look_g0 G' t h) := X3_look_m0 (fun a0 a1 => X3_look_n18 hg35 a0 a1) (fun a0 a1 a2 => X3_look_n26 hg35 a0 a1 a2) t h
theorem X3_look_n122 {G G' : (Nat → Int32 → PH → Option Rs)} (hg35 : ∀ a0 a1 a2, Mo ((G) a0 a1 a2) ((G') a0 a1 a2)) (t : Nat) (x1 : Int32) (h : PH) : Mo (X3_look_g122 G t x1 h) (X3_look_g122 G' t x1 h) := mo_rf
theorem X3_look_n73 {G G' : (Nat → Int32 → PH → Option Rs)} (hg35 : ∀ a0 a1 a2, Mo ((G) a0 a1 a2) ((G') a0 a1 a2)) (t : Nat) (x1 : Int32) (h : PH) : Mo (X3_look_g73 G t x1 h) (X3_look_g73 G' t x1 h) := X3_look_m73 (fun a0 a1 a2 => X3_look_n122 hg35 a0 a1 a2) t x1 h
theorem X3_look_n35 {G G' : (Nat → Int32 → PH → Option Rs)} (hg35 : ∀ a0 a1 a2, Mo ((G) a0 a1 a2) ((G') a0 a1 a2)) (t : Nat) (x1 : Int32) (h : PH) : Mo (X3_look_g35 G t x1 h) (X3_look_g35 G' t x1 h) := X3_look_m35 hg35 (fun a0 a1 a2 => X3_look_n73 hg35 a0 a1 a2) t x1 h
theorem X3_look_fm : ∀ n, (∀ a0 a1 a2, Mo ((X3_look_fam n) a0 a1 a2) ((X3_look_fam (n + 1)) a0 a1 a2))
  | 0 => fun _ _ _ => mo_no
  | n + 1 => by
    obtain ih35 := X3_look_fm n
    exact fun a0 a1 a2 => X3_look_n35 ih35 a0 a1 a2
noncomputable def X3_look (t : Nat) (h : PH) : Option Rs := lim (fun n => X3_look_g0 (X3_look_fam n) t h)
theorem X3_look_iff {t : Nat} {h : PH} {r : Rs} : X3_look t h = some r ↔ ∃ n, X3_look_g0 (X3_look_fam n) t h = some r := lim_iff (fun n => by
  obtain ih35 := X3_look_fm n
  exact X3_look_n0 ih35 t h)
noncomputable abbrev X3_look_F : List PV → PH → Option Rs := FW_T2 (X3_look)
set_option maxRecDepth 100000 in
theorem X3_look_gd (l : Launch) : Gd l 2 yX3_look cX3_look 2 none (X3_look_F)   := Gd_of (by decide +kernel) (fun z hzl as h r e => by
  obtain ⟨hst, e⟩ := gL_of e
  obtain ⟨t, q0, e⟩ := gT_of e
  rw [st_1 hst q0]
  obtain ⟨n, e⟩ := lim_of e
  obtain hG35 := X3_look_k (z := z) n
  exact ⟨show 1 ≤ 2 by decide, X3_look_s0 (X3_look_v18 hG35) (X3_look_v26 hG35) _ _ _ _ ((X3_look_l0 (X3_look_g18 (X3_look_fam n)) (X3_look_g26 (X3_look_fam n)) t h).trans e)⟩)
abbrev J0_coder_7d493_x (z : CZ) : CX := mx RJ0 cJ0_coder_7d493 1 0 (some .byte) "coder" z
noncomputable def J0_coder_7d493_b0 : Kn := (a_ic 1 (a_z (a_ic 1 (a_nr .byte)) (a_al 0 (a_strC (a_nr .byte)))))
set_option maxRecDepth 100000 in
theorem J0_coder_7d493_s0 {z : CZ} : SK (J0_coder_7d493_x z) 0 (J0_coder_7d493_b0) := (s_cst (pc := 0) w_770 dJ0_coder_7d493_0 (s_ifeq (pc := 3) dJ0_coder_7d493_3 (by decide) (s_iconst (pc := 13) dJ0_coder_7d493_13 c_ic_1 (s_nrbyte (pc := 14) rfl dJ0_coder_7d493_14)) (s_aloadn (pc := 6) dJ0_coder_7d493_6 rfl (s_strC (pc := 7) w_1889 dJ0_coder_7d493_7 (s_goto (pc := 10) dJ0_coder_7d493_10 (by decide) (s_nrbyte (pc := 14) rfl dJ0_coder_7d493_14))))))
noncomputable def J0_coder_7d493_f0 (t : Nat) (h : PH) : Option Rs :=
  if 1 = 0 then
    nr .byte 1 <|
    some (some (.inl 1), h)
  else
    nr .byte 0 <|
    some (some (.inl 0), h)
set_option maxRecDepth 100000 in
theorem J0_coder_7d493_l0 (t : Nat) (h : PH) : J0_coder_7d493_b0 [some (.inr (73, t + 1))] [] h = J0_coder_7d493_f0 t h := rfl
noncomputable def J0_coder_7d493_g0 (t : Nat) (h : PH) : Option Rs := J0_coder_7d493_f0 t h
noncomputable def J0_coder_7d493 (t : Nat) (h : PH) : Option Rs := J0_coder_7d493_g0 t h
noncomputable abbrev J0_coder_7d493_F : List PV → PH → Option Rs := FW_T73 (J0_coder_7d493)
set_option maxRecDepth 100000 in
theorem J0_coder_7d493_gd (l : Launch) : Gd l 0 yJ0_coder_7d493 cJ0_coder_7d493 1 (some .byte) (J0_coder_7d493_F)   := Gd_of (by decide +kernel) (fun z hzl as h r e => by
  obtain ⟨hst, e⟩ := gL_of e
  obtain ⟨t, q0, e⟩ := gT_of e
  rw [st_1 hst q0]
  exact ⟨show 1 ≤ 1 by decide, J0_coder_7d493_s0 _ _ _ _ ((J0_coder_7d493_l0 t h).trans e)⟩)
abbrev J0_length_8abf5_x (z : CZ) : CX := mx RJ0 cJ0_length_8abf5 1 1 (some .int) "length" z
noncomputable def J0_length_8abf5_b0 (c_J0_coder_7d493 : Nat → PH → Option Rs) : Kn := (a_al 0 (a_strV (a_strL (a_al 0 (a_vI 73 0 (FW_T73 c_J0_coder_7d493) (a_b jshr a_ir))))))
set_option maxRecDepth 100000 in
theorem J0_length_8abf5_s0 {z : CZ} : SK (J0_length_8abf5_x z) 0 (J0_length_8abf5_b0 J0_coder_7d493) := (s_aloadn (pc := 0) dJ0_length_8abf5_0 rfl (s_strV (pc := 1) w_1888 dJ0_length_8abf5_1 (s_strL (pc := 4) dJ0_length_8abf5_4 (s_aloadn (pc := 5) dJ0_length_8abf5_5 rfl (s_vI (pc := 6) (run_str (J0_coder_7d493_gd _) (show 0 < 1 by decide) cy_J0_coder_7d493 rfl w_767 w_768 w_766 dJ0_length_8abf5_6) (s_ishr (pc := 9) dJ0_length_8abf5_9 (s_ir (pc := 10) rfl dJ0_length_8abf5_10)))))))
noncomputable def J0_length_8abf5_f0 (c_J0_coder_7d493 : Nat → PH → Option Rs) (t : Nat) (h : PH) : Option Rs :=
  nn (t + 1) fun r1 =>
  cI (c_J0_coder_7d493 t h) fun v3 h2 =>
  some (some (.inl (jshr (Int32.ofNat (slen.getD r1 0)) v3)), h2)
set_option maxRecDepth 100000 in
theorem J0_length_8abf5_l0 (c_J0_coder_7d493 : Nat → PH → Option Rs) (t : Nat) (h : PH) : J0_length_8abf5_b0 c_J0_coder_7d493 [some (.inr (73, t + 1))] [] h = J0_length_8abf5_f0 c_J0_coder_7d493 t h := rfl
noncomputable def J0_length_8abf5_g0 (t : Nat) (h : PH) : Option Rs := J0_length_8abf5_f0 J0_coder_7d493 t h
noncomputable def J0_length_8abf5 (t : Nat) (h : PH) : Option Rs := J0_length_8abf5_g0 t h
noncomputable abbrev J0_length_8abf5_F : List PV → PH → Option Rs := FW_T73 (J0_length_8abf5)
set_option maxRecDepth 100000 in
theorem J0_length_8abf5_gd (l : Launch) : Gd l 1 yJ0_length_8abf5 cJ0_length_8abf5 1 (some .int) (J0_length_8abf5_F)   := Gd_of (by decide +kernel) (fun z hzl as h r e => by
  obtain ⟨hst, e⟩ := gL_of e
  obtain ⟨t, q0, e⟩ := gT_of e
  rw [st_1 hst q0]
  exact ⟨show 1 ≤ 1 by decide, J0_length_8abf5_s0 _ _ _ _ ((J0_length_8abf5_l0 J0_coder_7d493 t h).trans e)⟩)
abbrev J0_isLatin1_aae02_x (z : CZ) : CX := mx RJ0 cJ0_isLatin1_aae02 1 0 (some .boolean) "isLatin1" z
noncomputable def J0_isLatin1_aae02_b0 : Kn := (a_ic 1 (a_z (a_ic 0 a_zr) (a_al 0 (a_strC (a_z (a_ic 1 a_zr) (a_ic 0 a_zr))))))
set_option maxRecDepth 100000 in
theorem J0_isLatin1_aae02_s0 {z : CZ} : SK (J0_isLatin1_aae02_x z) 0 (J0_isLatin1_aae02_b0) := (s_cst (pc := 0) w_770 dJ0_isLatin1_aae02_0 (s_ifeq (pc := 3) dJ0_isLatin1_aae02_3 (by decide) (s_iconst (pc := 17) dJ0_isLatin1_aae02_17 c_ic_0 (s_zr (pc := 18) rfl dJ0_isLatin1_aae02_18)) (s_aloadn (pc := 6) dJ0_isLatin1_aae02_6 rfl (s_strC (pc := 7) w_1889 dJ0_isLatin1_aae02_7 (s_ifne (pc := 10) dJ0_isLatin1_aae02_10 (by decide) (s_iconst (pc := 17) dJ0_isLatin1_aae02_17 c_ic_0 (s_zr (pc := 18) rfl dJ0_isLatin1_aae02_18)) (s_iconst (pc := 13) dJ0_isLatin1_aae02_13 c_ic_1 (s_goto (pc := 14) dJ0_isLatin1_aae02_14 (by decide) (s_zr (pc := 18) rfl dJ0_isLatin1_aae02_18))))))))
noncomputable def J0_isLatin1_aae02_f0 (t : Nat) (h : PH) : Option Rs :=
  if 1 = 0 then
    bz 0 <|
    some (some (.inl 0), h)
  else
    if 0 = 0 then
      bz 1 <|
      some (some (.inl 1), h)
    else
      bz 0 <|
      some (some (.inl 0), h)
set_option maxRecDepth 100000 in
theorem J0_isLatin1_aae02_l0 (t : Nat) (h : PH) : J0_isLatin1_aae02_b0 [some (.inr (73, t + 1))] [] h = J0_isLatin1_aae02_f0 t h := rfl
noncomputable def J0_isLatin1_aae02_g0 (t : Nat) (h : PH) : Option Rs := J0_isLatin1_aae02_f0 t h
noncomputable def J0_isLatin1_aae02 (t : Nat) (h : PH) : Option Rs := J0_isLatin1_aae02_g0 t h
noncomputable abbrev J0_isLatin1_aae02_F : List PV → PH → Option Rs := FW_T73 (J0_isLatin1_aae02)
set_option maxRecDepth 100000 in
theorem J0_isLatin1_aae02_gd (l : Launch) : Gd l 0 yJ0_isLatin1_aae02 cJ0_isLatin1_aae02 1 (some .boolean) (J0_isLatin1_aae02_F)   := Gd_of (by decide +kernel) (fun z hzl as h r e => by
  obtain ⟨hst, e⟩ := gL_of e
  obtain ⟨t, q0, e⟩ := gT_of e
  rw [st_1 hst q0]
  exact ⟨show 1 ≤ 1 by decide, J0_isLatin1_aae02_s0 _ _ _ _ ((J0_isLatin1_aae02_l0 t h).trans e)⟩)
abbrev J3_checkIndex_8e157_x (z : CZ) : CX := mx RJ3 cJ3_checkIndex_8e157 3 0 (some .int) "checkIndex" z
noncomputable def J3_checkIndex_8e157_b0 : Kn := (a_il 0 (a_n a_bad (a_il 0 (a_il 1 (a_lt (a_il 0 a_ir) a_bad)))))
set_option maxRecDepth 100000 in
theorem J3_checkIndex_8e157_s0 {z : CZ} : SK (J3_checkIndex_8e157_x z) 0 (J3_checkIndex_8e157_b0) := (s_iloadn (pc := 0) dJ3_checkIndex_8e157_0 rfl (s_iflt (pc := 1) dJ3_checkIndex_8e157_1 (by decide) (s_bad (pc := 9)) (s_iloadn (pc := 4) dJ3_checkIndex_8e157_4 rfl (s_iloadn (pc := 5) dJ3_checkIndex_8e157_5 rfl (s_cmplt (pc := 6) dJ3_checkIndex_8e157_6 (by decide) (s_iloadn (pc := 16) dJ3_checkIndex_8e157_16 rfl (s_ir (pc := 17) rfl dJ3_checkIndex_8e157_17)) (s_bad (pc := 9)))))))
noncomputable def J3_checkIndex_8e157_f0 (x0 : Int32) (x1 : Int32) (x2 : Nat) (h : PH) : Option Rs :=
  if x0 < 0 then
    none
  else
    if x0 < x1 then
      some (some (.inl x0), h)
    else
      none
set_option maxRecDepth 100000 in
theorem J3_checkIndex_8e157_l0 (x0 : Int32) (x1 : Int32) (x2 : Nat) (h : PH) : J3_checkIndex_8e157_b0 [some (.inl x0), some (.inl x1), some (.inr (75, x2))] [] h = J3_checkIndex_8e157_f0 x0 x1 x2 h := rfl
noncomputable def J3_checkIndex_8e157_g0 (x0 : Int32) (x1 : Int32) (x2 : Nat) (h : PH) : Option Rs := J3_checkIndex_8e157_f0 x0 x1 x2 h
noncomputable def J3_checkIndex_8e157 (x0 : Int32) (x1 : Int32) (x2 : Nat) (h : PH) : Option Rs := J3_checkIndex_8e157_g0 x0 x1 x2 h
noncomputable abbrev J3_checkIndex_8e157_F : List PV → PH → Option Rs := FW_IIR75 (J3_checkIndex_8e157)
set_option maxRecDepth 100000 in
theorem J3_checkIndex_8e157_gd (l : Launch) : Gd l 0 yJ3_checkIndex_8e157 cJ3_checkIndex_8e157 3 (some .int) (J3_checkIndex_8e157_F)   := Gd_of (by decide +kernel) (fun z hzl as h r e => by
  obtain ⟨hst, e⟩ := gL_of e
  obtain ⟨x0, q0, e⟩ := gI_of e
  obtain ⟨x1, q1, e⟩ := gI_of e
  obtain ⟨x2, q2, e⟩ := gR_of e
  rw [st_3 hst q0 q1 q2]
  exact ⟨show 3 ≤ 3 by decide, J3_checkIndex_8e157_s0 _ _ _ _ ((J3_checkIndex_8e157_l0 x0 x1 x2 h).trans e)⟩)
abbrev J0_checkIndex_df160_x (z : CZ) : CX := mx RJ0 cJ0_checkIndex_df160 2 1 none "checkIndex" z
noncomputable def J0_checkIndex_df160_b2 : Kn := fun _ st h => match st with
  | [.inl n, .inl i] => if i < 0 then none else if i < n then some (none, h) else none
  | _ => none
theorem J3_checkIndex_8e157_eq {i n : Int32} {rr : Nat} {h : PH} (h0 : ¬ i < 0) (h1 : i < n) : J3_checkIndex_8e157 i n rr h = some (some (.inl i), h) := by
  unfold J3_checkIndex_8e157 J3_checkIndex_8e157_g0 J3_checkIndex_8e157_f0
  rw [if_neg h0, if_pos h1]
theorem J0_checkIndex_df160_s2 {z : CZ} : SK (J0_checkIndex_df160_x z) 2 J0_checkIndex_df160_b2 := by
  intro ls st h r e
  unfold J0_checkIndex_df160_b2 at e
  split at e
  · rename_i n i
    split at e
    · cases e
    · rename_i h0
      split at e
      · rename_i h1
        cases e
        refine ⟨⟨Nat.le_refl _, Nat.le_refl _⟩, fun hx g1 g2 o ad ps ws H locs lR hW hl hn hv1 hs => ?_⟩
        have h5 : SK (J0_checkIndex_df160_x z) 5 (a_sI 3 J3_checkIndex_8e157_F (a_pop a_vr)) := s_sI (pc := 5) (run_static (J3_checkIndex_8e157_gd _) (show 0 < 1 by decide) cy_J3_checkIndex_8e157 w_789 w_788 dJ0_checkIndex_df160_5) (s_pop (pc := 8) dJ0_checkIndex_df160_8 (s_vr (pc := 9) rfl dJ0_checkIndex_df160_9))
        obtain ⟨rr, hrr, hZ⟩ : ∃ rr, rr ≤ 1 ∧ va_Z "jdk/internal/util/Preconditions" "SIOOBE_FORMATTER" "Ljava/util/function/BiFunction;" (rv ad (.inr (75, rr))) (fun q => xb (J0_checkIndex_df160_x z) ≤ q) (xS (J0_checkIndex_df160_x z)) (xS (J0_checkIndex_df160_x z)).heap := by
          rcases hx.2.2.2.2.2.2.2.1.2.2.2.2.2 with q | q
          · exact ⟨0, by omega, q⟩
          · refine ⟨1, Nat.le_refl _, ?_⟩
            show va_Z _ _ _ (.ref (ad 75 0)) _ _ _
            rw [(hW.sf hx).2.2.2]
            exact q
        have e5 : a_sI 3 J3_checkIndex_8e157_F (a_pop a_vr) ls [.inr (75, rr), .inl n, .inl i] h = some (none, h) := by
          show cI (J3_checkIndex_8e157 i n rr h) (fun v h' => some (none, h')) = _
          rw [J3_checkIndex_8e157_eq h0 h1]
          rfl
        have h3 := (h5 _ _ _ _ e5).2 hx g1 g2 o ad ps ws H locs lR hW hl hn hv1 (vv_cons (by show rr ≤ hN h 75; have := hW.n71.2.2.2; omega) hs)
        exact va_gets hx.1 hx.2.1 hZ hW.2.2.2.1 hx.2.2.2.1 (hx.2.2.2.2.1 _ (TBg_in w_786 rfl)) (fun _ z => z) dJ0_checkIndex_df160_2 h3
      · cases e
  · cases e
noncomputable def J0_checkIndex_df160 (x0 x1 : Int32) (h : PH) : Option Rs := if x0 < 0 then none else if x0 < x1 then some (none, h) else none
theorem J0_checkIndex_df160_s0 {z : CZ} : SK (J0_checkIndex_df160_x z) 0 (a_il 0 (a_il 1 J0_checkIndex_df160_b2)) := s_iloadn (pc := 0) dJ0_checkIndex_df160_0 rfl (s_iloadn (pc := 1) dJ0_checkIndex_df160_1 rfl J0_checkIndex_df160_s2)
theorem J0_checkIndex_df160_l0 (x0 x1 : Int32) (h : PH) : (a_il 0 (a_il 1 J0_checkIndex_df160_b2)) [some (.inl x0), some (.inl x1)] [] h = J0_checkIndex_df160 x0 x1 h := rfl
noncomputable abbrev J0_checkIndex_df160_F : List PV → PH → Option Rs := FW_II J0_checkIndex_df160
theorem J0_checkIndex_df160_gd (l : Launch) : Gd l 1 yJ0_checkIndex_df160 cJ0_checkIndex_df160 2 none (J0_checkIndex_df160_F) := Gd_of (by decide +kernel) (fun z hzl as h r e => by
  obtain ⟨hst, e⟩ := gL_of e
  obtain ⟨x0, q0, e⟩ := gI_of e
  obtain ⟨x1, q1, e⟩ := gI_of e
  rw [st_2 hst q0 q1]
  exact ⟨show 2 ≤ 2 by decide, J0_checkIndex_df160_s0 _ _ _ _ ((J0_checkIndex_df160_l0 x0 x1 h).trans e)⟩)
abbrev J1_charAt_3b067_x (z : CZ) : CX := mx RJ1 cJ1_charAt_3b067 2 2 (some .char) "charAt" z
noncomputable def J1_charAt_3b067_b0 (c_J0_checkIndex_df160 : Int32 → Int32 → PH → Option Rs) : Kn := (a_il 1 (a_al 0 (a_strL (a_sV 2 (FW_II c_J0_checkIndex_df160) (a_al 0 (a_il 1 (a_strB (a_ic 255 (a_b (fun a b => a &&& b) (a_u jc (a_nr .char)))))))))))
set_option maxRecDepth 100000 in
theorem J1_charAt_3b067_s0 {z : CZ} : SK (J1_charAt_3b067_x z) 0 (J1_charAt_3b067_b0 J0_checkIndex_df160) := (s_iloadn (pc := 0) dJ1_charAt_3b067_0 rfl (s_aloadn (pc := 1) dJ1_charAt_3b067_1 rfl (s_strL (pc := 2) dJ1_charAt_3b067_2 (s_sV (pc := 3) (run_static (J0_checkIndex_df160_gd _) (show 1 < 2 by decide) cy_J0_checkIndex_df160 w_784 w_783 dJ1_charAt_3b067_3) (s_aloadn (pc := 6) dJ1_charAt_3b067_6 rfl (s_iloadn (pc := 7) dJ1_charAt_3b067_7 rfl (s_strB (pc := 8) dJ1_charAt_3b067_8 (s_sipush (pc := 9) dJ1_charAt_3b067_9 c_sp_255 (s_iand (pc := 12) dJ1_charAt_3b067_12 (s_i2c (pc := 13) dJ1_charAt_3b067_13 (s_nrchar (pc := 14) rfl dJ1_charAt_3b067_14)))))))))))
noncomputable def J1_charAt_3b067_f0 (c_J0_checkIndex_df160 : Int32 → Int32 → PH → Option Rs) (x0 : Nat) (x1 : Int32) (h : PH) : Option Rs :=
  nn x0 fun r1 =>
  cV (c_J0_checkIndex_df160 x1 (Int32.ofNat (slen.getD r1 0)) h) fun h2 =>
  nn x0 fun r3 =>
  ix x1 (slen.getD r3 0) fun j4 =>
  nr .char (jc (((sbyt.getD r3 []).getD j4 0) &&& 255)) <|
  some (some (.inl (jc (((sbyt.getD r3 []).getD j4 0) &&& 255))), h2)
set_option maxRecDepth 100000 in
theorem J1_charAt_3b067_l0 (c_J0_checkIndex_df160 : Int32 → Int32 → PH → Option Rs) (x0 : Nat) (x1 : Int32) (h : PH) : J1_charAt_3b067_b0 c_J0_checkIndex_df160 [some (.inr (74, x0)), some (.inl x1)] [] h = J1_charAt_3b067_f0 c_J0_checkIndex_df160 x0 x1 h := rfl
noncomputable def J1_charAt_3b067_g0 (x0 : Nat) (x1 : Int32) (h : PH) : Option Rs := J1_charAt_3b067_f0 J0_checkIndex_df160 x0 x1 h
noncomputable def J1_charAt_3b067 (x0 : Nat) (x1 : Int32) (h : PH) : Option Rs := J1_charAt_3b067_g0 x0 x1 h
noncomputable abbrev J1_charAt_3b067_F : List PV → PH → Option Rs := FW_R74I (J1_charAt_3b067)
set_option maxRecDepth 100000 in
theorem J1_charAt_3b067_gd (l : Launch) : Gd l 2 yJ1_charAt_3b067 cJ1_charAt_3b067 2 (some .char) (J1_charAt_3b067_F)   := Gd_of (by decide +kernel) (fun z hzl as h r e => by
  obtain ⟨hst, e⟩ := gL_of e
  obtain ⟨x0, q0, e⟩ := gR_of e
  obtain ⟨x1, q1, e⟩ := gI_of e
  rw [st_2 hst q0 q1]
  exact ⟨show 2 ≤ 2 by decide, J1_charAt_3b067_s0 _ _ _ _ ((J1_charAt_3b067_l0 J0_checkIndex_df160 x0 x1 h).trans e)⟩)
abbrev J0_charAt_5068e_x (z : CZ) : CX := mx RJ0 cJ0_charAt_5068e 2 3 (some .char) "charAt" z
noncomputable def J0_charAt_5068e_b0 (c_J0_isLatin1_aae02 : Nat → PH → Option Rs) (c_J1_charAt_3b067 : Nat → Int32 → PH → Option Rs) : Kn := (a_al 0 (a_vI 73 0 (FW_T73 c_J0_isLatin1_aae02) (a_z a_bad (a_al 0 (a_strV (a_il 1 (a_sI 2 (FW_R74I c_J1_charAt_3b067) (a_nr .char))))))))
set_option maxRecDepth 100000 in
theorem J0_charAt_5068e_s0 {z : CZ} : SK (J0_charAt_5068e_x z) 0 (J0_charAt_5068e_b0 J0_isLatin1_aae02 J1_charAt_3b067) := (s_aloadn (pc := 0) dJ0_charAt_5068e_0 rfl (s_vI (pc := 1) (run_str (J0_isLatin1_aae02_gd _) (show 0 < 3 by decide) cy_J0_isLatin1_aae02 rfl w_777 w_778 w_776 dJ0_charAt_5068e_1) (s_ifeq (pc := 4) dJ0_charAt_5068e_4 (by decide) (s_bad (pc := 16)) (s_aloadn (pc := 7) dJ0_charAt_5068e_7 rfl (s_strV (pc := 8) w_1888 dJ0_charAt_5068e_8 (s_iloadn (pc := 11) dJ0_charAt_5068e_11 rfl (s_sI (pc := 12) (run_static (J1_charAt_3b067_gd _) (show 2 < 3 by decide) cy_J1_charAt_3b067 w_781 w_780 dJ0_charAt_5068e_12) (s_nrchar (pc := 15) rfl dJ0_charAt_5068e_15))))))))
noncomputable def J0_charAt_5068e_f0 (c_J0_isLatin1_aae02 : Nat → PH → Option Rs) (c_J1_charAt_3b067 : Nat → Int32 → PH → Option Rs) (t : Nat) (x1 : Int32) (h : PH) : Option Rs :=
  cI (c_J0_isLatin1_aae02 t h) fun v2 h1 =>
  if v2 = 0 then
    none
  else
    cI (c_J1_charAt_3b067 (t + 1) x1 h1) fun v4 h3 =>
    nr .char v4 <|
    some (some (.inl v4), h3)
set_option maxRecDepth 100000 in
theorem J0_charAt_5068e_l0 (c_J0_isLatin1_aae02 : Nat → PH → Option Rs) (c_J1_charAt_3b067 : Nat → Int32 → PH → Option Rs) (t : Nat) (x1 : Int32) (h : PH) : J0_charAt_5068e_b0 c_J0_isLatin1_aae02 c_J1_charAt_3b067 [some (.inr (73, t + 1)), some (.inl x1)] [] h = J0_charAt_5068e_f0 c_J0_isLatin1_aae02 c_J1_charAt_3b067 t x1 h := rfl
noncomputable def J0_charAt_5068e_g0 (t : Nat) (x1 : Int32) (h : PH) : Option Rs := J0_charAt_5068e_f0 J0_isLatin1_aae02 J1_charAt_3b067 t x1 h
noncomputable def J0_charAt_5068e (t : Nat) (x1 : Int32) (h : PH) : Option Rs := J0_charAt_5068e_g0 t x1 h
noncomputable abbrev J0_charAt_5068e_F : List PV → PH → Option Rs := FW_T73I (J0_charAt_5068e)
set_option maxRecDepth 100000 in
theorem J0_charAt_5068e_gd (l : Launch) : Gd l 3 yJ0_charAt_5068e cJ0_charAt_5068e 2 (some .char) (J0_charAt_5068e_F)   := Gd_of (by decide +kernel) (fun z hzl as h r e => by
  obtain ⟨hst, e⟩ := gL_of e
  obtain ⟨t, q0, e⟩ := gT_of e
  obtain ⟨x1, q1, e⟩ := gI_of e
  rw [st_2 hst q0 q1]
  exact ⟨show 2 ≤ 2 by decide, J0_charAt_5068e_s0 _ _ _ _ ((J0_charAt_5068e_l0 J0_isLatin1_aae02 J1_charAt_3b067 t x1 h).trans e)⟩)
abbrev X3_isWord_x (z : CZ) : CX := mx RX3 cX3_isWord 3 4 (some .boolean) "isWord" z
noncomputable def X3_isWord_b0 (c_J0_length_8abf5 : Nat → PH → Option Rs) (k29 : Kn) : Kn := (a_al 0 (a_gI 2 130 (a_ic (-2) (a_eq (a_al 0 (a_gI 2 132 (a_al 0 (a_gI 2 131 (a_b (fun a b => a - b) (a_al 1 (a_vI 73 0 (FW_T73 c_J0_length_8abf5) (a_eq (a_ic 0 (a_is 2 k29)) (a_ic 0 a_zr))))))))) (a_ic 0 a_zr)))))
set_option maxRecDepth 100000 in
theorem X3_isWord_s0 {z : CZ} {k29 : Kn} (hk29 : SK (X3_isWord_x z) 29 k29) : SK (X3_isWord_x z) 0 (X3_isWord_b0 J0_length_8abf5 k29) := (s_aloadn (pc := 0) dX3_isWord_0 rfl (s_gI (pc := 1) (f := 2) ko_2 (by decide) rfl rfl w_415 dX3_isWord_1 (s_bipush (pc := 4) dX3_isWord_4 c_bp_m2 (s_cmpne (pc := 6) dX3_isWord_6 (by decide) (s_iconst (pc := 25) dX3_isWord_25 c_ic_0 (s_zr (pc := 26) rfl dX3_isWord_26)) (s_aloadn (pc := 9) dX3_isWord_9 rfl (s_gI (pc := 10) (f := 4) ko_2 (by decide) rfl rfl w_417 dX3_isWord_10 (s_aloadn (pc := 13) dX3_isWord_13 rfl (s_gI (pc := 14) (f := 3) ko_2 (by decide) rfl rfl w_416 dX3_isWord_14 (s_isub (pc := 17) dX3_isWord_17 (s_aloadn (pc := 18) dX3_isWord_18 rfl (s_vI (pc := 19) (run_str (J0_length_8abf5_gd _) (show 1 < 4 by decide) cy_J0_length_8abf5 rfl w_763 w_764 w_762 dX3_isWord_19) (s_cmpeq (pc := 22) dX3_isWord_22 (by decide) (s_iconst (pc := 27) dX3_isWord_27 c_ic_0 (s_istoren (pc := 28) dX3_isWord_28 rfl (show 2 < 3 by decide) hk29)) (s_iconst (pc := 25) dX3_isWord_25 c_ic_0 (s_zr (pc := 26) rfl dX3_isWord_26))))))))))))))
noncomputable def X3_isWord_b29 (c_J0_length_8abf5 : Nat → PH → Option Rs) (c_J0_charAt_5068e : Nat → Int32 → PH → Option Rs) (k29 : Kn) : Kn := (a_il 2 (a_al 1 (a_vI 73 0 (FW_T73 c_J0_length_8abf5) (a_lt (a_al 0 (a_gR 2 128 22 (a_al 0 (a_gI 2 131 (a_il 2 (a_b (fun a b => a + b) (a_ald 22 1408 (a_al 1 (a_il 2 (a_vI 73 1 (FW_T73I c_J0_charAt_5068e) (a_eq (a_inc 2 1 k29) (a_ic 0 a_zr)))))))))))) (a_ic 1 a_zr)))))
set_option maxRecDepth 100000 in
theorem X3_isWord_s29 {z : CZ} {k29 : Kn} (hk29 : SK (X3_isWord_x z) 29 k29) : SK (X3_isWord_x z) 29 (X3_isWord_b29 J0_length_8abf5 J0_charAt_5068e k29) := (s_iloadn (pc := 29) dX3_isWord_29 rfl (s_aloadn (pc := 30) dX3_isWord_30 rfl (s_vI (pc := 31) (run_str (J0_length_8abf5_gd _) (show 1 < 4 by decide) cy_J0_length_8abf5 rfl w_763 w_764 w_762 dX3_isWord_31) (s_cmpge (pc := 34) dX3_isWord_34 (by decide) (s_iconst (pc := 64) dX3_isWord_64 c_ic_1 (s_zr (pc := 65) rfl dX3_isWord_65)) (s_aloadn (pc := 37) dX3_isWord_37 rfl (s_gR (pc := 38) (f := 0) ko_2 (by decide) rfl rfl w_412 dX3_isWord_38 (s_aloadn (pc := 41) dX3_isWord_41 rfl (s_gI (pc := 42) (f := 3) ko_2 (by decide) rfl rfl w_416 dX3_isWord_42 (s_iloadn (pc := 45) dX3_isWord_45 rfl (s_iadd (pc := 46) dX3_isWord_46 (s_bald (pc := 47) (by decide) (by decide) rfl rfl rfl dX3_isWord_47 (s_aloadn (pc := 48) dX3_isWord_48 rfl (s_iloadn (pc := 49) dX3_isWord_49 rfl (s_vI (pc := 50) (run_str (J0_charAt_5068e_gd _) (show 3 < 4 by decide) cy_J0_charAt_5068e rfl w_773 w_774 w_772 dX3_isWord_50) (s_cmpeq (pc := 53) dX3_isWord_53 (by decide) (s_iinc (pc := 58) dX3_isWord_58 c_ic_1 (show 2 < 3 by decide) (s_goto (pc := 61) dX3_isWord_61 (by decide) hk29)) (s_iconst (pc := 56) dX3_isWord_56 c_ic_0 (s_zr (pc := 57) rfl dX3_isWord_57)))))))))))))))))
noncomputable def X3_isWord_u29 (g : Nat → Nat → Int32 → PH → Option Rs) : Kn := fun ls st h => gL 0 st (gT 2 ls 0 fun t => gR 73 ls 1 fun x1 => gI ls 2 fun x2 => g t x1 x2 h)
noncomputable def X3_isWord_f0 (c_J0_length_8abf5 : Nat → PH → Option Rs) (g29 : Nat → Nat → Int32 → PH → Option Rs) (t : Nat) (x1 : Nat) (h : PH) : Option Rs :=
  if (hI h 130 t 0) = (-2) then
    nn x1 fun r1 =>
    cI (c_J0_length_8abf5 r1 h) fun v3 h2 =>
    if ((hI h 132 t 0) - (hI h 131 t 0)) = v3 then
      g29 t x1 0 h2
    else
      bz 0 <|
      some (some (.inl 0), h2)
  else
    bz 0 <|
    some (some (.inl 0), h)
set_option maxRecDepth 100000 in
theorem X3_isWord_l0 (c_J0_length_8abf5 : Nat → PH → Option Rs) (g29 : Nat → Nat → Int32 → PH → Option Rs) (t : Nat) (x1 : Nat) (h : PH) : X3_isWord_b0 c_J0_length_8abf5 (X3_isWord_u29 g29) [some (.inr (2, t + 1)), some (.inr (73, x1)), none] [] h = X3_isWord_f0 c_J0_length_8abf5 g29 t x1 h := rfl
theorem X3_isWord_m0 {c_J0_length_8abf5 : Nat → PH → Option Rs} {g29 G29 : Nat → Nat → Int32 → PH → Option Rs} (hg29 : ∀ a0 a1 a2 a3, Mo (g29 a0 a1 a2 a3) (G29 a0 a1 a2 a3)) (t : Nat) (x1 : Nat) (h : PH) : Mo (X3_isWord_f0 c_J0_length_8abf5 g29 t x1 h) (X3_isWord_f0 c_J0_length_8abf5 G29 t x1 h) := (mo_if (mo_nn fun r1 => (mo_cI fun v3 h2 => (mo_if (hg29 t x1 0 h2) (mo_bz mo_rf)))) (mo_bz mo_rf))
noncomputable def X3_isWord_f29 (c_J0_length_8abf5 : Nat → PH → Option Rs) (c_J0_charAt_5068e : Nat → Int32 → PH → Option Rs) (g29 : Nat → Nat → Int32 → PH → Option Rs) (t : Nat) (x1 : Nat) (x2 : Int32) (h : PH) : Option Rs :=
  nn x1 fun r4 =>
  cI (c_J0_length_8abf5 r4 h) fun v6 h5 =>
  if x2 < v6 then
    nn (hR h5 128 t 0) fun r7 =>
    ix ((hI h5 131 t 0) + x2) (hL h5 22 r7) fun j8 =>
    nn x1 fun r9 =>
    cI (c_J0_charAt_5068e r9 x2 h5) fun v11 h10 =>
    if (hI h5 1408 r7 j8) = v11 then
      g29 t x1 (x2 + 1) h10
    else
      bz 0 <|
      some (some (.inl 0), h10)
  else
    bz 1 <|
    some (some (.inl 1), h5)
set_option maxRecDepth 100000 in
theorem X3_isWord_l29 (c_J0_length_8abf5 : Nat → PH → Option Rs) (c_J0_charAt_5068e : Nat → Int32 → PH → Option Rs) (g29 : Nat → Nat → Int32 → PH → Option Rs) (t : Nat) (x1 : Nat) (x2 : Int32) (h : PH) : X3_isWord_b29 c_J0_length_8abf5 c_J0_charAt_5068e (X3_isWord_u29 g29) [some (.inr (2, t + 1)), some (.inr (73, x1)), some (.inl x2)] [] h = X3_isWord_f29 c_J0_length_8abf5 c_J0_charAt_5068e g29 t x1 x2 h := rfl
theorem X3_isWord_m29 {c_J0_length_8abf5 : Nat → PH → Option Rs} {c_J0_charAt_5068e : Nat → Int32 → PH → Option Rs} {g29 G29 : Nat → Nat → Int32 → PH → Option Rs} (hg29 : ∀ a0 a1 a2 a3, Mo (g29 a0 a1 a2 a3) (G29 a0 a1 a2 a3)) (t : Nat) (x1 : Nat) (x2 : Int32) (h : PH) : Mo (X3_isWord_f29 c_J0_length_8abf5 c_J0_charAt_5068e g29 t x1 x2 h) (X3_isWord_f29 c_J0_length_8abf5 c_J0_charAt_5068e G29 t x1 x2 h) := (mo_nn fun r4 => (mo_cI fun v6 h5 => (mo_if (mo_nn fun r7 => (mo_ix fun j8 => (mo_nn fun r9 => (mo_cI fun v11 h10 => (mo_if (hg29 t x1 (x2 + 1) h10) (mo_bz mo_rf)))))) (mo_bz mo_rf))))
theorem X3_isWord_w29 {z : CZ} {g29 : Nat → Nat → Int32 → PH → Option Rs} (hk29 : SK (X3_isWord_x z) 29 (X3_isWord_u29 g29)) : SK (X3_isWord_x z) 29 (X3_isWord_u29 (X3_isWord_f29 J0_length_8abf5 J0_charAt_5068e g29)) := by
  intro ls st h r e
  obtain ⟨hst, e⟩ := gL_of e
  obtain ⟨t, q0, e⟩ := gT_of e
  obtain ⟨x1, q1, e⟩ := gR_of e
  obtain ⟨x2, q2, e⟩ := gI_of e
  rw [st_0 hst]
  exact WK.sub (canon := [some (.inr (2, t + 1)), some (.inr (73, x1)), some (.inl x2)]) rfl ⟨q0, q1, q2, trivial⟩ (X3_isWord_s29 hk29 _ _ _ _ ((X3_isWord_l29 J0_length_8abf5 J0_charAt_5068e g29 t x1 x2 h).trans e))
noncomputable def X3_isWord_g0 (G : (Nat → Nat → Int32 → PH → Option Rs)) (t : Nat) (x1 : Nat) (h : PH) : Option Rs := X3_isWord_f0 J0_length_8abf5 (G) t x1 h
noncomputable def X3_isWord_g29 (G : (Nat → Nat → Int32 → PH → Option Rs)) (t : Nat) (x1 : Nat) (x2 : Int32) (h : PH) : Option Rs := X3_isWord_f29 J0_length_8abf5 J0_charAt_5068e (G) t x1 x2 h
theorem X3_isWord_v29 {z : CZ} {G : (Nat → Nat → Int32 → PH → Option Rs)} (hG29 : SK (X3_isWord_x z) 29 (X3_isWord_u29 (G))) : SK (X3_isWord_x z) 29 (X3_isWord_u29 (X3_isWord_g29 G)) := X3_isWord_w29 hG29
noncomputable def X3_isWord_fam : Nat → (Nat → Nat → Int32 → PH → Option Rs)
  | 0 => fun _ _ _ _ => none
  | n + 1 => X3_isWord_g29 (X3_isWord_fam n)
theorem X3_isWord_k {z : CZ} : ∀ n, SK (X3_isWord_x z) 29 (X3_isWord_u29 (X3_isWord_fam n))
  | 0 => (fun ls st h r e => by
      obtain ⟨_, e⟩ := gL_of e
      obtain ⟨_, _, e⟩ := gT_of e
      obtain ⟨_, _, e⟩ := gR_of e
      obtain ⟨_, _, e⟩ := gI_of e
      cases e)
  | n + 1 => by
    obtain ih29 := X3_isWord_k n
    exact X3_isWord_v29 ih29
theorem X3_isWord_n0 {G G' : (Nat → Nat → Int32 → PH → Option Rs)} (hg29 : ∀ a0 a1 a2 a3, Mo ((G) a0 a1 a2 a3) ((G') a0 a1 a2 a3)) (t : Nat) (x1 : Nat) (h : PH) : Mo (X3_isWord_g0 G t x1 h) (X3_isWord_g0 G' t x1 h) := X3_isWord_m0 hg29 t x1 h
theorem X3_isWord_n29 {G G' : (Nat → Nat → Int32 → PH → Option Rs)} (hg29 : ∀ a0 a1 a2 a3, Mo ((G) a0 a1 a2 a3) ((G') a0 a1 a2 a3)) (t : Nat) (x1 : Nat) (x2 : Int32) (h : PH) : Mo (X3_isWord_g29 G t x1 x2 h) (X3_isWord_g29 G' t x1 x2 h) := X3_isWord_m29 hg29 t x1 x2 h
theorem X3_isWord_fm : ∀ n, (∀ a0 a1 a2 a3, Mo ((X3_isWord_fam n) a0 a1 a2 a3) ((X3_isWord_fam (n + 1)) a0 a1 a2 a3))
  | 0 => fun _ _ _ _ => mo_no
  | n + 1 => by
    obtain ih29 := X3_isWord_fm n
    exact fun a0 a1 a2 a3 => X3_isWord_n29 ih29 a0 a1 a2 a3
noncomputable def X3_isWord (t : Nat) (x1 : Nat) (h : PH) : Option Rs := lim (fun n => X3_isWord_g0 (X3_isWord_fam n) t x1 h)
theorem X3_isWord_iff {t : Nat} {x1 : Nat} {h : PH} {r : Rs} : X3_isWord t x1 h = some r ↔ ∃ n, X3_isWord_g0 (X3_isWord_fam n) t x1 h = some r := lim_iff (fun n => by
  obtain ih29 := X3_isWord_fm n
  exact X3_isWord_n0 ih29 t x1 h)
noncomputable abbrev X3_isWord_F : List PV → PH → Option Rs := FW_T2R73 (X3_isWord)
set_option maxRecDepth 100000 in
theorem X3_isWord_gd (l : Launch) : Gd l 4 yX3_isWord cX3_isWord 3 (some .boolean) (X3_isWord_F)   := Gd_of (by decide +kernel) (fun z hzl as h r e => by
  obtain ⟨hst, e⟩ := gL_of e
  obtain ⟨t, q0, e⟩ := gT_of e
  obtain ⟨x1, q1, e⟩ := gR_of e
  rw [st_2 hst q0 q1]
  obtain ⟨n, e⟩ := lim_of e
  obtain hG29 := X3_isWord_k (z := z) n
  exact ⟨show 2 ≤ 3 by decide, X3_isWord_s0 hG29 _ _ _ _ ((X3_isWord_l0 J0_length_8abf5 (X3_isWord_fam n) t x1 h).trans e)⟩)
abbrev X3_readKey_x (z : CZ) : CX := mx RX3 cX3_readKey 1 5 none "readKey" z
noncomputable def X3_readKey_b0 (c_X3_isWord : Nat → Nat → PH → Option Rs) (k28 : Kn) : Kn := (a_al 0 (a_al 0 (a_str 0 (a_vI 2 1 (FW_T2R73 c_X3_isWord) (a_z (a_al 0 (a_str 1 (a_vI 2 1 (FW_T2R73 c_X3_isWord) (a_z (a_ic 2 k28) (a_ic 1 k28))))) (a_ic 0 k28))))))
set_option maxRecDepth 100000 in
theorem X3_readKey_s0 {z : CZ} {k28 : Kn} (hk28 : SK (X3_readKey_x z) 28 k28) : SK (X3_readKey_x z) 0 (X3_readKey_b0 X3_isWord k28) := (s_aloadn (pc := 0) dX3_readKey_0 rfl (s_aloadn (pc := 1) dX3_readKey_1 rfl (s_str (pc := 2) (by decide) rfl rfl dX3_readKey_2 (s_vI (pc := 4) (run_virtual (X3_isWord_gd _) (show 4 < 5 by decide) cy_X3_isWord (by decide) rfl w_760 w_s6 w_758 dX3_readKey_4) (s_ifeq (pc := 7) dX3_readKey_7 (by decide) (s_aloadn (pc := 14) dX3_readKey_14 rfl (s_str (pc := 15) (by decide) rfl rfl dX3_readKey_15 (s_vI (pc := 17) (run_virtual (X3_isWord_gd _) (show 4 < 5 by decide) cy_X3_isWord (by decide) rfl w_760 w_s6 w_758 dX3_readKey_17) (s_ifeq (pc := 20) dX3_readKey_20 (by decide) (s_iconst (pc := 27) dX3_readKey_27 c_ic_2 hk28) (s_iconst (pc := 23) dX3_readKey_23 c_ic_1 (s_goto (pc := 24) dX3_readKey_24 (by decide) hk28)))))) (s_iconst (pc := 10) dX3_readKey_10 c_ic_0 (s_goto (pc := 11) dX3_readKey_11 (by decide) hk28)))))))
noncomputable def X3_readKey_b28 (c_X3_isWord : Nat → Nat → PH → Option Rs) (k57 : Kn) : Kn := (a_pI 2 134 (a_al 0 (a_gI 2 134 (a_ic 2 (a_eq (a_al 0 (a_str 2 (a_vI 2 1 (FW_T2R73 c_X3_isWord) (a_z (a_al 0 (a_al 0 (a_gI 2 131 (a_pI 2 133 a_vr)))) k57)))) k57)))))
set_option maxRecDepth 100000 in
theorem X3_readKey_s28 {z : CZ} {k57 : Kn} (hk57 : SK (X3_readKey_x z) 57 k57) : SK (X3_readKey_x z) 28 (X3_readKey_b28 X3_isWord k57) := (s_pI (pc := 28) (f := 6) ko_2 (by decide) rfl rfl rfl (by decide +kernel) w_419 dX3_readKey_28 (s_aloadn (pc := 31) dX3_readKey_31 rfl (s_gI (pc := 32) (f := 6) ko_2 (by decide) rfl rfl w_419 dX3_readKey_32 (s_iconst (pc := 35) dX3_readKey_35 c_ic_2 (s_cmpne (pc := 36) dX3_readKey_36 (by decide) hk57 (s_aloadn (pc := 39) dX3_readKey_39 rfl (s_str (pc := 40) (by decide) rfl rfl dX3_readKey_40 (s_vI (pc := 42) (run_virtual (X3_isWord_gd _) (show 4 < 5 by decide) cy_X3_isWord (by decide) rfl w_760 w_s6 w_758 dX3_readKey_42) (s_ifne (pc := 45) dX3_readKey_45 (by decide) hk57 (s_aloadn (pc := 48) dX3_readKey_48 rfl (s_aloadn (pc := 49) dX3_readKey_49 rfl (s_gI (pc := 50) (f := 3) ko_2 (by decide) rfl rfl w_416 dX3_readKey_50 (s_pI (pc := 53) (f := 5) ko_2 (by decide) rfl rfl rfl (by decide +kernel) w_418 dX3_readKey_53 (s_vr (pc := 56) rfl dX3_readKey_56))))))))))))))
noncomputable def X3_readKey_b57 (c_X3_look : Nat → PH → Option Rs) : Kn := (a_al 0 (a_vV 2 0 (FW_T2 c_X3_look) a_vr))
set_option maxRecDepth 100000 in
theorem X3_readKey_s57 {z : CZ} : SK (X3_readKey_x z) 57 (X3_readKey_b57 X3_look) := (s_aloadn (pc := 57) dX3_readKey_57 rfl (s_vV (pc := 58) (run_virtual (X3_look_gd _) (show 2 < 5 by decide) cy_X3_look (by decide) rfl w_739 w_s1 w_737 dX3_readKey_58) (s_vr (pc := 61) rfl dX3_readKey_61)))
noncomputable def X3_readKey_u28 (g : Nat → Int32 → Nat → PH → Option Rs) : Kn := fun ls st h => gL 2 st (gT 2 ls 0 fun t => gI (st.map some) 0 fun s0 => gT 2 (st.map some) 1 fun s1 => g t s0 s1 h)
noncomputable def X3_readKey_u57 (g : Nat → PH → Option Rs) : Kn := fun ls st h => gL 0 st (gT 2 ls 0 fun t => g t h)
noncomputable def X3_readKey_f0 (c_X3_isWord : Nat → Nat → PH → Option Rs) (g28 : Nat → Int32 → Nat → PH → Option Rs) (t : Nat) (h : PH) : Option Rs :=
  cI (c_X3_isWord t 1 h) fun v2 h1 =>
  if v2 = 0 then
    cI (c_X3_isWord t 2 h1) fun v4 h3 =>
    if v4 = 0 then
      g28 t 2 t h3
    else
      g28 t 1 t h3
  else
    g28 t 0 t h1
set_option maxRecDepth 100000 in
theorem X3_readKey_l0 (c_X3_isWord : Nat → Nat → PH → Option Rs) (g28 : Nat → Int32 → Nat → PH → Option Rs) (t : Nat) (h : PH) : X3_readKey_b0 c_X3_isWord (X3_readKey_u28 g28) [some (.inr (2, t + 1))] [] h = X3_readKey_f0 c_X3_isWord g28 t h := rfl
theorem X3_readKey_m0 {c_X3_isWord : Nat → Nat → PH → Option Rs} {g28 G28 : Nat → Int32 → Nat → PH → Option Rs} (hg28 : ∀ a0 a1 a2 a3, Mo (g28 a0 a1 a2 a3) (G28 a0 a1 a2 a3)) (t : Nat) (h : PH) : Mo (X3_readKey_f0 c_X3_isWord g28 t h) (X3_readKey_f0 c_X3_isWord G28 t h) := (mo_cI fun v2 h1 => (mo_if (mo_cI fun v4 h3 => (mo_if (hg28 t 2 t h3) (hg28 t 1 t h3))) (hg28 t 0 t h1)))
noncomputable def X3_readKey_f28 (c_X3_isWord : Nat → Nat → PH → Option Rs) (g57 : Nat → PH → Option Rs) (t : Nat) (s0 : Int32) (s1 : Nat) (h : PH) : Option Rs :=
  wr (pI h 134 s1 0 s0) fun h5 =>
  if (hI h5 134 t 0) = 2 then
    cI (c_X3_isWord t 3 h5) fun v7 h6 =>
    if v7 = 0 then
      wr (pI h6 133 t 0 (hI h6 131 t 0)) fun h8 =>
      some (none, h8)
    else
      g57 t h6
  else
    g57 t h5
set_option maxRecDepth 100000 in
theorem X3_readKey_l28 (c_X3_isWord : Nat → Nat → PH → Option Rs) (g57 : Nat → PH → Option Rs) (t : Nat) (s0 : Int32) (s1 : Nat) (h : PH) : X3_readKey_b28 c_X3_isWord (X3_readKey_u57 g57) [some (.inr (2, t + 1))] [.inl s0, .inr (2, s1 + 1)] h = X3_readKey_f28 c_X3_isWord g57 t s0 s1 h := rfl
theorem X3_readKey_m28 {c_X3_isWord : Nat → Nat → PH → Option Rs} {g57 G57 : Nat → PH → Option Rs} (hg57 : ∀ a0 a1, Mo (g57 a0 a1) (G57 a0 a1)) (t : Nat) (s0 : Int32) (s1 : Nat) (h : PH) : Mo (X3_readKey_f28 c_X3_isWord g57 t s0 s1 h) (X3_readKey_f28 c_X3_isWord G57 t s0 s1 h) := (mo_wr fun h5 => (mo_if (mo_cI fun v7 h6 => (mo_if (mo_wr fun h8 => mo_rf) (hg57 t h6))) (hg57 t h5)))
theorem X3_readKey_w28 {z : CZ} {g57 : Nat → PH → Option Rs} (hk57 : SK (X3_readKey_x z) 57 (X3_readKey_u57 g57)) : SK (X3_readKey_x z) 28 (X3_readKey_u28 (X3_readKey_f28 X3_isWord g57)) := by
  intro ls st h r e
  obtain ⟨hst, e⟩ := gL_of e
  obtain ⟨t, q0, e⟩ := gT_of e
  obtain ⟨s0, q1, e⟩ := gI_of e
  obtain ⟨s1, q2, e⟩ := gT_of e
  rw [st_2 hst q1 q2]
  exact WK.sub (canon := [some (.inr (2, t + 1))]) rfl ⟨q0, trivial⟩ (X3_readKey_s28 hk57 _ _ _ _ ((X3_readKey_l28 X3_isWord g57 t s0 s1 h).trans e))
noncomputable def X3_readKey_f57 (c_X3_look : Nat → PH → Option Rs) (t : Nat) (h : PH) : Option Rs :=
  cV (c_X3_look t h) fun h9 =>
  some (none, h9)
set_option maxRecDepth 100000 in
theorem X3_readKey_l57 (c_X3_look : Nat → PH → Option Rs) (t : Nat) (h : PH) : X3_readKey_b57 c_X3_look [some (.inr (2, t + 1))] [] h = X3_readKey_f57 c_X3_look t h := rfl
theorem X3_readKey_w57 {z : CZ} : SK (X3_readKey_x z) 57 (X3_readKey_u57 (X3_readKey_f57 X3_look)) := by
  intro ls st h r e
  obtain ⟨hst, e⟩ := gL_of e
  obtain ⟨t, q0, e⟩ := gT_of e
  rw [st_0 hst]
  exact WK.sub (canon := [some (.inr (2, t + 1))]) rfl ⟨q0, trivial⟩ (X3_readKey_s57 _ _ _ _ ((X3_readKey_l57 X3_look t h).trans e))
noncomputable def X3_readKey_g57 (t : Nat) (h : PH) : Option Rs := X3_readKey_f57 X3_look t h
noncomputable def X3_readKey_g28 (t : Nat) (s0 : Int32) (s1 : Nat) (h : PH) : Option Rs := X3_readKey_f28 X3_isWord (X3_readKey_g57) t s0 s1 h
noncomputable def X3_readKey_g0 (t : Nat) (h : PH) : Option Rs := X3_readKey_f0 X3_isWord (X3_readKey_g28) t h
theorem X3_readKey_v57 {z : CZ} : SK (X3_readKey_x z) 57 (X3_readKey_u57 (X3_readKey_g57)) := X3_readKey_w57
theorem X3_readKey_v28 {z : CZ} : SK (X3_readKey_x z) 28 (X3_readKey_u28 (X3_readKey_g28)) := X3_readKey_w28 (X3_readKey_v57)
noncomputable def X3_readKey (t : Nat) (h : PH) : Option Rs := X3_readKey_g0 t h
noncomputable abbrev X3_readKey_F : List PV → PH → Option Rs := FW_T2 (X3_readKey)
set_option maxRecDepth 100000 in
theorem X3_readKey_gd (l : Launch) : Gd l 5 yX3_readKey cX3_readKey 1 none (X3_readKey_F)   := Gd_of (by decide +kernel) (fun z hzl as h r e => by
  obtain ⟨hst, e⟩ := gL_of e
  obtain ⟨t, q0, e⟩ := gT_of e
  rw [st_1 hst q0]
  exact ⟨show 1 ≤ 1 by decide, X3_readKey_s0 (X3_readKey_v28) _ _ _ _ ((X3_readKey_l0 X3_isWord (X3_readKey_g28) t h).trans e)⟩)
abbrev X3_isJoining_x (z : CZ) : CX := mx RX3 cX3_isJoining 2 0 (some .boolean) "isJoining" z
noncomputable def X3_isJoining_b0 : Kn := (a_il 1 (a_sw [(0, (a_al 0 (a_gI 2 130 (a_ic 124 (a_eq (a_ic 1 a_zr) (a_ic 0 a_zr)))))), (1, (a_al 0 (a_gI 2 130 (a_ic 38 (a_eq (a_ic 1 a_zr) (a_ic 0 a_zr)))))), (2, (a_al 0 (a_gI 2 130 (a_ic 60 (a_eq (a_ic 1 a_zr) (a_al 0 (a_gI 2 130 (a_ic 61 (a_eq (a_ic 1 a_zr) (a_al 0 (a_gI 2 130 (a_ic 62 (a_eq (a_ic 1 a_zr) (a_ic 0 a_zr)))))))))))))), (3, (a_al 0 (a_gI 2 130 (a_ic 43 (a_eq (a_ic 1 a_zr) (a_al 0 (a_gI 2 130 (a_ic 45 (a_eq (a_ic 1 a_zr) (a_ic 0 a_zr))))))))))] (a_al 0 (a_gI 2 130 (a_ic 42 (a_eq (a_ic 1 a_zr) (a_al 0 (a_gI 2 130 (a_ic 47 (a_eq (a_ic 1 a_zr) (a_ic 0 a_zr)))))))))))
set_option maxRecDepth 100000 in
theorem X3_isJoining_s0 {z : CZ} : SK (X3_isJoining_x z) 0 (X3_isJoining_b0) := (s_iloadn (pc := 0) dX3_isJoining_0 rfl (s_table (pc := 1) dX3_isJoining_1 (by decide) (by decide) ⟨c_ti_0, ⟨_, by decide, (s_aloadn (pc := 32) dX3_isJoining_32 rfl (s_gI (pc := 33) (f := 2) ko_2 (by decide) rfl rfl w_415 dX3_isJoining_33 (s_bipush (pc := 36) dX3_isJoining_36 c_bp_124 (s_cmpne (pc := 38) dX3_isJoining_38 (by decide) (s_iconst (pc := 45) dX3_isJoining_45 c_ic_0 (s_zr (pc := 46) rfl dX3_isJoining_46)) (s_iconst (pc := 41) dX3_isJoining_41 c_ic_1 (s_goto (pc := 42) dX3_isJoining_42 (by decide) (s_zr (pc := 46) rfl dX3_isJoining_46)))))))⟩, ⟨c_ti_1, ⟨_, by decide, (s_aloadn (pc := 47) dX3_isJoining_47 rfl (s_gI (pc := 48) (f := 2) ko_2 (by decide) rfl rfl w_415 dX3_isJoining_48 (s_bipush (pc := 51) dX3_isJoining_51 c_bp_38 (s_cmpne (pc := 53) dX3_isJoining_53 (by decide) (s_iconst (pc := 60) dX3_isJoining_60 c_ic_0 (s_zr (pc := 61) rfl dX3_isJoining_61)) (s_iconst (pc := 56) dX3_isJoining_56 c_ic_1 (s_goto (pc := 57) dX3_isJoining_57 (by decide) (s_zr (pc := 61) rfl dX3_isJoining_61)))))))⟩, ⟨c_ti_2, ⟨_, by decide, (s_aloadn (pc := 62) dX3_isJoining_62 rfl (s_gI (pc := 63) (f := 2) ko_2 (by decide) rfl rfl w_415 dX3_isJoining_63 (s_bipush (pc := 66) dX3_isJoining_66 c_bp_60 (s_cmpeq (pc := 68) dX3_isJoining_68 (by decide) (s_iconst (pc := 89) dX3_isJoining_89 c_ic_1 (s_goto (pc := 90) dX3_isJoining_90 (by decide) (s_zr (pc := 94) rfl dX3_isJoining_94))) (s_aloadn (pc := 71) dX3_isJoining_71 rfl (s_gI (pc := 72) (f := 2) ko_2 (by decide) rfl rfl w_415 dX3_isJoining_72 (s_bipush (pc := 75) dX3_isJoining_75 c_bp_61 (s_cmpeq (pc := 77) dX3_isJoining_77 (by decide) (s_iconst (pc := 89) dX3_isJoining_89 c_ic_1 (s_goto (pc := 90) dX3_isJoining_90 (by decide) (s_zr (pc := 94) rfl dX3_isJoining_94))) (s_aloadn (pc := 80) dX3_isJoining_80 rfl (s_gI (pc := 81) (f := 2) ko_2 (by decide) rfl rfl w_415 dX3_isJoining_81 (s_bipush (pc := 84) dX3_isJoining_84 c_bp_62 (s_cmpne (pc := 86) dX3_isJoining_86 (by decide) (s_iconst (pc := 93) dX3_isJoining_93 c_ic_0 (s_zr (pc := 94) rfl dX3_isJoining_94)) (s_iconst (pc := 89) dX3_isJoining_89 c_ic_1 (s_goto (pc := 90) dX3_isJoining_90 (by decide) (s_zr (pc := 94) rfl dX3_isJoining_94)))))))))))))))⟩, ⟨c_ti_3, ⟨_, by decide, (s_aloadn (pc := 95) dX3_isJoining_95 rfl (s_gI (pc := 96) (f := 2) ko_2 (by decide) rfl rfl w_415 dX3_isJoining_96 (s_bipush (pc := 99) dX3_isJoining_99 c_bp_43 (s_cmpeq (pc := 101) dX3_isJoining_101 (by decide) (s_iconst (pc := 113) dX3_isJoining_113 c_ic_1 (s_goto (pc := 114) dX3_isJoining_114 (by decide) (s_zr (pc := 118) rfl dX3_isJoining_118))) (s_aloadn (pc := 104) dX3_isJoining_104 rfl (s_gI (pc := 105) (f := 2) ko_2 (by decide) rfl rfl w_415 dX3_isJoining_105 (s_bipush (pc := 108) dX3_isJoining_108 c_bp_45 (s_cmpne (pc := 110) dX3_isJoining_110 (by decide) (s_iconst (pc := 117) dX3_isJoining_117 c_ic_0 (s_zr (pc := 118) rfl dX3_isJoining_118)) (s_iconst (pc := 113) dX3_isJoining_113 c_ic_1 (s_goto (pc := 114) dX3_isJoining_114 (by decide) (s_zr (pc := 118) rfl dX3_isJoining_118)))))))))))⟩, trivial⟩⟩⟩⟩ (s_aloadn (pc := 119) dX3_isJoining_119 rfl (s_gI (pc := 120) (f := 2) ko_2 (by decide) rfl rfl w_415 dX3_isJoining_120 (s_bipush (pc := 123) dX3_isJoining_123 c_bp_42 (s_cmpeq (pc := 125) dX3_isJoining_125 (by decide) (s_iconst (pc := 137) dX3_isJoining_137 c_ic_1 (s_goto (pc := 138) dX3_isJoining_138 (by decide) (s_zr (pc := 142) rfl dX3_isJoining_142))) (s_aloadn (pc := 128) dX3_isJoining_128 rfl (s_gI (pc := 129) (f := 2) ko_2 (by decide) rfl rfl w_415 dX3_isJoining_129 (s_bipush (pc := 132) dX3_isJoining_132 c_bp_47 (s_cmpne (pc := 134) dX3_isJoining_134 (by decide) (s_iconst (pc := 141) dX3_isJoining_141 c_ic_0 (s_zr (pc := 142) rfl dX3_isJoining_142)) (s_iconst (pc := 137) dX3_isJoining_137 c_ic_1 (s_goto (pc := 138) dX3_isJoining_138 (by decide) (s_zr (pc := 142) rfl dX3_isJoining_142)))))))))))))
noncomputable def X3_isJoining_f0 (t : Nat) (x1 : Int32) (h : PH) : Option Rs :=
  if x1 = 0 then
    if (hI h 130 t 0) = 124 then
      bz 1 <|
      some (some (.inl 1), h)
    else
      bz 0 <|
      some (some (.inl 0), h)
  else
  if x1 = 1 then
    if (hI h 130 t 0) = 38 then
      bz 1 <|
      some (some (.inl 1), h)
    else
      bz 0 <|
      some (some (.inl 0), h)
  else
  if x1 = 2 then
    if (hI h 130 t 0) = 60 then
      bz 1 <|
      some (some (.inl 1), h)
    else
      if (hI h 130 t 0) = 61 then
        bz 1 <|
        some (some (.inl 1), h)
      else
        if (hI h 130 t 0) = 62 then
          bz 1 <|
          some (some (.inl 1), h)
        else
          bz 0 <|
          some (some (.inl 0), h)
  else
  if x1 = 3 then
    if (hI h 130 t 0) = 43 then
      bz 1 <|
      some (some (.inl 1), h)
    else
      if (hI h 130 t 0) = 45 then
        bz 1 <|
        some (some (.inl 1), h)
      else
        bz 0 <|
        some (some (.inl 0), h)
  else
    if (hI h 130 t 0) = 42 then
      bz 1 <|
      some (some (.inl 1), h)
    else
      if (hI h 130 t 0) = 47 then
        bz 1 <|
        some (some (.inl 1), h)
      else
        bz 0 <|
        some (some (.inl 0), h)
set_option maxRecDepth 100000 in
theorem X3_isJoining_l0 (t : Nat) (x1 : Int32) (h : PH) : X3_isJoining_b0 [some (.inr (2, t + 1)), some (.inl x1)] [] h = X3_isJoining_f0 t x1 h := rfl
noncomputable def X3_isJoining_g0 (t : Nat) (x1 : Int32) (h : PH) : Option Rs := X3_isJoining_f0 t x1 h
noncomputable def X3_isJoining (t : Nat) (x1 : Int32) (h : PH) : Option Rs := X3_isJoining_g0 t x1 h
noncomputable abbrev X3_isJoining_F : List PV → PH → Option Rs := FW_T2I (X3_isJoining)
set_option maxRecDepth 100000 in
theorem X3_isJoining_gd (l : Launch) : Gd l 0 yX3_isJoining cX3_isJoining 2 (some .boolean) (X3_isJoining_F)   := Gd_of (by decide +kernel) (fun z hzl as h r e => by
  obtain ⟨hst, e⟩ := gL_of e
  obtain ⟨t, q0, e⟩ := gT_of e
  obtain ⟨x1, q1, e⟩ := gI_of e
  rw [st_2 hst q0 q1]
  exact ⟨show 2 ≤ 2 by decide, X3_isJoining_s0 _ _ _ _ ((X3_isJoining_l0 t x1 h).trans e)⟩)
abbrev X3_put_x (z : CZ) : CX := mx RX3 cX3_put 2 0 none "put" z
noncomputable def X3_put_b0 : Kn := (a_al 0 (a_gI 2 136 (a_ic 96 (a_lt (a_al 0 (a_gR 2 135 23 (a_al 0 (a_gI 2 136 (a_il 1 (a_ast 23 1472 (fun a => a) (a_al 0 (a_dup (a_gI 2 136 (a_ic 1 (a_b (fun a b => a + b) (a_pI 2 136 a_vr)))))))))))) a_vr))))
set_option maxRecDepth 100000 in
theorem X3_put_s0 {z : CZ} : SK (X3_put_x z) 0 (X3_put_b0) := (s_aloadn (pc := 0) dX3_put_0 rfl (s_gI (pc := 1) (f := 8) ko_2 (by decide) rfl rfl w_421 dX3_put_1 (s_bipush (pc := 4) dX3_put_4 c_bp_96 (s_cmpge (pc := 6) dX3_put_6 (by decide) (s_vr (pc := 29) rfl dX3_put_29) (s_aloadn (pc := 9) dX3_put_9 rfl (s_gR (pc := 10) (f := 7) ko_2 (by decide) rfl rfl w_420 dX3_put_10 (s_aloadn (pc := 13) dX3_put_13 rfl (s_gI (pc := 14) (f := 8) ko_2 (by decide) rfl rfl w_421 dX3_put_14 (s_iloadn (pc := 17) dX3_put_17 rfl (s_iast (pc := 18) (by decide) (by decide) rfl rfl rfl dX3_put_18 (s_aloadn (pc := 19) dX3_put_19 rfl (s_dup (pc := 20) dX3_put_20 (s_gI (pc := 21) (f := 8) ko_2 (by decide) rfl rfl w_421 dX3_put_21 (s_iconst (pc := 24) dX3_put_24 c_ic_1 (s_iadd (pc := 25) dX3_put_25 (s_pI (pc := 26) (f := 8) ko_2 (by decide) rfl rfl rfl (by decide +kernel) w_421 dX3_put_26 (s_vr (pc := 29) rfl dX3_put_29)))))))))))))))))
noncomputable def X3_put_f0 (t : Nat) (x1 : Int32) (h : PH) : Option Rs :=
  if (hI h 136 t 0) < 96 then
    nn (hR h 135 t 0) fun r1 =>
    ix (hI h 136 t 0) (hL h 23 r1) fun j2 =>
    wr (pI h 1472 r1 j2 x1) fun h3 =>
    wr (pI h3 136 t 0 ((hI h3 136 t 0) + 1)) fun h4 =>
    some (none, h4)
  else
    some (none, h)
set_option maxRecDepth 100000 in
theorem X3_put_l0 (t : Nat) (x1 : Int32) (h : PH) : X3_put_b0 [some (.inr (2, t + 1)), some (.inl x1)] [] h = X3_put_f0 t x1 h := rfl
noncomputable def X3_put_g0 (t : Nat) (x1 : Int32) (h : PH) : Option Rs := X3_put_f0 t x1 h
noncomputable def X3_put (t : Nat) (x1 : Int32) (h : PH) : Option Rs := X3_put_g0 t x1 h
noncomputable abbrev X3_put_F : List PV → PH → Option Rs := FW_T2I (X3_put)
set_option maxRecDepth 100000 in
theorem X3_put_gd (l : Launch) : Gd l 0 yX3_put cX3_put 2 none (X3_put_F)   := Gd_of (by decide +kernel) (fun z hzl as h r e => by
  obtain ⟨hst, e⟩ := gL_of e
  obtain ⟨t, q0, e⟩ := gT_of e
  obtain ⟨x1, q1, e⟩ := gI_of e
  rw [st_2 hst q0 q1]
  exact ⟨show 2 ≤ 2 by decide, X3_put_s0 _ _ _ _ ((X3_put_l0 t x1 h).trans e)⟩)
abbrev J1_canEncode_9a6ad_x (z : CZ) : CX := mx RJ1 cJ1_canEncode_9a6ad 1 0 (some .boolean) "canEncode" z
noncomputable def J1_canEncode_9a6ad_b0 : Kn := (a_il 0 (a_n (a_ic 0 a_zr) (a_il 0 (a_ic 255 (a_gt (a_ic 0 a_zr) (a_ic 1 a_zr))))))
set_option maxRecDepth 100000 in
theorem J1_canEncode_9a6ad_s0 {z : CZ} : SK (J1_canEncode_9a6ad_x z) 0 (J1_canEncode_9a6ad_b0) := (s_iloadn (pc := 0) dJ1_canEncode_9a6ad_0 rfl (s_iflt (pc := 1) dJ1_canEncode_9a6ad_1 (by decide) (s_iconst (pc := 15) dJ1_canEncode_9a6ad_15 c_ic_0 (s_zr (pc := 16) rfl dJ1_canEncode_9a6ad_16)) (s_iloadn (pc := 4) dJ1_canEncode_9a6ad_4 rfl (s_sipush (pc := 5) dJ1_canEncode_9a6ad_5 c_sp_255 (s_cmpgt (pc := 8) dJ1_canEncode_9a6ad_8 (by decide) (s_iconst (pc := 15) dJ1_canEncode_9a6ad_15 c_ic_0 (s_zr (pc := 16) rfl dJ1_canEncode_9a6ad_16)) (s_iconst (pc := 11) dJ1_canEncode_9a6ad_11 c_ic_1 (s_goto (pc := 12) dJ1_canEncode_9a6ad_12 (by decide) (s_zr (pc := 16) rfl dJ1_canEncode_9a6ad_16))))))))
noncomputable def J1_canEncode_9a6ad_f0 (x0 : Int32) (h : PH) : Option Rs :=
  if x0 < 0 then
    bz 0 <|
    some (some (.inl 0), h)
  else
    if 255 < x0 then
      bz 0 <|
      some (some (.inl 0), h)
    else
      bz 1 <|
      some (some (.inl 1), h)
set_option maxRecDepth 100000 in
theorem J1_canEncode_9a6ad_l0 (x0 : Int32) (h : PH) : J1_canEncode_9a6ad_b0 [some (.inl x0)] [] h = J1_canEncode_9a6ad_f0 x0 h := rfl
noncomputable def J1_canEncode_9a6ad_g0 (x0 : Int32) (h : PH) : Option Rs := J1_canEncode_9a6ad_f0 x0 h
noncomputable def J1_canEncode_9a6ad (x0 : Int32) (h : PH) : Option Rs := J1_canEncode_9a6ad_g0 x0 h
noncomputable abbrev J1_canEncode_9a6ad_F : List PV → PH → Option Rs := FW_I (J1_canEncode_9a6ad)
set_option maxRecDepth 100000 in
theorem J1_canEncode_9a6ad_gd (l : Launch) : Gd l 0 yJ1_canEncode_9a6ad cJ1_canEncode_9a6ad 1 (some .boolean) (J1_canEncode_9a6ad_F)   := Gd_of (by decide +kernel) (fun z hzl as h r e => by
  obtain ⟨hst, e⟩ := gL_of e
  obtain ⟨x0, q0, e⟩ := gI_of e
  rw [st_1 hst q0]
  exact ⟨show 1 ≤ 1 by decide, J1_canEncode_9a6ad_s0 _ _ _ _ ((J1_canEncode_9a6ad_l0 x0 h).trans e)⟩)
abbrev J9_max_7cf53_x (z : CZ) : CX := mx RJ9 cJ9_max_7cf53 2 0 (some .int) "max" z
noncomputable def J9_max_7cf53_b0 : Kn := (a_il 0 (a_il 1 (a_lt (a_il 1 a_ir) (a_il 0 a_ir))))
set_option maxRecDepth 100000 in
theorem J9_max_7cf53_s0 {z : CZ} : SK (J9_max_7cf53_x z) 0 (J9_max_7cf53_b0) := (s_iloadn (pc := 0) dJ9_max_7cf53_0 rfl (s_iloadn (pc := 1) dJ9_max_7cf53_1 rfl (s_cmplt (pc := 2) dJ9_max_7cf53_2 (by decide) (s_iloadn (pc := 9) dJ9_max_7cf53_9 rfl (s_ir (pc := 10) rfl dJ9_max_7cf53_10)) (s_iloadn (pc := 5) dJ9_max_7cf53_5 rfl (s_goto (pc := 6) dJ9_max_7cf53_6 (by decide) (s_ir (pc := 10) rfl dJ9_max_7cf53_10))))))
noncomputable def J9_max_7cf53_f0 (x0 : Int32) (x1 : Int32) (h : PH) : Option Rs :=
  if x0 < x1 then
    some (some (.inl x1), h)
  else
    some (some (.inl x0), h)
set_option maxRecDepth 100000 in
theorem J9_max_7cf53_l0 (x0 : Int32) (x1 : Int32) (h : PH) : J9_max_7cf53_b0 [some (.inl x0), some (.inl x1)] [] h = J9_max_7cf53_f0 x0 x1 h := rfl
noncomputable def J9_max_7cf53_g0 (x0 : Int32) (x1 : Int32) (h : PH) : Option Rs := J9_max_7cf53_f0 x0 x1 h
noncomputable def J9_max_7cf53 (x0 : Int32) (x1 : Int32) (h : PH) : Option Rs := J9_max_7cf53_g0 x0 x1 h
noncomputable abbrev J9_max_7cf53_F : List PV → PH → Option Rs := FW_II (J9_max_7cf53)
set_option maxRecDepth 100000 in
theorem J9_max_7cf53_gd (l : Launch) : Gd l 0 yJ9_max_7cf53 cJ9_max_7cf53 2 (some .int) (J9_max_7cf53_F)   := Gd_ofF (by decide +kernel) (fun z hzl as h r e => by
  obtain ⟨hst, e⟩ := gL_of e
  obtain ⟨x0, q0, e⟩ := gI_of e
  obtain ⟨x1, q1, e⟩ := gI_of e
  rw [st_2 hst q0 q1]
  exact ⟨show 2 ≤ 2 by decide, J9_max_7cf53_s0 _ _ _ _ ((J9_max_7cf53_l0 x0 x1 h).trans e)⟩)
abbrev J1_indexOfChar_4cfef_x (z : CZ) : CX := mx RJ1 cJ1_indexOfChar_4cfef 6 0 (some .int) "indexOfChar" z
noncomputable def J1_indexOfChar_4cfef_b0 (k7 : Kn) : Kn := (a_il 1 (a_u jb (a_is 4 (a_il 2 (a_is 5 k7)))))
set_option maxRecDepth 100000 in
theorem J1_indexOfChar_4cfef_s0 {z : CZ} {k7 : Kn} (hk7 : SK (J1_indexOfChar_4cfef_x z) 7 k7) : SK (J1_indexOfChar_4cfef_x z) 0 (J1_indexOfChar_4cfef_b0 k7) := (s_iloadn (pc := 0) dJ1_indexOfChar_4cfef_0 rfl (s_i2b (pc := 1) dJ1_indexOfChar_4cfef_1 (s_istore (pc := 2) dJ1_indexOfChar_4cfef_2 (show 4 < 6 by decide) (s_iloadn (pc := 4) dJ1_indexOfChar_4cfef_4 rfl (s_istore (pc := 5) dJ1_indexOfChar_4cfef_5 (show 5 < 6 by decide) hk7)))))
noncomputable def J1_indexOfChar_4cfef_b7 (k7 : Kn) : Kn := (a_il 5 (a_il 3 (a_lt (a_al 0 (a_il 5 (a_strB (a_il 4 (a_eq (a_il 5 a_ir) (a_inc 5 1 k7)))))) (a_ic (-1) a_ir))))
set_option maxRecDepth 100000 in
theorem J1_indexOfChar_4cfef_s7 {z : CZ} {k7 : Kn} (hk7 : SK (J1_indexOfChar_4cfef_x z) 7 k7) : SK (J1_indexOfChar_4cfef_x z) 7 (J1_indexOfChar_4cfef_b7 k7) := (s_iload (pc := 7) dJ1_indexOfChar_4cfef_7 (s_iloadn (pc := 9) dJ1_indexOfChar_4cfef_9 rfl (s_cmpge (pc := 10) dJ1_indexOfChar_4cfef_10 (by decide) (s_iconst (pc := 31) dJ1_indexOfChar_4cfef_31 c_ic_m1 (s_ir (pc := 32) rfl dJ1_indexOfChar_4cfef_32)) (s_aloadn (pc := 13) dJ1_indexOfChar_4cfef_13 rfl (s_iload (pc := 14) dJ1_indexOfChar_4cfef_14 (s_strB (pc := 16) dJ1_indexOfChar_4cfef_16 (s_iload (pc := 17) dJ1_indexOfChar_4cfef_17 (s_cmpne (pc := 19) dJ1_indexOfChar_4cfef_19 (by decide) (s_iinc (pc := 25) dJ1_indexOfChar_4cfef_25 c_ic_1 (show 5 < 6 by decide) (s_goto (pc := 28) dJ1_indexOfChar_4cfef_28 (by decide) hk7)) (s_iload (pc := 22) dJ1_indexOfChar_4cfef_22 (s_ir (pc := 24) rfl dJ1_indexOfChar_4cfef_24))))))))))
noncomputable def J1_indexOfChar_4cfef_u7 (g : Nat → Int32 → Int32 → Int32 → PH → Option Rs) : Kn := fun ls st h => gL 0 st (gR 74 ls 0 fun x0 => gI ls 3 fun x3 => gI ls 4 fun x4 => gI ls 5 fun x5 => g x0 x3 x4 x5 h)
noncomputable def J1_indexOfChar_4cfef_f0 (g7 : Nat → Int32 → Int32 → Int32 → PH → Option Rs) (x0 : Nat) (x1 : Int32) (x2 : Int32) (x3 : Int32) (h : PH) : Option Rs :=
  g7 x0 x3 (jb x1) x2 h
set_option maxRecDepth 100000 in
theorem J1_indexOfChar_4cfef_l0 (g7 : Nat → Int32 → Int32 → Int32 → PH → Option Rs) (x0 : Nat) (x1 : Int32) (x2 : Int32) (x3 : Int32) (h : PH) : J1_indexOfChar_4cfef_b0 (J1_indexOfChar_4cfef_u7 g7) [some (.inr (74, x0)), some (.inl x1), some (.inl x2), some (.inl x3), none, none] [] h = J1_indexOfChar_4cfef_f0 g7 x0 x1 x2 x3 h := rfl
theorem J1_indexOfChar_4cfef_m0 {g7 G7 : Nat → Int32 → Int32 → Int32 → PH → Option Rs} (hg7 : ∀ a0 a1 a2 a3 a4, Mo (g7 a0 a1 a2 a3 a4) (G7 a0 a1 a2 a3 a4)) (x0 : Nat) (x1 : Int32) (x2 : Int32) (x3 : Int32) (h : PH) : Mo (J1_indexOfChar_4cfef_f0 g7 x0 x1 x2 x3 h) (J1_indexOfChar_4cfef_f0 G7 x0 x1 x2 x3 h) := (hg7 x0 x3 (jb x1) x2 h)
noncomputable def J1_indexOfChar_4cfef_f7 (g7 : Nat → Int32 → Int32 → Int32 → PH → Option Rs) (x0 : Nat) (x3 : Int32) (x4 : Int32) (x5 : Int32) (h : PH) : Option Rs :=
  if x5 < x3 then
    nn x0 fun r1 =>
    ix x5 (slen.getD r1 0) fun j2 =>
    if ((sbyt.getD r1 []).getD j2 0) = x4 then
      some (some (.inl x5), h)
    else
      g7 x0 x3 x4 (x5 + 1) h
  else
    some (some (.inl (-1)), h)
set_option maxRecDepth 100000 in
theorem J1_indexOfChar_4cfef_l7 (g7 : Nat → Int32 → Int32 → Int32 → PH → Option Rs) (x0 : Nat) (x3 : Int32) (x4 : Int32) (x5 : Int32) (h : PH) : J1_indexOfChar_4cfef_b7 (J1_indexOfChar_4cfef_u7 g7) [some (.inr (74, x0)), none, none, some (.inl x3), some (.inl x4), some (.inl x5)] [] h = J1_indexOfChar_4cfef_f7 g7 x0 x3 x4 x5 h := rfl
theorem J1_indexOfChar_4cfef_m7 {g7 G7 : Nat → Int32 → Int32 → Int32 → PH → Option Rs} (hg7 : ∀ a0 a1 a2 a3 a4, Mo (g7 a0 a1 a2 a3 a4) (G7 a0 a1 a2 a3 a4)) (x0 : Nat) (x3 : Int32) (x4 : Int32) (x5 : Int32) (h : PH) : Mo (J1_indexOfChar_4cfef_f7 g7 x0 x3 x4 x5 h) (J1_indexOfChar_4cfef_f7 G7 x0 x3 x4 x5 h) := (mo_if (mo_nn fun r1 => (mo_ix fun j2 => (mo_if mo_rf (hg7 x0 x3 x4 (x5 + 1) h)))) mo_rf)
theorem J1_indexOfChar_4cfef_w7 {z : CZ} {g7 : Nat → Int32 → Int32 → Int32 → PH → Option Rs} (hk7 : SK (J1_indexOfChar_4cfef_x z) 7 (J1_indexOfChar_4cfef_u7 g7)) : SK (J1_indexOfChar_4cfef_x z) 7 (J1_indexOfChar_4cfef_u7 (J1_indexOfChar_4cfef_f7 g7)) := by
  intro ls st h r e
  obtain ⟨hst, e⟩ := gL_of e
  obtain ⟨x0, q0, e⟩ := gR_of e
  obtain ⟨x3, q1, e⟩ := gI_of e
  obtain ⟨x4, q2, e⟩ := gI_of e
  obtain ⟨x5, q3, e⟩ := gI_of e
  rw [st_0 hst]
  exact WK.sub (canon := [some (.inr (74, x0)), none, none, some (.inl x3), some (.inl x4), some (.inl x5)]) rfl ⟨q0, q1, q2, q3, trivial⟩ (J1_indexOfChar_4cfef_s7 hk7 _ _ _ _ ((J1_indexOfChar_4cfef_l7 g7 x0 x3 x4 x5 h).trans e))
noncomputable def J1_indexOfChar_4cfef_g0 (G : (Nat → Int32 → Int32 → Int32 → PH → Option Rs)) (x0 : Nat) (x1 : Int32) (x2 : Int32) (x3 : Int32) (h : PH) : Option Rs := J1_indexOfChar_4cfef_f0 (G) x0 x1 x2 x3 h
noncomputable def J1_indexOfChar_4cfef_g7 (G : (Nat → Int32 → Int32 → Int32 → PH → Option Rs)) (x0 : Nat) (x3 : Int32) (x4 : Int32) (x5 : Int32) (h : PH) : Option Rs := J1_indexOfChar_4cfef_f7 (G) x0 x3 x4 x5 h
theorem J1_indexOfChar_4cfef_v7 {z : CZ} {G : (Nat → Int32 → Int32 → Int32 → PH → Option Rs)} (hG7 : SK (J1_indexOfChar_4cfef_x z) 7 (J1_indexOfChar_4cfef_u7 (G))) : SK (J1_indexOfChar_4cfef_x z) 7 (J1_indexOfChar_4cfef_u7 (J1_indexOfChar_4cfef_g7 G)) := J1_indexOfChar_4cfef_w7 hG7
noncomputable def J1_indexOfChar_4cfef_fam : Nat → (Nat → Int32 → Int32 → Int32 → PH → Option Rs)
  | 0 => fun _ _ _ _ _ => none
  | n + 1 => J1_indexOfChar_4cfef_g7 (J1_indexOfChar_4cfef_fam n)
theorem J1_indexOfChar_4cfef_k {z : CZ} : ∀ n, SK (J1_indexOfChar_4cfef_x z) 7 (J1_indexOfChar_4cfef_u7 (J1_indexOfChar_4cfef_fam n))
  | 0 => (fun ls st h r e => by
      obtain ⟨_, e⟩ := gL_of e
      obtain ⟨_, _, e⟩ := gR_of e
      obtain ⟨_, _, e⟩ := gI_of e
      obtain ⟨_, _, e⟩ := gI_of e
      obtain ⟨_, _, e⟩ := gI_of e
      cases e)
  | n + 1 => by
    obtain ih7 := J1_indexOfChar_4cfef_k n
    exact J1_indexOfChar_4cfef_v7 ih7
theorem J1_indexOfChar_4cfef_n0 {G G' : (Nat → Int32 → Int32 → Int32 → PH → Option Rs)} (hg7 : ∀ a0 a1 a2 a3 a4, Mo ((G) a0 a1 a2 a3 a4) ((G') a0 a1 a2 a3 a4)) (x0 : Nat) (x1 : Int32) (x2 : Int32) (x3 : Int32) (h : PH) : Mo (J1_indexOfChar_4cfef_g0 G x0 x1 x2 x3 h) (J1_indexOfChar_4cfef_g0 G' x0 x1 x2 x3 h) := J1_indexOfChar_4cfef_m0 hg7 x0 x1 x2 x3 h
theorem J1_indexOfChar_4cfef_n7 {G G' : (Nat → Int32 → Int32 → Int32 → PH → Option Rs)} (hg7 : ∀ a0 a1 a2 a3 a4, Mo ((G) a0 a1 a2 a3 a4) ((G') a0 a1 a2 a3 a4)) (x0 : Nat) (x3 : Int32) (x4 : Int32) (x5 : Int32) (h : PH) : Mo (J1_indexOfChar_4cfef_g7 G x0 x3 x4 x5 h) (J1_indexOfChar_4cfef_g7 G' x0 x3 x4 x5 h) := J1_indexOfChar_4cfef_m7 hg7 x0 x3 x4 x5 h
theorem J1_indexOfChar_4cfef_fm : ∀ n, (∀ a0 a1 a2 a3 a4, Mo ((J1_indexOfChar_4cfef_fam n) a0 a1 a2 a3 a4) ((J1_indexOfChar_4cfef_fam (n + 1)) a0 a1 a2 a3 a4))
  | 0 => fun _ _ _ _ _ => mo_no
  | n + 1 => by
    obtain ih7 := J1_indexOfChar_4cfef_fm n
    exact fun a0 a1 a2 a3 a4 => J1_indexOfChar_4cfef_n7 ih7 a0 a1 a2 a3 a4
noncomputable def J1_indexOfChar_4cfef (x0 : Nat) (x1 : Int32) (x2 : Int32) (x3 : Int32) (h : PH) : Option Rs := lim (fun n => J1_indexOfChar_4cfef_g0 (J1_indexOfChar_4cfef_fam n) x0 x1 x2 x3 h)
theorem J1_indexOfChar_4cfef_iff {x0 : Nat} {x1 : Int32} {x2 : Int32} {x3 : Int32} {h : PH} {r : Rs} : J1_indexOfChar_4cfef x0 x1 x2 x3 h = some r ↔ ∃ n, J1_indexOfChar_4cfef_g0 (J1_indexOfChar_4cfef_fam n) x0 x1 x2 x3 h = some r := lim_iff (fun n => by
  obtain ih7 := J1_indexOfChar_4cfef_fm n
  exact J1_indexOfChar_4cfef_n0 ih7 x0 x1 x2 x3 h)
noncomputable abbrev J1_indexOfChar_4cfef_F : List PV → PH → Option Rs := FW_R74III (J1_indexOfChar_4cfef)
set_option maxRecDepth 100000 in
theorem J1_indexOfChar_4cfef_gd (l : Launch) : Gd l 0 yJ1_indexOfChar_4cfef cJ1_indexOfChar_4cfef 6 (some .int) (J1_indexOfChar_4cfef_F)   := Gd_of (by decide +kernel) (fun z hzl as h r e => by
  obtain ⟨hst, e⟩ := gL_of e
  obtain ⟨x0, q0, e⟩ := gR_of e
  obtain ⟨x1, q1, e⟩ := gI_of e
  obtain ⟨x2, q2, e⟩ := gI_of e
  obtain ⟨x3, q3, e⟩ := gI_of e
  rw [st_4 hst q0 q1 q2 q3]
  obtain ⟨n, e⟩ := lim_of e
  obtain hG7 := J1_indexOfChar_4cfef_k (z := z) n
  exact ⟨show 4 ≤ 6 by decide, J1_indexOfChar_4cfef_s0 hG7 _ _ _ _ ((J1_indexOfChar_4cfef_l0 (J1_indexOfChar_4cfef_fam n) x0 x1 x2 x3 h).trans e)⟩)
abbrev J1_indexOf_4cfef_x (z : CZ) : CX := mx RJ1 cJ1_indexOf_4cfef 4 1 (some .int) "indexOf" z
noncomputable def J1_indexOf_4cfef_b0 (c_J1_canEncode_9a6ad : Int32 → PH → Option Rs) (c_J9_max_7cf53 : Int32 → Int32 → PH → Option Rs) (c_J1_indexOfChar_4cfef : Nat → Int32 → Int32 → Int32 → PH → Option Rs) : Kn := (a_il 1 (a_sI 1 (FW_I c_J1_canEncode_9a6ad) (a_z (a_ic (-1) a_ir) (a_il 2 (a_ic 0 (a_sI 2 (FW_II c_J9_max_7cf53) (a_is 2 (a_il 3 (a_al 0 (a_strL (a_min (a_is 3 (a_il 2 (a_il 3 (a_lt (a_al 0 (a_il 1 (a_il 2 (a_il 3 (a_sI 4 (FW_R74III c_J1_indexOfChar_4cfef) a_ir))))) (a_ic (-1) a_ir))))))))))))))))
set_option maxRecDepth 100000 in
theorem J1_indexOf_4cfef_s0 {z : CZ} : SK (J1_indexOf_4cfef_x z) 0 (J1_indexOf_4cfef_b0 J1_canEncode_9a6ad J9_max_7cf53 J1_indexOfChar_4cfef) := (s_iloadn (pc := 0) dJ1_indexOf_4cfef_0 rfl (s_sI (pc := 1) (run_static (J1_canEncode_9a6ad_gd _) (show 0 < 1 by decide) cy_J1_canEncode_9a6ad w_840 w_839 dJ1_indexOf_4cfef_1) (s_ifne (pc := 4) dJ1_indexOf_4cfef_4 (by decide) (s_iloadn (pc := 9) dJ1_indexOf_4cfef_9 rfl (s_iconst (pc := 10) dJ1_indexOf_4cfef_10 c_ic_0 (s_sI (pc := 11) (run_static (J9_max_7cf53_gd _) (show 0 < 1 by decide) cy_J9_max_7cf53 w_843 w_842 dJ1_indexOf_4cfef_11) (s_istoren (pc := 14) dJ1_indexOf_4cfef_14 rfl (show 2 < 4 by decide) (s_iloadn (pc := 15) dJ1_indexOf_4cfef_15 rfl (s_aloadn (pc := 16) dJ1_indexOf_4cfef_16 rfl (s_strL (pc := 17) dJ1_indexOf_4cfef_17 (s_min (pc := 18) w_845 w_681 w_92 w_682 dJ1_indexOf_4cfef_18 (s_istoren (pc := 21) dJ1_indexOf_4cfef_21 rfl (show 3 < 4 by decide) (s_iloadn (pc := 22) dJ1_indexOf_4cfef_22 rfl (s_iloadn (pc := 23) dJ1_indexOf_4cfef_23 rfl (s_cmplt (pc := 24) dJ1_indexOf_4cfef_24 (by decide) (s_aloadn (pc := 29) dJ1_indexOf_4cfef_29 rfl (s_iloadn (pc := 30) dJ1_indexOf_4cfef_30 rfl (s_iloadn (pc := 31) dJ1_indexOf_4cfef_31 rfl (s_iloadn (pc := 32) dJ1_indexOf_4cfef_32 rfl (s_sI (pc := 33) (run_static (J1_indexOfChar_4cfef_gd _) (show 0 < 1 by decide) cy_J1_indexOfChar_4cfef w_847 w_846 dJ1_indexOf_4cfef_33) (s_ir (pc := 36) rfl dJ1_indexOf_4cfef_36)))))) (s_iconst (pc := 27) dJ1_indexOf_4cfef_27 c_ic_m1 (s_ir (pc := 28) rfl dJ1_indexOf_4cfef_28)))))))))))))) (s_iconst (pc := 7) dJ1_indexOf_4cfef_7 c_ic_m1 (s_ir (pc := 8) rfl dJ1_indexOf_4cfef_8)))))
noncomputable def J1_indexOf_4cfef_f0 (c_J1_canEncode_9a6ad : Int32 → PH → Option Rs) (c_J9_max_7cf53 : Int32 → Int32 → PH → Option Rs) (c_J1_indexOfChar_4cfef : Nat → Int32 → Int32 → Int32 → PH → Option Rs) (x0 : Nat) (x1 : Int32) (x2 : Int32) (x3 : Int32) (h : PH) : Option Rs :=
  cI (c_J1_canEncode_9a6ad x1 h) fun v2 h1 =>
  if v2 = 0 then
    some (some (.inl (-1)), h1)
  else
    cI (c_J9_max_7cf53 x2 0 h1) fun v4 h3 =>
    nn x0 fun r5 =>
    wi (if (Int32.ofNat (slen.getD r5 0)) < x3 then Int32.ofNat (slen.getD r5 0) else x3) fun v6 =>
    if v4 < v6 then
      cI (c_J1_indexOfChar_4cfef x0 x1 v4 v6 h3) fun v8 h7 =>
      some (some (.inl v8), h7)
    else
      some (some (.inl (-1)), h3)
set_option maxRecDepth 100000 in
theorem J1_indexOf_4cfef_l0 (c_J1_canEncode_9a6ad : Int32 → PH → Option Rs) (c_J9_max_7cf53 : Int32 → Int32 → PH → Option Rs) (c_J1_indexOfChar_4cfef : Nat → Int32 → Int32 → Int32 → PH → Option Rs) (x0 : Nat) (x1 : Int32) (x2 : Int32) (x3 : Int32) (h : PH) : J1_indexOf_4cfef_b0 c_J1_canEncode_9a6ad c_J9_max_7cf53 c_J1_indexOfChar_4cfef [some (.inr (74, x0)), some (.inl x1), some (.inl x2), some (.inl x3)] [] h = J1_indexOf_4cfef_f0 c_J1_canEncode_9a6ad c_J9_max_7cf53 c_J1_indexOfChar_4cfef x0 x1 x2 x3 h := rfl
noncomputable def J1_indexOf_4cfef_g0 (x0 : Nat) (x1 : Int32) (x2 : Int32) (x3 : Int32) (h : PH) : Option Rs := J1_indexOf_4cfef_f0 J1_canEncode_9a6ad J9_max_7cf53 J1_indexOfChar_4cfef x0 x1 x2 x3 h
noncomputable def J1_indexOf_4cfef (x0 : Nat) (x1 : Int32) (x2 : Int32) (x3 : Int32) (h : PH) : Option Rs := J1_indexOf_4cfef_g0 x0 x1 x2 x3 h
noncomputable abbrev J1_indexOf_4cfef_F : List PV → PH → Option Rs := FW_R74III (J1_indexOf_4cfef)
set_option maxRecDepth 100000 in
theorem J1_indexOf_4cfef_gd (l : Launch) : Gd l 1 yJ1_indexOf_4cfef cJ1_indexOf_4cfef 4 (some .int) (J1_indexOf_4cfef_F)   := Gd_of (by decide +kernel) (fun z hzl as h r e => by
  obtain ⟨hst, e⟩ := gL_of e
  obtain ⟨x0, q0, e⟩ := gR_of e
  obtain ⟨x1, q1, e⟩ := gI_of e
  obtain ⟨x2, q2, e⟩ := gI_of e
  obtain ⟨x3, q3, e⟩ := gI_of e
  rw [st_4 hst q0 q1 q2 q3]
  exact ⟨show 4 ≤ 4 by decide, J1_indexOf_4cfef_s0 _ _ _ _ ((J1_indexOf_4cfef_l0 J1_canEncode_9a6ad J9_max_7cf53 J1_indexOfChar_4cfef x0 x1 x2 x3 h).trans e)⟩)
abbrev J0_indexOf_7cf53_x (z : CZ) : CX := mx RJ0 cJ0_indexOf_7cf53 3 2 (some .int) "indexOf" z
noncomputable def J0_indexOf_7cf53_b0 (c_J0_isLatin1_aae02 : Nat → PH → Option Rs) (c_J0_length_8abf5 : Nat → PH → Option Rs) (c_J1_indexOf_4cfef : Nat → Int32 → Int32 → Int32 → PH → Option Rs) : Kn := (a_al 0 (a_vI 73 0 (FW_T73 c_J0_isLatin1_aae02) (a_z a_bad (a_al 0 (a_strV (a_il 1 (a_il 2 (a_al 0 (a_vI 73 0 (FW_T73 c_J0_length_8abf5) (a_sI 4 (FW_R74III c_J1_indexOf_4cfef) a_ir))))))))))
set_option maxRecDepth 100000 in
theorem J0_indexOf_7cf53_s0 {z : CZ} : SK (J0_indexOf_7cf53_x z) 0 (J0_indexOf_7cf53_b0 J0_isLatin1_aae02 J0_length_8abf5 J1_indexOf_4cfef) := (s_aloadn (pc := 0) dJ0_indexOf_7cf53_0 rfl (s_vI (pc := 1) (run_str (J0_isLatin1_aae02_gd _) (show 0 < 2 by decide) cy_J0_isLatin1_aae02 rfl w_777 w_778 w_776 dJ0_indexOf_7cf53_1) (s_ifeq (pc := 4) dJ0_indexOf_7cf53_4 (by decide) (s_bad (pc := 23)) (s_aloadn (pc := 7) dJ0_indexOf_7cf53_7 rfl (s_strV (pc := 8) w_1888 dJ0_indexOf_7cf53_8 (s_iloadn (pc := 11) dJ0_indexOf_7cf53_11 rfl (s_iloadn (pc := 12) dJ0_indexOf_7cf53_12 rfl (s_aloadn (pc := 13) dJ0_indexOf_7cf53_13 rfl (s_vI (pc := 14) (run_str (J0_length_8abf5_gd _) (show 1 < 2 by decide) cy_J0_length_8abf5 rfl w_763 w_764 w_835 dJ0_indexOf_7cf53_14) (s_sI (pc := 17) (run_static (J1_indexOf_4cfef_gd _) (show 1 < 2 by decide) cy_J1_indexOf_4cfef w_837 w_836 dJ0_indexOf_7cf53_17) (s_goto (pc := 20) dJ0_indexOf_7cf53_20 (by decide) (s_ir (pc := 36) rfl dJ0_indexOf_7cf53_36))))))))))))
noncomputable def J0_indexOf_7cf53_f0 (c_J0_isLatin1_aae02 : Nat → PH → Option Rs) (c_J0_length_8abf5 : Nat → PH → Option Rs) (c_J1_indexOf_4cfef : Nat → Int32 → Int32 → Int32 → PH → Option Rs) (t : Nat) (x1 : Int32) (x2 : Int32) (h : PH) : Option Rs :=
  cI (c_J0_isLatin1_aae02 t h) fun v2 h1 =>
  if v2 = 0 then
    none
  else
    cI (c_J0_length_8abf5 t h1) fun v4 h3 =>
    cI (c_J1_indexOf_4cfef (t + 1) x1 x2 v4 h3) fun v6 h5 =>
    some (some (.inl v6), h5)
set_option maxRecDepth 100000 in
theorem J0_indexOf_7cf53_l0 (c_J0_isLatin1_aae02 : Nat → PH → Option Rs) (c_J0_length_8abf5 : Nat → PH → Option Rs) (c_J1_indexOf_4cfef : Nat → Int32 → Int32 → Int32 → PH → Option Rs) (t : Nat) (x1 : Int32) (x2 : Int32) (h : PH) : J0_indexOf_7cf53_b0 c_J0_isLatin1_aae02 c_J0_length_8abf5 c_J1_indexOf_4cfef [some (.inr (73, t + 1)), some (.inl x1), some (.inl x2)] [] h = J0_indexOf_7cf53_f0 c_J0_isLatin1_aae02 c_J0_length_8abf5 c_J1_indexOf_4cfef t x1 x2 h := rfl
noncomputable def J0_indexOf_7cf53_g0 (t : Nat) (x1 : Int32) (x2 : Int32) (h : PH) : Option Rs := J0_indexOf_7cf53_f0 J0_isLatin1_aae02 J0_length_8abf5 J1_indexOf_4cfef t x1 x2 h
noncomputable def J0_indexOf_7cf53 (t : Nat) (x1 : Int32) (x2 : Int32) (h : PH) : Option Rs := J0_indexOf_7cf53_g0 t x1 x2 h
noncomputable abbrev J0_indexOf_7cf53_F : List PV → PH → Option Rs := FW_T73II (J0_indexOf_7cf53)
set_option maxRecDepth 100000 in
theorem J0_indexOf_7cf53_gd (l : Launch) : Gd l 2 yJ0_indexOf_7cf53 cJ0_indexOf_7cf53 3 (some .int) (J0_indexOf_7cf53_F)   := Gd_of (by decide +kernel) (fun z hzl as h r e => by
  obtain ⟨hst, e⟩ := gL_of e
  obtain ⟨t, q0, e⟩ := gT_of e
  obtain ⟨x1, q1, e⟩ := gI_of e
  obtain ⟨x2, q2, e⟩ := gI_of e
  rw [st_3 hst q0 q1 q2]
  exact ⟨show 3 ≤ 3 by decide, J0_indexOf_7cf53_s0 _ _ _ _ ((J0_indexOf_7cf53_l0 J0_isLatin1_aae02 J0_length_8abf5 J1_indexOf_4cfef t x1 x2 h).trans e)⟩)
abbrev J0_indexOf_0f7a4_x (z : CZ) : CX := mx RJ0 cJ0_indexOf_0f7a4 2 3 (some .int) "indexOf" z
noncomputable def J0_indexOf_0f7a4_b0 (c_J0_indexOf_7cf53 : Nat → Int32 → Int32 → PH → Option Rs) : Kn := (a_al 0 (a_il 1 (a_ic 0 (a_vI 73 2 (FW_T73II c_J0_indexOf_7cf53) a_ir))))
set_option maxRecDepth 100000 in
theorem J0_indexOf_0f7a4_s0 {z : CZ} : SK (J0_indexOf_0f7a4_x z) 0 (J0_indexOf_0f7a4_b0 J0_indexOf_7cf53) := (s_aloadn (pc := 0) dJ0_indexOf_0f7a4_0 rfl (s_iloadn (pc := 1) dJ0_indexOf_0f7a4_1 rfl (s_iconst (pc := 2) dJ0_indexOf_0f7a4_2 c_ic_0 (s_vI (pc := 3) (run_str (J0_indexOf_7cf53_gd _) (show 2 < 3 by decide) cy_J0_indexOf_7cf53 rfl w_832 w_833 w_831 dJ0_indexOf_0f7a4_3) (s_ir (pc := 6) rfl dJ0_indexOf_0f7a4_6)))))
noncomputable def J0_indexOf_0f7a4_f0 (c_J0_indexOf_7cf53 : Nat → Int32 → Int32 → PH → Option Rs) (t : Nat) (x1 : Int32) (h : PH) : Option Rs :=
  cI (c_J0_indexOf_7cf53 t x1 0 h) fun v2 h1 =>
  some (some (.inl v2), h1)
set_option maxRecDepth 100000 in
theorem J0_indexOf_0f7a4_l0 (c_J0_indexOf_7cf53 : Nat → Int32 → Int32 → PH → Option Rs) (t : Nat) (x1 : Int32) (h : PH) : J0_indexOf_0f7a4_b0 c_J0_indexOf_7cf53 [some (.inr (73, t + 1)), some (.inl x1)] [] h = J0_indexOf_0f7a4_f0 c_J0_indexOf_7cf53 t x1 h := rfl
noncomputable def J0_indexOf_0f7a4_g0 (t : Nat) (x1 : Int32) (h : PH) : Option Rs := J0_indexOf_0f7a4_f0 J0_indexOf_7cf53 t x1 h
noncomputable def J0_indexOf_0f7a4 (t : Nat) (x1 : Int32) (h : PH) : Option Rs := J0_indexOf_0f7a4_g0 t x1 h
noncomputable abbrev J0_indexOf_0f7a4_F : List PV → PH → Option Rs := FW_T73I (J0_indexOf_0f7a4)
set_option maxRecDepth 100000 in
theorem J0_indexOf_0f7a4_gd (l : Launch) : Gd l 3 yJ0_indexOf_0f7a4 cJ0_indexOf_0f7a4 2 (some .int) (J0_indexOf_0f7a4_F)   := Gd_of (by decide +kernel) (fun z hzl as h r e => by
  obtain ⟨hst, e⟩ := gL_of e
  obtain ⟨t, q0, e⟩ := gT_of e
  obtain ⟨x1, q1, e⟩ := gI_of e
  rw [st_2 hst q0 q1]
  exact ⟨show 2 ≤ 2 by decide, J0_indexOf_0f7a4_s0 _ _ _ _ ((J0_indexOf_0f7a4_l0 J0_indexOf_7cf53 t x1 h).trans e)⟩)
abbrev X3_nameRead_x (z : CZ) : CX := mx RX3 cX3_nameRead 2 4 (some .int) "nameRead" z
noncomputable def X3_nameRead_b0 (k42 : Kn) : Kn := (a_al 0 (a_gI 2 132 (a_al 0 (a_gI 2 131 (a_b (fun a b => a - b) (a_ic 1 (a_eq (a_al 0 (a_gI 2 134 (a_z (a_str 3 k42) (a_al 0 (a_gI 2 134 (a_ic 1 (a_eq (a_str 4 k42) (a_str 5 k42)))))))) (a_ic (-1) a_ir))))))))
set_option maxRecDepth 100000 in
theorem X3_nameRead_s0 {z : CZ} {k42 : Kn} (hk42 : SK (X3_nameRead_x z) 42 k42) : SK (X3_nameRead_x z) 0 (X3_nameRead_b0 k42) := (s_aloadn (pc := 0) dX3_nameRead_0 rfl (s_gI (pc := 1) (f := 4) ko_2 (by decide) rfl rfl w_417 dX3_nameRead_1 (s_aloadn (pc := 4) dX3_nameRead_4 rfl (s_gI (pc := 5) (f := 3) ko_2 (by decide) rfl rfl w_416 dX3_nameRead_5 (s_isub (pc := 8) dX3_nameRead_8 (s_iconst (pc := 9) dX3_nameRead_9 c_ic_1 (s_cmpeq (pc := 10) dX3_nameRead_10 (by decide) (s_aloadn (pc := 15) dX3_nameRead_15 rfl (s_gI (pc := 16) (f := 6) ko_2 (by decide) rfl rfl w_419 dX3_nameRead_16 (s_ifne (pc := 19) dX3_nameRead_19 (by decide) (s_aloadn (pc := 27) dX3_nameRead_27 rfl (s_gI (pc := 28) (f := 6) ko_2 (by decide) rfl rfl w_419 dX3_nameRead_28 (s_iconst (pc := 31) dX3_nameRead_31 c_ic_1 (s_cmpne (pc := 32) dX3_nameRead_32 (by decide) (s_str (pc := 40) (by decide) rfl rfl dX3_nameRead_40 hk42) (s_str (pc := 35) (by decide) rfl rfl dX3_nameRead_35 (s_goto (pc := 37) dX3_nameRead_37 (by decide) hk42)))))) (s_str (pc := 22) (by decide) rfl rfl dX3_nameRead_22 (s_goto (pc := 24) dX3_nameRead_24 (by decide) hk42))))) (s_iconst (pc := 13) dX3_nameRead_13 c_ic_m1 (s_ir (pc := 14) rfl dX3_nameRead_14)))))))))
noncomputable def X3_nameRead_b42 (c_J0_indexOf_0f7a4 : Nat → Int32 → PH → Option Rs) : Kn := (a_as 1 (a_al 1 (a_al 0 (a_gR 2 128 22 (a_al 0 (a_gI 2 131 (a_ald 22 1408 (a_u jc (a_vI 73 1 (FW_T73I c_J0_indexOf_0f7a4) a_ir)))))))))
set_option maxRecDepth 100000 in
theorem X3_nameRead_s42 {z : CZ} : SK (X3_nameRead_x z) 42 (X3_nameRead_b42 J0_indexOf_0f7a4) := (s_astoren (pc := 42) dX3_nameRead_42 rfl (show 1 < 2 by decide) (s_aloadn (pc := 43) dX3_nameRead_43 rfl (s_aloadn (pc := 44) dX3_nameRead_44 rfl (s_gR (pc := 45) (f := 0) ko_2 (by decide) rfl rfl w_412 dX3_nameRead_45 (s_aloadn (pc := 48) dX3_nameRead_48 rfl (s_gI (pc := 49) (f := 3) ko_2 (by decide) rfl rfl w_416 dX3_nameRead_49 (s_bald (pc := 52) (by decide) (by decide) rfl rfl rfl dX3_nameRead_52 (s_i2c (pc := 53) dX3_nameRead_53 (s_vI (pc := 54) (run_str (J0_indexOf_0f7a4_gd _) (show 3 < 4 by decide) cy_J0_indexOf_0f7a4 rfl w_828 w_829 w_827 dX3_nameRead_54) (s_ir (pc := 57) rfl dX3_nameRead_57))))))))))
noncomputable def X3_nameRead_u42 (g : Nat → Nat → PH → Option Rs) : Kn := fun ls st h => gL 1 st (gT 2 ls 0 fun t => gR 73 (st.map some) 0 fun s0 => g t s0 h)
noncomputable def X3_nameRead_f0 (g42 : Nat → Nat → PH → Option Rs) (t : Nat) (h : PH) : Option Rs :=
  if ((hI h 132 t 0) - (hI h 131 t 0)) = 1 then
    if (hI h 134 t 0) = 0 then
      g42 t 4 h
    else
      if (hI h 134 t 0) = 1 then
        g42 t 5 h
      else
        g42 t 6 h
  else
    some (some (.inl (-1)), h)
set_option maxRecDepth 100000 in
theorem X3_nameRead_l0 (g42 : Nat → Nat → PH → Option Rs) (t : Nat) (h : PH) : X3_nameRead_b0 (X3_nameRead_u42 g42) [some (.inr (2, t + 1)), none] [] h = X3_nameRead_f0 g42 t h := rfl
theorem X3_nameRead_m0 {g42 G42 : Nat → Nat → PH → Option Rs} (hg42 : ∀ a0 a1 a2, Mo (g42 a0 a1 a2) (G42 a0 a1 a2)) (t : Nat) (h : PH) : Mo (X3_nameRead_f0 g42 t h) (X3_nameRead_f0 G42 t h) := (mo_if (mo_if (hg42 t 4 h) (mo_if (hg42 t 5 h) (hg42 t 6 h))) mo_rf)
noncomputable def X3_nameRead_f42 (c_J0_indexOf_0f7a4 : Nat → Int32 → PH → Option Rs) (t : Nat) (s0 : Nat) (h : PH) : Option Rs :=
  nn (hR h 128 t 0) fun r1 =>
  ix (hI h 131 t 0) (hL h 22 r1) fun j2 =>
  nn s0 fun r3 =>
  cI (c_J0_indexOf_0f7a4 r3 (jc (hI h 1408 r1 j2)) h) fun v5 h4 =>
  some (some (.inl v5), h4)
set_option maxRecDepth 100000 in
theorem X3_nameRead_l42 (c_J0_indexOf_0f7a4 : Nat → Int32 → PH → Option Rs) (t : Nat) (s0 : Nat) (h : PH) : X3_nameRead_b42 c_J0_indexOf_0f7a4 [some (.inr (2, t + 1)), none] [.inr (73, s0)] h = X3_nameRead_f42 c_J0_indexOf_0f7a4 t s0 h := rfl
theorem X3_nameRead_w42 {z : CZ} : SK (X3_nameRead_x z) 42 (X3_nameRead_u42 (X3_nameRead_f42 J0_indexOf_0f7a4)) := by
  intro ls st h r e
  obtain ⟨hst, e⟩ := gL_of e
  obtain ⟨t, q0, e⟩ := gT_of e
  obtain ⟨s0, q1, e⟩ := gR_of e
  rw [st_1 hst q1]
  exact WK.sub (canon := [some (.inr (2, t + 1)), none]) rfl ⟨q0, trivial⟩ (X3_nameRead_s42 _ _ _ _ ((X3_nameRead_l42 J0_indexOf_0f7a4 t s0 h).trans e))
noncomputable def X3_nameRead_g42 (t : Nat) (s0 : Nat) (h : PH) : Option Rs := X3_nameRead_f42 J0_indexOf_0f7a4 t s0 h
noncomputable def X3_nameRead_g0 (t : Nat) (h : PH) : Option Rs := X3_nameRead_f0 (X3_nameRead_g42) t h
theorem X3_nameRead_v42 {z : CZ} : SK (X3_nameRead_x z) 42 (X3_nameRead_u42 (X3_nameRead_g42)) := X3_nameRead_w42
noncomputable def X3_nameRead (t : Nat) (h : PH) : Option Rs := X3_nameRead_g0 t h
noncomputable abbrev X3_nameRead_F : List PV → PH → Option Rs := FW_T2 (X3_nameRead)
set_option maxRecDepth 100000 in
theorem X3_nameRead_gd (l : Launch) : Gd l 4 yX3_nameRead cX3_nameRead 2 (some .int) (X3_nameRead_F)   := Gd_of (by decide +kernel) (fun z hzl as h r e => by
  obtain ⟨hst, e⟩ := gL_of e
  obtain ⟨t, q0, e⟩ := gT_of e
  rw [st_1 hst q0]
  exact ⟨show 1 ≤ 2 by decide, X3_nameRead_s0 (X3_nameRead_v42) _ _ _ _ ((X3_nameRead_l0 (X3_nameRead_g42) t h).trans e)⟩)
abbrev X3_numberRead_x (z : CZ) : CX := mx RX3 cX3_numberRead 3 0 (some .int) "numberRead" z
noncomputable def X3_numberRead_b0 (k7 : Kn) : Kn := (a_ic 0 (a_is 1 (a_al 0 (a_gI 2 131 (a_is 2 k7)))))
set_option maxRecDepth 100000 in
theorem X3_numberRead_s0 {z : CZ} {k7 : Kn} (hk7 : SK (X3_numberRead_x z) 7 k7) : SK (X3_numberRead_x z) 0 (X3_numberRead_b0 k7) := (s_iconst (pc := 0) dX3_numberRead_0 c_ic_0 (s_istoren (pc := 1) dX3_numberRead_1 rfl (show 1 < 3 by decide) (s_aloadn (pc := 2) dX3_numberRead_2 rfl (s_gI (pc := 3) (f := 3) ko_2 (by decide) rfl rfl w_416 dX3_numberRead_3 (s_istoren (pc := 6) dX3_numberRead_6 rfl (show 2 < 3 by decide) hk7)))))
noncomputable def X3_numberRead_b7 (k7 : Kn) : Kn := (a_il 2 (a_al 0 (a_gI 2 132 (a_lt (a_ic 10 (a_il 1 (a_b (fun a b => a * b) (a_al 0 (a_gR 2 128 22 (a_il 2 (a_ald 22 1408 (a_b (fun a b => a + b) (a_ic 48 (a_b (fun a b => a - b) (a_is 1 (a_inc 2 1 k7)))))))))))) (a_il 1 a_ir)))))
set_option maxRecDepth 100000 in
theorem X3_numberRead_s7 {z : CZ} {k7 : Kn} (hk7 : SK (X3_numberRead_x z) 7 k7) : SK (X3_numberRead_x z) 7 (X3_numberRead_b7 k7) := (s_iloadn (pc := 7) dX3_numberRead_7 rfl (s_aloadn (pc := 8) dX3_numberRead_8 rfl (s_gI (pc := 9) (f := 4) ko_2 (by decide) rfl rfl w_417 dX3_numberRead_9 (s_cmpge (pc := 12) dX3_numberRead_12 (by decide) (s_iloadn (pc := 36) dX3_numberRead_36 rfl (s_ir (pc := 37) rfl dX3_numberRead_37)) (s_bipush (pc := 15) dX3_numberRead_15 c_bp_10 (s_iloadn (pc := 17) dX3_numberRead_17 rfl (s_imul (pc := 18) dX3_numberRead_18 (s_aloadn (pc := 19) dX3_numberRead_19 rfl (s_gR (pc := 20) (f := 0) ko_2 (by decide) rfl rfl w_412 dX3_numberRead_20 (s_iloadn (pc := 23) dX3_numberRead_23 rfl (s_bald (pc := 24) (by decide) (by decide) rfl rfl rfl dX3_numberRead_24 (s_iadd (pc := 25) dX3_numberRead_25 (s_bipush (pc := 26) dX3_numberRead_26 c_bp_48 (s_isub (pc := 28) dX3_numberRead_28 (s_istoren (pc := 29) dX3_numberRead_29 rfl (show 1 < 3 by decide) (s_iinc (pc := 30) dX3_numberRead_30 c_ic_1 (show 2 < 3 by decide) (s_goto (pc := 33) dX3_numberRead_33 (by decide) hk7)))))))))))))))))
noncomputable def X3_numberRead_u7 (g : Nat → Int32 → Int32 → PH → Option Rs) : Kn := fun ls st h => gL 0 st (gT 2 ls 0 fun t => gI ls 1 fun x1 => gI ls 2 fun x2 => g t x1 x2 h)
noncomputable def X3_numberRead_f0 (g7 : Nat → Int32 → Int32 → PH → Option Rs) (t : Nat) (h : PH) : Option Rs :=
  g7 t 0 (hI h 131 t 0) h
set_option maxRecDepth 100000 in
theorem X3_numberRead_l0 (g7 : Nat → Int32 → Int32 → PH → Option Rs) (t : Nat) (h : PH) : X3_numberRead_b0 (X3_numberRead_u7 g7) [some (.inr (2, t + 1)), none, none] [] h = X3_numberRead_f0 g7 t h := rfl
theorem X3_numberRead_m0 {g7 G7 : Nat → Int32 → Int32 → PH → Option Rs} (hg7 : ∀ a0 a1 a2 a3, Mo (g7 a0 a1 a2 a3) (G7 a0 a1 a2 a3)) (t : Nat) (h : PH) : Mo (X3_numberRead_f0 g7 t h) (X3_numberRead_f0 G7 t h) := (hg7 t 0 (hI h 131 t 0) h)
noncomputable def X3_numberRead_f7 (g7 : Nat → Int32 → Int32 → PH → Option Rs) (t : Nat) (x1 : Int32) (x2 : Int32) (h : PH) : Option Rs :=
  if x2 < (hI h 132 t 0) then
    nn (hR h 128 t 0) fun r1 =>
    ix x2 (hL h 22 r1) fun j2 =>
    g7 t (((10 * x1) + (hI h 1408 r1 j2)) - 48) (x2 + 1) h
  else
    some (some (.inl x1), h)
set_option maxRecDepth 100000 in
theorem X3_numberRead_l7 (g7 : Nat → Int32 → Int32 → PH → Option Rs) (t : Nat) (x1 : Int32) (x2 : Int32) (h : PH) : X3_numberRead_b7 (X3_numberRead_u7 g7) [some (.inr (2, t + 1)), some (.inl x1), some (.inl x2)] [] h = X3_numberRead_f7 g7 t x1 x2 h := rfl
theorem X3_numberRead_m7 {g7 G7 : Nat → Int32 → Int32 → PH → Option Rs} (hg7 : ∀ a0 a1 a2 a3, Mo (g7 a0 a1 a2 a3) (G7 a0 a1 a2 a3)) (t : Nat) (x1 : Int32) (x2 : Int32) (h : PH) : Mo (X3_numberRead_f7 g7 t x1 x2 h) (X3_numberRead_f7 G7 t x1 x2 h) := (mo_if (mo_nn fun r1 => (mo_ix fun j2 => (hg7 t (((10 * x1) + (hI h 1408 r1 j2)) - 48) (x2 + 1) h))) mo_rf)
theorem X3_numberRead_w7 {z : CZ} {g7 : Nat → Int32 → Int32 → PH → Option Rs} (hk7 : SK (X3_numberRead_x z) 7 (X3_numberRead_u7 g7)) : SK (X3_numberRead_x z) 7 (X3_numberRead_u7 (X3_numberRead_f7 g7)) := by
  intro ls st h r e
  obtain ⟨hst, e⟩ := gL_of e
  obtain ⟨t, q0, e⟩ := gT_of e
  obtain ⟨x1, q1, e⟩ := gI_of e
  obtain ⟨x2, q2, e⟩ := gI_of e
  rw [st_0 hst]
  exact WK.sub (canon := [some (.inr (2, t + 1)), some (.inl x1), some (.inl x2)]) rfl ⟨q0, q1, q2, trivial⟩ (X3_numberRead_s7 hk7 _ _ _ _ ((X3_numberRead_l7 g7 t x1 x2 h).trans e))
noncomputable def X3_numberRead_g0 (G : (Nat → Int32 → Int32 → PH → Option Rs)) (t : Nat) (h : PH) : Option Rs := X3_numberRead_f0 (G) t h
noncomputable def X3_numberRead_g7 (G : (Nat → Int32 → Int32 → PH → Option Rs)) (t : Nat) (x1 : Int32) (x2 : Int32) (h : PH) : Option Rs := X3_numberRead_f7 (G) t x1 x2 h
theorem X3_numberRead_v7 {z : CZ} {G : (Nat → Int32 → Int32 → PH → Option Rs)} (hG7 : SK (X3_numberRead_x z) 7 (X3_numberRead_u7 (G))) : SK (X3_numberRead_x z) 7 (X3_numberRead_u7 (X3_numberRead_g7 G)) := X3_numberRead_w7 hG7
noncomputable def X3_numberRead_fam : Nat → (Nat → Int32 → Int32 → PH → Option Rs)
  | 0 => fun _ _ _ _ => none
  | n + 1 => X3_numberRead_g7 (X3_numberRead_fam n)
theorem X3_numberRead_k {z : CZ} : ∀ n, SK (X3_numberRead_x z) 7 (X3_numberRead_u7 (X3_numberRead_fam n))
  | 0 => (fun ls st h r e => by
      obtain ⟨_, e⟩ := gL_of e
      obtain ⟨_, _, e⟩ := gT_of e
      obtain ⟨_, _, e⟩ := gI_of e
      obtain ⟨_, _, e⟩ := gI_of e
      cases e)
  | n + 1 => by
    obtain ih7 := X3_numberRead_k n
    exact X3_numberRead_v7 ih7
theorem X3_numberRead_n0 {G G' : (Nat → Int32 → Int32 → PH → Option Rs)} (hg7 : ∀ a0 a1 a2 a3, Mo ((G) a0 a1 a2 a3) ((G') a0 a1 a2 a3)) (t : Nat) (h : PH) : Mo (X3_numberRead_g0 G t h) (X3_numberRead_g0 G' t h) := X3_numberRead_m0 hg7 t h
theorem X3_numberRead_n7 {G G' : (Nat → Int32 → Int32 → PH → Option Rs)} (hg7 : ∀ a0 a1 a2 a3, Mo ((G) a0 a1 a2 a3) ((G') a0 a1 a2 a3)) (t : Nat) (x1 : Int32) (x2 : Int32) (h : PH) : Mo (X3_numberRead_g7 G t x1 x2 h) (X3_numberRead_g7 G' t x1 x2 h) := X3_numberRead_m7 hg7 t x1 x2 h
theorem X3_numberRead_fm : ∀ n, (∀ a0 a1 a2 a3, Mo ((X3_numberRead_fam n) a0 a1 a2 a3) ((X3_numberRead_fam (n + 1)) a0 a1 a2 a3))
  | 0 => fun _ _ _ _ => mo_no
  | n + 1 => by
    obtain ih7 := X3_numberRead_fm n
    exact fun a0 a1 a2 a3 => X3_numberRead_n7 ih7 a0 a1 a2 a3
noncomputable def X3_numberRead (t : Nat) (h : PH) : Option Rs := lim (fun n => X3_numberRead_g0 (X3_numberRead_fam n) t h)
theorem X3_numberRead_iff {t : Nat} {h : PH} {r : Rs} : X3_numberRead t h = some r ↔ ∃ n, X3_numberRead_g0 (X3_numberRead_fam n) t h = some r := lim_iff (fun n => by
  obtain ih7 := X3_numberRead_fm n
  exact X3_numberRead_n0 ih7 t h)
noncomputable abbrev X3_numberRead_F : List PV → PH → Option Rs := FW_T2 (X3_numberRead)
set_option maxRecDepth 100000 in
theorem X3_numberRead_gd (l : Launch) : Gd l 0 yX3_numberRead cX3_numberRead 3 (some .int) (X3_numberRead_F)   := Gd_of (by decide +kernel) (fun z hzl as h r e => by
  obtain ⟨hst, e⟩ := gL_of e
  obtain ⟨t, q0, e⟩ := gT_of e
  rw [st_1 hst q0]
  obtain ⟨n, e⟩ := lim_of e
  obtain hG7 := X3_numberRead_k (z := z) n
  exact ⟨show 1 ≤ 3 by decide, X3_numberRead_s0 hG7 _ _ _ _ ((X3_numberRead_l0 (X3_numberRead_fam n) t h).trans e)⟩)
abbrev X3_readClosing_x (z : CZ) : CX := mx RX3 cX3_readClosing 1 3 none "readClosing" z
noncomputable def X3_readClosing_b0 (c_X3_look : Nat → PH → Option Rs) : Kn := (a_al 0 (a_gI 2 133 (a_ic (-1) (a_eq (a_al 0 (a_gI 2 130 (a_ic 41 (a_eq (a_al 0 (a_vV 2 0 (FW_T2 c_X3_look) a_vr)) (a_al 0 (a_al 0 (a_gI 2 131 (a_pI 2 133 a_vr)))))))) a_vr))))
set_option maxRecDepth 100000 in
theorem X3_readClosing_s0 {z : CZ} : SK (X3_readClosing_x z) 0 (X3_readClosing_b0 X3_look) := (s_aloadn (pc := 0) dX3_readClosing_0 rfl (s_gI (pc := 1) (f := 5) ko_2 (by decide) rfl rfl w_418 dX3_readClosing_1 (s_iconst (pc := 4) dX3_readClosing_4 c_ic_m1 (s_cmpeq (pc := 5) dX3_readClosing_5 (by decide) (s_aloadn (pc := 9) dX3_readClosing_9 rfl (s_gI (pc := 10) (f := 2) ko_2 (by decide) rfl rfl w_415 dX3_readClosing_10 (s_bipush (pc := 13) dX3_readClosing_13 c_bp_41 (s_cmpne (pc := 15) dX3_readClosing_15 (by decide) (s_aloadn (pc := 25) dX3_readClosing_25 rfl (s_aloadn (pc := 26) dX3_readClosing_26 rfl (s_gI (pc := 27) (f := 3) ko_2 (by decide) rfl rfl w_416 dX3_readClosing_27 (s_pI (pc := 30) (f := 5) ko_2 (by decide) rfl rfl rfl (by decide +kernel) w_418 dX3_readClosing_30 (s_vr (pc := 33) rfl dX3_readClosing_33))))) (s_aloadn (pc := 18) dX3_readClosing_18 rfl (s_vV (pc := 19) (run_virtual (X3_look_gd _) (show 2 < 3 by decide) cy_X3_look (by decide) rfl w_739 w_s1 w_737 dX3_readClosing_19) (s_goto (pc := 22) dX3_readClosing_22 (by decide) (s_vr (pc := 33) rfl dX3_readClosing_33)))))))) (s_vr (pc := 8) rfl dX3_readClosing_8)))))
noncomputable def X3_readClosing_f0 (c_X3_look : Nat → PH → Option Rs) (t : Nat) (h : PH) : Option Rs :=
  if (hI h 133 t 0) = (-1) then
    if (hI h 130 t 0) = 41 then
      cV (c_X3_look t h) fun h2 =>
      some (none, h2)
    else
      wr (pI h 133 t 0 (hI h 131 t 0)) fun h1 =>
      some (none, h1)
  else
    some (none, h)
set_option maxRecDepth 100000 in
theorem X3_readClosing_l0 (c_X3_look : Nat → PH → Option Rs) (t : Nat) (h : PH) : X3_readClosing_b0 c_X3_look [some (.inr (2, t + 1))] [] h = X3_readClosing_f0 c_X3_look t h := rfl
noncomputable def X3_readClosing_g0 (t : Nat) (h : PH) : Option Rs := X3_readClosing_f0 X3_look t h
noncomputable def X3_readClosing (t : Nat) (h : PH) : Option Rs := X3_readClosing_g0 t h
noncomputable abbrev X3_readClosing_F : List PV → PH → Option Rs := FW_T2 (X3_readClosing)
set_option maxRecDepth 100000 in
theorem X3_readClosing_gd (l : Launch) : Gd l 3 yX3_readClosing cX3_readClosing 1 none (X3_readClosing_F)   := Gd_of (by decide +kernel) (fun z hzl as h r e => by
  obtain ⟨hst, e⟩ := gL_of e
  obtain ⟨t, q0, e⟩ := gT_of e
  rw [st_1 hst q0]
  exact ⟨show 1 ≤ 1 by decide, X3_readClosing_s0 _ _ _ _ ((X3_readClosing_l0 X3_look t h).trans e)⟩)
