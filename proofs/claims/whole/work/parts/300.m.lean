abbrev X10_init_x (z : CZ) : CX := mx RX10 cX10_init 1 0 none "<init>" z
noncomputable def X10_init_b0 : Kn := (a_al 0 (a_oi a_vr))
set_option maxRecDepth 100000 in
theorem X10_init_s0 {z : CZ} : SK (X10_init_x z) 0 (X10_init_b0) := (s_aloadn (pc := 0) dX10_init_0 rfl (s_oi (pc := 1) w_125 w_107 w_108 dX10_init_1 (s_vr (pc := 4) rfl dX10_init_4)))
noncomputable def X10_init_f0 (t : Nat) (h : PH) : Option Rs :=
  some (none, h)
set_option maxRecDepth 100000 in
theorem X10_init_l0 (t : Nat) (h : PH) : X10_init_b0 [some (.inr (9, t + 1))] [] h = X10_init_f0 t h := rfl
noncomputable def X10_init_g0 (t : Nat) (h : PH) : Option Rs := X10_init_f0 t h
noncomputable def X10_init (t : Nat) (h : PH) : Option Rs := X10_init_g0 t h
noncomputable abbrev X10_init_F : List PV → PH → Option Rs := FW_T9 (X10_init)
set_option maxRecDepth 100000 in
theorem X10_init_gd (l : Launch) : Gd l 0 yX10_init cX10_init 1 none (X10_init_F)   := Gd_of (by decide +kernel) (fun z hzl as h r e => by
  obtain ⟨hst, e⟩ := gL_of e
  obtain ⟨t, q0, e⟩ := gT_of e
  rw [st_1 hst q0]
  exact ⟨show 1 ≤ 1 by decide, X10_init_s0 _ _ _ _ ((X10_init_l0 t h).trans e)⟩)
abbrev X6_init_x (z : CZ) : CX := mx RX6 cX6_init 1 0 none "<init>" z
noncomputable def X6_init_b0 : Kn := (a_al 0 (a_oi (a_al 0 (a_ic 6 (a_nwa 27 (a_pR 5 325 27 (a_al 0 (a_ic 6 (a_nwa 28 (a_pR 5 326 28 a_vr))))))))))
set_option maxRecDepth 100000 in
theorem X6_init_s0 {z : CZ} : SK (X6_init_x z) 0 (X6_init_b0) := (s_aloadn (pc := 0) dX6_init_0 rfl (s_oi (pc := 1) w_166 w_107 w_108 dX6_init_1 (s_aloadn (pc := 4) dX6_init_4 rfl (s_bipush (pc := 5) dX6_init_5 c_bp_6 (s_nwa (pc := 7) (at0 := .int) (by decide) (by decide) rfl rfl rfl (by decide) w_161 dX6_init_7 (s_pRF (pc := 9) (f := 5) ko_5 (by decide) rfl rfl rfl rfl rfl (tyX6_ok 5 (by decide)) rfl w_186 dX6_init_9 (s_aloadn (pc := 12) dX6_init_12 rfl (s_bipush (pc := 13) dX6_init_13 c_bp_6 (s_nwa (pc := 15) (at0 := .int) (by decide) (by decide) rfl rfl rfl (by decide) w_161 dX6_init_15 (s_pRF (pc := 17) (f := 6) ko_5 (by decide) rfl rfl rfl rfl rfl (tyX6_ok 6 (by decide)) rfl w_190 dX6_init_17 (s_vr (pc := 20) rfl dX6_init_20)))))))))))
noncomputable def X6_init_f0 (t : Nat) (h : PH) : Option Rs :=
  nl 6 fun n1 =>
  wr (nw h 27 n1 n1) fun h2 =>
  wr (pR h2 325 t 0 (hN h 27 + 1)) fun h3 =>
  nl 6 fun n4 =>
  wr (nw h3 28 n4 n4) fun h5 =>
  wr (pR h5 326 t 0 (hN h3 28 + 1)) fun h6 =>
  some (none, h6)
set_option maxRecDepth 100000 in
theorem X6_init_l0 (t : Nat) (h : PH) : X6_init_b0 [some (.inr (5, t + 1))] [] h = X6_init_f0 t h := rfl
noncomputable def X6_init_g0 (t : Nat) (h : PH) : Option Rs := X6_init_f0 t h
noncomputable def X6_init (t : Nat) (h : PH) : Option Rs := X6_init_g0 t h
noncomputable abbrev X6_init_F : List PV → PH → Option Rs := FW_T5 (X6_init)
set_option maxRecDepth 100000 in
theorem X6_init_gd (l : Launch) : Gd l 0 yX6_init cX6_init 1 none (X6_init_F)   := Gd_of (by decide +kernel) (fun z hzl as h r e => by
  obtain ⟨hst, e⟩ := gL_of e
  obtain ⟨t, q0, e⟩ := gT_of e
  rw [st_1 hst q0]
  exact ⟨show 1 ≤ 1 by decide, X6_init_s0 _ _ _ _ ((X6_init_l0 t h).trans e)⟩)
abbrev J7_fill_53178_15_x (z : CZ) : CX := mx RJ7 cJ7_fill_53178 4 0 none "fill" z
noncomputable def J7_fill_53178_15_b0 (k5 : Kn) : Kn := (a_ic 0 (a_is 2 (a_al 0 (a_len 15 (a_is 3 k5)))))
set_option maxRecDepth 100000 in
theorem J7_fill_53178_15_s0 {z : CZ} {k5 : Kn} (hk5 : SK (J7_fill_53178_15_x z) 5 k5) : SK (J7_fill_53178_15_x z) 0 (J7_fill_53178_15_b0 k5) := (s_iconst (pc := 0) dJ7_fill_53178_0 c_ic_0 (s_istoren (pc := 1) dJ7_fill_53178_1 rfl (show 2 < 4 by decide) (s_aloadn (pc := 2) dJ7_fill_53178_2 rfl (s_len (pc := 3) (by decide) (by decide) rfl dJ7_fill_53178_3 (s_istoren (pc := 4) dJ7_fill_53178_4 rfl (show 3 < 4 by decide) hk5)))))
noncomputable def J7_fill_53178_15_b5 (k5 : Kn) : Kn := (a_il 2 (a_il 3 (a_lt (a_al 0 (a_il 2 (a_il 1 (a_ast 15 960 (fun a => a) (a_inc 2 1 k5))))) a_vr)))
set_option maxRecDepth 100000 in
theorem J7_fill_53178_15_s5 {z : CZ} {k5 : Kn} (hk5 : SK (J7_fill_53178_15_x z) 5 k5) : SK (J7_fill_53178_15_x z) 5 (J7_fill_53178_15_b5 k5) := (s_iloadn (pc := 5) dJ7_fill_53178_5 rfl (s_iloadn (pc := 6) dJ7_fill_53178_6 rfl (s_cmpge (pc := 7) dJ7_fill_53178_7 (by decide) (s_vr (pc := 20) rfl dJ7_fill_53178_20) (s_aloadn (pc := 10) dJ7_fill_53178_10 rfl (s_iloadn (pc := 11) dJ7_fill_53178_11 rfl (s_iloadn (pc := 12) dJ7_fill_53178_12 rfl (s_iast (pc := 13) (by decide) (by decide) rfl rfl rfl dJ7_fill_53178_13 (s_iinc (pc := 14) dJ7_fill_53178_14 c_ic_1 (show 2 < 4 by decide) (s_goto (pc := 17) dJ7_fill_53178_17 (by decide) hk5)))))))))
noncomputable def J7_fill_53178_15_u5 (g : Nat → Int32 → Int32 → Int32 → PH → Option Rs) : Kn := fun ls st h => gL 0 st (gR 15 ls 0 fun x0 => gI ls 1 fun x1 => gI ls 2 fun x2 => gI ls 3 fun x3 => g x0 x1 x2 x3 h)
noncomputable def J7_fill_53178_15_f0 (g5 : Nat → Int32 → Int32 → Int32 → PH → Option Rs) (x0 : Nat) (x1 : Int32) (h : PH) : Option Rs :=
  nn x0 fun r1 =>
  g5 x0 x1 0 (Int32.ofNat (hL h 15 r1)) h
set_option maxRecDepth 100000 in
theorem J7_fill_53178_15_l0 (g5 : Nat → Int32 → Int32 → Int32 → PH → Option Rs) (x0 : Nat) (x1 : Int32) (h : PH) : J7_fill_53178_15_b0 (J7_fill_53178_15_u5 g5) [some (.inr (15, x0)), some (.inl x1), none, none] [] h = J7_fill_53178_15_f0 g5 x0 x1 h := rfl
theorem J7_fill_53178_15_m0 {g5 G5 : Nat → Int32 → Int32 → Int32 → PH → Option Rs} (hg5 : ∀ a0 a1 a2 a3 a4, Mo (g5 a0 a1 a2 a3 a4) (G5 a0 a1 a2 a3 a4)) (x0 : Nat) (x1 : Int32) (h : PH) : Mo (J7_fill_53178_15_f0 g5 x0 x1 h) (J7_fill_53178_15_f0 G5 x0 x1 h) := (mo_nn fun r1 => (hg5 x0 x1 0 (Int32.ofNat (hL h 15 r1)) h))
noncomputable def J7_fill_53178_15_f5 (g5 : Nat → Int32 → Int32 → Int32 → PH → Option Rs) (x0 : Nat) (x1 : Int32) (x2 : Int32) (x3 : Int32) (h : PH) : Option Rs :=
  if x2 < x3 then
    nn x0 fun r2 =>
    ix x2 (hL h 15 r2) fun j3 =>
    wr (pI h 960 r2 j3 x1) fun h4 =>
    g5 x0 x1 (x2 + 1) x3 h4
  else
    some (none, h)
set_option maxRecDepth 100000 in
theorem J7_fill_53178_15_l5 (g5 : Nat → Int32 → Int32 → Int32 → PH → Option Rs) (x0 : Nat) (x1 : Int32) (x2 : Int32) (x3 : Int32) (h : PH) : J7_fill_53178_15_b5 (J7_fill_53178_15_u5 g5) [some (.inr (15, x0)), some (.inl x1), some (.inl x2), some (.inl x3)] [] h = J7_fill_53178_15_f5 g5 x0 x1 x2 x3 h := rfl
theorem J7_fill_53178_15_m5 {g5 G5 : Nat → Int32 → Int32 → Int32 → PH → Option Rs} (hg5 : ∀ a0 a1 a2 a3 a4, Mo (g5 a0 a1 a2 a3 a4) (G5 a0 a1 a2 a3 a4)) (x0 : Nat) (x1 : Int32) (x2 : Int32) (x3 : Int32) (h : PH) : Mo (J7_fill_53178_15_f5 g5 x0 x1 x2 x3 h) (J7_fill_53178_15_f5 G5 x0 x1 x2 x3 h) := (mo_if (mo_nn fun r2 => (mo_ix fun j3 => (mo_wr fun h4 => (hg5 x0 x1 (x2 + 1) x3 h4)))) mo_rf)
theorem J7_fill_53178_15_w5 {z : CZ} {g5 : Nat → Int32 → Int32 → Int32 → PH → Option Rs} (hk5 : SK (J7_fill_53178_15_x z) 5 (J7_fill_53178_15_u5 g5)) : SK (J7_fill_53178_15_x z) 5 (J7_fill_53178_15_u5 (J7_fill_53178_15_f5 g5)) := by
  intro ls st h r e
  obtain ⟨hst, e⟩ := gL_of e
  obtain ⟨x0, q0, e⟩ := gR_of e
  obtain ⟨x1, q1, e⟩ := gI_of e
  obtain ⟨x2, q2, e⟩ := gI_of e
  obtain ⟨x3, q3, e⟩ := gI_of e
  rw [st_0 hst]
  exact WK.sub (canon := [some (.inr (15, x0)), some (.inl x1), some (.inl x2), some (.inl x3)]) rfl ⟨q0, q1, q2, q3, trivial⟩ (J7_fill_53178_15_s5 hk5 _ _ _ _ ((J7_fill_53178_15_l5 g5 x0 x1 x2 x3 h).trans e))
noncomputable def J7_fill_53178_15_g0 (G : (Nat → Int32 → Int32 → Int32 → PH → Option Rs)) (x0 : Nat) (x1 : Int32) (h : PH) : Option Rs := J7_fill_53178_15_f0 (G) x0 x1 h
noncomputable def J7_fill_53178_15_g5 (G : (Nat → Int32 → Int32 → Int32 → PH → Option Rs)) (x0 : Nat) (x1 : Int32) (x2 : Int32) (x3 : Int32) (h : PH) : Option Rs := J7_fill_53178_15_f5 (G) x0 x1 x2 x3 h
theorem J7_fill_53178_15_v5 {z : CZ} {G : (Nat → Int32 → Int32 → Int32 → PH → Option Rs)} (hG5 : SK (J7_fill_53178_15_x z) 5 (J7_fill_53178_15_u5 (G))) : SK (J7_fill_53178_15_x z) 5 (J7_fill_53178_15_u5 (J7_fill_53178_15_g5 G)) := J7_fill_53178_15_w5 hG5
noncomputable def J7_fill_53178_15_fam : Nat → (Nat → Int32 → Int32 → Int32 → PH → Option Rs)
  | 0 => fun _ _ _ _ _ => none
  | n + 1 => J7_fill_53178_15_g5 (J7_fill_53178_15_fam n)
theorem J7_fill_53178_15_k {z : CZ} : ∀ n, SK (J7_fill_53178_15_x z) 5 (J7_fill_53178_15_u5 (J7_fill_53178_15_fam n))
  | 0 => (fun ls st h r e => by
      obtain ⟨_, e⟩ := gL_of e
      obtain ⟨_, _, e⟩ := gR_of e
      obtain ⟨_, _, e⟩ := gI_of e
      obtain ⟨_, _, e⟩ := gI_of e
      obtain ⟨_, _, e⟩ := gI_of e
      cases e)
  | n + 1 => by
    obtain ih5 := J7_fill_53178_15_k n
    exact J7_fill_53178_15_v5 ih5
theorem J7_fill_53178_15_n0 {G G' : (Nat → Int32 → Int32 → Int32 → PH → Option Rs)} (hg5 : ∀ a0 a1 a2 a3 a4, Mo ((G) a0 a1 a2 a3 a4) ((G') a0 a1 a2 a3 a4)) (x0 : Nat) (x1 : Int32) (h : PH) : Mo (J7_fill_53178_15_g0 G x0 x1 h) (J7_fill_53178_15_g0 G' x0 x1 h) := J7_fill_53178_15_m0 hg5 x0 x1 h
theorem J7_fill_53178_15_n5 {G G' : (Nat → Int32 → Int32 → Int32 → PH → Option Rs)} (hg5 : ∀ a0 a1 a2 a3 a4, Mo ((G) a0 a1 a2 a3 a4) ((G') a0 a1 a2 a3 a4)) (x0 : Nat) (x1 : Int32) (x2 : Int32) (x3 : Int32) (h : PH) : Mo (J7_fill_53178_15_g5 G x0 x1 x2 x3 h) (J7_fill_53178_15_g5 G' x0 x1 x2 x3 h) := J7_fill_53178_15_m5 hg5 x0 x1 x2 x3 h
theorem J7_fill_53178_15_fm : ∀ n, (∀ a0 a1 a2 a3 a4, Mo ((J7_fill_53178_15_fam n) a0 a1 a2 a3 a4) ((J7_fill_53178_15_fam (n + 1)) a0 a1 a2 a3 a4))
  | 0 => fun _ _ _ _ _ => mo_no
  | n + 1 => by
    obtain ih5 := J7_fill_53178_15_fm n
    exact fun a0 a1 a2 a3 a4 => J7_fill_53178_15_n5 ih5 a0 a1 a2 a3 a4
noncomputable def J7_fill_53178_15 (x0 : Nat) (x1 : Int32) (h : PH) : Option Rs := lim (fun n => J7_fill_53178_15_g0 (J7_fill_53178_15_fam n) x0 x1 h)
theorem J7_fill_53178_15_iff {x0 : Nat} {x1 : Int32} {h : PH} {r : Rs} : J7_fill_53178_15 x0 x1 h = some r ↔ ∃ n, J7_fill_53178_15_g0 (J7_fill_53178_15_fam n) x0 x1 h = some r := lim_iff (fun n => by
  obtain ih5 := J7_fill_53178_15_fm n
  exact J7_fill_53178_15_n0 ih5 x0 x1 h)
noncomputable abbrev J7_fill_53178_15_F : List PV → PH → Option Rs := FW_R15I (J7_fill_53178_15)
set_option maxRecDepth 100000 in
theorem J7_fill_53178_15_gd (l : Launch) : Gd l 0 yJ7_fill_53178 cJ7_fill_53178 4 none (J7_fill_53178_15_F)   := Gd_of (by decide +kernel) (fun z hzl as h r e => by
  obtain ⟨hst, e⟩ := gL_of e
  obtain ⟨x0, q0, e⟩ := gR_of e
  obtain ⟨x1, q1, e⟩ := gI_of e
  rw [st_2 hst q0 q1]
  obtain ⟨n, e⟩ := lim_of e
  obtain hG5 := J7_fill_53178_15_k (z := z) n
  exact ⟨show 2 ≤ 4 by decide, J7_fill_53178_15_s0 hG5 _ _ _ _ ((J7_fill_53178_15_l0 (J7_fill_53178_15_fam n) x0 x1 h).trans e)⟩)
abbrev J7_fill_53178_20_x (z : CZ) : CX := mx RJ7 cJ7_fill_53178 4 0 none "fill" z
noncomputable def J7_fill_53178_20_b0 (k5 : Kn) : Kn := (a_ic 0 (a_is 2 (a_al 0 (a_len 20 (a_is 3 k5)))))
set_option maxRecDepth 100000 in
theorem J7_fill_53178_20_s0 {z : CZ} {k5 : Kn} (hk5 : SK (J7_fill_53178_20_x z) 5 k5) : SK (J7_fill_53178_20_x z) 0 (J7_fill_53178_20_b0 k5) := (s_iconst (pc := 0) dJ7_fill_53178_0 c_ic_0 (s_istoren (pc := 1) dJ7_fill_53178_1 rfl (show 2 < 4 by decide) (s_aloadn (pc := 2) dJ7_fill_53178_2 rfl (s_len (pc := 3) (by decide) (by decide) rfl dJ7_fill_53178_3 (s_istoren (pc := 4) dJ7_fill_53178_4 rfl (show 3 < 4 by decide) hk5)))))
noncomputable def J7_fill_53178_20_b5 (k5 : Kn) : Kn := (a_il 2 (a_il 3 (a_lt (a_al 0 (a_il 2 (a_il 1 (a_ast 20 1280 (fun a => a) (a_inc 2 1 k5))))) a_vr)))
set_option maxRecDepth 100000 in
theorem J7_fill_53178_20_s5 {z : CZ} {k5 : Kn} (hk5 : SK (J7_fill_53178_20_x z) 5 k5) : SK (J7_fill_53178_20_x z) 5 (J7_fill_53178_20_b5 k5) := (s_iloadn (pc := 5) dJ7_fill_53178_5 rfl (s_iloadn (pc := 6) dJ7_fill_53178_6 rfl (s_cmpge (pc := 7) dJ7_fill_53178_7 (by decide) (s_vr (pc := 20) rfl dJ7_fill_53178_20) (s_aloadn (pc := 10) dJ7_fill_53178_10 rfl (s_iloadn (pc := 11) dJ7_fill_53178_11 rfl (s_iloadn (pc := 12) dJ7_fill_53178_12 rfl (s_iast (pc := 13) (by decide) (by decide) rfl rfl rfl dJ7_fill_53178_13 (s_iinc (pc := 14) dJ7_fill_53178_14 c_ic_1 (show 2 < 4 by decide) (s_goto (pc := 17) dJ7_fill_53178_17 (by decide) hk5)))))))))
noncomputable def J7_fill_53178_20_u5 (g : Nat → Int32 → Int32 → Int32 → PH → Option Rs) : Kn := fun ls st h => gL 0 st (gR 20 ls 0 fun x0 => gI ls 1 fun x1 => gI ls 2 fun x2 => gI ls 3 fun x3 => g x0 x1 x2 x3 h)
noncomputable def J7_fill_53178_20_f0 (g5 : Nat → Int32 → Int32 → Int32 → PH → Option Rs) (x0 : Nat) (x1 : Int32) (h : PH) : Option Rs :=
  nn x0 fun r1 =>
  g5 x0 x1 0 (Int32.ofNat (hL h 20 r1)) h
set_option maxRecDepth 100000 in
theorem J7_fill_53178_20_l0 (g5 : Nat → Int32 → Int32 → Int32 → PH → Option Rs) (x0 : Nat) (x1 : Int32) (h : PH) : J7_fill_53178_20_b0 (J7_fill_53178_20_u5 g5) [some (.inr (20, x0)), some (.inl x1), none, none] [] h = J7_fill_53178_20_f0 g5 x0 x1 h := rfl
theorem J7_fill_53178_20_m0 {g5 G5 : Nat → Int32 → Int32 → Int32 → PH → Option Rs} (hg5 : ∀ a0 a1 a2 a3 a4, Mo (g5 a0 a1 a2 a3 a4) (G5 a0 a1 a2 a3 a4)) (x0 : Nat) (x1 : Int32) (h : PH) : Mo (J7_fill_53178_20_f0 g5 x0 x1 h) (J7_fill_53178_20_f0 G5 x0 x1 h) := (mo_nn fun r1 => (hg5 x0 x1 0 (Int32.ofNat (hL h 20 r1)) h))
noncomputable def J7_fill_53178_20_f5 (g5 : Nat → Int32 → Int32 → Int32 → PH → Option Rs) (x0 : Nat) (x1 : Int32) (x2 : Int32) (x3 : Int32) (h : PH) : Option Rs :=
  if x2 < x3 then
    nn x0 fun r2 =>
    ix x2 (hL h 20 r2) fun j3 =>
    wr (pI h 1280 r2 j3 x1) fun h4 =>
    g5 x0 x1 (x2 + 1) x3 h4
  else
    some (none, h)
set_option maxRecDepth 100000 in
theorem J7_fill_53178_20_l5 (g5 : Nat → Int32 → Int32 → Int32 → PH → Option Rs) (x0 : Nat) (x1 : Int32) (x2 : Int32) (x3 : Int32) (h : PH) : J7_fill_53178_20_b5 (J7_fill_53178_20_u5 g5) [some (.inr (20, x0)), some (.inl x1), some (.inl x2), some (.inl x3)] [] h = J7_fill_53178_20_f5 g5 x0 x1 x2 x3 h := rfl
theorem J7_fill_53178_20_m5 {g5 G5 : Nat → Int32 → Int32 → Int32 → PH → Option Rs} (hg5 : ∀ a0 a1 a2 a3 a4, Mo (g5 a0 a1 a2 a3 a4) (G5 a0 a1 a2 a3 a4)) (x0 : Nat) (x1 : Int32) (x2 : Int32) (x3 : Int32) (h : PH) : Mo (J7_fill_53178_20_f5 g5 x0 x1 x2 x3 h) (J7_fill_53178_20_f5 G5 x0 x1 x2 x3 h) := (mo_if (mo_nn fun r2 => (mo_ix fun j3 => (mo_wr fun h4 => (hg5 x0 x1 (x2 + 1) x3 h4)))) mo_rf)
theorem J7_fill_53178_20_w5 {z : CZ} {g5 : Nat → Int32 → Int32 → Int32 → PH → Option Rs} (hk5 : SK (J7_fill_53178_20_x z) 5 (J7_fill_53178_20_u5 g5)) : SK (J7_fill_53178_20_x z) 5 (J7_fill_53178_20_u5 (J7_fill_53178_20_f5 g5)) := by
  intro ls st h r e
  obtain ⟨hst, e⟩ := gL_of e
  obtain ⟨x0, q0, e⟩ := gR_of e
  obtain ⟨x1, q1, e⟩ := gI_of e
  obtain ⟨x2, q2, e⟩ := gI_of e
  obtain ⟨x3, q3, e⟩ := gI_of e
  rw [st_0 hst]
  exact WK.sub (canon := [some (.inr (20, x0)), some (.inl x1), some (.inl x2), some (.inl x3)]) rfl ⟨q0, q1, q2, q3, trivial⟩ (J7_fill_53178_20_s5 hk5 _ _ _ _ ((J7_fill_53178_20_l5 g5 x0 x1 x2 x3 h).trans e))
noncomputable def J7_fill_53178_20_g0 (G : (Nat → Int32 → Int32 → Int32 → PH → Option Rs)) (x0 : Nat) (x1 : Int32) (h : PH) : Option Rs := J7_fill_53178_20_f0 (G) x0 x1 h
noncomputable def J7_fill_53178_20_g5 (G : (Nat → Int32 → Int32 → Int32 → PH → Option Rs)) (x0 : Nat) (x1 : Int32) (x2 : Int32) (x3 : Int32) (h : PH) : Option Rs := J7_fill_53178_20_f5 (G) x0 x1 x2 x3 h
theorem J7_fill_53178_20_v5 {z : CZ} {G : (Nat → Int32 → Int32 → Int32 → PH → Option Rs)} (hG5 : SK (J7_fill_53178_20_x z) 5 (J7_fill_53178_20_u5 (G))) : SK (J7_fill_53178_20_x z) 5 (J7_fill_53178_20_u5 (J7_fill_53178_20_g5 G)) := J7_fill_53178_20_w5 hG5
noncomputable def J7_fill_53178_20_fam : Nat → (Nat → Int32 → Int32 → Int32 → PH → Option Rs)
  | 0 => fun _ _ _ _ _ => none
  | n + 1 => J7_fill_53178_20_g5 (J7_fill_53178_20_fam n)
theorem J7_fill_53178_20_k {z : CZ} : ∀ n, SK (J7_fill_53178_20_x z) 5 (J7_fill_53178_20_u5 (J7_fill_53178_20_fam n))
  | 0 => (fun ls st h r e => by
      obtain ⟨_, e⟩ := gL_of e
      obtain ⟨_, _, e⟩ := gR_of e
      obtain ⟨_, _, e⟩ := gI_of e
      obtain ⟨_, _, e⟩ := gI_of e
      obtain ⟨_, _, e⟩ := gI_of e
      cases e)
  | n + 1 => by
    obtain ih5 := J7_fill_53178_20_k n
    exact J7_fill_53178_20_v5 ih5
theorem J7_fill_53178_20_n0 {G G' : (Nat → Int32 → Int32 → Int32 → PH → Option Rs)} (hg5 : ∀ a0 a1 a2 a3 a4, Mo ((G) a0 a1 a2 a3 a4) ((G') a0 a1 a2 a3 a4)) (x0 : Nat) (x1 : Int32) (h : PH) : Mo (J7_fill_53178_20_g0 G x0 x1 h) (J7_fill_53178_20_g0 G' x0 x1 h) := J7_fill_53178_20_m0 hg5 x0 x1 h
theorem J7_fill_53178_20_n5 {G G' : (Nat → Int32 → Int32 → Int32 → PH → Option Rs)} (hg5 : ∀ a0 a1 a2 a3 a4, Mo ((G) a0 a1 a2 a3 a4) ((G') a0 a1 a2 a3 a4)) (x0 : Nat) (x1 : Int32) (x2 : Int32) (x3 : Int32) (h : PH) : Mo (J7_fill_53178_20_g5 G x0 x1 x2 x3 h) (J7_fill_53178_20_g5 G' x0 x1 x2 x3 h) := J7_fill_53178_20_m5 hg5 x0 x1 x2 x3 h
theorem J7_fill_53178_20_fm : ∀ n, (∀ a0 a1 a2 a3 a4, Mo ((J7_fill_53178_20_fam n) a0 a1 a2 a3 a4) ((J7_fill_53178_20_fam (n + 1)) a0 a1 a2 a3 a4))
  | 0 => fun _ _ _ _ _ => mo_no
  | n + 1 => by
    obtain ih5 := J7_fill_53178_20_fm n
    exact fun a0 a1 a2 a3 a4 => J7_fill_53178_20_n5 ih5 a0 a1 a2 a3 a4
noncomputable def J7_fill_53178_20 (x0 : Nat) (x1 : Int32) (h : PH) : Option Rs := lim (fun n => J7_fill_53178_20_g0 (J7_fill_53178_20_fam n) x0 x1 h)
theorem J7_fill_53178_20_iff {x0 : Nat} {x1 : Int32} {h : PH} {r : Rs} : J7_fill_53178_20 x0 x1 h = some r ↔ ∃ n, J7_fill_53178_20_g0 (J7_fill_53178_20_fam n) x0 x1 h = some r := lim_iff (fun n => by
  obtain ih5 := J7_fill_53178_20_fm n
  exact J7_fill_53178_20_n0 ih5 x0 x1 h)
noncomputable abbrev J7_fill_53178_20_F : List PV → PH → Option Rs := FW_R20I (J7_fill_53178_20)
set_option maxRecDepth 100000 in
theorem J7_fill_53178_20_gd (l : Launch) : Gd l 0 yJ7_fill_53178 cJ7_fill_53178 4 none (J7_fill_53178_20_F)   := Gd_of (by decide +kernel) (fun z hzl as h r e => by
  obtain ⟨hst, e⟩ := gL_of e
  obtain ⟨x0, q0, e⟩ := gR_of e
  obtain ⟨x1, q1, e⟩ := gI_of e
  rw [st_2 hst q0 q1]
  obtain ⟨n, e⟩ := lim_of e
  obtain hG5 := J7_fill_53178_20_k (z := z) n
  exact ⟨show 2 ≤ 4 by decide, J7_fill_53178_20_s0 hG5 _ _ _ _ ((J7_fill_53178_20_l0 (J7_fill_53178_20_fam n) x0 x1 h).trans e)⟩)
abbrev X1_init_x (z : CZ) : CX := mx RX1 cX1_init 2 1 none "<init>" z
noncomputable def X1_init_b0 (k29 : Kn) : Kn := (a_al 0 (a_oi (a_al 0 (a_ic 20 (a_nwa 14 (a_pR 1 64 14 (a_al 0 (a_ic 96 (a_nwa 15 (a_pR 1 65 15 (a_al 0 (a_ic 10 (a_nwa 16 (a_pR 1 66 16 k29))))))))))))))
set_option maxRecDepth 100000 in
theorem X1_init_s0 {z : CZ} {k29 : Kn} (hk29 : SK (X1_init_x z) 29 k29) : SK (X1_init_x z) 0 (X1_init_b0 k29) := (s_aloadn (pc := 0) dX1_init_0 rfl (s_oi (pc := 1) w_114 w_107 w_108 dX1_init_1 (s_aloadn (pc := 4) dX1_init_4 rfl (s_bipush (pc := 5) dX1_init_5 c_bp_20 (s_nwq (pc := 7) (by decide) (by decide) rfl rfl (by decide) w_115 dX1_init_7 (s_pRF (pc := 10) (f := 0) ko_1 (by decide) rfl rfl rfl rfl rfl (tyX1_ok 0 (by decide)) rfl w_213 dX1_init_10 (s_aloadn (pc := 13) dX1_init_13 rfl (s_bipush (pc := 14) dX1_init_14 c_bp_96 (s_nwa (pc := 16) (at0 := .int) (by decide) (by decide) rfl rfl rfl (by decide) w_161 dX1_init_16 (s_pRF (pc := 18) (f := 1) ko_1 (by decide) rfl rfl rfl rfl rfl (tyX1_ok 1 (by decide)) rfl w_218 dX1_init_18 (s_aloadn (pc := 21) dX1_init_21 rfl (s_bipush (pc := 22) dX1_init_22 c_bp_10 (s_nwa (pc := 24) (at0 := .int) (by decide) (by decide) rfl rfl rfl (by decide) w_161 dX1_init_24 (s_pRF (pc := 26) (f := 2) ko_1 (by decide) rfl rfl rfl rfl rfl (tyX1_ok 2 (by decide)) rfl w_219 dX1_init_26 hk29))))))))))))))
noncomputable def X1_init_b29 (k55 : Kn) : Kn := (a_al 0 (a_ic 10 (a_nwa 17 (a_pR 1 67 17 (a_al 0 (a_ic 14 (a_nwa 18 (a_pR 1 68 18 (a_al 0 (a_ic 14 (a_nwa 19 (a_pR 1 69 19 k55))))))))))))
set_option maxRecDepth 100000 in
theorem X1_init_s29 {z : CZ} {k55 : Kn} (hk55 : SK (X1_init_x z) 55 k55) : SK (X1_init_x z) 29 (X1_init_b29 k55) := (s_aloadn (pc := 29) dX1_init_29 rfl (s_bipush (pc := 30) dX1_init_30 c_bp_10 (s_nwa (pc := 32) (at0 := .int) (by decide) (by decide) rfl rfl rfl (by decide) w_161 dX1_init_32 (s_pRF (pc := 34) (f := 3) ko_1 (by decide) rfl rfl rfl rfl rfl (tyX1_ok 3 (by decide)) rfl w_224 dX1_init_34 (s_aloadn (pc := 37) dX1_init_37 rfl (s_bipush (pc := 38) dX1_init_38 c_bp_14 (s_nwq (pc := 40) (by decide) (by decide) rfl rfl (by decide) w_117 dX1_init_40 (s_pRF (pc := 43) (f := 4) ko_1 (by decide) rfl rfl rfl rfl rfl (tyX1_ok 4 (by decide)) rfl w_229 dX1_init_43 (s_aloadn (pc := 46) dX1_init_46 rfl (s_bipush (pc := 47) dX1_init_47 c_bp_14 (s_nwq (pc := 49) (by decide) (by decide) rfl rfl (by decide) w_119 dX1_init_49 (s_pRF (pc := 52) (f := 5) ko_1 (by decide) rfl rfl rfl rfl rfl (tyX1_ok 5 (by decide)) rfl w_234 dX1_init_52 hk55))))))))))))
noncomputable def X1_init_b55 (k75 : Kn) : Kn := (a_al 0 (a_ic 3 (a_nwa 20 (a_pR 1 70 20 (a_al 0 (a_ic 6 (a_nwa 21 (a_pR 1 71 21 (a_al 0 (a_ic 0 (a_pI 1 72 k75)))))))))))
set_option maxRecDepth 100000 in
theorem X1_init_s55 {z : CZ} {k75 : Kn} (hk75 : SK (X1_init_x z) 75 k75) : SK (X1_init_x z) 55 (X1_init_b55 k75) := (s_aloadn (pc := 55) dX1_init_55 rfl (s_iconst (pc := 56) dX1_init_56 c_ic_3 (s_nwa (pc := 57) (at0 := .int) (by decide) (by decide) rfl rfl rfl (by decide) w_161 dX1_init_57 (s_pRF (pc := 59) (f := 6) ko_1 (by decide) rfl rfl rfl rfl rfl (tyX1_ok 6 (by decide)) rfl w_236 dX1_init_59 (s_aloadn (pc := 62) dX1_init_62 rfl (s_bipush (pc := 63) dX1_init_63 c_bp_6 (s_nwa (pc := 65) (at0 := .int) (by decide) (by decide) rfl rfl rfl (by decide) w_161 dX1_init_65 (s_pRF (pc := 67) (f := 7) ko_1 (by decide) rfl rfl rfl rfl rfl (tyX1_ok 7 (by decide)) rfl w_238 dX1_init_67 (s_aloadn (pc := 70) dX1_init_70 rfl (s_iconst (pc := 71) dX1_init_71 c_ic_0 (s_pI (pc := 72) (f := 8) ko_1 (by decide) rfl rfl rfl (by decide +kernel) w_241 dX1_init_72 hk75)))))))))))
noncomputable def X1_init_b75 (k100 : Kn) : Kn := (a_al 0 (a_ic 0 (a_pI 1 73 (a_al 0 (a_ic 0 (a_pI 1 74 (a_al 0 (a_ic 0 (a_pI 1 75 (a_al 0 (a_ic 0 (a_pI 1 76 (a_al 0 (a_ic 0 (a_pI 1 77 k100)))))))))))))))
set_option maxRecDepth 100000 in
theorem X1_init_s75 {z : CZ} {k100 : Kn} (hk100 : SK (X1_init_x z) 100 k100) : SK (X1_init_x z) 75 (X1_init_b75 k100) := (s_aloadn (pc := 75) dX1_init_75 rfl (s_iconst (pc := 76) dX1_init_76 c_ic_0 (s_pI (pc := 77) (f := 9) ko_1 (by decide) rfl rfl rfl (by decide +kernel) w_244 dX1_init_77 (s_aloadn (pc := 80) dX1_init_80 rfl (s_iconst (pc := 81) dX1_init_81 c_ic_0 (s_pI (pc := 82) (f := 10) ko_1 (by decide) rfl rfl rfl (by decide +kernel) w_247 dX1_init_82 (s_aloadn (pc := 85) dX1_init_85 rfl (s_iconst (pc := 86) dX1_init_86 c_ic_0 (s_pI (pc := 87) (f := 11) ko_1 (by decide) rfl rfl rfl (by decide +kernel) w_251 dX1_init_87 (s_aloadn (pc := 90) dX1_init_90 rfl (s_iconst (pc := 91) dX1_init_91 c_ic_0 (s_pI (pc := 92) (f := 12) ko_1 (by decide) rfl rfl rfl (by decide +kernel) w_256 dX1_init_92 (s_aloadn (pc := 95) dX1_init_95 rfl (s_iconst (pc := 96) dX1_init_96 c_ic_0 (s_pI (pc := 97) (f := 13) ko_1 (by decide) rfl rfl rfl (by decide +kernel) w_258 dX1_init_97 hk100)))))))))))))))
noncomputable def X1_init_b100 (k118 : Kn) : Kn := (a_al 0 (a_ic 8 (a_pI 1 78 (a_al 0 (a_ic 0 (a_pI 1 79 (a_al 0 (a_ic 1 (a_pI 1 80 (a_ic 0 (a_is 1 k118)))))))))))
set_option maxRecDepth 100000 in
theorem X1_init_s100 {z : CZ} {k118 : Kn} (hk118 : SK (X1_init_x z) 118 k118) : SK (X1_init_x z) 100 (X1_init_b100 k118) := (s_aloadn (pc := 100) dX1_init_100 rfl (s_bipush (pc := 101) dX1_init_101 c_bp_8 (s_pI (pc := 103) (f := 14) ko_1 (by decide) rfl rfl rfl (by decide +kernel) w_261 dX1_init_103 (s_aloadn (pc := 106) dX1_init_106 rfl (s_iconst (pc := 107) dX1_init_107 c_ic_0 (s_pI (pc := 108) (f := 15) ko_1 (by decide) rfl rfl rfl (by decide +kernel) w_263 dX1_init_108 (s_aloadn (pc := 111) dX1_init_111 rfl (s_iconst (pc := 112) dX1_init_112 c_ic_1 (s_pI (pc := 113) (f := 16) ko_1 (by decide) rfl rfl rfl (by decide +kernel) w_265 dX1_init_113 (s_iconst (pc := 116) dX1_init_116 c_ic_0 (s_istoren (pc := 117) dX1_init_117 rfl (show 1 < 2 by decide) hk118)))))))))))
noncomputable def X1_init_b118 (c_X10_init : Nat → PH → Option Rs) (k118 k145 : Kn) : Kn := (a_il 1 (a_ic 20 (a_lt (a_al 0 (a_gR 1 64 14 (a_il 1 (a_new 9 6 (a_dup (a_vV 9 0 (FW_T9 c_X10_init) (a_rast 14 896 9 (a_inc 1 1 k118)))))))) (a_ic 0 (a_is 1 k145)))))
set_option maxRecDepth 100000 in
theorem X1_init_s118 {z : CZ} {k118 k145 : Kn} (hk118 : SK (X1_init_x z) 118 k118) (hk145 : SK (X1_init_x z) 145 k145) : SK (X1_init_x z) 118 (X1_init_b118 X10_init k118 k145) := (s_iloadn (pc := 118) dX1_init_118 rfl (s_bipush (pc := 119) dX1_init_119 c_bp_20 (s_cmpge (pc := 121) dX1_init_121 (by decide) (s_iconst (pc := 143) dX1_init_143 c_ic_0 (s_istoren (pc := 144) dX1_init_144 rfl (show 1 < 2 by decide) hk145)) (s_aloadn (pc := 124) dX1_init_124 rfl (s_gR (pc := 125) (f := 0) ko_1 (by decide) rfl rfl w_213 dX1_init_125 (s_iloadn (pc := 128) dX1_init_128 rfl (s_new (pc := 129) ko_9 rfl kd_9 w_115 w_121 w_81 dX1_init_129 (s_dup (pc := 132) dX1_init_132 (s_vV (pc := 133) (run_initN (X10_init_gd _) (show 0 < 1 by decide) cy_X10_init w_123 rfl nw_122 dX1_init_133) (s_rast (pc := 136) (by decide) (by decide) rfl (by decide) rfl rfl rfl dX1_init_136 (s_iinc (pc := 137) dX1_init_137 c_ic_1 (show 1 < 2 by decide) (s_goto (pc := 140) dX1_init_140 (by decide) hk118))))))))))))
noncomputable def X1_init_b145 (c_J7_fill_53178_15 : Nat → Int32 → PH → Option Rs) (c_J7_fill_53178_20 : Nat → Int32 → PH → Option Rs) (c_X6_init : Nat → PH → Option Rs) (k145 : Kn) : Kn := (a_il 1 (a_ic 14 (a_lt (a_al 0 (a_gR 1 68 18 (a_il 1 (a_new 5 7 (a_dup (a_vV 5 0 (FW_T5 c_X6_init) (a_rast 18 1152 5 (a_inc 1 1 k145)))))))) (a_al 0 (a_gR 1 65 15 (a_ic (-1) (a_sV 2 (FW_R15I c_J7_fill_53178_15) (a_al 0 (a_gR 1 70 20 (a_ic (-1) (a_sV 2 (FW_R20I c_J7_fill_53178_20) a_vr)))))))))))
set_option maxRecDepth 100000 in
theorem X1_init_s145 {z : CZ} {k145 : Kn} (hk145 : SK (X1_init_x z) 145 k145) : SK (X1_init_x z) 145 (X1_init_b145 J7_fill_53178_15 J7_fill_53178_20 X6_init k145) := (s_iloadn (pc := 145) dX1_init_145 rfl (s_bipush (pc := 146) dX1_init_146 c_bp_14 (s_cmpge (pc := 148) dX1_init_148 (by decide) (s_aloadn (pc := 170) dX1_init_170 rfl (s_gR (pc := 171) (f := 1) ko_1 (by decide) rfl rfl w_218 dX1_init_171 (s_iconst (pc := 174) dX1_init_174 c_ic_m1 (s_sV (pc := 175) (run_static (J7_fill_53178_15_gd _) (show 0 < 1 by decide) cy_J7_fill_53178 w_211 w_210 dX1_init_175) (s_aloadn (pc := 178) dX1_init_178 rfl (s_gR (pc := 179) (f := 6) ko_1 (by decide) rfl rfl w_236 dX1_init_179 (s_iconst (pc := 182) dX1_init_182 c_ic_m1 (s_sV (pc := 183) (run_static (J7_fill_53178_20_gd _) (show 0 < 1 by decide) cy_J7_fill_53178 w_211 w_210 dX1_init_183) (s_vr (pc := 186) rfl dX1_init_186))))))))) (s_aloadn (pc := 151) dX1_init_151 rfl (s_gR (pc := 152) (f := 4) ko_1 (by decide) rfl rfl w_229 dX1_init_152 (s_iloadn (pc := 155) dX1_init_155 rfl (s_new (pc := 156) ko_5 rfl kd_5 w_117 w_162 w_82 dX1_init_156 (s_dup (pc := 159) dX1_init_159 (s_vV (pc := 160) (run_initN (X6_init_gd _) (show 0 < 1 by decide) cy_X6_init w_164 rfl nw_163 dX1_init_160) (s_rast (pc := 163) (by decide) (by decide) rfl (by decide) rfl rfl rfl dX1_init_163 (s_iinc (pc := 164) dX1_init_164 c_ic_1 (show 1 < 2 by decide) (s_goto (pc := 167) dX1_init_167 (by decide) hk145))))))))))))
noncomputable def X1_init_u29 (g : Nat → PH → Option Rs) : Kn := fun ls st h => gL 0 st (gT 1 ls 0 fun t => g t h)
noncomputable def X1_init_u55 (g : Nat → PH → Option Rs) : Kn := fun ls st h => gL 0 st (gT 1 ls 0 fun t => g t h)
noncomputable def X1_init_u75 (g : Nat → PH → Option Rs) : Kn := fun ls st h => gL 0 st (gT 1 ls 0 fun t => g t h)
noncomputable def X1_init_u100 (g : Nat → PH → Option Rs) : Kn := fun ls st h => gL 0 st (gT 1 ls 0 fun t => g t h)
noncomputable def X1_init_u118 (g : Nat → Int32 → PH → Option Rs) : Kn := fun ls st h => gL 0 st (gT 1 ls 0 fun t => gI ls 1 fun x1 => g t x1 h)
noncomputable def X1_init_u145 (g : Nat → Int32 → PH → Option Rs) : Kn := fun ls st h => gL 0 st (gT 1 ls 0 fun t => gI ls 1 fun x1 => g t x1 h)
noncomputable def X1_init_f0 (g29 : Nat → PH → Option Rs) (t : Nat) (h : PH) : Option Rs :=
  nl 20 fun n1 =>
  wr (nw h 14 n1 n1) fun h2 =>
  wr (pR h2 64 t 0 (hN h 14 + 1)) fun h3 =>
  nl 96 fun n4 =>
  wr (nw h3 15 n4 n4) fun h5 =>
  wr (pR h5 65 t 0 (hN h3 15 + 1)) fun h6 =>
  nl 10 fun n7 =>
  wr (nw h6 16 n7 n7) fun h8 =>
  wr (pR h8 66 t 0 (hN h6 16 + 1)) fun h9 =>
  g29 t h9
set_option maxRecDepth 100000 in
theorem X1_init_l0 (g29 : Nat → PH → Option Rs) (t : Nat) (h : PH) : X1_init_b0 (X1_init_u29 g29) [some (.inr (1, t + 1)), none] [] h = X1_init_f0 g29 t h := rfl
theorem X1_init_m0 {g29 G29 : Nat → PH → Option Rs} (hg29 : ∀ a0 a1, Mo (g29 a0 a1) (G29 a0 a1)) (t : Nat) (h : PH) : Mo (X1_init_f0 g29 t h) (X1_init_f0 G29 t h) := (mo_nl fun n1 => (mo_wr fun h2 => (mo_wr fun h3 => (mo_nl fun n4 => (mo_wr fun h5 => (mo_wr fun h6 => (mo_nl fun n7 => (mo_wr fun h8 => (mo_wr fun h9 => (hg29 t h9))))))))))
noncomputable def X1_init_f29 (g55 : Nat → PH → Option Rs) (t : Nat) (h : PH) : Option Rs :=
  nl 10 fun n10 =>
  wr (nw h 17 n10 n10) fun h11 =>
  wr (pR h11 67 t 0 (hN h 17 + 1)) fun h12 =>
  nl 14 fun n13 =>
  wr (nw h12 18 n13 n13) fun h14 =>
  wr (pR h14 68 t 0 (hN h12 18 + 1)) fun h15 =>
  nl 14 fun n16 =>
  wr (nw h15 19 n16 n16) fun h17 =>
  wr (pR h17 69 t 0 (hN h15 19 + 1)) fun h18 =>
  g55 t h18
set_option maxRecDepth 100000 in
theorem X1_init_l29 (g55 : Nat → PH → Option Rs) (t : Nat) (h : PH) : X1_init_b29 (X1_init_u55 g55) [some (.inr (1, t + 1)), none] [] h = X1_init_f29 g55 t h := rfl
theorem X1_init_m29 {g55 G55 : Nat → PH → Option Rs} (hg55 : ∀ a0 a1, Mo (g55 a0 a1) (G55 a0 a1)) (t : Nat) (h : PH) : Mo (X1_init_f29 g55 t h) (X1_init_f29 G55 t h) := (mo_nl fun n10 => (mo_wr fun h11 => (mo_wr fun h12 => (mo_nl fun n13 => (mo_wr fun h14 => (mo_wr fun h15 => (mo_nl fun n16 => (mo_wr fun h17 => (mo_wr fun h18 => (hg55 t h18))))))))))
theorem X1_init_w29 {z : CZ} {g55 : Nat → PH → Option Rs} (hk55 : SK (X1_init_x z) 55 (X1_init_u55 g55)) : SK (X1_init_x z) 29 (X1_init_u29 (X1_init_f29 g55)) := by
  intro ls st h r e
  obtain ⟨hst, e⟩ := gL_of e
  obtain ⟨t, q0, e⟩ := gT_of e
  rw [st_0 hst]
  exact WK.sub (canon := [some (.inr (1, t + 1)), none]) rfl ⟨q0, trivial⟩ (X1_init_s29 hk55 _ _ _ _ ((X1_init_l29 g55 t h).trans e))
noncomputable def X1_init_f55 (g75 : Nat → PH → Option Rs) (t : Nat) (h : PH) : Option Rs :=
  nl 3 fun n19 =>
  wr (nw h 20 n19 n19) fun h20 =>
  wr (pR h20 70 t 0 (hN h 20 + 1)) fun h21 =>
  nl 6 fun n22 =>
  wr (nw h21 21 n22 n22) fun h23 =>
  wr (pR h23 71 t 0 (hN h21 21 + 1)) fun h24 =>
  wr (pI h24 72 t 0 0) fun h25 =>
  g75 t h25
set_option maxRecDepth 100000 in
theorem X1_init_l55 (g75 : Nat → PH → Option Rs) (t : Nat) (h : PH) : X1_init_b55 (X1_init_u75 g75) [some (.inr (1, t + 1)), none] [] h = X1_init_f55 g75 t h := rfl
theorem X1_init_m55 {g75 G75 : Nat → PH → Option Rs} (hg75 : ∀ a0 a1, Mo (g75 a0 a1) (G75 a0 a1)) (t : Nat) (h : PH) : Mo (X1_init_f55 g75 t h) (X1_init_f55 G75 t h) := (mo_nl fun n19 => (mo_wr fun h20 => (mo_wr fun h21 => (mo_nl fun n22 => (mo_wr fun h23 => (mo_wr fun h24 => (mo_wr fun h25 => (hg75 t h25))))))))
theorem X1_init_w55 {z : CZ} {g75 : Nat → PH → Option Rs} (hk75 : SK (X1_init_x z) 75 (X1_init_u75 g75)) : SK (X1_init_x z) 55 (X1_init_u55 (X1_init_f55 g75)) := by
  intro ls st h r e
  obtain ⟨hst, e⟩ := gL_of e
  obtain ⟨t, q0, e⟩ := gT_of e
  rw [st_0 hst]
  exact WK.sub (canon := [some (.inr (1, t + 1)), none]) rfl ⟨q0, trivial⟩ (X1_init_s55 hk75 _ _ _ _ ((X1_init_l55 g75 t h).trans e))
noncomputable def X1_init_f75 (g100 : Nat → PH → Option Rs) (t : Nat) (h : PH) : Option Rs :=
  wr (pI h 73 t 0 0) fun h26 =>
  wr (pI h26 74 t 0 0) fun h27 =>
  wr (pI h27 75 t 0 0) fun h28 =>
  wr (pI h28 76 t 0 0) fun h29 =>
  wr (pI h29 77 t 0 0) fun h30 =>
  g100 t h30
set_option maxRecDepth 100000 in
theorem X1_init_l75 (g100 : Nat → PH → Option Rs) (t : Nat) (h : PH) : X1_init_b75 (X1_init_u100 g100) [some (.inr (1, t + 1)), none] [] h = X1_init_f75 g100 t h := rfl
theorem X1_init_m75 {g100 G100 : Nat → PH → Option Rs} (hg100 : ∀ a0 a1, Mo (g100 a0 a1) (G100 a0 a1)) (t : Nat) (h : PH) : Mo (X1_init_f75 g100 t h) (X1_init_f75 G100 t h) := (mo_wr fun h26 => (mo_wr fun h27 => (mo_wr fun h28 => (mo_wr fun h29 => (mo_wr fun h30 => (hg100 t h30))))))
theorem X1_init_w75 {z : CZ} {g100 : Nat → PH → Option Rs} (hk100 : SK (X1_init_x z) 100 (X1_init_u100 g100)) : SK (X1_init_x z) 75 (X1_init_u75 (X1_init_f75 g100)) := by
  intro ls st h r e
  obtain ⟨hst, e⟩ := gL_of e
  obtain ⟨t, q0, e⟩ := gT_of e
  rw [st_0 hst]
  exact WK.sub (canon := [some (.inr (1, t + 1)), none]) rfl ⟨q0, trivial⟩ (X1_init_s75 hk100 _ _ _ _ ((X1_init_l75 g100 t h).trans e))
noncomputable def X1_init_f100 (g118 : Nat → Int32 → PH → Option Rs) (t : Nat) (h : PH) : Option Rs :=
  wr (pI h 78 t 0 8) fun h31 =>
  wr (pI h31 79 t 0 0) fun h32 =>
  wr (pI h32 80 t 0 1) fun h33 =>
  g118 t 0 h33
set_option maxRecDepth 100000 in
theorem X1_init_l100 (g118 : Nat → Int32 → PH → Option Rs) (t : Nat) (h : PH) : X1_init_b100 (X1_init_u118 g118) [some (.inr (1, t + 1)), none] [] h = X1_init_f100 g118 t h := rfl
theorem X1_init_m100 {g118 G118 : Nat → Int32 → PH → Option Rs} (hg118 : ∀ a0 a1 a2, Mo (g118 a0 a1 a2) (G118 a0 a1 a2)) (t : Nat) (h : PH) : Mo (X1_init_f100 g118 t h) (X1_init_f100 G118 t h) := (mo_wr fun h31 => (mo_wr fun h32 => (mo_wr fun h33 => (hg118 t 0 h33))))
theorem X1_init_w100 {z : CZ} {g118 : Nat → Int32 → PH → Option Rs} (hk118 : SK (X1_init_x z) 118 (X1_init_u118 g118)) : SK (X1_init_x z) 100 (X1_init_u100 (X1_init_f100 g118)) := by
  intro ls st h r e
  obtain ⟨hst, e⟩ := gL_of e
  obtain ⟨t, q0, e⟩ := gT_of e
  rw [st_0 hst]
  exact WK.sub (canon := [some (.inr (1, t + 1)), none]) rfl ⟨q0, trivial⟩ (X1_init_s100 hk118 _ _ _ _ ((X1_init_l100 g118 t h).trans e))
noncomputable def X1_init_f118 (c_X10_init : Nat → PH → Option Rs) (g118 : Nat → Int32 → PH → Option Rs) (g145 : Nat → Int32 → PH → Option Rs) (t : Nat) (x1 : Int32) (h : PH) : Option Rs :=
  if x1 < 20 then
    wr (nw h 9 0 6) fun h34 =>
    nn (hN h 9 + 1) fun r35 =>
    cV (c_X10_init r35 h34) fun h36 =>
    nn (hR h 64 t 0) fun r37 =>
    ix x1 (hL h36 14 r37) fun j38 =>
    wr (pR h36 896 r37 j38 (hN h 9 + 1)) fun h39 =>
    g118 t (x1 + 1) h39
  else
    g145 t 0 h
set_option maxRecDepth 100000 in
theorem X1_init_l118 (c_X10_init : Nat → PH → Option Rs) (g118 : Nat → Int32 → PH → Option Rs) (g145 : Nat → Int32 → PH → Option Rs) (t : Nat) (x1 : Int32) (h : PH) : X1_init_b118 c_X10_init (X1_init_u118 g118) (X1_init_u145 g145) [some (.inr (1, t + 1)), some (.inl x1)] [] h = X1_init_f118 c_X10_init g118 g145 t x1 h := rfl
theorem X1_init_m118 {c_X10_init : Nat → PH → Option Rs} {g118 G118 : Nat → Int32 → PH → Option Rs} {g145 G145 : Nat → Int32 → PH → Option Rs} (hg118 : ∀ a0 a1 a2, Mo (g118 a0 a1 a2) (G118 a0 a1 a2)) (hg145 : ∀ a0 a1 a2, Mo (g145 a0 a1 a2) (G145 a0 a1 a2)) (t : Nat) (x1 : Int32) (h : PH) : Mo (X1_init_f118 c_X10_init g118 g145 t x1 h) (X1_init_f118 c_X10_init G118 G145 t x1 h) := (mo_if (mo_wr fun h34 => (mo_nn fun r35 => (mo_cV fun h36 => (mo_nn fun r37 => (mo_ix fun j38 => (mo_wr fun h39 => (hg118 t (x1 + 1) h39))))))) (hg145 t 0 h))
theorem X1_init_w118 {z : CZ} {g118 : Nat → Int32 → PH → Option Rs} {g145 : Nat → Int32 → PH → Option Rs} (hk118 : SK (X1_init_x z) 118 (X1_init_u118 g118)) (hk145 : SK (X1_init_x z) 145 (X1_init_u145 g145)) : SK (X1_init_x z) 118 (X1_init_u118 (X1_init_f118 X10_init g118 g145)) := by
  intro ls st h r e
  obtain ⟨hst, e⟩ := gL_of e
  obtain ⟨t, q0, e⟩ := gT_of e
  obtain ⟨x1, q1, e⟩ := gI_of e
  rw [st_0 hst]
  exact WK.sub (canon := [some (.inr (1, t + 1)), some (.inl x1)]) rfl ⟨q0, q1, trivial⟩ (X1_init_s118 hk118 hk145 _ _ _ _ ((X1_init_l118 X10_init g118 g145 t x1 h).trans e))
noncomputable def X1_init_f145 (c_J7_fill_53178_15 : Nat → Int32 → PH → Option Rs) (c_J7_fill_53178_20 : Nat → Int32 → PH → Option Rs) (c_X6_init : Nat → PH → Option Rs) (g145 : Nat → Int32 → PH → Option Rs) (t : Nat) (x1 : Int32) (h : PH) : Option Rs :=
  if x1 < 14 then
    wr (nw h 5 0 7) fun h42 =>
    nn (hN h 5 + 1) fun r43 =>
    cV (c_X6_init r43 h42) fun h44 =>
    nn (hR h 68 t 0) fun r45 =>
    ix x1 (hL h44 18 r45) fun j46 =>
    wr (pR h44 1152 r45 j46 (hN h 5 + 1)) fun h47 =>
    g145 t (x1 + 1) h47
  else
    cV (c_J7_fill_53178_15 (hR h 65 t 0) (-1) h) fun h40 =>
    cV (c_J7_fill_53178_20 (hR h40 70 t 0) (-1) h40) fun h41 =>
    some (none, h41)
set_option maxRecDepth 100000 in
theorem X1_init_l145 (c_J7_fill_53178_15 : Nat → Int32 → PH → Option Rs) (c_J7_fill_53178_20 : Nat → Int32 → PH → Option Rs) (c_X6_init : Nat → PH → Option Rs) (g145 : Nat → Int32 → PH → Option Rs) (t : Nat) (x1 : Int32) (h : PH) : X1_init_b145 c_J7_fill_53178_15 c_J7_fill_53178_20 c_X6_init (X1_init_u145 g145) [some (.inr (1, t + 1)), some (.inl x1)] [] h = X1_init_f145 c_J7_fill_53178_15 c_J7_fill_53178_20 c_X6_init g145 t x1 h := rfl
theorem X1_init_m145 {c_J7_fill_53178_15 : Nat → Int32 → PH → Option Rs} {c_J7_fill_53178_20 : Nat → Int32 → PH → Option Rs} {c_X6_init : Nat → PH → Option Rs} {g145 G145 : Nat → Int32 → PH → Option Rs} (hg145 : ∀ a0 a1 a2, Mo (g145 a0 a1 a2) (G145 a0 a1 a2)) (t : Nat) (x1 : Int32) (h : PH) : Mo (X1_init_f145 c_J7_fill_53178_15 c_J7_fill_53178_20 c_X6_init g145 t x1 h) (X1_init_f145 c_J7_fill_53178_15 c_J7_fill_53178_20 c_X6_init G145 t x1 h) := (mo_if (mo_wr fun h42 => (mo_nn fun r43 => (mo_cV fun h44 => (mo_nn fun r45 => (mo_ix fun j46 => (mo_wr fun h47 => (hg145 t (x1 + 1) h47))))))) (mo_cV fun h40 => (mo_cV fun h41 => mo_rf)))
theorem X1_init_w145 {z : CZ} {g145 : Nat → Int32 → PH → Option Rs} (hk145 : SK (X1_init_x z) 145 (X1_init_u145 g145)) : SK (X1_init_x z) 145 (X1_init_u145 (X1_init_f145 J7_fill_53178_15 J7_fill_53178_20 X6_init g145)) := by
  intro ls st h r e
  obtain ⟨hst, e⟩ := gL_of e
  obtain ⟨t, q0, e⟩ := gT_of e
  obtain ⟨x1, q1, e⟩ := gI_of e
  rw [st_0 hst]
  exact WK.sub (canon := [some (.inr (1, t + 1)), some (.inl x1)]) rfl ⟨q0, q1, trivial⟩ (X1_init_s145 hk145 _ _ _ _ ((X1_init_l145 J7_fill_53178_15 J7_fill_53178_20 X6_init g145 t x1 h).trans e))
noncomputable def X1_init_g100 (G : (Nat → Int32 → PH → Option Rs) × (Nat → Int32 → PH → Option Rs)) (t : Nat) (h : PH) : Option Rs := X1_init_f100 (G).1 t h
noncomputable def X1_init_g75 (G : (Nat → Int32 → PH → Option Rs) × (Nat → Int32 → PH → Option Rs)) (t : Nat) (h : PH) : Option Rs := X1_init_f75 (X1_init_g100 G) t h
noncomputable def X1_init_g55 (G : (Nat → Int32 → PH → Option Rs) × (Nat → Int32 → PH → Option Rs)) (t : Nat) (h : PH) : Option Rs := X1_init_f55 (X1_init_g75 G) t h
noncomputable def X1_init_g29 (G : (Nat → Int32 → PH → Option Rs) × (Nat → Int32 → PH → Option Rs)) (t : Nat) (h : PH) : Option Rs := X1_init_f29 (X1_init_g55 G) t h
noncomputable def X1_init_g0 (G : (Nat → Int32 → PH → Option Rs) × (Nat → Int32 → PH → Option Rs)) (t : Nat) (h : PH) : Option Rs := X1_init_f0 (X1_init_g29 G) t h
noncomputable def X1_init_g118 (G : (Nat → Int32 → PH → Option Rs) × (Nat → Int32 → PH → Option Rs)) (t : Nat) (x1 : Int32) (h : PH) : Option Rs := X1_init_f118 X10_init (G).1 (G).2 t x1 h
noncomputable def X1_init_g145 (G : (Nat → Int32 → PH → Option Rs) × (Nat → Int32 → PH → Option Rs)) (t : Nat) (x1 : Int32) (h : PH) : Option Rs := X1_init_f145 J7_fill_53178_15 J7_fill_53178_20 X6_init (G).2 t x1 h
theorem X1_init_v100 {z : CZ} {G : (Nat → Int32 → PH → Option Rs) × (Nat → Int32 → PH → Option Rs)} (hG118 : SK (X1_init_x z) 118 (X1_init_u118 (G).1)) (hG145 : SK (X1_init_x z) 145 (X1_init_u145 (G).2)) : SK (X1_init_x z) 100 (X1_init_u100 (X1_init_g100 G)) := X1_init_w100 hG118
theorem X1_init_v75 {z : CZ} {G : (Nat → Int32 → PH → Option Rs) × (Nat → Int32 → PH → Option Rs)} (hG118 : SK (X1_init_x z) 118 (X1_init_u118 (G).1)) (hG145 : SK (X1_init_x z) 145 (X1_init_u145 (G).2)) : SK (X1_init_x z) 75 (X1_init_u75 (X1_init_g75 G)) := X1_init_w75 (X1_init_v100 hG118 hG145)
theorem X1_init_v55 {z : CZ} {G : (Nat → Int32 → PH → Option Rs) × (Nat → Int32 → PH → Option Rs)} (hG118 : SK (X1_init_x z) 118 (X1_init_u118 (G).1)) (hG145 : SK (X1_init_x z) 145 (X1_init_u145 (G).2)) : SK (X1_init_x z) 55 (X1_init_u55 (X1_init_g55 G)) := X1_init_w55 (X1_init_v75 hG118 hG145)
theorem X1_init_v29 {z : CZ} {G : (Nat → Int32 → PH → Option Rs) × (Nat → Int32 → PH → Option Rs)} (hG118 : SK (X1_init_x z) 118 (X1_init_u118 (G).1)) (hG145 : SK (X1_init_x z) 145 (X1_init_u145 (G).2)) : SK (X1_init_x z) 29 (X1_init_u29 (X1_init_g29 G)) := X1_init_w29 (X1_init_v55 hG118 hG145)
theorem X1_init_v118 {z : CZ} {G : (Nat → Int32 → PH → Option Rs) × (Nat → Int32 → PH → Option Rs)} (hG118 : SK (X1_init_x z) 118 (X1_init_u118 (G).1)) (hG145 : SK (X1_init_x z) 145 (X1_init_u145 (G).2)) : SK (X1_init_x z) 118 (X1_init_u118 (X1_init_g118 G)) := X1_init_w118 hG118 hG145
theorem X1_init_v145 {z : CZ} {G : (Nat → Int32 → PH → Option Rs) × (Nat → Int32 → PH → Option Rs)} (hG118 : SK (X1_init_x z) 118 (X1_init_u118 (G).1)) (hG145 : SK (X1_init_x z) 145 (X1_init_u145 (G).2)) : SK (X1_init_x z) 145 (X1_init_u145 (X1_init_g145 G)) := X1_init_w145 hG145
noncomputable def X1_init_fam : Nat → (Nat → Int32 → PH → Option Rs) × (Nat → Int32 → PH → Option Rs)
  | 0 => (fun _ _ _ => none, fun _ _ _ => none)
  | n + 1 => (X1_init_g118 (X1_init_fam n), X1_init_g145 (X1_init_fam n))
theorem X1_init_k {z : CZ} : ∀ n, SK (X1_init_x z) 118 (X1_init_u118 (X1_init_fam n).1) ∧ SK (X1_init_x z) 145 (X1_init_u145 (X1_init_fam n).2)
  | 0 => ⟨(fun ls st h r e => by
      obtain ⟨_, e⟩ := gL_of e
      obtain ⟨_, _, e⟩ := gT_of e
      obtain ⟨_, _, e⟩ := gI_of e
      cases e), (fun ls st h r e => by
      obtain ⟨_, e⟩ := gL_of e
      obtain ⟨_, _, e⟩ := gT_of e
      obtain ⟨_, _, e⟩ := gI_of e
      cases e)⟩
  | n + 1 => by
    obtain ⟨ih118, ih145⟩ := X1_init_k n
    exact ⟨X1_init_v118 ih118 ih145, X1_init_v145 ih118 ih145⟩
theorem X1_init_n100 {G G' : (Nat → Int32 → PH → Option Rs) × (Nat → Int32 → PH → Option Rs)} (hg118 : ∀ a0 a1 a2, Mo ((G).1 a0 a1 a2) ((G').1 a0 a1 a2)) (hg145 : ∀ a0 a1 a2, Mo ((G).2 a0 a1 a2) ((G').2 a0 a1 a2)) (t : Nat) (h : PH) : Mo (X1_init_g100 G t h) (X1_init_g100 G' t h) := X1_init_m100 hg118 t h
theorem X1_init_n75 {G G' : (Nat → Int32 → PH → Option Rs) × (Nat → Int32 → PH → Option Rs)} (hg118 : ∀ a0 a1 a2, Mo ((G).1 a0 a1 a2) ((G').1 a0 a1 a2)) (hg145 : ∀ a0 a1 a2, Mo ((G).2 a0 a1 a2) ((G').2 a0 a1 a2)) (t : Nat) (h : PH) : Mo (X1_init_g75 G t h) (X1_init_g75 G' t h) := X1_init_m75 (fun a0 a1 => X1_init_n100 hg118 hg145 a0 a1) t h
theorem X1_init_n55 {G G' : (Nat → Int32 → PH → Option Rs) × (Nat → Int32 → PH → Option Rs)} (hg118 : ∀ a0 a1 a2, Mo ((G).1 a0 a1 a2) ((G').1 a0 a1 a2)) (hg145 : ∀ a0 a1 a2, Mo ((G).2 a0 a1 a2) ((G').2 a0 a1 a2)) (t : Nat) (h : PH) : Mo (X1_init_g55 G t h) (X1_init_g55 G' t h) := X1_init_m55 (fun a0 a1 => X1_init_n75 hg118 hg145 a0 a1) t h
theorem X1_init_n29 {G G' : (Nat → Int32 → PH → Option Rs) × (Nat → Int32 → PH → Option Rs)} (hg118 : ∀ a0 a1 a2, Mo ((G).1 a0 a1 a2) ((G').1 a0 a1 a2)) (hg145 : ∀ a0 a1 a2, Mo ((G).2 a0 a1 a2) ((G').2 a0 a1 a2)) (t : Nat) (h : PH) : Mo (X1_init_g29 G t h) (X1_init_g29 G' t h) := X1_init_m29 (fun a0 a1 => X1_init_n55 hg118 hg145 a0 a1) t h
theorem X1_init_n0 {G G' : (Nat → Int32 → PH → Option Rs) × (Nat → Int32 → PH → Option Rs)} (hg118 : ∀ a0 a1 a2, Mo ((G).1 a0 a1 a2) ((G').1 a0 a1 a2)) (hg145 : ∀ a0 a1 a2, Mo ((G).2 a0 a1 a2) ((G').2 a0 a1 a2)) (t : Nat) (h : PH) : Mo (X1_init_g0 G t h) (X1_init_g0 G' t h) := X1_init_m0 (fun a0 a1 => X1_init_n29 hg118 hg145 a0 a1) t h
theorem X1_init_n118 {G G' : (Nat → Int32 → PH → Option Rs) × (Nat → Int32 → PH → Option Rs)} (hg118 : ∀ a0 a1 a2, Mo ((G).1 a0 a1 a2) ((G').1 a0 a1 a2)) (hg145 : ∀ a0 a1 a2, Mo ((G).2 a0 a1 a2) ((G').2 a0 a1 a2)) (t : Nat) (x1 : Int32) (h : PH) : Mo (X1_init_g118 G t x1 h) (X1_init_g118 G' t x1 h) := X1_init_m118 hg118 hg145 t x1 h
theorem X1_init_n145 {G G' : (Nat → Int32 → PH → Option Rs) × (Nat → Int32 → PH → Option Rs)} (hg118 : ∀ a0 a1 a2, Mo ((G).1 a0 a1 a2) ((G').1 a0 a1 a2)) (hg145 : ∀ a0 a1 a2, Mo ((G).2 a0 a1 a2) ((G').2 a0 a1 a2)) (t : Nat) (x1 : Int32) (h : PH) : Mo (X1_init_g145 G t x1 h) (X1_init_g145 G' t x1 h) := X1_init_m145 hg145 t x1 h
theorem X1_init_fm : ∀ n, (∀ a0 a1 a2, Mo ((X1_init_fam n).1 a0 a1 a2) ((X1_init_fam (n + 1)).1 a0 a1 a2)) ∧ (∀ a0 a1 a2, Mo ((X1_init_fam n).2 a0 a1 a2) ((X1_init_fam (n + 1)).2 a0 a1 a2))
  | 0 => ⟨fun _ _ _ => mo_no, fun _ _ _ => mo_no⟩
  | n + 1 => by
    obtain ⟨ih118, ih145⟩ := X1_init_fm n
    exact ⟨fun a0 a1 a2 => X1_init_n118 ih118 ih145 a0 a1 a2, fun a0 a1 a2 => X1_init_n145 ih118 ih145 a0 a1 a2⟩
noncomputable def X1_init (t : Nat) (h : PH) : Option Rs := lim (fun n => X1_init_g0 (X1_init_fam n) t h)
theorem X1_init_iff {t : Nat} {h : PH} {r : Rs} : X1_init t h = some r ↔ ∃ n, X1_init_g0 (X1_init_fam n) t h = some r := lim_iff (fun n => by
  obtain ⟨ih118, ih145⟩ := X1_init_fm n
  exact X1_init_n0 ih118 ih145 t h)
noncomputable abbrev X1_init_F : List PV → PH → Option Rs := FW_T1 (X1_init)
set_option maxRecDepth 100000 in
theorem X1_init_gd (l : Launch) : Gd l 1 yX1_init cX1_init 2 none (X1_init_F)   := Gd_of (by decide +kernel) (fun z hzl as h r e => by
  obtain ⟨hst, e⟩ := gL_of e
  obtain ⟨t, q0, e⟩ := gT_of e
  rw [st_1 hst q0]
  obtain ⟨n, e⟩ := lim_of e
  obtain ⟨hG118, hG145⟩ := X1_init_k (z := z) n
  exact ⟨show 1 ≤ 2 by decide, X1_init_s0 (X1_init_v29 hG118 hG145) _ _ _ _ ((X1_init_l0 (X1_init_g29 (X1_init_fam n)) t h).trans e)⟩)
abbrev X4_init_x (z : CZ) : CX := mx RX4 cX4_init 3 0 none "<init>" z
noncomputable def X4_init_b0 (k25 : Kn) : Kn := (a_al 0 (a_oi (a_al 0 (a_ic 20 (a_nwa 24 (a_pR 3 194 24 (a_al 0 (a_ic 120 (a_nwa 25 (a_pR 3 195 25 (a_al 0 (a_al 1 (a_pR 3 193 1 k25)))))))))))))
set_option maxRecDepth 100000 in
theorem X4_init_s0 {z : CZ} {k25 : Kn} (hk25 : SK (X4_init_x z) 25 k25) : SK (X4_init_x z) 0 (X4_init_b0 k25) := (s_aloadn (pc := 0) dX4_init_0 rfl (s_oi (pc := 1) w_310 w_107 w_108 dX4_init_1 (s_aloadn (pc := 4) dX4_init_4 rfl (s_bipush (pc := 5) dX4_init_5 c_bp_20 (s_nwa (pc := 7) (at0 := .boolean) (by decide) (by decide) rfl rfl rfl (by decide) w_326 dX4_init_7 (s_pRF (pc := 9) (f := 2) ko_3 (by decide) rfl rfl rfl rfl rfl (tyX4_ok 2 (by decide)) rfl w_315 dX4_init_9 (s_aloadn (pc := 12) dX4_init_12 rfl (s_bipush (pc := 13) dX4_init_13 c_bp_120 (s_nwa (pc := 15) (at0 := .int) (by decide) (by decide) rfl rfl rfl (by decide) w_161 dX4_init_15 (s_pRF (pc := 17) (f := 3) ko_3 (by decide) rfl rfl rfl rfl rfl (tyX4_ok 3 (by decide)) rfl w_316 dX4_init_17 (s_aloadn (pc := 20) dX4_init_20 rfl (s_aloadn (pc := 21) dX4_init_21 rfl (s_pR (pc := 22) (f := 1) ko_3 (by decide) rfl rfl rfl (tyX4_ok 1 (by decide)) rfl w_313 dX4_init_22 hk25)))))))))))))
noncomputable def X4_init_b25 : Kn := (a_al 0 (a_il 2 (a_pI 3 192 a_vr)))
set_option maxRecDepth 100000 in
theorem X4_init_s25 {z : CZ} : SK (X4_init_x z) 25 (X4_init_b25) := (s_aloadn (pc := 25) dX4_init_25 rfl (s_iloadn (pc := 26) dX4_init_26 rfl (s_pIF (pc := 27) (f := 0) ko_3 (by decide) rfl rfl rfl rfl rfl (by decide +kernel) w_311 dX4_init_27 (s_vr (pc := 30) rfl dX4_init_30))))
noncomputable def X4_init_u25 (g : Nat → Int32 → PH → Option Rs) : Kn := fun ls st h => gL 0 st (gT 3 ls 0 fun t => gI ls 2 fun x2 => g t x2 h)
noncomputable def X4_init_f0 (g25 : Nat → Int32 → PH → Option Rs) (t : Nat) (x1 : Nat) (x2 : Int32) (h : PH) : Option Rs :=
  nl 20 fun n1 =>
  wr (nw h 24 n1 n1) fun h2 =>
  wr (pR h2 194 t 0 (hN h 24 + 1)) fun h3 =>
  nl 120 fun n4 =>
  wr (nw h3 25 n4 n4) fun h5 =>
  wr (pR h5 195 t 0 (hN h3 25 + 1)) fun h6 =>
  wr (pR h6 193 t 0 x1) fun h7 =>
  g25 t x2 h7
set_option maxRecDepth 100000 in
theorem X4_init_l0 (g25 : Nat → Int32 → PH → Option Rs) (t : Nat) (x1 : Nat) (x2 : Int32) (h : PH) : X4_init_b0 (X4_init_u25 g25) [some (.inr (3, t + 1)), some (.inr (1, x1)), some (.inl x2)] [] h = X4_init_f0 g25 t x1 x2 h := rfl
theorem X4_init_m0 {g25 G25 : Nat → Int32 → PH → Option Rs} (hg25 : ∀ a0 a1 a2, Mo (g25 a0 a1 a2) (G25 a0 a1 a2)) (t : Nat) (x1 : Nat) (x2 : Int32) (h : PH) : Mo (X4_init_f0 g25 t x1 x2 h) (X4_init_f0 G25 t x1 x2 h) := (mo_nl fun n1 => (mo_wr fun h2 => (mo_wr fun h3 => (mo_nl fun n4 => (mo_wr fun h5 => (mo_wr fun h6 => (mo_wr fun h7 => (hg25 t x2 h7))))))))
noncomputable def X4_init_f25 (t : Nat) (x2 : Int32) (h : PH) : Option Rs :=
  wr (pI h 192 t 0 x2) fun h8 =>
  some (none, h8)
set_option maxRecDepth 100000 in
theorem X4_init_l25 (t : Nat) (x2 : Int32) (h : PH) : X4_init_b25 [some (.inr (3, t + 1)), none, some (.inl x2)] [] h = X4_init_f25 t x2 h := rfl
theorem X4_init_w25 {z : CZ} : SK (X4_init_x z) 25 (X4_init_u25 (X4_init_f25)) := by
  intro ls st h r e
  obtain ⟨hst, e⟩ := gL_of e
  obtain ⟨t, q0, e⟩ := gT_of e
  obtain ⟨x2, q1, e⟩ := gI_of e
  rw [st_0 hst]
  exact WK.sub (canon := [some (.inr (3, t + 1)), none, some (.inl x2)]) rfl ⟨q0, q1, trivial⟩ (X4_init_s25 _ _ _ _ ((X4_init_l25 t x2 h).trans e))
noncomputable def X4_init_g25 (t : Nat) (x2 : Int32) (h : PH) : Option Rs := X4_init_f25 t x2 h
noncomputable def X4_init_g0 (t : Nat) (x1 : Nat) (x2 : Int32) (h : PH) : Option Rs := X4_init_f0 (X4_init_g25) t x1 x2 h
theorem X4_init_v25 {z : CZ} : SK (X4_init_x z) 25 (X4_init_u25 (X4_init_g25)) := X4_init_w25
noncomputable def X4_init (t : Nat) (x1 : Nat) (x2 : Int32) (h : PH) : Option Rs := X4_init_g0 t x1 x2 h
noncomputable abbrev X4_init_F : List PV → PH → Option Rs := FW_T3R1I (X4_init)
set_option maxRecDepth 100000 in
theorem X4_init_gd (l : Launch) : Gd l 0 yX4_init cX4_init 3 none (X4_init_F)   := Gd_of (by decide +kernel) (fun z hzl as h r e => by
  obtain ⟨hst, e⟩ := gL_of e
  obtain ⟨t, q0, e⟩ := gT_of e
  obtain ⟨x1, q1, e⟩ := gR_of e
  obtain ⟨x2, q2, e⟩ := gI_of e
  rw [st_3 hst q0 q1 q2]
  exact ⟨show 3 ≤ 3 by decide, X4_init_s0 (X4_init_v25) _ _ _ _ ((X4_init_l0 (X4_init_g25) t x1 x2 h).trans e)⟩)
abbrev X9_init_x (z : CZ) : CX := mx RX9 cX9_init 2 0 none "<init>" z
noncomputable def X9_init_b0 (k30 : Kn) : Kn := (a_al 0 (a_oi (a_al 0 (a_ic 14 (a_nwa 31 (a_pR 8 514 31 (a_al 0 (a_ic 0 (a_pI 8 515 (a_al 0 (a_ic 0 (a_pI 8 516 (a_al 0 (a_ic 12 (a_nwa 32 (a_pR 8 517 32 k30))))))))))))))))
set_option maxRecDepth 100000 in
theorem X9_init_s0 {z : CZ} {k30 : Kn} (hk30 : SK (X9_init_x z) 30 k30) : SK (X9_init_x z) 0 (X9_init_b0 k30) := (s_aloadn (pc := 0) dX9_init_0 rfl (s_oi (pc := 1) w_330 w_107 w_108 dX9_init_1 (s_aloadn (pc := 4) dX9_init_4 rfl (s_bipush (pc := 5) dX9_init_5 c_bp_14 (s_nwa (pc := 7) (at0 := .int) (by decide) (by decide) rfl rfl rfl (by decide) w_161 dX9_init_7 (s_pRF (pc := 9) (f := 2) ko_8 (by decide) rfl rfl rfl rfl rfl (tyX9_ok 2 (by decide)) rfl w_334 dX9_init_9 (s_aloadn (pc := 12) dX9_init_12 rfl (s_iconst (pc := 13) dX9_init_13 c_ic_0 (s_pI (pc := 14) (f := 3) ko_8 (by decide) rfl rfl rfl (by decide +kernel) w_335 dX9_init_14 (s_aloadn (pc := 17) dX9_init_17 rfl (s_iconst (pc := 18) dX9_init_18 c_ic_0 (s_pI (pc := 19) (f := 4) ko_8 (by decide) rfl rfl rfl (by decide +kernel) w_336 dX9_init_19 (s_aloadn (pc := 22) dX9_init_22 rfl (s_bipush (pc := 23) dX9_init_23 c_bp_12 (s_nwa (pc := 25) (at0 := .int) (by decide) (by decide) rfl rfl rfl (by decide) w_161 dX9_init_25 (s_pRF (pc := 27) (f := 5) ko_8 (by decide) rfl rfl rfl rfl rfl (tyX9_ok 5 (by decide)) rfl w_337 dX9_init_27 hk30))))))))))))))))
noncomputable def X9_init_b30 (k54 : Kn) : Kn := (a_al 0 (a_ic 12 (a_nwa 33 (a_pR 8 518 33 (a_al 0 (a_ic 12 (a_nwa 34 (a_pR 8 519 34 (a_al 0 (a_ic 96 (a_nwa 35 (a_pR 8 520 35 k54))))))))))))
set_option maxRecDepth 100000 in
theorem X9_init_s30 {z : CZ} {k54 : Kn} (hk54 : SK (X9_init_x z) 54 k54) : SK (X9_init_x z) 30 (X9_init_b30 k54) := (s_aloadn (pc := 30) dX9_init_30 rfl (s_bipush (pc := 31) dX9_init_31 c_bp_12 (s_nwa (pc := 33) (at0 := .int) (by decide) (by decide) rfl rfl rfl (by decide) w_161 dX9_init_33 (s_pRF (pc := 35) (f := 6) ko_8 (by decide) rfl rfl rfl rfl rfl (tyX9_ok 6 (by decide)) rfl w_338 dX9_init_35 (s_aloadn (pc := 38) dX9_init_38 rfl (s_bipush (pc := 39) dX9_init_39 c_bp_12 (s_nwa (pc := 41) (at0 := .int) (by decide) (by decide) rfl rfl rfl (by decide) w_161 dX9_init_41 (s_pRF (pc := 43) (f := 7) ko_8 (by decide) rfl rfl rfl rfl rfl (tyX9_ok 7 (by decide)) rfl w_339 dX9_init_43 (s_aloadn (pc := 46) dX9_init_46 rfl (s_bipush (pc := 47) dX9_init_47 c_bp_96 (s_nwa (pc := 49) (at0 := .int) (by decide) (by decide) rfl rfl rfl (by decide) w_161 dX9_init_49 (s_pRF (pc := 51) (f := 8) ko_8 (by decide) rfl rfl rfl rfl rfl (tyX9_ok 8 (by decide)) rfl w_340 dX9_init_51 hk54))))))))))))
noncomputable def X9_init_b54 (k77 : Kn) : Kn := (a_al 0 (a_ic 0 (a_pI 8 521 (a_al 0 (a_ic 61 (a_nwa 36 (a_pR 8 522 36 (a_al 0 (a_ic 2 (a_pI 8 523 (a_al 0 (a_ic 0 (a_pI 8 524 k77)))))))))))))
set_option maxRecDepth 100000 in
theorem X9_init_s54 {z : CZ} {k77 : Kn} (hk77 : SK (X9_init_x z) 77 k77) : SK (X9_init_x z) 54 (X9_init_b54 k77) := (s_aloadn (pc := 54) dX9_init_54 rfl (s_iconst (pc := 55) dX9_init_55 c_ic_0 (s_pI (pc := 56) (f := 9) ko_8 (by decide) rfl rfl rfl (by decide +kernel) w_341 dX9_init_56 (s_aloadn (pc := 59) dX9_init_59 rfl (s_bipush (pc := 60) dX9_init_60 c_bp_61 (s_nwa (pc := 62) (at0 := .int) (by decide) (by decide) rfl rfl rfl (by decide) w_161 dX9_init_62 (s_pRF (pc := 64) (f := 10) ko_8 (by decide) rfl rfl rfl rfl rfl (tyX9_ok 10 (by decide)) rfl w_342 dX9_init_64 (s_aloadn (pc := 67) dX9_init_67 rfl (s_iconst (pc := 68) dX9_init_68 c_ic_2 (s_pI (pc := 69) (f := 11) ko_8 (by decide) rfl rfl rfl (by decide +kernel) w_344 dX9_init_69 (s_aloadn (pc := 72) dX9_init_72 rfl (s_iconst (pc := 73) dX9_init_73 c_ic_0 (s_pI (pc := 74) (f := 12) ko_8 (by decide) rfl rfl rfl (by decide +kernel) w_346 dX9_init_74 hk77)))))))))))))
noncomputable def X9_init_b77 : Kn := (a_al 0 (a_ic 0 (a_pI 8 525 (a_al 0 (a_ic 0 (a_pI 8 526 (a_al 0 (a_ic (-1) (a_pI 8 527 (a_al 0 (a_al 1 (a_pR 8 512 3 (a_al 0 (a_al 1 (a_gR 3 193 1 (a_pR 8 513 1 a_vr))))))))))))))))
set_option maxRecDepth 100000 in
theorem X9_init_s77 {z : CZ} : SK (X9_init_x z) 77 (X9_init_b77) := (s_aloadn (pc := 77) dX9_init_77 rfl (s_iconst (pc := 78) dX9_init_78 c_ic_0 (s_pI (pc := 79) (f := 13) ko_8 (by decide) rfl rfl rfl (by decide +kernel) w_348 dX9_init_79 (s_aloadn (pc := 82) dX9_init_82 rfl (s_iconst (pc := 83) dX9_init_83 c_ic_0 (s_pI (pc := 84) (f := 14) ko_8 (by decide) rfl rfl rfl (by decide +kernel) w_350 dX9_init_84 (s_aloadn (pc := 87) dX9_init_87 rfl (s_iconst (pc := 88) dX9_init_88 c_ic_m1 (s_pI (pc := 89) (f := 15) ko_8 (by decide) rfl rfl rfl (by decide +kernel) w_352 dX9_init_89 (s_aloadn (pc := 92) dX9_init_92 rfl (s_aloadn (pc := 93) dX9_init_93 rfl (s_pRF (pc := 94) (f := 0) ko_8 (by decide) rfl rfl rfl rfl rfl (tyX9_ok 0 (by decide)) rfl w_331 dX9_init_94 (s_aloadn (pc := 97) dX9_init_97 rfl (s_aloadn (pc := 98) dX9_init_98 rfl (s_gRN (pc := 99) (f := 1) ko_3 (by decide) rfl rfl nw_314 dX9_init_99 (s_pR (pc := 102) (f := 1) ko_8 (by decide) rfl rfl rfl (tyX9_ok 1 (by decide)) rfl w_333 dX9_init_102 (s_vr (pc := 105) rfl dX9_init_105)))))))))))))))))
noncomputable def X9_init_u30 (g : Nat → Nat → PH → Option Rs) : Kn := fun ls st h => gL 0 st (gT 8 ls 0 fun t => gR 3 ls 1 fun x1 => g t x1 h)
noncomputable def X9_init_u54 (g : Nat → Nat → PH → Option Rs) : Kn := fun ls st h => gL 0 st (gT 8 ls 0 fun t => gR 3 ls 1 fun x1 => g t x1 h)
noncomputable def X9_init_u77 (g : Nat → Nat → PH → Option Rs) : Kn := fun ls st h => gL 0 st (gT 8 ls 0 fun t => gR 3 ls 1 fun x1 => g t x1 h)
noncomputable def X9_init_f0 (g30 : Nat → Nat → PH → Option Rs) (t : Nat) (x1 : Nat) (h : PH) : Option Rs :=
  nl 14 fun n1 =>
  wr (nw h 31 n1 n1) fun h2 =>
  wr (pR h2 514 t 0 (hN h 31 + 1)) fun h3 =>
  wr (pI h3 515 t 0 0) fun h4 =>
  wr (pI h4 516 t 0 0) fun h5 =>
  nl 12 fun n6 =>
  wr (nw h5 32 n6 n6) fun h7 =>
  wr (pR h7 517 t 0 (hN h5 32 + 1)) fun h8 =>
  g30 t x1 h8
set_option maxRecDepth 100000 in
theorem X9_init_l0 (g30 : Nat → Nat → PH → Option Rs) (t : Nat) (x1 : Nat) (h : PH) : X9_init_b0 (X9_init_u30 g30) [some (.inr (8, t + 1)), some (.inr (3, x1))] [] h = X9_init_f0 g30 t x1 h := rfl
theorem X9_init_m0 {g30 G30 : Nat → Nat → PH → Option Rs} (hg30 : ∀ a0 a1 a2, Mo (g30 a0 a1 a2) (G30 a0 a1 a2)) (t : Nat) (x1 : Nat) (h : PH) : Mo (X9_init_f0 g30 t x1 h) (X9_init_f0 G30 t x1 h) := (mo_nl fun n1 => (mo_wr fun h2 => (mo_wr fun h3 => (mo_wr fun h4 => (mo_wr fun h5 => (mo_nl fun n6 => (mo_wr fun h7 => (mo_wr fun h8 => (hg30 t x1 h8)))))))))
noncomputable def X9_init_f30 (g54 : Nat → Nat → PH → Option Rs) (t : Nat) (x1 : Nat) (h : PH) : Option Rs :=
  nl 12 fun n9 =>
  wr (nw h 33 n9 n9) fun h10 =>
  wr (pR h10 518 t 0 (hN h 33 + 1)) fun h11 =>
  nl 12 fun n12 =>
  wr (nw h11 34 n12 n12) fun h13 =>
  wr (pR h13 519 t 0 (hN h11 34 + 1)) fun h14 =>
  nl 96 fun n15 =>
  wr (nw h14 35 n15 n15) fun h16 =>
  wr (pR h16 520 t 0 (hN h14 35 + 1)) fun h17 =>
  g54 t x1 h17
set_option maxRecDepth 100000 in
theorem X9_init_l30 (g54 : Nat → Nat → PH → Option Rs) (t : Nat) (x1 : Nat) (h : PH) : X9_init_b30 (X9_init_u54 g54) [some (.inr (8, t + 1)), some (.inr (3, x1))] [] h = X9_init_f30 g54 t x1 h := rfl
theorem X9_init_m30 {g54 G54 : Nat → Nat → PH → Option Rs} (hg54 : ∀ a0 a1 a2, Mo (g54 a0 a1 a2) (G54 a0 a1 a2)) (t : Nat) (x1 : Nat) (h : PH) : Mo (X9_init_f30 g54 t x1 h) (X9_init_f30 G54 t x1 h) := (mo_nl fun n9 => (mo_wr fun h10 => (mo_wr fun h11 => (mo_nl fun n12 => (mo_wr fun h13 => (mo_wr fun h14 => (mo_nl fun n15 => (mo_wr fun h16 => (mo_wr fun h17 => (hg54 t x1 h17))))))))))
theorem X9_init_w30 {z : CZ} {g54 : Nat → Nat → PH → Option Rs} (hk54 : SK (X9_init_x z) 54 (X9_init_u54 g54)) : SK (X9_init_x z) 30 (X9_init_u30 (X9_init_f30 g54)) := by
  intro ls st h r e
  obtain ⟨hst, e⟩ := gL_of e
  obtain ⟨t, q0, e⟩ := gT_of e
  obtain ⟨x1, q1, e⟩ := gR_of e
  rw [st_0 hst]
  exact WK.sub (canon := [some (.inr (8, t + 1)), some (.inr (3, x1))]) rfl ⟨q0, q1, trivial⟩ (X9_init_s30 hk54 _ _ _ _ ((X9_init_l30 g54 t x1 h).trans e))
noncomputable def X9_init_f54 (g77 : Nat → Nat → PH → Option Rs) (t : Nat) (x1 : Nat) (h : PH) : Option Rs :=
  wr (pI h 521 t 0 0) fun h18 =>
  nl 61 fun n19 =>
  wr (nw h18 36 n19 n19) fun h20 =>
  wr (pR h20 522 t 0 (hN h18 36 + 1)) fun h21 =>
  wr (pI h21 523 t 0 2) fun h22 =>
  wr (pI h22 524 t 0 0) fun h23 =>
  g77 t x1 h23
set_option maxRecDepth 100000 in
theorem X9_init_l54 (g77 : Nat → Nat → PH → Option Rs) (t : Nat) (x1 : Nat) (h : PH) : X9_init_b54 (X9_init_u77 g77) [some (.inr (8, t + 1)), some (.inr (3, x1))] [] h = X9_init_f54 g77 t x1 h := rfl
theorem X9_init_m54 {g77 G77 : Nat → Nat → PH → Option Rs} (hg77 : ∀ a0 a1 a2, Mo (g77 a0 a1 a2) (G77 a0 a1 a2)) (t : Nat) (x1 : Nat) (h : PH) : Mo (X9_init_f54 g77 t x1 h) (X9_init_f54 G77 t x1 h) := (mo_wr fun h18 => (mo_nl fun n19 => (mo_wr fun h20 => (mo_wr fun h21 => (mo_wr fun h22 => (mo_wr fun h23 => (hg77 t x1 h23)))))))
theorem X9_init_w54 {z : CZ} {g77 : Nat → Nat → PH → Option Rs} (hk77 : SK (X9_init_x z) 77 (X9_init_u77 g77)) : SK (X9_init_x z) 54 (X9_init_u54 (X9_init_f54 g77)) := by
  intro ls st h r e
  obtain ⟨hst, e⟩ := gL_of e
  obtain ⟨t, q0, e⟩ := gT_of e
  obtain ⟨x1, q1, e⟩ := gR_of e
  rw [st_0 hst]
  exact WK.sub (canon := [some (.inr (8, t + 1)), some (.inr (3, x1))]) rfl ⟨q0, q1, trivial⟩ (X9_init_s54 hk77 _ _ _ _ ((X9_init_l54 g77 t x1 h).trans e))
noncomputable def X9_init_f77 (t : Nat) (x1 : Nat) (h : PH) : Option Rs :=
  wr (pI h 525 t 0 0) fun h24 =>
  wr (pI h24 526 t 0 0) fun h25 =>
  wr (pI h25 527 t 0 (-1)) fun h26 =>
  wr (pR h26 512 t 0 x1) fun h27 =>
  nn x1 fun r28 =>
  wr (pR h27 513 t 0 (hR h27 193 r28 0)) fun h29 =>
  some (none, h29)
set_option maxRecDepth 100000 in
theorem X9_init_l77 (t : Nat) (x1 : Nat) (h : PH) : X9_init_b77 [some (.inr (8, t + 1)), some (.inr (3, x1))] [] h = X9_init_f77 t x1 h := rfl
theorem X9_init_w77 {z : CZ} : SK (X9_init_x z) 77 (X9_init_u77 (X9_init_f77)) := by
  intro ls st h r e
  obtain ⟨hst, e⟩ := gL_of e
  obtain ⟨t, q0, e⟩ := gT_of e
  obtain ⟨x1, q1, e⟩ := gR_of e
  rw [st_0 hst]
  exact WK.sub (canon := [some (.inr (8, t + 1)), some (.inr (3, x1))]) rfl ⟨q0, q1, trivial⟩ (X9_init_s77 _ _ _ _ ((X9_init_l77 t x1 h).trans e))
noncomputable def X9_init_g77 (t : Nat) (x1 : Nat) (h : PH) : Option Rs := X9_init_f77 t x1 h
noncomputable def X9_init_g54 (t : Nat) (x1 : Nat) (h : PH) : Option Rs := X9_init_f54 (X9_init_g77) t x1 h
noncomputable def X9_init_g30 (t : Nat) (x1 : Nat) (h : PH) : Option Rs := X9_init_f30 (X9_init_g54) t x1 h
noncomputable def X9_init_g0 (t : Nat) (x1 : Nat) (h : PH) : Option Rs := X9_init_f0 (X9_init_g30) t x1 h
theorem X9_init_v77 {z : CZ} : SK (X9_init_x z) 77 (X9_init_u77 (X9_init_g77)) := X9_init_w77
theorem X9_init_v54 {z : CZ} : SK (X9_init_x z) 54 (X9_init_u54 (X9_init_g54)) := X9_init_w54 (X9_init_v77)
theorem X9_init_v30 {z : CZ} : SK (X9_init_x z) 30 (X9_init_u30 (X9_init_g30)) := X9_init_w30 (X9_init_v54)
noncomputable def X9_init (t : Nat) (x1 : Nat) (h : PH) : Option Rs := X9_init_g0 t x1 h
noncomputable abbrev X9_init_F : List PV → PH → Option Rs := FW_T8R3 (X9_init)
set_option maxRecDepth 100000 in
theorem X9_init_gd (l : Launch) : Gd l 0 yX9_init cX9_init 2 none (X9_init_F)   := Gd_of (by decide +kernel) (fun z hzl as h r e => by
  obtain ⟨hst, e⟩ := gL_of e
  obtain ⟨t, q0, e⟩ := gT_of e
  obtain ⟨x1, q1, e⟩ := gR_of e
  rw [st_2 hst q0 q1]
  exact ⟨show 2 ≤ 2 by decide, X9_init_s0 (X9_init_v30) _ _ _ _ ((X9_init_l0 (X9_init_g30) t x1 h).trans e)⟩)
abbrev X0_init_x (z : CZ) : CX := mx RX0 cX0_init 1 0 none "<init>" z
noncomputable def X0_init_b0 : Kn := (a_al 0 (a_oi (a_al 0 (a_ic 16 (a_ic 98 (a_mna 12 13 (a_pR 0 0 12 (a_al 0 (a_ic 0 (a_pI 0 1 (a_al 0 (a_ic 0 (a_pI 0 2 a_vr)))))))))))))
set_option maxRecDepth 100000 in
theorem X0_init_s0 {z : CZ} : SK (X0_init_x z) 0 (X0_init_b0) := (s_aloadn (pc := 0) dX0_init_0 rfl (s_oi (pc := 1) w_392 w_107 w_108 dX0_init_1 (s_aloadn (pc := 4) dX0_init_4 rfl (s_bipush (pc := 5) dX0_init_5 c_bp_16 (s_bipush (pc := 7) dX0_init_7 c_bp_98 (s_mna (pc := 9) w_393 w_161 dX0_init_9 (s_pRF (pc := 13) (f := 0) ko_0 (by decide) rfl rfl rfl rfl rfl (tyX0_ok 0 (by decide)) rfl w_395 dX0_init_13 (s_aloadn (pc := 16) dX0_init_16 rfl (s_iconst (pc := 17) dX0_init_17 c_ic_0 (s_pI (pc := 18) (f := 1) ko_0 (by decide) rfl rfl rfl (by decide +kernel) w_396 dX0_init_18 (s_aloadn (pc := 21) dX0_init_21 rfl (s_iconst (pc := 22) dX0_init_22 c_ic_0 (s_pI (pc := 23) (f := 2) ko_0 (by decide) rfl rfl rfl (by decide +kernel) w_397 dX0_init_23 (s_vr (pc := 26) rfl dX0_init_26))))))))))))))
noncomputable def X0_init_f0 (t : Nat) (h : PH) : Option Rs :=
  nl 16 fun n1 =>
  nl 98 fun n2 =>
  wr (nwM h 12 13 n1 n2) fun h3 =>
  wr (pR h3 0 t 0 (hN h 12 + 1)) fun h4 =>
  wr (pI h4 1 t 0 0) fun h5 =>
  wr (pI h5 2 t 0 0) fun h6 =>
  some (none, h6)
set_option maxRecDepth 100000 in
theorem X0_init_l0 (t : Nat) (h : PH) : X0_init_b0 [some (.inr (0, t + 1))] [] h = X0_init_f0 t h := rfl
noncomputable def X0_init_g0 (t : Nat) (h : PH) : Option Rs := X0_init_f0 t h
noncomputable def X0_init (t : Nat) (h : PH) : Option Rs := X0_init_g0 t h
noncomputable abbrev X0_init_F : List PV → PH → Option Rs := FW_T0 (X0_init)
set_option maxRecDepth 100000 in
theorem X0_init_gd (l : Launch) : Gd l 0 yX0_init cX0_init 1 none (X0_init_F)   := Gd_of (by decide +kernel) (fun z hzl as h r e => by
  obtain ⟨hst, e⟩ := gL_of e
  obtain ⟨t, q0, e⟩ := gT_of e
  rw [st_1 hst q0]
  exact ⟨show 1 ≤ 1 by decide, X0_init_s0 _ _ _ _ ((X0_init_l0 t h).trans e)⟩)
abbrev X3_init_x (z : CZ) : CX := mx RX3 cX3_init 1 0 none "<init>" z
noncomputable def X3_init_b0 (k27 : Kn) : Kn := (a_al 0 (a_oi (a_al 0 (a_ic 96 (a_nwa 22 (a_pR 2 128 22 (a_al 0 (a_ic 0 (a_pI 2 129 (a_al 0 (a_ic (-1) (a_pI 2 130 (a_al 0 (a_ic 0 (a_pI 2 131 k27)))))))))))))))
set_option maxRecDepth 100000 in
theorem X3_init_s0 {z : CZ} {k27 : Kn} (hk27 : SK (X3_init_x z) 27 k27) : SK (X3_init_x z) 0 (X3_init_b0 k27) := (s_aloadn (pc := 0) dX3_init_0 rfl (s_oi (pc := 1) w_411 w_107 w_108 dX3_init_1 (s_aloadn (pc := 4) dX3_init_4 rfl (s_bipush (pc := 5) dX3_init_5 c_bp_96 (s_nwa (pc := 7) (at0 := .byte) (by decide) (by decide) rfl rfl rfl (by decide) w_450 dX3_init_7 (s_pRF (pc := 9) (f := 0) ko_2 (by decide) rfl rfl rfl rfl rfl (tyX3_ok 0 (by decide)) rfl w_412 dX3_init_9 (s_aloadn (pc := 12) dX3_init_12 rfl (s_iconst (pc := 13) dX3_init_13 c_ic_0 (s_pI (pc := 14) (f := 1) ko_2 (by decide) rfl rfl rfl (by decide +kernel) w_413 dX3_init_14 (s_aloadn (pc := 17) dX3_init_17 rfl (s_iconst (pc := 18) dX3_init_18 c_ic_m1 (s_pI (pc := 19) (f := 2) ko_2 (by decide) rfl rfl rfl (by decide +kernel) w_415 dX3_init_19 (s_aloadn (pc := 22) dX3_init_22 rfl (s_iconst (pc := 23) dX3_init_23 c_ic_0 (s_pI (pc := 24) (f := 3) ko_2 (by decide) rfl rfl rfl (by decide +kernel) w_416 dX3_init_24 hk27)))))))))))))))
noncomputable def X3_init_b27 (k50 : Kn) : Kn := (a_al 0 (a_ic 0 (a_pI 2 132 (a_al 0 (a_ic (-1) (a_pI 2 133 (a_al 0 (a_ic 0 (a_pI 2 134 (a_al 0 (a_ic 96 (a_nwa 23 (a_pR 2 135 23 k50)))))))))))))
set_option maxRecDepth 100000 in
theorem X3_init_s27 {z : CZ} {k50 : Kn} (hk50 : SK (X3_init_x z) 50 k50) : SK (X3_init_x z) 27 (X3_init_b27 k50) := (s_aloadn (pc := 27) dX3_init_27 rfl (s_iconst (pc := 28) dX3_init_28 c_ic_0 (s_pI (pc := 29) (f := 4) ko_2 (by decide) rfl rfl rfl (by decide +kernel) w_417 dX3_init_29 (s_aloadn (pc := 32) dX3_init_32 rfl (s_iconst (pc := 33) dX3_init_33 c_ic_m1 (s_pI (pc := 34) (f := 5) ko_2 (by decide) rfl rfl rfl (by decide +kernel) w_418 dX3_init_34 (s_aloadn (pc := 37) dX3_init_37 rfl (s_iconst (pc := 38) dX3_init_38 c_ic_0 (s_pI (pc := 39) (f := 6) ko_2 (by decide) rfl rfl rfl (by decide +kernel) w_419 dX3_init_39 (s_aloadn (pc := 42) dX3_init_42 rfl (s_bipush (pc := 43) dX3_init_43 c_bp_96 (s_nwa (pc := 45) (at0 := .int) (by decide) (by decide) rfl rfl rfl (by decide) w_161 dX3_init_45 (s_pRF (pc := 47) (f := 7) ko_2 (by decide) rfl rfl rfl rfl rfl (tyX3_ok 7 (by decide)) rfl w_420 dX3_init_47 hk50)))))))))))))
noncomputable def X3_init_b50 : Kn := (a_al 0 (a_ic 0 (a_pI 2 136 (a_al 0 (a_ic 0 (a_pI 2 137 (a_al 0 (a_ic 0 (a_pI 2 138 (a_al 0 (a_ic 0 (a_pI 2 139 a_vr))))))))))))
set_option maxRecDepth 100000 in
theorem X3_init_s50 {z : CZ} : SK (X3_init_x z) 50 (X3_init_b50) := (s_aloadn (pc := 50) dX3_init_50 rfl (s_iconst (pc := 51) dX3_init_51 c_ic_0 (s_pI (pc := 52) (f := 8) ko_2 (by decide) rfl rfl rfl (by decide +kernel) w_421 dX3_init_52 (s_aloadn (pc := 55) dX3_init_55 rfl (s_iconst (pc := 56) dX3_init_56 c_ic_0 (s_pI (pc := 57) (f := 9) ko_2 (by decide) rfl rfl rfl (by decide +kernel) w_422 dX3_init_57 (s_aloadn (pc := 60) dX3_init_60 rfl (s_iconst (pc := 61) dX3_init_61 c_ic_0 (s_pI (pc := 62) (f := 10) ko_2 (by decide) rfl rfl rfl (by decide +kernel) w_423 dX3_init_62 (s_aloadn (pc := 65) dX3_init_65 rfl (s_iconst (pc := 66) dX3_init_66 c_ic_0 (s_pI (pc := 67) (f := 11) ko_2 (by decide) rfl rfl rfl (by decide +kernel) w_424 dX3_init_67 (s_vr (pc := 70) rfl dX3_init_70)))))))))))))
noncomputable def X3_init_u27 (g : Nat → PH → Option Rs) : Kn := fun ls st h => gL 0 st (gT 2 ls 0 fun t => g t h)
noncomputable def X3_init_u50 (g : Nat → PH → Option Rs) : Kn := fun ls st h => gL 0 st (gT 2 ls 0 fun t => g t h)
noncomputable def X3_init_f0 (g27 : Nat → PH → Option Rs) (t : Nat) (h : PH) : Option Rs :=
  nl 96 fun n1 =>
  wr (nw h 22 n1 n1) fun h2 =>
  wr (pR h2 128 t 0 (hN h 22 + 1)) fun h3 =>
  wr (pI h3 129 t 0 0) fun h4 =>
  wr (pI h4 130 t 0 (-1)) fun h5 =>
  wr (pI h5 131 t 0 0) fun h6 =>
  g27 t h6
set_option maxRecDepth 100000 in
theorem X3_init_l0 (g27 : Nat → PH → Option Rs) (t : Nat) (h : PH) : X3_init_b0 (X3_init_u27 g27) [some (.inr (2, t + 1))] [] h = X3_init_f0 g27 t h := rfl
theorem X3_init_m0 {g27 G27 : Nat → PH → Option Rs} (hg27 : ∀ a0 a1, Mo (g27 a0 a1) (G27 a0 a1)) (t : Nat) (h : PH) : Mo (X3_init_f0 g27 t h) (X3_init_f0 G27 t h) := (mo_nl fun n1 => (mo_wr fun h2 => (mo_wr fun h3 => (mo_wr fun h4 => (mo_wr fun h5 => (mo_wr fun h6 => (hg27 t h6)))))))
noncomputable def X3_init_f27 (g50 : Nat → PH → Option Rs) (t : Nat) (h : PH) : Option Rs :=
  wr (pI h 132 t 0 0) fun h7 =>
  wr (pI h7 133 t 0 (-1)) fun h8 =>
  wr (pI h8 134 t 0 0) fun h9 =>
  nl 96 fun n10 =>
  wr (nw h9 23 n10 n10) fun h11 =>
  wr (pR h11 135 t 0 (hN h9 23 + 1)) fun h12 =>
  g50 t h12
set_option maxRecDepth 100000 in
theorem X3_init_l27 (g50 : Nat → PH → Option Rs) (t : Nat) (h : PH) : X3_init_b27 (X3_init_u50 g50) [some (.inr (2, t + 1))] [] h = X3_init_f27 g50 t h := rfl
theorem X3_init_m27 {g50 G50 : Nat → PH → Option Rs} (hg50 : ∀ a0 a1, Mo (g50 a0 a1) (G50 a0 a1)) (t : Nat) (h : PH) : Mo (X3_init_f27 g50 t h) (X3_init_f27 G50 t h) := (mo_wr fun h7 => (mo_wr fun h8 => (mo_wr fun h9 => (mo_nl fun n10 => (mo_wr fun h11 => (mo_wr fun h12 => (hg50 t h12)))))))
theorem X3_init_w27 {z : CZ} {g50 : Nat → PH → Option Rs} (hk50 : SK (X3_init_x z) 50 (X3_init_u50 g50)) : SK (X3_init_x z) 27 (X3_init_u27 (X3_init_f27 g50)) := by
  intro ls st h r e
  obtain ⟨hst, e⟩ := gL_of e
  obtain ⟨t, q0, e⟩ := gT_of e
  rw [st_0 hst]
  exact WK.sub (canon := [some (.inr (2, t + 1))]) rfl ⟨q0, trivial⟩ (X3_init_s27 hk50 _ _ _ _ ((X3_init_l27 g50 t h).trans e))
noncomputable def X3_init_f50 (t : Nat) (h : PH) : Option Rs :=
  wr (pI h 136 t 0 0) fun h13 =>
  wr (pI h13 137 t 0 0) fun h14 =>
  wr (pI h14 138 t 0 0) fun h15 =>
  wr (pI h15 139 t 0 0) fun h16 =>
  some (none, h16)
set_option maxRecDepth 100000 in
theorem X3_init_l50 (t : Nat) (h : PH) : X3_init_b50 [some (.inr (2, t + 1))] [] h = X3_init_f50 t h := rfl
theorem X3_init_w50 {z : CZ} : SK (X3_init_x z) 50 (X3_init_u50 (X3_init_f50)) := by
  intro ls st h r e
  obtain ⟨hst, e⟩ := gL_of e
  obtain ⟨t, q0, e⟩ := gT_of e
  rw [st_0 hst]
  exact WK.sub (canon := [some (.inr (2, t + 1))]) rfl ⟨q0, trivial⟩ (X3_init_s50 _ _ _ _ ((X3_init_l50 t h).trans e))
noncomputable def X3_init_g50 (t : Nat) (h : PH) : Option Rs := X3_init_f50 t h
noncomputable def X3_init_g27 (t : Nat) (h : PH) : Option Rs := X3_init_f27 (X3_init_g50) t h
noncomputable def X3_init_g0 (t : Nat) (h : PH) : Option Rs := X3_init_f0 (X3_init_g27) t h
theorem X3_init_v50 {z : CZ} : SK (X3_init_x z) 50 (X3_init_u50 (X3_init_g50)) := X3_init_w50
theorem X3_init_v27 {z : CZ} : SK (X3_init_x z) 27 (X3_init_u27 (X3_init_g27)) := X3_init_w27 (X3_init_v50)
noncomputable def X3_init (t : Nat) (h : PH) : Option Rs := X3_init_g0 t h
noncomputable abbrev X3_init_F : List PV → PH → Option Rs := FW_T2 (X3_init)
set_option maxRecDepth 100000 in
theorem X3_init_gd (l : Launch) : Gd l 0 yX3_init cX3_init 1 none (X3_init_F)   := Gd_of (by decide +kernel) (fun z hzl as h r e => by
  obtain ⟨hst, e⟩ := gL_of e
  obtain ⟨t, q0, e⟩ := gT_of e
  rw [st_1 hst q0]
  exact ⟨show 1 ≤ 1 by decide, X3_init_s0 (X3_init_v27) _ _ _ _ ((X3_init_l0 (X3_init_g27) t h).trans e)⟩)
abbrev X5_init_x (z : CZ) : CX := mx RX5 cX5_init 1 0 none "<init>" z
noncomputable def X5_init_b0 : Kn := (a_al 0 (a_oi (a_al 0 (a_ic (-1) (a_pI 4 256 (a_al 0 (a_ic 0 (a_pI 4 257 (a_al 0 (a_ic 24 (a_nwa 26 (a_pR 4 258 26 a_vr))))))))))))
set_option maxRecDepth 100000 in
theorem X5_init_s0 {z : CZ} : SK (X5_init_x z) 0 (X5_init_b0) := (s_aloadn (pc := 0) dX5_init_0 rfl (s_oi (pc := 1) w_459 w_107 w_108 dX5_init_1 (s_aloadn (pc := 4) dX5_init_4 rfl (s_iconst (pc := 5) dX5_init_5 c_ic_m1 (s_pI (pc := 6) (f := 0) ko_4 (by decide) rfl rfl rfl (by decide +kernel) w_460 dX5_init_6 (s_aloadn (pc := 9) dX5_init_9 rfl (s_iconst (pc := 10) dX5_init_10 c_ic_0 (s_pI (pc := 11) (f := 1) ko_4 (by decide) rfl rfl rfl (by decide +kernel) w_462 dX5_init_11 (s_aloadn (pc := 14) dX5_init_14 rfl (s_bipush (pc := 15) dX5_init_15 c_bp_24 (s_nwa (pc := 17) (at0 := .short) (by decide) (by decide) rfl rfl rfl (by decide) w_475 dX5_init_17 (s_pRF (pc := 19) (f := 2) ko_4 (by decide) rfl rfl rfl rfl rfl (tyX5_ok 2 (by decide)) rfl w_465 dX5_init_19 (s_vr (pc := 22) rfl dX5_init_22)))))))))))))
noncomputable def X5_init_f0 (t : Nat) (h : PH) : Option Rs :=
  wr (pI h 256 t 0 (-1)) fun h1 =>
  wr (pI h1 257 t 0 0) fun h2 =>
  nl 24 fun n3 =>
  wr (nw h2 26 n3 n3) fun h4 =>
  wr (pR h4 258 t 0 (hN h2 26 + 1)) fun h5 =>
  some (none, h5)
set_option maxRecDepth 100000 in
theorem X5_init_l0 (t : Nat) (h : PH) : X5_init_b0 [some (.inr (4, t + 1))] [] h = X5_init_f0 t h := rfl
noncomputable def X5_init_g0 (t : Nat) (h : PH) : Option Rs := X5_init_f0 t h
noncomputable def X5_init (t : Nat) (h : PH) : Option Rs := X5_init_g0 t h
noncomputable abbrev X5_init_F : List PV → PH → Option Rs := FW_T4 (X5_init)
set_option maxRecDepth 100000 in
theorem X5_init_gd (l : Launch) : Gd l 0 yX5_init cX5_init 1 none (X5_init_F)   := Gd_of (by decide +kernel) (fun z hzl as h r e => by
  obtain ⟨hst, e⟩ := gL_of e
  obtain ⟨t, q0, e⟩ := gT_of e
  rw [st_1 hst q0]
  exact ⟨show 1 ≤ 1 by decide, X5_init_s0 _ _ _ _ ((X5_init_l0 t h).trans e)⟩)
abbrev X7_init_x (z : CZ) : CX := mx RX7 cX7_init 1 1 none "<init>" z
noncomputable def X7_init_b0 (c_X5_init : Nat → PH → Option Rs) : Kn := (a_al 0 (a_oi (a_al 0 (a_ic 0 (a_pI 6 384 (a_al 0 (a_ic 0 (a_pI 6 385 (a_al 0 (a_ic 0 (a_pI 6 386 (a_al 0 (a_ic 0 (a_pI 6 387 (a_al 0 (a_new 4 3 (a_dup (a_vV 4 0 (FW_T4 c_X5_init) (a_pR 6 388 4 a_vr)))))))))))))))))))
set_option maxRecDepth 100000 in
theorem X7_init_s0 {z : CZ} : SK (X7_init_x z) 0 (X7_init_b0 X5_init) := (s_aloadn (pc := 0) dX7_init_0 rfl (s_oi (pc := 1) w_480 w_107 w_108 dX7_init_1 (s_aloadn (pc := 4) dX7_init_4 rfl (s_iconst (pc := 5) dX7_init_5 c_ic_0 (s_pI (pc := 6) (f := 0) ko_6 (by decide) rfl rfl rfl (by decide +kernel) w_483 dX7_init_6 (s_aloadn (pc := 9) dX7_init_9 rfl (s_iconst (pc := 10) dX7_init_10 c_ic_0 (s_pI (pc := 11) (f := 1) ko_6 (by decide) rfl rfl rfl (by decide +kernel) w_485 dX7_init_11 (s_aloadn (pc := 14) dX7_init_14 rfl (s_iconst (pc := 15) dX7_init_15 c_ic_0 (s_pI (pc := 16) (f := 2) ko_6 (by decide) rfl rfl rfl (by decide +kernel) w_487 dX7_init_16 (s_aloadn (pc := 19) dX7_init_19 rfl (s_iconst (pc := 20) dX7_init_20 c_ic_0 (s_pI (pc := 21) (f := 3) ko_6 (by decide) rfl rfl rfl (by decide +kernel) w_489 dX7_init_21 (s_aloadn (pc := 24) dX7_init_24 rfl (s_new (pc := 25) ko_4 rfl kd_4 w_481 w_455 w_88 dX7_init_25 (s_dup (pc := 28) dX7_init_28 (s_vV (pc := 29) (run_initN (X5_init_gd _) (show 0 < 1 by decide) cy_X5_init w_457 rfl nw_482 dX7_init_29) (s_pRF (pc := 32) (f := 4) ko_6 (by decide) rfl rfl rfl rfl rfl (tyX7_ok 4 (by decide)) rfl w_491 dX7_init_32 (s_vr (pc := 35) rfl dX7_init_35))))))))))))))))))))
noncomputable def X7_init_f0 (c_X5_init : Nat → PH → Option Rs) (t : Nat) (h : PH) : Option Rs :=
  wr (pI h 384 t 0 0) fun h1 =>
  wr (pI h1 385 t 0 0) fun h2 =>
  wr (pI h2 386 t 0 0) fun h3 =>
  wr (pI h3 387 t 0 0) fun h4 =>
  wr (nw h4 4 0 3) fun h5 =>
  nn (hN h4 4 + 1) fun r6 =>
  cV (c_X5_init r6 h5) fun h7 =>
  wr (pR h7 388 t 0 (hN h4 4 + 1)) fun h8 =>
  some (none, h8)
set_option maxRecDepth 100000 in
theorem X7_init_l0 (c_X5_init : Nat → PH → Option Rs) (t : Nat) (h : PH) : X7_init_b0 c_X5_init [some (.inr (6, t + 1))] [] h = X7_init_f0 c_X5_init t h := rfl
noncomputable def X7_init_g0 (t : Nat) (h : PH) : Option Rs := X7_init_f0 X5_init t h
noncomputable def X7_init (t : Nat) (h : PH) : Option Rs := X7_init_g0 t h
noncomputable abbrev X7_init_F : List PV → PH → Option Rs := FW_T6 (X7_init)
set_option maxRecDepth 100000 in
theorem X7_init_gd (l : Launch) : Gd l 1 yX7_init cX7_init 1 none (X7_init_F)   := Gd_of (by decide +kernel) (fun z hzl as h r e => by
  obtain ⟨hst, e⟩ := gL_of e
  obtain ⟨t, q0, e⟩ := gT_of e
  rw [st_1 hst q0]
  exact ⟨show 1 ≤ 1 by decide, X7_init_s0 _ _ _ _ ((X7_init_l0 X5_init t h).trans e)⟩)
abbrev X11_init_x (z : CZ) : CX := mx RX11 cX11_init 2 2 none "<init>" z
noncomputable def X11_init_b0 (c_X1_init : Nat → PH → Option Rs) (c_X4_init : Nat → Nat → Int32 → PH → Option Rs) (c_X9_init : Nat → Nat → PH → Option Rs) (c_X0_init : Nat → PH → Option Rs) (c_X3_init : Nat → PH → Option Rs) (k121 : Kn) : Kn := (a_al 0 (a_oi (a_al 0 (a_new 1 17 (a_dup (a_vV 1 0 (FW_T1 c_X1_init) (a_pR 10 640 1 (a_al 0 (a_new 1 17 (a_dup (a_vV 1 0 (FW_T1 c_X1_init) (a_pR 10 641 1 (a_al 0 (a_ic 0 (a_pZ 10 642 (a_al 0 (a_ic 2 (a_nwa 37 (a_dup (a_ic 0 (a_new 8 16 (a_dup (a_new 3 4 (a_dup (a_al 0 (a_gR 10 640 1 (a_ic 0 (a_vV 3 2 (FW_T3R1I c_X4_init) (a_vV 8 1 (FW_T8R3 c_X9_init) (a_rast 37 2368 8 (a_dup (a_ic 1 (a_new 8 16 (a_dup (a_new 3 4 (a_dup (a_al 0 (a_gR 10 640 1 (a_ic 1 (a_vV 3 2 (FW_T3R1I c_X4_init) (a_vV 8 1 (FW_T8R3 c_X9_init) (a_rast 37 2368 8 (a_pR 10 643 37 (a_al 0 (a_new 0 3 (a_dup (a_vV 0 0 (FW_T0 c_X0_init) (a_pR 10 644 0 (a_al 0 (a_new 2 12 (a_dup (a_vV 2 0 (FW_T2 c_X3_init) (a_pR 10 645 2 (a_al 0 (a_ic 4 (a_nwa 38 (a_pR 10 646 38 (a_al 0 (a_ic 5 (a_nwa 39 (a_pR 10 647 39 k121)))))))))))))))))))))))))))))))))))))))))))))))))))))))))))))
set_option maxRecDepth 100000 in
theorem X11_init_s0 {z : CZ} {k121 : Kn} (hk121 : SK (X11_init_x z) 121 k121) : SK (X11_init_x z) 0 (X11_init_b0 X1_init X4_init X9_init X0_init X3_init k121) := (s_aloadn (pc := 0) dX11_init_0 rfl (s_oi (pc := 1) w_106 w_107 w_108 dX11_init_1 (s_aloadn (pc := 4) dX11_init_4 rfl (s_new (pc := 5) ko_1 rfl kd_1 w_109 w_110 w_80 dX11_init_5 (s_dup (pc := 8) dX11_init_8 (s_vV (pc := 9) (run_init (X1_init_gd _) (show 1 < 2 by decide) cy_X1_init w_112 rfl w_111 dX11_init_9) (s_pRF (pc := 12) (f := 0) ko_10 (by decide) rfl rfl rfl rfl rfl (tyX11_ok 0 (by decide)) rfl w_504 dX11_init_12 (s_aloadn (pc := 15) dX11_init_15 rfl (s_new (pc := 16) ko_1 rfl kd_1 w_109 w_110 w_80 dX11_init_16 (s_dup (pc := 19) dX11_init_19 (s_vV (pc := 20) (run_init (X1_init_gd _) (show 1 < 2 by decide) cy_X1_init w_112 rfl w_111 dX11_init_20) (s_pRF (pc := 23) (f := 1) ko_10 (by decide) rfl rfl rfl rfl rfl (tyX11_ok 1 (by decide)) rfl w_505 dX11_init_23 (s_aloadn (pc := 26) dX11_init_26 rfl (s_iconst (pc := 27) dX11_init_27 c_ic_0 (s_pZ (pc := 28) (f := 2) ko_10 (by decide) rfl rfl rfl (by decide +kernel) w_506 dX11_init_28 (s_aloadn (pc := 31) dX11_init_31 rfl (s_iconst (pc := 32) dX11_init_32 c_ic_2 (s_nwq (pc := 33) (by decide) (by decide) rfl rfl (by decide) w_302 dX11_init_33 (s_dup (pc := 36) dX11_init_36 (s_iconst (pc := 37) dX11_init_37 c_ic_0 (s_new (pc := 38) ko_8 rfl kd_8 w_302 w_304 w_84 dX11_init_38 (s_dup (pc := 41) dX11_init_41 (s_new (pc := 42) ko_3 rfl kd_3 w_305 w_306 w_85 dX11_init_42 (s_dup (pc := 45) dX11_init_45 (s_aloadn (pc := 46) dX11_init_46 rfl (s_gR (pc := 47) (f := 0) ko_10 (by decide) rfl rfl w_504 dX11_init_47 (s_iconst (pc := 50) dX11_init_50 c_ic_0 (s_vV (pc := 51) (run_init (X4_init_gd _) (show 0 < 2 by decide) cy_X4_init w_308 rfl w_307 dX11_init_51) (s_vV (pc := 54) (run_init (X9_init_gd _) (show 0 < 2 by decide) cy_X9_init w_328 rfl w_327 dX11_init_54) (s_rast (pc := 57) (by decide) (by decide) rfl (by decide) rfl rfl rfl dX11_init_57 (s_dup (pc := 58) dX11_init_58 (s_iconst (pc := 59) dX11_init_59 c_ic_1 (s_new (pc := 60) ko_8 rfl kd_8 w_302 w_304 w_84 dX11_init_60 (s_dup (pc := 63) dX11_init_63 (s_new (pc := 64) ko_3 rfl kd_3 w_305 w_306 w_85 dX11_init_64 (s_dup (pc := 67) dX11_init_67 (s_aloadn (pc := 68) dX11_init_68 rfl (s_gR (pc := 69) (f := 0) ko_10 (by decide) rfl rfl w_504 dX11_init_69 (s_iconst (pc := 72) dX11_init_72 c_ic_1 (s_vV (pc := 73) (run_init (X4_init_gd _) (show 0 < 2 by decide) cy_X4_init w_308 rfl w_307 dX11_init_73) (s_vV (pc := 76) (run_init (X9_init_gd _) (show 0 < 2 by decide) cy_X9_init w_328 rfl w_327 dX11_init_76) (s_rast (pc := 79) (by decide) (by decide) rfl (by decide) rfl rfl rfl dX11_init_79 (s_pRF (pc := 80) (f := 3) ko_10 (by decide) rfl rfl rfl rfl rfl (tyX11_ok 3 (by decide)) rfl w_507 dX11_init_80 (s_aloadn (pc := 83) dX11_init_83 rfl (s_new (pc := 84) ko_0 rfl kd_0 w_387 w_388 w_86 dX11_init_84 (s_dup (pc := 87) dX11_init_87 (s_vV (pc := 88) (run_initN (X0_init_gd _) (show 0 < 2 by decide) cy_X0_init w_390 rfl nw_389 dX11_init_88) (s_pRF (pc := 91) (f := 4) ko_10 (by decide) rfl rfl rfl rfl rfl (tyX11_ok 4 (by decide)) rfl w_508 dX11_init_91 (s_aloadn (pc := 94) dX11_init_94 rfl (s_new (pc := 95) ko_2 rfl kd_2 w_406 w_407 w_87 dX11_init_95 (s_dup (pc := 98) dX11_init_98 (s_vV (pc := 99) (run_initN (X3_init_gd _) (show 0 < 2 by decide) cy_X3_init w_409 rfl nw_408 dX11_init_99) (s_pRF (pc := 102) (f := 5) ko_10 (by decide) rfl rfl rfl rfl rfl (tyX11_ok 5 (by decide)) rfl w_509 dX11_init_102 (s_aloadn (pc := 105) dX11_init_105 rfl (s_iconst (pc := 106) dX11_init_106 c_ic_4 (s_nwq (pc := 107) (by decide) (by decide) rfl rfl (by decide) w_451 dX11_init_107 (s_pRF (pc := 110) (f := 6) ko_10 (by decide) rfl rfl rfl rfl rfl (tyX11_ok 6 (by decide)) rfl w_510 dX11_init_110 (s_aloadn (pc := 113) dX11_init_113 rfl (s_iconst (pc := 114) dX11_init_114 c_ic_5 (s_nwq (pc := 115) (by decide) (by decide) rfl rfl (by decide) w_453 dX11_init_115 (s_pRF (pc := 118) (f := 7) ko_10 (by decide) rfl rfl rfl rfl rfl (tyX11_ok 7 (by decide)) rfl w_511 dX11_init_118 hk121)))))))))))))))))))))))))))))))))))))))))))))))))))))))))))))
noncomputable def X11_init_b121 (k136 : Kn) : Kn := (a_al 0 (a_ic 60 (a_nwa 40 (a_pR 10 648 40 (a_al 0 (a_ic 0 (a_pI 10 649 (a_ic 0 (a_is 1 k136)))))))))
set_option maxRecDepth 100000 in
theorem X11_init_s121 {z : CZ} {k136 : Kn} (hk136 : SK (X11_init_x z) 136 k136) : SK (X11_init_x z) 121 (X11_init_b121 k136) := (s_aloadn (pc := 121) dX11_init_121 rfl (s_bipush (pc := 122) dX11_init_122 c_bp_60 (s_nwa (pc := 124) (at0 := .int) (by decide) (by decide) rfl rfl rfl (by decide) w_161 dX11_init_124 (s_pRF (pc := 126) (f := 8) ko_10 (by decide) rfl rfl rfl rfl rfl (tyX11_ok 8 (by decide)) rfl w_512 dX11_init_126 (s_aloadn (pc := 129) dX11_init_129 rfl (s_iconst (pc := 130) dX11_init_130 c_ic_0 (s_pI (pc := 131) (f := 9) ko_10 (by decide) rfl rfl rfl (by decide +kernel) w_513 dX11_init_131 (s_iconst (pc := 134) dX11_init_134 c_ic_0 (s_istoren (pc := 135) dX11_init_135 rfl (show 1 < 2 by decide) hk136)))))))))
noncomputable def X11_init_b136 (c_X5_init : Nat → PH → Option Rs) (k136 k162 : Kn) : Kn := (a_il 1 (a_ic 4 (a_lt (a_al 0 (a_gR 10 646 38 (a_il 1 (a_new 4 3 (a_dup (a_vV 4 0 (FW_T4 c_X5_init) (a_rast 38 2432 4 (a_inc 1 1 k136)))))))) (a_ic 0 (a_is 1 k162)))))
set_option maxRecDepth 100000 in
theorem X11_init_s136 {z : CZ} {k136 k162 : Kn} (hk136 : SK (X11_init_x z) 136 k136) (hk162 : SK (X11_init_x z) 162 k162) : SK (X11_init_x z) 136 (X11_init_b136 X5_init k136 k162) := (s_iloadn (pc := 136) dX11_init_136 rfl (s_iconst (pc := 137) dX11_init_137 c_ic_4 (s_cmpge (pc := 138) dX11_init_138 (by decide) (s_iconst (pc := 160) dX11_init_160 c_ic_0 (s_istoren (pc := 161) dX11_init_161 rfl (show 1 < 2 by decide) hk162)) (s_aloadn (pc := 141) dX11_init_141 rfl (s_gR (pc := 142) (f := 6) ko_10 (by decide) rfl rfl w_510 dX11_init_142 (s_iloadn (pc := 145) dX11_init_145 rfl (s_new (pc := 146) ko_4 rfl kd_4 w_451 w_455 w_88 dX11_init_146 (s_dup (pc := 149) dX11_init_149 (s_vV (pc := 150) (run_initN (X5_init_gd _) (show 0 < 2 by decide) cy_X5_init w_457 rfl nw_456 dX11_init_150) (s_rast (pc := 153) (by decide) (by decide) rfl (by decide) rfl rfl rfl dX11_init_153 (s_iinc (pc := 154) dX11_init_154 c_ic_1 (show 1 < 2 by decide) (s_goto (pc := 157) dX11_init_157 (by decide) hk136))))))))))))
noncomputable def X11_init_b162 (c_X7_init : Nat → PH → Option Rs) (k162 : Kn) : Kn := (a_il 1 (a_ic 5 (a_lt (a_al 0 (a_gR 10 647 39 (a_il 1 (a_new 6 5 (a_dup (a_vV 6 0 (FW_T6 c_X7_init) (a_rast 39 2496 6 (a_inc 1 1 k162)))))))) a_vr)))
set_option maxRecDepth 100000 in
theorem X11_init_s162 {z : CZ} {k162 : Kn} (hk162 : SK (X11_init_x z) 162 k162) : SK (X11_init_x z) 162 (X11_init_b162 X7_init k162) := (s_iloadn (pc := 162) dX11_init_162 rfl (s_iconst (pc := 163) dX11_init_163 c_ic_5 (s_cmpge (pc := 164) dX11_init_164 (by decide) (s_vr (pc := 186) rfl dX11_init_186) (s_aloadn (pc := 167) dX11_init_167 rfl (s_gR (pc := 168) (f := 7) ko_10 (by decide) rfl rfl w_511 dX11_init_168 (s_iloadn (pc := 171) dX11_init_171 rfl (s_new (pc := 172) ko_6 rfl kd_6 w_453 w_476 w_89 dX11_init_172 (s_dup (pc := 175) dX11_init_175 (s_vV (pc := 176) (run_initN (X7_init_gd _) (show 1 < 2 by decide) cy_X7_init w_478 rfl nw_477 dX11_init_176) (s_rast (pc := 179) (by decide) (by decide) rfl (by decide) rfl rfl rfl dX11_init_179 (s_iinc (pc := 180) dX11_init_180 c_ic_1 (show 1 < 2 by decide) (s_goto (pc := 183) dX11_init_183 (by decide) hk162))))))))))))
noncomputable def X11_init_u121 (g : Nat → PH → Option Rs) : Kn := fun ls st h => gL 0 st (gT 10 ls 0 fun t => g t h)
noncomputable def X11_init_u136 (g : Nat → Int32 → PH → Option Rs) : Kn := fun ls st h => gL 0 st (gT 10 ls 0 fun t => gI ls 1 fun x1 => g t x1 h)
noncomputable def X11_init_u162 (g : Nat → Int32 → PH → Option Rs) : Kn := fun ls st h => gL 0 st (gT 10 ls 0 fun t => gI ls 1 fun x1 => g t x1 h)
noncomputable def X11_init_f0 (c_X1_init : Nat → PH → Option Rs) (c_X4_init : Nat → Nat → Int32 → PH → Option Rs) (c_X9_init : Nat → Nat → PH → Option Rs) (c_X0_init : Nat → PH → Option Rs) (c_X3_init : Nat → PH → Option Rs) (g121 : Nat → PH → Option Rs) (t : Nat) (h : PH) : Option Rs :=
  wr (nw h 1 0 17) fun h1 =>
  nn (hN h 1 + 1) fun r2 =>
  cV (c_X1_init r2 h1) fun h3 =>
  wr (pR h3 640 t 0 (hN h 1 + 1)) fun h4 =>
  wr (nw h4 1 0 17) fun h5 =>
  nn (hN h4 1 + 1) fun r6 =>
  cV (c_X1_init r6 h5) fun h7 =>
  wr (pR h7 641 t 0 (hN h4 1 + 1)) fun h8 =>
  bz 0 <|
  wr (pI h8 642 t 0 0) fun h9 =>
  nl 2 fun n10 =>
  wr (nw h9 37 n10 n10) fun h11 =>
  wr (nw h11 8 0 16) fun h12 =>
  wr (nw h12 3 0 4) fun h13 =>
  nn (hN h12 3 + 1) fun r14 =>
  cV (c_X4_init r14 (hR h13 640 t 0) 0 h13) fun h15 =>
  nn (hN h11 8 + 1) fun r16 =>
  cV (c_X9_init r16 (hN h12 3 + 1) h15) fun h17 =>
  nn (hN h9 37 + 1) fun r18 =>
  ix 0 (hL h17 37 r18) fun j19 =>
  wr (pR h17 2368 r18 j19 (hN h11 8 + 1)) fun h20 =>
  wr (nw h20 8 0 16) fun h21 =>
  wr (nw h21 3 0 4) fun h22 =>
  nn (hN h21 3 + 1) fun r23 =>
  cV (c_X4_init r23 (hR h22 640 t 0) 1 h22) fun h24 =>
  nn (hN h20 8 + 1) fun r25 =>
  cV (c_X9_init r25 (hN h21 3 + 1) h24) fun h26 =>
  nn (hN h9 37 + 1) fun r27 =>
  ix 1 (hL h26 37 r27) fun j28 =>
  wr (pR h26 2368 r27 j28 (hN h20 8 + 1)) fun h29 =>
  wr (pR h29 643 t 0 (hN h9 37 + 1)) fun h30 =>
  wr (nw h30 0 0 3) fun h31 =>
  nn (hN h30 0 + 1) fun r32 =>
  cV (c_X0_init r32 h31) fun h33 =>
  wr (pR h33 644 t 0 (hN h30 0 + 1)) fun h34 =>
  wr (nw h34 2 0 12) fun h35 =>
  nn (hN h34 2 + 1) fun r36 =>
  cV (c_X3_init r36 h35) fun h37 =>
  wr (pR h37 645 t 0 (hN h34 2 + 1)) fun h38 =>
  nl 4 fun n39 =>
  wr (nw h38 38 n39 n39) fun h40 =>
  wr (pR h40 646 t 0 (hN h38 38 + 1)) fun h41 =>
  nl 5 fun n42 =>
  wr (nw h41 39 n42 n42) fun h43 =>
  wr (pR h43 647 t 0 (hN h41 39 + 1)) fun h44 =>
  g121 t h44
set_option maxRecDepth 100000 in
theorem X11_init_l0 (c_X1_init : Nat → PH → Option Rs) (c_X4_init : Nat → Nat → Int32 → PH → Option Rs) (c_X9_init : Nat → Nat → PH → Option Rs) (c_X0_init : Nat → PH → Option Rs) (c_X3_init : Nat → PH → Option Rs) (g121 : Nat → PH → Option Rs) (t : Nat) (h : PH) : X11_init_b0 c_X1_init c_X4_init c_X9_init c_X0_init c_X3_init (X11_init_u121 g121) [some (.inr (10, t + 1)), none] [] h = X11_init_f0 c_X1_init c_X4_init c_X9_init c_X0_init c_X3_init g121 t h := rfl
theorem X11_init_m0 {c_X1_init : Nat → PH → Option Rs} {c_X4_init : Nat → Nat → Int32 → PH → Option Rs} {c_X9_init : Nat → Nat → PH → Option Rs} {c_X0_init : Nat → PH → Option Rs} {c_X3_init : Nat → PH → Option Rs} {g121 G121 : Nat → PH → Option Rs} (hg121 : ∀ a0 a1, Mo (g121 a0 a1) (G121 a0 a1)) (t : Nat) (h : PH) : Mo (X11_init_f0 c_X1_init c_X4_init c_X9_init c_X0_init c_X3_init g121 t h) (X11_init_f0 c_X1_init c_X4_init c_X9_init c_X0_init c_X3_init G121 t h) := (mo_wr fun h1 => (mo_nn fun r2 => (mo_cV fun h3 => (mo_wr fun h4 => (mo_wr fun h5 => (mo_nn fun r6 => (mo_cV fun h7 => (mo_wr fun h8 => (mo_bz (mo_wr fun h9 => (mo_nl fun n10 => (mo_wr fun h11 => (mo_wr fun h12 => (mo_wr fun h13 => (mo_nn fun r14 => (mo_cV fun h15 => (mo_nn fun r16 => (mo_cV fun h17 => (mo_nn fun r18 => (mo_ix fun j19 => (mo_wr fun h20 => (mo_wr fun h21 => (mo_wr fun h22 => (mo_nn fun r23 => (mo_cV fun h24 => (mo_nn fun r25 => (mo_cV fun h26 => (mo_nn fun r27 => (mo_ix fun j28 => (mo_wr fun h29 => (mo_wr fun h30 => (mo_wr fun h31 => (mo_nn fun r32 => (mo_cV fun h33 => (mo_wr fun h34 => (mo_wr fun h35 => (mo_nn fun r36 => (mo_cV fun h37 => (mo_wr fun h38 => (mo_nl fun n39 => (mo_wr fun h40 => (mo_wr fun h41 => (mo_nl fun n42 => (mo_wr fun h43 => (mo_wr fun h44 => (hg121 t h44))))))))))))))))))))))))))))))))))))))))))))))
noncomputable def X11_init_f121 (g136 : Nat → Int32 → PH → Option Rs) (t : Nat) (h : PH) : Option Rs :=
  nl 60 fun n45 =>
  wr (nw h 40 n45 n45) fun h46 =>
  wr (pR h46 648 t 0 (hN h 40 + 1)) fun h47 =>
  wr (pI h47 649 t 0 0) fun h48 =>
  g136 t 0 h48
set_option maxRecDepth 100000 in
theorem X11_init_l121 (g136 : Nat → Int32 → PH → Option Rs) (t : Nat) (h : PH) : X11_init_b121 (X11_init_u136 g136) [some (.inr (10, t + 1)), none] [] h = X11_init_f121 g136 t h := rfl
theorem X11_init_m121 {g136 G136 : Nat → Int32 → PH → Option Rs} (hg136 : ∀ a0 a1 a2, Mo (g136 a0 a1 a2) (G136 a0 a1 a2)) (t : Nat) (h : PH) : Mo (X11_init_f121 g136 t h) (X11_init_f121 G136 t h) := (mo_nl fun n45 => (mo_wr fun h46 => (mo_wr fun h47 => (mo_wr fun h48 => (hg136 t 0 h48)))))
theorem X11_init_w121 {z : CZ} {g136 : Nat → Int32 → PH → Option Rs} (hk136 : SK (X11_init_x z) 136 (X11_init_u136 g136)) : SK (X11_init_x z) 121 (X11_init_u121 (X11_init_f121 g136)) := by
  intro ls st h r e
  obtain ⟨hst, e⟩ := gL_of e
  obtain ⟨t, q0, e⟩ := gT_of e
  rw [st_0 hst]
  exact WK.sub (canon := [some (.inr (10, t + 1)), none]) rfl ⟨q0, trivial⟩ (X11_init_s121 hk136 _ _ _ _ ((X11_init_l121 g136 t h).trans e))
noncomputable def X11_init_f136 (c_X5_init : Nat → PH → Option Rs) (g136 : Nat → Int32 → PH → Option Rs) (g162 : Nat → Int32 → PH → Option Rs) (t : Nat) (x1 : Int32) (h : PH) : Option Rs :=
  if x1 < 4 then
    wr (nw h 4 0 3) fun h49 =>
    nn (hN h 4 + 1) fun r50 =>
    cV (c_X5_init r50 h49) fun h51 =>
    nn (hR h 646 t 0) fun r52 =>
    ix x1 (hL h51 38 r52) fun j53 =>
    wr (pR h51 2432 r52 j53 (hN h 4 + 1)) fun h54 =>
    g136 t (x1 + 1) h54
  else
    g162 t 0 h
set_option maxRecDepth 100000 in
theorem X11_init_l136 (c_X5_init : Nat → PH → Option Rs) (g136 : Nat → Int32 → PH → Option Rs) (g162 : Nat → Int32 → PH → Option Rs) (t : Nat) (x1 : Int32) (h : PH) : X11_init_b136 c_X5_init (X11_init_u136 g136) (X11_init_u162 g162) [some (.inr (10, t + 1)), some (.inl x1)] [] h = X11_init_f136 c_X5_init g136 g162 t x1 h := rfl
theorem X11_init_m136 {c_X5_init : Nat → PH → Option Rs} {g136 G136 : Nat → Int32 → PH → Option Rs} {g162 G162 : Nat → Int32 → PH → Option Rs} (hg136 : ∀ a0 a1 a2, Mo (g136 a0 a1 a2) (G136 a0 a1 a2)) (hg162 : ∀ a0 a1 a2, Mo (g162 a0 a1 a2) (G162 a0 a1 a2)) (t : Nat) (x1 : Int32) (h : PH) : Mo (X11_init_f136 c_X5_init g136 g162 t x1 h) (X11_init_f136 c_X5_init G136 G162 t x1 h) := (mo_if (mo_wr fun h49 => (mo_nn fun r50 => (mo_cV fun h51 => (mo_nn fun r52 => (mo_ix fun j53 => (mo_wr fun h54 => (hg136 t (x1 + 1) h54))))))) (hg162 t 0 h))
theorem X11_init_w136 {z : CZ} {g136 : Nat → Int32 → PH → Option Rs} {g162 : Nat → Int32 → PH → Option Rs} (hk136 : SK (X11_init_x z) 136 (X11_init_u136 g136)) (hk162 : SK (X11_init_x z) 162 (X11_init_u162 g162)) : SK (X11_init_x z) 136 (X11_init_u136 (X11_init_f136 X5_init g136 g162)) := by
  intro ls st h r e
  obtain ⟨hst, e⟩ := gL_of e
  obtain ⟨t, q0, e⟩ := gT_of e
  obtain ⟨x1, q1, e⟩ := gI_of e
  rw [st_0 hst]
  exact WK.sub (canon := [some (.inr (10, t + 1)), some (.inl x1)]) rfl ⟨q0, q1, trivial⟩ (X11_init_s136 hk136 hk162 _ _ _ _ ((X11_init_l136 X5_init g136 g162 t x1 h).trans e))
noncomputable def X11_init_f162 (c_X7_init : Nat → PH → Option Rs) (g162 : Nat → Int32 → PH → Option Rs) (t : Nat) (x1 : Int32) (h : PH) : Option Rs :=
  if x1 < 5 then
    wr (nw h 6 0 5) fun h55 =>
    nn (hN h 6 + 1) fun r56 =>
    cV (c_X7_init r56 h55) fun h57 =>
    nn (hR h 647 t 0) fun r58 =>
    ix x1 (hL h57 39 r58) fun j59 =>
    wr (pR h57 2496 r58 j59 (hN h 6 + 1)) fun h60 =>
    g162 t (x1 + 1) h60
  else
    some (none, h)
set_option maxRecDepth 100000 in
theorem X11_init_l162 (c_X7_init : Nat → PH → Option Rs) (g162 : Nat → Int32 → PH → Option Rs) (t : Nat) (x1 : Int32) (h : PH) : X11_init_b162 c_X7_init (X11_init_u162 g162) [some (.inr (10, t + 1)), some (.inl x1)] [] h = X11_init_f162 c_X7_init g162 t x1 h := rfl
theorem X11_init_m162 {c_X7_init : Nat → PH → Option Rs} {g162 G162 : Nat → Int32 → PH → Option Rs} (hg162 : ∀ a0 a1 a2, Mo (g162 a0 a1 a2) (G162 a0 a1 a2)) (t : Nat) (x1 : Int32) (h : PH) : Mo (X11_init_f162 c_X7_init g162 t x1 h) (X11_init_f162 c_X7_init G162 t x1 h) := (mo_if (mo_wr fun h55 => (mo_nn fun r56 => (mo_cV fun h57 => (mo_nn fun r58 => (mo_ix fun j59 => (mo_wr fun h60 => (hg162 t (x1 + 1) h60))))))) mo_rf)
theorem X11_init_w162 {z : CZ} {g162 : Nat → Int32 → PH → Option Rs} (hk162 : SK (X11_init_x z) 162 (X11_init_u162 g162)) : SK (X11_init_x z) 162 (X11_init_u162 (X11_init_f162 X7_init g162)) := by
  intro ls st h r e
  obtain ⟨hst, e⟩ := gL_of e
  obtain ⟨t, q0, e⟩ := gT_of e
  obtain ⟨x1, q1, e⟩ := gI_of e
  rw [st_0 hst]
  exact WK.sub (canon := [some (.inr (10, t + 1)), some (.inl x1)]) rfl ⟨q0, q1, trivial⟩ (X11_init_s162 hk162 _ _ _ _ ((X11_init_l162 X7_init g162 t x1 h).trans e))
noncomputable def X11_init_g121 (G : (Nat → Int32 → PH → Option Rs) × (Nat → Int32 → PH → Option Rs)) (t : Nat) (h : PH) : Option Rs := X11_init_f121 (G).1 t h
noncomputable def X11_init_g0 (G : (Nat → Int32 → PH → Option Rs) × (Nat → Int32 → PH → Option Rs)) (t : Nat) (h : PH) : Option Rs := X11_init_f0 X1_init X4_init X9_init X0_init X3_init (X11_init_g121 G) t h
noncomputable def X11_init_g136 (G : (Nat → Int32 → PH → Option Rs) × (Nat → Int32 → PH → Option Rs)) (t : Nat) (x1 : Int32) (h : PH) : Option Rs := X11_init_f136 X5_init (G).1 (G).2 t x1 h
noncomputable def X11_init_g162 (G : (Nat → Int32 → PH → Option Rs) × (Nat → Int32 → PH → Option Rs)) (t : Nat) (x1 : Int32) (h : PH) : Option Rs := X11_init_f162 X7_init (G).2 t x1 h
theorem X11_init_v121 {z : CZ} {G : (Nat → Int32 → PH → Option Rs) × (Nat → Int32 → PH → Option Rs)} (hG136 : SK (X11_init_x z) 136 (X11_init_u136 (G).1)) (hG162 : SK (X11_init_x z) 162 (X11_init_u162 (G).2)) : SK (X11_init_x z) 121 (X11_init_u121 (X11_init_g121 G)) := X11_init_w121 hG136
theorem X11_init_v136 {z : CZ} {G : (Nat → Int32 → PH → Option Rs) × (Nat → Int32 → PH → Option Rs)} (hG136 : SK (X11_init_x z) 136 (X11_init_u136 (G).1)) (hG162 : SK (X11_init_x z) 162 (X11_init_u162 (G).2)) : SK (X11_init_x z) 136 (X11_init_u136 (X11_init_g136 G)) := X11_init_w136 hG136 hG162
theorem X11_init_v162 {z : CZ} {G : (Nat → Int32 → PH → Option Rs) × (Nat → Int32 → PH → Option Rs)} (hG136 : SK (X11_init_x z) 136 (X11_init_u136 (G).1)) (hG162 : SK (X11_init_x z) 162 (X11_init_u162 (G).2)) : SK (X11_init_x z) 162 (X11_init_u162 (X11_init_g162 G)) := X11_init_w162 hG162
noncomputable def X11_init_fam : Nat → (Nat → Int32 → PH → Option Rs) × (Nat → Int32 → PH → Option Rs)
  | 0 => (fun _ _ _ => none, fun _ _ _ => none)
  | n + 1 => (X11_init_g136 (X11_init_fam n), X11_init_g162 (X11_init_fam n))
theorem X11_init_k {z : CZ} : ∀ n, SK (X11_init_x z) 136 (X11_init_u136 (X11_init_fam n).1) ∧ SK (X11_init_x z) 162 (X11_init_u162 (X11_init_fam n).2)
  | 0 => ⟨(fun ls st h r e => by
      obtain ⟨_, e⟩ := gL_of e
      obtain ⟨_, _, e⟩ := gT_of e
      obtain ⟨_, _, e⟩ := gI_of e
      cases e), (fun ls st h r e => by
      obtain ⟨_, e⟩ := gL_of e
      obtain ⟨_, _, e⟩ := gT_of e
      obtain ⟨_, _, e⟩ := gI_of e
      cases e)⟩
  | n + 1 => by
    obtain ⟨ih136, ih162⟩ := X11_init_k n
    exact ⟨X11_init_v136 ih136 ih162, X11_init_v162 ih136 ih162⟩
theorem X11_init_n121 {G G' : (Nat → Int32 → PH → Option Rs) × (Nat → Int32 → PH → Option Rs)} (hg136 : ∀ a0 a1 a2, Mo ((G).1 a0 a1 a2) ((G').1 a0 a1 a2)) (hg162 : ∀ a0 a1 a2, Mo ((G).2 a0 a1 a2) ((G').2 a0 a1 a2)) (t : Nat) (h : PH) : Mo (X11_init_g121 G t h) (X11_init_g121 G' t h) := X11_init_m121 hg136 t h
theorem X11_init_n0 {G G' : (Nat → Int32 → PH → Option Rs) × (Nat → Int32 → PH → Option Rs)} (hg136 : ∀ a0 a1 a2, Mo ((G).1 a0 a1 a2) ((G').1 a0 a1 a2)) (hg162 : ∀ a0 a1 a2, Mo ((G).2 a0 a1 a2) ((G').2 a0 a1 a2)) (t : Nat) (h : PH) : Mo (X11_init_g0 G t h) (X11_init_g0 G' t h) := X11_init_m0 (fun a0 a1 => X11_init_n121 hg136 hg162 a0 a1) t h
theorem X11_init_n136 {G G' : (Nat → Int32 → PH → Option Rs) × (Nat → Int32 → PH → Option Rs)} (hg136 : ∀ a0 a1 a2, Mo ((G).1 a0 a1 a2) ((G').1 a0 a1 a2)) (hg162 : ∀ a0 a1 a2, Mo ((G).2 a0 a1 a2) ((G').2 a0 a1 a2)) (t : Nat) (x1 : Int32) (h : PH) : Mo (X11_init_g136 G t x1 h) (X11_init_g136 G' t x1 h) := X11_init_m136 hg136 hg162 t x1 h
theorem X11_init_n162 {G G' : (Nat → Int32 → PH → Option Rs) × (Nat → Int32 → PH → Option Rs)} (hg136 : ∀ a0 a1 a2, Mo ((G).1 a0 a1 a2) ((G').1 a0 a1 a2)) (hg162 : ∀ a0 a1 a2, Mo ((G).2 a0 a1 a2) ((G').2 a0 a1 a2)) (t : Nat) (x1 : Int32) (h : PH) : Mo (X11_init_g162 G t x1 h) (X11_init_g162 G' t x1 h) := X11_init_m162 hg162 t x1 h
theorem X11_init_fm : ∀ n, (∀ a0 a1 a2, Mo ((X11_init_fam n).1 a0 a1 a2) ((X11_init_fam (n + 1)).1 a0 a1 a2)) ∧ (∀ a0 a1 a2, Mo ((X11_init_fam n).2 a0 a1 a2) ((X11_init_fam (n + 1)).2 a0 a1 a2))
  | 0 => ⟨fun _ _ _ => mo_no, fun _ _ _ => mo_no⟩
  | n + 1 => by
    obtain ⟨ih136, ih162⟩ := X11_init_fm n
    exact ⟨fun a0 a1 a2 => X11_init_n136 ih136 ih162 a0 a1 a2, fun a0 a1 a2 => X11_init_n162 ih136 ih162 a0 a1 a2⟩
noncomputable def X11_init (t : Nat) (h : PH) : Option Rs := lim (fun n => X11_init_g0 (X11_init_fam n) t h)
theorem X11_init_iff {t : Nat} {h : PH} {r : Rs} : X11_init t h = some r ↔ ∃ n, X11_init_g0 (X11_init_fam n) t h = some r := lim_iff (fun n => by
  obtain ⟨ih136, ih162⟩ := X11_init_fm n
  exact X11_init_n0 ih136 ih162 t h)
noncomputable abbrev X11_init_F : List PV → PH → Option Rs := FW_T10 (X11_init)
set_option maxRecDepth 100000 in
theorem X11_init_gd (l : Launch) : Gd l 2 yX11_init cX11_init 2 none (X11_init_F)   := Gd_of (by decide +kernel) (fun z hzl as h r e => by
  obtain ⟨hst, e⟩ := gL_of e
  obtain ⟨t, q0, e⟩ := gT_of e
  rw [st_1 hst q0]
  obtain ⟨n, e⟩ := lim_of e
  obtain ⟨hG136, hG162⟩ := X11_init_k (z := z) n
  exact ⟨show 1 ≤ 2 by decide, X11_init_s0 (X11_init_v121 hG136 hG162) _ _ _ _ ((X11_init_l0 X1_init X4_init X9_init X0_init X3_init (X11_init_g121 (X11_init_fam n)) t h).trans e)⟩)
abbrev X11_place_x (z : CZ) : CX := mx RX11 cX11_place 1 0 (some .int) "place" z
noncomputable def X11_place_b0 : Kn := (a_al 0 (a_gR 10 640 1 (a_gI 1 72 (a_ic 12 (a_lt (a_al 0 (a_gR 10 640 1 (a_dup (a_gI 1 72 (a_dupx1 (a_ic 1 (a_b (fun a b => a + b) (a_pI 1 72 a_ir)))))))) (a_ic (-1000000003) a_ir))))))
set_option maxRecDepth 100000 in
theorem X11_place_s0 {z : CZ} : SK (X11_place_x z) 0 (X11_place_b0) := (s_aloadn (pc := 0) dX11_place_0 rfl (s_gR (pc := 1) (f := 0) ko_10 (by decide) rfl rfl w_504 dX11_place_1 (s_gI (pc := 4) (f := 8) ko_1 (by decide) rfl rfl w_242 dX11_place_4 (s_bipush (pc := 7) dX11_place_7 c_bp_12 (s_cmplt (pc := 9) dX11_place_9 (by decide) (s_aloadn (pc := 15) dX11_place_15 rfl (s_gR (pc := 16) (f := 0) ko_10 (by decide) rfl rfl w_504 dX11_place_16 (s_dup (pc := 19) dX11_place_19 (s_gI (pc := 20) (f := 8) ko_1 (by decide) rfl rfl w_242 dX11_place_20 (s_dupx1 (pc := 23) dX11_place_23 (s_iconst (pc := 24) dX11_place_24 c_ic_1 (s_iadd (pc := 25) dX11_place_25 (s_pI (pc := 26) (f := 8) ko_1 (by decide) rfl rfl rfl (by decide +kernel) w_242 dX11_place_26 (s_ir (pc := 29) rfl dX11_place_29))))))))) (s_ldc (pc := 12) w_539 dX11_place_12 (s_ir (pc := 14) rfl dX11_place_14)))))))
noncomputable def X11_place_f0 (t : Nat) (h : PH) : Option Rs :=
  nn (hR h 640 t 0) fun r1 =>
  if (hI h 72 r1 0) < 12 then
    nn (hR h 640 t 0) fun r2 =>
    nn (hR h 640 t 0) fun r3 =>
    wr (pI h 72 r3 0 ((hI h 72 r2 0) + 1)) fun h4 =>
    some (some (.inl (hI h 72 r2 0)), h4)
  else
    some (some (.inl (-1000000003)), h)
set_option maxRecDepth 100000 in
theorem X11_place_l0 (t : Nat) (h : PH) : X11_place_b0 [some (.inr (10, t + 1))] [] h = X11_place_f0 t h := rfl
noncomputable def X11_place_g0 (t : Nat) (h : PH) : Option Rs := X11_place_f0 t h
noncomputable def X11_place (t : Nat) (h : PH) : Option Rs := X11_place_g0 t h
noncomputable abbrev X11_place_F : List PV → PH → Option Rs := FW_T10 (X11_place)
set_option maxRecDepth 100000 in
theorem X11_place_gd (l : Launch) : Gd l 0 yX11_place cX11_place 1 (some .int) (X11_place_F)   := Gd_of (by decide +kernel) (fun z hzl as h r e => by
  obtain ⟨hst, e⟩ := gL_of e
  obtain ⟨t, q0, e⟩ := gT_of e
  rw [st_1 hst q0]
  exact ⟨show 1 ≤ 1 by decide, X11_place_s0 _ _ _ _ ((X11_place_l0 t h).trans e)⟩)
abbrev X11_isWithin_x (z : CZ) : CX := mx RX11 cX11_isWithin 2 0 (some .boolean) "isWithin" z
noncomputable def X11_isWithin_b0 : Kn := (a_il 0 (a_n (a_ic 0 a_zr) (a_il 0 (a_il 1 (a_lt (a_ic 1 a_zr) (a_ic 0 a_zr))))))
set_option maxRecDepth 100000 in
theorem X11_isWithin_s0 {z : CZ} : SK (X11_isWithin_x z) 0 (X11_isWithin_b0) := (s_iloadn (pc := 0) dX11_isWithin_0 rfl (s_iflt (pc := 1) dX11_isWithin_1 (by decide) (s_iconst (pc := 13) dX11_isWithin_13 c_ic_0 (s_zr (pc := 14) rfl dX11_isWithin_14)) (s_iloadn (pc := 4) dX11_isWithin_4 rfl (s_iloadn (pc := 5) dX11_isWithin_5 rfl (s_cmpge (pc := 6) dX11_isWithin_6 (by decide) (s_iconst (pc := 13) dX11_isWithin_13 c_ic_0 (s_zr (pc := 14) rfl dX11_isWithin_14)) (s_iconst (pc := 9) dX11_isWithin_9 c_ic_1 (s_goto (pc := 10) dX11_isWithin_10 (by decide) (s_zr (pc := 14) rfl dX11_isWithin_14))))))))
noncomputable def X11_isWithin_f0 (x0 : Int32) (x1 : Int32) (h : PH) : Option Rs :=
  if x0 < 0 then
    bz 0 <|
    some (some (.inl 0), h)
  else
    if x0 < x1 then
      bz 1 <|
      some (some (.inl 1), h)
    else
      bz 0 <|
      some (some (.inl 0), h)
set_option maxRecDepth 100000 in
theorem X11_isWithin_l0 (x0 : Int32) (x1 : Int32) (h : PH) : X11_isWithin_b0 [some (.inl x0), some (.inl x1)] [] h = X11_isWithin_f0 x0 x1 h := rfl
noncomputable def X11_isWithin_g0 (x0 : Int32) (x1 : Int32) (h : PH) : Option Rs := X11_isWithin_f0 x0 x1 h
noncomputable def X11_isWithin (x0 : Int32) (x1 : Int32) (h : PH) : Option Rs := X11_isWithin_g0 x0 x1 h
noncomputable abbrev X11_isWithin_F : List PV → PH → Option Rs := FW_II (X11_isWithin)
set_option maxRecDepth 100000 in
theorem X11_isWithin_gd (l : Launch) : Gd l 0 yX11_isWithin cX11_isWithin 2 (some .boolean) (X11_isWithin_F)   := Gd_of (by decide +kernel) (fun z hzl as h r e => by
  obtain ⟨hst, e⟩ := gL_of e
  obtain ⟨x0, q0, e⟩ := gI_of e
  obtain ⟨x1, q1, e⟩ := gI_of e
  rw [st_2 hst q0 q1]
  exact ⟨show 2 ≤ 2 by decide, X11_isWithin_s0 _ _ _ _ ((X11_isWithin_l0 x0 x1 h).trans e)⟩)
abbrev X1_hasPlace_x (z : CZ) : CX := mx RX1 cX1_hasPlace 2 1 (some .boolean) "hasPlace" z
noncomputable def X1_hasPlace_b0 (c_X11_isWithin : Int32 → Int32 → PH → Option Rs) : Kn := (a_il 1 (a_al 0 (a_gI 1 72 (a_sI 2 (FW_II c_X11_isWithin) a_zr))))
set_option maxRecDepth 100000 in
theorem X1_hasPlace_s0 {z : CZ} : SK (X1_hasPlace_x z) 0 (X1_hasPlace_b0 X11_isWithin) := (s_iloadn (pc := 0) dX1_hasPlace_0 rfl (s_aloadn (pc := 1) dX1_hasPlace_1 rfl (s_gI (pc := 2) (f := 8) ko_1 (by decide) rfl rfl w_241 dX1_hasPlace_2 (s_sI (pc := 5) (run_staticN (X11_isWithin_gd _) (show 0 < 1 by decide) cy_X11_isWithin w_549 nw_548 dX1_hasPlace_5) (s_zr (pc := 8) rfl dX1_hasPlace_8)))))
noncomputable def X1_hasPlace_f0 (c_X11_isWithin : Int32 → Int32 → PH → Option Rs) (t : Nat) (x1 : Int32) (h : PH) : Option Rs :=
  cI (c_X11_isWithin x1 (hI h 72 t 0) h) fun v2 h1 =>
  bz v2 <|
  some (some (.inl v2), h1)
set_option maxRecDepth 100000 in
theorem X1_hasPlace_l0 (c_X11_isWithin : Int32 → Int32 → PH → Option Rs) (t : Nat) (x1 : Int32) (h : PH) : X1_hasPlace_b0 c_X11_isWithin [some (.inr (1, t + 1)), some (.inl x1)] [] h = X1_hasPlace_f0 c_X11_isWithin t x1 h := rfl
noncomputable def X1_hasPlace_g0 (t : Nat) (x1 : Int32) (h : PH) : Option Rs := X1_hasPlace_f0 X11_isWithin t x1 h
noncomputable def X1_hasPlace (t : Nat) (x1 : Int32) (h : PH) : Option Rs := X1_hasPlace_g0 t x1 h
noncomputable abbrev X1_hasPlace_F : List PV → PH → Option Rs := FW_T1I (X1_hasPlace)
set_option maxRecDepth 100000 in
theorem X1_hasPlace_gd (l : Launch) : Gd l 1 yX1_hasPlace cX1_hasPlace 2 (some .boolean) (X1_hasPlace_F)   := Gd_of (by decide +kernel) (fun z hzl as h r e => by
  obtain ⟨hst, e⟩ := gL_of e
  obtain ⟨t, q0, e⟩ := gT_of e
  obtain ⟨x1, q1, e⟩ := gI_of e
  rw [st_2 hst q0 q1]
  exact ⟨show 2 ≤ 2 by decide, X1_hasPlace_s0 _ _ _ _ ((X1_hasPlace_l0 X11_isWithin t x1 h).trans e)⟩)
abbrev X11_isWaySort_x (z : CZ) : CX := mx RX11 cX11_isWaySort 2 1 (some .boolean) "isWaySort" z
noncomputable def X11_isWaySort_b0 (c_X11_isWithin : Int32 → Int32 → PH → Option Rs) : Kn := (a_il 0 (a_ic 100 (a_rem (a_is 1 (a_il 0 (a_ic 400 (a_sI 2 (FW_II c_X11_isWithin) (a_z (a_ic 0 a_zr) (a_il 1 (a_ic 1 (a_lt (a_ic 0 a_zr) (a_il 1 (a_ic 30 (a_gt (a_ic 0 a_zr) (a_ic 1 a_zr)))))))))))))))
set_option maxRecDepth 100000 in
theorem X11_isWaySort_s0 {z : CZ} : SK (X11_isWaySort_x z) 0 (X11_isWaySort_b0 X11_isWithin) := (s_iloadn (pc := 0) dX11_isWaySort_0 rfl (s_bipush (pc := 1) dX11_isWaySort_1 c_bp_100 (s_irem (pc := 3) dX11_isWaySort_3 (s_istoren (pc := 4) dX11_isWaySort_4 rfl (show 1 < 2 by decide) (s_iloadn (pc := 5) dX11_isWaySort_5 rfl (s_sipush (pc := 6) dX11_isWaySort_6 c_sp_400 (s_sI (pc := 9) (run_static (X11_isWithin_gd _) (show 0 < 1 by decide) cy_X11_isWithin w_549 w_552 dX11_isWaySort_9) (s_ifeq (pc := 12) dX11_isWaySort_12 (by decide) (s_iconst (pc := 30) dX11_isWaySort_30 c_ic_0 (s_zr (pc := 31) rfl dX11_isWaySort_31)) (s_iloadn (pc := 15) dX11_isWaySort_15 rfl (s_iconst (pc := 16) dX11_isWaySort_16 c_ic_1 (s_cmplt (pc := 17) dX11_isWaySort_17 (by decide) (s_iconst (pc := 30) dX11_isWaySort_30 c_ic_0 (s_zr (pc := 31) rfl dX11_isWaySort_31)) (s_iloadn (pc := 20) dX11_isWaySort_20 rfl (s_bipush (pc := 21) dX11_isWaySort_21 c_bp_30 (s_cmpgt (pc := 23) dX11_isWaySort_23 (by decide) (s_iconst (pc := 30) dX11_isWaySort_30 c_ic_0 (s_zr (pc := 31) rfl dX11_isWaySort_31)) (s_iconst (pc := 26) dX11_isWaySort_26 c_ic_1 (s_goto (pc := 27) dX11_isWaySort_27 (by decide) (s_zr (pc := 31) rfl dX11_isWaySort_31)))))))))))))))))
noncomputable def X11_isWaySort_f0 (c_X11_isWithin : Int32 → Int32 → PH → Option Rs) (x0 : Int32) (h : PH) : Option Rs :=
  dv 100 <|
  cI (c_X11_isWithin x0 400 h) fun v2 h1 =>
  if v2 = 0 then
    bz 0 <|
    some (some (.inl 0), h1)
  else
    if (jrem x0 100) < 1 then
      bz 0 <|
      some (some (.inl 0), h1)
    else
      if 30 < (jrem x0 100) then
        bz 0 <|
        some (some (.inl 0), h1)
      else
        bz 1 <|
        some (some (.inl 1), h1)
set_option maxRecDepth 100000 in
theorem X11_isWaySort_l0 (c_X11_isWithin : Int32 → Int32 → PH → Option Rs) (x0 : Int32) (h : PH) : X11_isWaySort_b0 c_X11_isWithin [some (.inl x0), none] [] h = X11_isWaySort_f0 c_X11_isWithin x0 h := rfl
noncomputable def X11_isWaySort_g0 (x0 : Int32) (h : PH) : Option Rs := X11_isWaySort_f0 X11_isWithin x0 h
noncomputable def X11_isWaySort (x0 : Int32) (h : PH) : Option Rs := X11_isWaySort_g0 x0 h
noncomputable abbrev X11_isWaySort_F : List PV → PH → Option Rs := FW_I (X11_isWaySort)
set_option maxRecDepth 100000 in
theorem X11_isWaySort_gd (l : Launch) : Gd l 1 yX11_isWaySort cX11_isWaySort 2 (some .boolean) (X11_isWaySort_F)   := Gd_of (by decide +kernel) (fun z hzl as h r e => by
  obtain ⟨hst, e⟩ := gL_of e
  obtain ⟨x0, q0, e⟩ := gI_of e
  rw [st_1 hst q0]
  exact ⟨show 1 ≤ 2 by decide, X11_isWaySort_s0 _ _ _ _ ((X11_isWaySort_l0 X11_isWithin x0 h).trans e)⟩)
abbrev X1_wayFrom_x (z : CZ) : CX := mx RX1 cX1_wayFrom 4 0 (some .int) "wayFrom" z
noncomputable def X1_wayFrom_b0 (k25 : Kn) : Kn := (a_il 1 (a_n (a_ic 0 k25) (a_il 1 (a_ic 12 (a_lt (a_il 2 (a_n (a_ic 0 k25) (a_il 2 (a_ic 8 (a_lt (a_ic 1 k25) (a_ic 0 k25)))))) (a_ic 0 k25))))))
set_option maxRecDepth 100000 in
theorem X1_wayFrom_s0 {z : CZ} {k25 : Kn} (hk25 : SK (X1_wayFrom_x z) 25 k25) : SK (X1_wayFrom_x z) 0 (X1_wayFrom_b0 k25) := (s_iloadn (pc := 0) dX1_wayFrom_0 rfl (s_iflt (pc := 1) dX1_wayFrom_1 (by decide) (s_iconst (pc := 24) dX1_wayFrom_24 c_ic_0 hk25) (s_iloadn (pc := 4) dX1_wayFrom_4 rfl (s_bipush (pc := 5) dX1_wayFrom_5 c_bp_12 (s_cmpge (pc := 7) dX1_wayFrom_7 (by decide) (s_iconst (pc := 24) dX1_wayFrom_24 c_ic_0 hk25) (s_iloadn (pc := 10) dX1_wayFrom_10 rfl (s_iflt (pc := 11) dX1_wayFrom_11 (by decide) (s_iconst (pc := 24) dX1_wayFrom_24 c_ic_0 hk25) (s_iloadn (pc := 14) dX1_wayFrom_14 rfl (s_bipush (pc := 15) dX1_wayFrom_15 c_bp_8 (s_cmpge (pc := 17) dX1_wayFrom_17 (by decide) (s_iconst (pc := 24) dX1_wayFrom_24 c_ic_0 hk25) (s_iconst (pc := 20) dX1_wayFrom_20 c_ic_1 (s_goto (pc := 21) dX1_wayFrom_21 (by decide) hk25))))))))))))
noncomputable def X1_wayFrom_b25 : Kn := (a_is 3 (a_il 3 (a_z (a_ic (-1) a_ir) (a_al 0 (a_gR 1 65 15 (a_il 1 (a_ic 8 (a_b (fun a b => a * b) (a_il 2 (a_b (fun a b => a + b) (a_ald 15 960 a_ir)))))))))))
set_option maxRecDepth 100000 in
theorem X1_wayFrom_s25 {z : CZ} : SK (X1_wayFrom_x z) 25 (X1_wayFrom_b25) := (s_istoren (pc := 25) dX1_wayFrom_25 rfl (show 3 < 4 by decide) (s_iloadn (pc := 26) dX1_wayFrom_26 rfl (s_ifeq (pc := 27) dX1_wayFrom_27 (by decide) (s_iconst (pc := 44) dX1_wayFrom_44 c_ic_m1 (s_ir (pc := 45) rfl dX1_wayFrom_45)) (s_aloadn (pc := 30) dX1_wayFrom_30 rfl (s_gR (pc := 31) (f := 1) ko_1 (by decide) rfl rfl w_218 dX1_wayFrom_31 (s_iloadn (pc := 34) dX1_wayFrom_34 rfl (s_bipush (pc := 35) dX1_wayFrom_35 c_bp_8 (s_imul (pc := 37) dX1_wayFrom_37 (s_iloadn (pc := 38) dX1_wayFrom_38 rfl (s_iadd (pc := 39) dX1_wayFrom_39 (s_iald (pc := 40) (by decide) (by decide) rfl rfl rfl dX1_wayFrom_40 (s_goto (pc := 41) dX1_wayFrom_41 (by decide) (s_ir (pc := 45) rfl dX1_wayFrom_45)))))))))))))
noncomputable def X1_wayFrom_u25 (g : Nat → Int32 → Int32 → Int32 → PH → Option Rs) : Kn := fun ls st h => gL 1 st (gT 1 ls 0 fun t => gI ls 1 fun x1 => gI ls 2 fun x2 => gI (st.map some) 0 fun s0 => g t x1 x2 s0 h)
noncomputable def X1_wayFrom_f0 (g25 : Nat → Int32 → Int32 → Int32 → PH → Option Rs) (t : Nat) (x1 : Int32) (x2 : Int32) (h : PH) : Option Rs :=
  if x1 < 0 then
    g25 t x1 x2 0 h
  else
    if x1 < 12 then
      if x2 < 0 then
        g25 t x1 x2 0 h
      else
        if x2 < 8 then
          g25 t x1 x2 1 h
        else
          g25 t x1 x2 0 h
    else
      g25 t x1 x2 0 h
set_option maxRecDepth 100000 in
theorem X1_wayFrom_l0 (g25 : Nat → Int32 → Int32 → Int32 → PH → Option Rs) (t : Nat) (x1 : Int32) (x2 : Int32) (h : PH) : X1_wayFrom_b0 (X1_wayFrom_u25 g25) [some (.inr (1, t + 1)), some (.inl x1), some (.inl x2), none] [] h = X1_wayFrom_f0 g25 t x1 x2 h := rfl
theorem X1_wayFrom_m0 {g25 G25 : Nat → Int32 → Int32 → Int32 → PH → Option Rs} (hg25 : ∀ a0 a1 a2 a3 a4, Mo (g25 a0 a1 a2 a3 a4) (G25 a0 a1 a2 a3 a4)) (t : Nat) (x1 : Int32) (x2 : Int32) (h : PH) : Mo (X1_wayFrom_f0 g25 t x1 x2 h) (X1_wayFrom_f0 G25 t x1 x2 h) := (mo_if (hg25 t x1 x2 0 h) (mo_if (mo_if (hg25 t x1 x2 0 h) (mo_if (hg25 t x1 x2 1 h) (hg25 t x1 x2 0 h))) (hg25 t x1 x2 0 h)))
noncomputable def X1_wayFrom_f25 (t : Nat) (x1 : Int32) (x2 : Int32) (s0 : Int32) (h : PH) : Option Rs :=
  if s0 = 0 then
    some (some (.inl (-1)), h)
  else
    nn (hR h 65 t 0) fun r1 =>
    ix ((x1 * 8) + x2) (hL h 15 r1) fun j2 =>
    some (some (.inl (hI h 960 r1 j2)), h)
set_option maxRecDepth 100000 in
theorem X1_wayFrom_l25 (t : Nat) (x1 : Int32) (x2 : Int32) (s0 : Int32) (h : PH) : X1_wayFrom_b25 [some (.inr (1, t + 1)), some (.inl x1), some (.inl x2), none] [.inl s0] h = X1_wayFrom_f25 t x1 x2 s0 h := rfl
theorem X1_wayFrom_w25 {z : CZ} : SK (X1_wayFrom_x z) 25 (X1_wayFrom_u25 (X1_wayFrom_f25)) := by
  intro ls st h r e
  obtain ⟨hst, e⟩ := gL_of e
  obtain ⟨t, q0, e⟩ := gT_of e
  obtain ⟨x1, q1, e⟩ := gI_of e
  obtain ⟨x2, q2, e⟩ := gI_of e
  obtain ⟨s0, q3, e⟩ := gI_of e
  rw [st_1 hst q3]
  exact WK.sub (canon := [some (.inr (1, t + 1)), some (.inl x1), some (.inl x2), none]) rfl ⟨q0, q1, q2, trivial⟩ (X1_wayFrom_s25 _ _ _ _ ((X1_wayFrom_l25 t x1 x2 s0 h).trans e))
noncomputable def X1_wayFrom_g25 (t : Nat) (x1 : Int32) (x2 : Int32) (s0 : Int32) (h : PH) : Option Rs := X1_wayFrom_f25 t x1 x2 s0 h
noncomputable def X1_wayFrom_g0 (t : Nat) (x1 : Int32) (x2 : Int32) (h : PH) : Option Rs := X1_wayFrom_f0 (X1_wayFrom_g25) t x1 x2 h
theorem X1_wayFrom_v25 {z : CZ} : SK (X1_wayFrom_x z) 25 (X1_wayFrom_u25 (X1_wayFrom_g25)) := X1_wayFrom_w25
noncomputable def X1_wayFrom (t : Nat) (x1 : Int32) (x2 : Int32) (h : PH) : Option Rs := X1_wayFrom_g0 t x1 x2 h
noncomputable abbrev X1_wayFrom_F : List PV → PH → Option Rs := FW_T1II (X1_wayFrom)
set_option maxRecDepth 100000 in
theorem X1_wayFrom_gd (l : Launch) : Gd l 0 yX1_wayFrom cX1_wayFrom 4 (some .int) (X1_wayFrom_F)   := Gd_of (by decide +kernel) (fun z hzl as h r e => by
  obtain ⟨hst, e⟩ := gL_of e
  obtain ⟨t, q0, e⟩ := gT_of e
  obtain ⟨x1, q1, e⟩ := gI_of e
  obtain ⟨x2, q2, e⟩ := gI_of e
  rw [st_3 hst q0 q1 q2]
  exact ⟨show 3 ≤ 4 by decide, X1_wayFrom_s0 (X1_wayFrom_v25) _ _ _ _ ((X1_wayFrom_l0 (X1_wayFrom_g25) t x1 x2 h).trans e)⟩)
abbrev X11_opposite_x (z : CZ) : CX := mx RX11 cX11_opposite 1 0 (some .int) "opposite" z
noncomputable def X11_opposite_b0 : Kn := (a_il 0 (a_ic 4 (a_b (fun a b => a + b) (a_ic 8 (a_rem a_ir)))))
set_option maxRecDepth 100000 in
theorem X11_opposite_s0 {z : CZ} : SK (X11_opposite_x z) 0 (X11_opposite_b0) := (s_iloadn (pc := 0) dX11_opposite_0 rfl (s_iconst (pc := 1) dX11_opposite_1 c_ic_4 (s_iadd (pc := 2) dX11_opposite_2 (s_bipush (pc := 3) dX11_opposite_3 c_bp_8 (s_irem (pc := 5) dX11_opposite_5 (s_ir (pc := 6) rfl dX11_opposite_6))))))
noncomputable def X11_opposite_f0 (x0 : Int32) (h : PH) : Option Rs :=
  dv 8 <|
  some (some (.inl (jrem (x0 + 4) 8)), h)
set_option maxRecDepth 100000 in
theorem X11_opposite_l0 (x0 : Int32) (h : PH) : X11_opposite_b0 [some (.inl x0)] [] h = X11_opposite_f0 x0 h := rfl
noncomputable def X11_opposite_g0 (x0 : Int32) (h : PH) : Option Rs := X11_opposite_f0 x0 h
noncomputable def X11_opposite (x0 : Int32) (h : PH) : Option Rs := X11_opposite_g0 x0 h
noncomputable abbrev X11_opposite_F : List PV → PH → Option Rs := FW_I (X11_opposite)
set_option maxRecDepth 100000 in
theorem X11_opposite_gd (l : Launch) : Gd l 0 yX11_opposite cX11_opposite 1 (some .int) (X11_opposite_F)   := Gd_of (by decide +kernel) (fun z hzl as h r e => by
  obtain ⟨hst, e⟩ := gL_of e
  obtain ⟨x0, q0, e⟩ := gI_of e
  rw [st_1 hst q0]
  exact ⟨show 1 ≤ 1 by decide, X11_opposite_s0 _ _ _ _ ((X11_opposite_l0 x0 h).trans e)⟩)
