abbrev X10_init_x (z : CZ) : CX := mx RX10 cX10_init 1 0 none "<init>" z
noncomputable def X10_init_b0 : Kn := (a_al 0 (a_oi a_vr))
set_option maxRecDepth 100000 in
theorem X10_init_s0 {z : CZ} : SK (X10_init_x z) 0 (X10_init_b0) := (s_aloadn (pc := 0) dX10_init_0 rfl (s_oi (pc := 1) w_125 w_107 w_108 dX10_init_1 (s_vr (pc := 4) rfl dX10_init_4)))
noncomputable def X10_init_f0 (t : Nat) (h : PH) : Option Rs :=
  some (none, h)
set_option maxRecDepth 100000 in
theorem X10_init_l0 (t : Nat) (h : PH) : X10_init_b0 [some (.inr (9, t + 1))] [] h = X10_init_f0 t h := rfl
noncomputable def X10_init_g0 (t : Nat) (h : PH) : Option Rs := X10_init_f0 t h
noncomputable def X10_init (t : Nat) (h : PH) : Option Rs := X10_init_g0 t h
noncomputable abbrev X10_init_F : List PV → PH → Option Rs := FW_T9 (X10_init)
set_option maxRecDepth 100000 in
theorem X10_init_gd (l : Launch) : Gd l 0 yX10_init cX10_init 1 none (X10_init_F) := Gd_of (by decide +kernel) (fun z hzl as h r e => by
  obtain ⟨hst, e⟩ := gL_of e
  obtain ⟨t, q0, e⟩ := gT_of e
  rw [st_1 hst q0]
  exact ⟨show 1 ≤ 1 by decide, X10_init_s0 _ _ _ _ ((X10_init_l0 t h).trans e)⟩)
abbrev X6_init_x (z : CZ) : CX := mx RX6 cX6_init 1 0 none "<init>" z
noncomputable def X6_init_b0 : Kn := (a_al 0 (a_oi (a_al 0 (a_ic 6 (a_nwa 27 (a_pR 5 325 27 (a_al 0 (a_ic 6 (a_nwa 28 (a_pR 5 326 28 a_vr))))))))))
set_option maxRecDepth 100000 in
theorem X6_init_s0 {z : CZ} : SK (X6_init_x z) 0 (X6_init_b0) := (s_aloadn (pc := 0) dX6_init_0 rfl (s_oi (pc := 1) w_166 w_107 w_108 dX6_init_1 (s_aloadn (pc := 4) dX6_init_4 rfl (s_bipush (pc := 5) dX6_init_5 c_bp_6 (s_nwa (pc := 7) (at0 := .int) (by decide) (by decide) rfl rfl rfl (by decide) w_161 dX6_init_7 (s_pRF (pc := 9) (f := 5) ko_5 (by decide) rfl rfl rfl rfl rfl (tyX6_ok 5 (by decide)) rfl w_186 dX6_init_9 (s_aloadn (pc := 12) dX6_init_12 rfl (s_bipush (pc := 13) dX6_init_13 c_bp_6 (s_nwa (pc := 15) (at0 := .int) (by decide) (by decide) rfl rfl rfl (by decide) w_161 dX6_init_15 (s_pRF (pc := 17) (f := 6) ko_5 (by decide) rfl rfl rfl rfl rfl (tyX6_ok 6 (by decide)) rfl w_190 dX6_init_17 (s_vr (pc := 20) rfl dX6_init_20)))))))))))
noncomputable def X6_init_f0 (t : Nat) (h : PH) : Option Rs :=
  nl 6 fun n1 =>
  wr (nw h 27 n1 n1) fun h2 =>
  wr (pR h2 325 t 0 (hN h 27 + 1)) fun h3 =>
  nl 6 fun n4 =>
  wr (nw h3 28 n4 n4) fun h5 =>
  wr (pR h5 326 t 0 (hN h3 28 + 1)) fun h6 =>
  some (none, h6)
set_option maxRecDepth 100000 in
theorem X6_init_l0 (t : Nat) (h : PH) : X6_init_b0 [some (.inr (5, t + 1))] [] h = X6_init_f0 t h := rfl
noncomputable def X6_init_g0 (t : Nat) (h : PH) : Option Rs := X6_init_f0 t h
noncomputable def X6_init (t : Nat) (h : PH) : Option Rs := X6_init_g0 t h
noncomputable abbrev X6_init_F : List PV → PH → Option Rs := FW_T5 (X6_init)
set_option maxRecDepth 100000 in
theorem X6_init_gd (l : Launch) : Gd l 0 yX6_init cX6_init 1 none (X6_init_F) := Gd_of (by decide +kernel) (fun z hzl as h r e => by
  obtain ⟨hst, e⟩ := gL_of e
  obtain ⟨t, q0, e⟩ := gT_of e
  rw [st_1 hst q0]
  exact ⟨show 1 ≤ 1 by decide, X6_init_s0 _ _ _ _ ((X6_init_l0 t h).trans e)⟩)
abbrev J7_fill_53178_15_x (z : CZ) : CX := mx RJ7 cJ7_fill_53178 4 0 none "fill" z
noncomputable def J7_fill_53178_15_b0 (k5 : Kn) : Kn := (a_ic 0 (a_is 2 (a_al 0 (a_len 15 (a_is 3 k5)))))
set_option maxRecDepth 100000 in
theorem J7_fill_53178_15_s0 {z : CZ} {k5 : Kn} (hk5 : SK (J7_fill_53178_15_x z) 5 k5) : SK (J7_fill_53178_15_x z) 0 (J7_fill_53178_15_b0 k5) := (s_iconst (pc := 0) dJ7_fill_53178_0 c_ic_0 (s_istoren (pc := 1) dJ7_fill_53178_1 rfl (show 2 < 4 by decide) (s_aloadn (pc := 2) dJ7_fill_53178_2 rfl (s_len (pc := 3) (by decide) (by decide) rfl dJ7_fill_53178_3 (s_istoren (pc := 4) dJ7_fill_53178_4 rfl (show 3 < 4 by decide) hk5)))))
noncomputable def J7_fill_53178_15_b5 (k5 : Kn) : Kn := (a_il 2 (a_il 3 (a_lt (a_al 0 (a_il 2 (a_il 1 (a_ast 15 960 (fun a => a) (a_inc 2 1 k5))))) a_vr)))
set_option maxRecDepth 100000 in
theorem J7_fill_53178_15_s5 {z : CZ} {k5 : Kn} (hk5 : SK (J7_fill_53178_15_x z) 5 k5) : SK (J7_fill_53178_15_x z) 5 (J7_fill_53178_15_b5 k5) := (s_iloadn (pc := 5) dJ7_fill_53178_5 rfl (s_iloadn (pc := 6) dJ7_fill_53178_6 rfl (s_cmpge (pc := 7) dJ7_fill_53178_7 (by decide) (s_vr (pc := 20) rfl dJ7_fill_53178_20) (s_aloadn (pc := 10) dJ7_fill_53178_10 rfl (s_iloadn (pc := 11) dJ7_fill_53178_11 rfl (s_iloadn (pc := 12) dJ7_fill_53178_12 rfl (s_iast (pc := 13) (by decide) (by decide) rfl rfl rfl dJ7_fill_53178_13 (s_iinc (pc := 14) dJ7_fill_53178_14 c_ic_1 (show 2 < 4 by decide) (s_goto (pc := 17) dJ7_fill_53178_17 (by decide) hk5)))))))))
noncomputable def J7_fill_53178_15_u5 (g : Nat → Int32 → Int32 → Int32 → PH → Option Rs) : Kn := fun ls st h => gL 0 st (gR 15 ls 0 fun x0 => gI ls 1 fun x1 => gI ls 2 fun x2 => gI ls 3 fun x3 => g x0 x1 x2 x3 h)
noncomputable def J7_fill_53178_15_f0 (g5 : Nat → Int32 → Int32 → Int32 → PH → Option Rs) (x0 : Nat) (x1 : Int32) (h : PH) : Option Rs :=
  nn x0 fun r1 =>
  g5 x0 x1 0 (Int32.ofNat (hL h 15 r1)) h
set_option maxRecDepth 100000 in
theorem J7_fill_53178_15_l0 (g5 : Nat → Int32 → Int32 → Int32 → PH → Option Rs) (x0 : Nat) (x1 : Int32) (h : PH) : J7_fill_53178_15_b0 (J7_fill_53178_15_u5 g5) [some (.inr (15, x0)), some (.inl x1), none, none] [] h = J7_fill_53178_15_f0 g5 x0 x1 h := rfl
theorem J7_fill_53178_15_m0 {g5 G5 : Nat → Int32 → Int32 → Int32 → PH → Option Rs} (hg5 : ∀ a0 a1 a2 a3 a4, Mo (g5 a0 a1 a2 a3 a4) (G5 a0 a1 a2 a3 a4)) (x0 : Nat) (x1 : Int32) (h : PH) : Mo (J7_fill_53178_15_f0 g5 x0 x1 h) (J7_fill_53178_15_f0 G5 x0 x1 h) := (mo_nn fun r1 => (hg5 x0 x1 0 (Int32.ofNat (hL h 15 r1)) h))
noncomputable def J7_fill_53178_15_f5 (g5 : Nat → Int32 → Int32 → Int32 → PH → Option Rs) (x0 : Nat) (x1 : Int32) (x2 : Int32) (x3 : Int32) (h : PH) : Option Rs :=
  if x2 < x3 then
    nn x0 fun r2 =>
    ix x2 (hL h 15 r2) fun j3 =>
    wr (pI h 960 r2 j3 x1) fun h4 =>
    g5 x0 x1 (x2 + 1) x3 h4
  else
    some (none, h)
set_option maxRecDepth 100000 in
theorem J7_fill_53178_15_l5 (g5 : Nat → Int32 → Int32 → Int32 → PH → Option Rs) (x0 : Nat) (x1 : Int32) (x2 : Int32) (x3 : Int32) (h : PH) : J7_fill_53178_15_b5 (J7_fill_53178_15_u5 g5) [some (.inr (15, x0)), some (.inl x1), some (.inl x2), some (.inl x3)] [] h = J7_fill_53178_15_f5 g5 x0 x1 x2 x3 h := rfl
theorem J7_fill_53178_15_m5 {g5 G5 : Nat → Int32 → Int32 → Int32 → PH → Option Rs} (hg5 : ∀ a0 a1 a2 a3 a4, Mo (g5 a0 a1 a2 a3 a4) (G5 a0 a1 a2 a3 a4)) (x0 : Nat) (x1 : Int32) (x2 : Int32) (x3 : Int32) (h : PH) : Mo (J7_fill_53178_15_f5 g5 x0 x1 x2 x3 h) (J7_fill_53178_15_f5 G5 x0 x1 x2 x3 h) := (mo_if (mo_nn fun r2 => (mo_ix fun j3 => (mo_wr fun h4 => (hg5 x0 x1 (x2 + 1) x3 h4)))) mo_rf)
theorem J7_fill_53178_15_w5 {z : CZ} {g5 : Nat → Int32 → Int32 → Int32 → PH → Option Rs} (hk5 : SK (J7_fill_53178_15_x z) 5 (J7_fill_53178_15_u5 g5)) : SK (J7_fill_53178_15_x z) 5 (J7_fill_53178_15_u5 (J7_fill_53178_15_f5 g5)) := by
  intro ls st h r e
  obtain ⟨hst, e⟩ := gL_of e
  obtain ⟨x0, q0, e⟩ := gR_of e
  obtain ⟨x1, q1, e⟩ := gI_of e
  obtain ⟨x2, q2, e⟩ := gI_of e
  obtain ⟨x3, q3, e⟩ := gI_of e
  rw [st_0 hst]
  exact WK.sub (canon := [some (.inr (15, x0)), some (.inl x1), some (.inl x2), some (.inl x3)]) rfl ⟨q0, q1, q2, q3, trivial⟩ (J7_fill_53178_15_s5 hk5 _ _ _ _ ((J7_fill_53178_15_l5 g5 x0 x1 x2 x3 h).trans e))
noncomputable def J7_fill_53178_15_g0 (G : (Nat → Int32 → Int32 → Int32 → PH → Option Rs)) (x0 : Nat) (x1 : Int32) (h : PH) : Option Rs := J7_fill_53178_15_f0 (G) x0 x1 h
noncomputable def J7_fill_53178_15_g5 (G : (Nat → Int32 → Int32 → Int32 → PH → Option Rs)) (x0 : Nat) (x1 : Int32) (x2 : Int32) (x3 : Int32) (h : PH) : Option Rs := J7_fill_53178_15_f5 (G) x0 x1 x2 x3 h
theorem J7_fill_53178_15_v5 {z : CZ} {G : (Nat → Int32 → Int32 → Int32 → PH → Option Rs)} (hG5 : SK (J7_fill_53178_15_x z) 5 (J7_fill_53178_15_u5 (G))) : SK (J7_fill_53178_15_x z) 5 (J7_fill_53178_15_u5 (J7_fill_53178_15_g5 G)) := J7_fill_53178_15_w5 hG5
noncomputable def J7_fill_53178_15_fam : Nat → (Nat → Int32 → Int32 → Int32 → PH → Option Rs)
  | 0 => fun _ _ _ _ _ => none
  | n + 1 => J7_fill_53178_15_g5 (J7_fill_53178_15_fam n)
theorem J7_fill_53178_15_k {z : CZ} : ∀ n, SK (J7_fill_53178_15_x z) 5 (J7_fill_53178_15_u5 (J7_fill_53178_15_fam n))
  | 0 => (fun ls st h r e => by
      obtain ⟨_, e⟩ := gL_of e
      obtain ⟨_, _, e⟩ := gR_of e
      obtain ⟨_, _, e⟩ := gI_of e
      obtain ⟨_, _, e⟩ := gI_of e
      obtain ⟨_, _, e⟩ := gI_of e
      cases e)
  | n + 1 => by
    obtain ih5 := J7_fill_53178_15_k n
    exact J7_fill_53178_15_v5 ih5
theorem J7_fill_53178_15_n0 {G G' : (Nat → Int32 → Int32 → Int32 → PH → Option Rs)} (hg5 : ∀ a0 a1 a2 a3 a4, Mo ((G) a0 a1 a2 a3 a4) ((G') a0 a1 a2 a3 a4)) (x0 : Nat) (x1 : Int32) (h : PH) : Mo (J7_fill_53178_15_g0 G x0 x1 h) (J7_fill_53178_15_g0 G' x0 x1 h) := J7_fill_53178_15_m0 hg5 x0 x1 h
theorem J7_fill_53178_15_n5 {G G' : (Nat → Int32 → Int32 → Int32 → PH → Option Rs)} (hg5 : ∀ a0 a1 a2 a3 a4, Mo ((G) a0 a1 a2 a3 a4) ((G') a0 a1 a2 a3 a4)) (x0 : Nat) (x1 : Int32) (x2 : Int32) (x3 : Int32) (h : PH) : Mo (J7_fill_53178_15_g5 G x0 x1 x2 x3 h) (J7_fill_53178_15_g5 G' x0 x1 x2 x3 h) := J7_fill_53178_15_m5 hg5 x0 x1 x2 x3 h
theorem J7_fill_53178_15_fm : ∀ n, (∀ a0 a1 a2 a3 a4, Mo ((J7_fill_53178_15_fam n) a0 a1 a2 a3 a4) ((J7_fill_53178_15_fam (n + 1)) a0 a1 a2 a3 a4))
  | 0 => fun _ _ _ _ _ => mo_no
  | n + 1 => by
    obtain ih5 := J7_fill_53178_15_fm n
    exact fun a0 a1 a2 a3 a4 => J7_fill_53178_15_n5 ih5 a0 a1 a2 a3 a4
noncomputable def J7_fill_53178_15 (x0 : Nat) (x1 : Int32) (h : PH) : Option Rs := lim (fun n => J7_fill_53178_15_g0 (J7_fill_53178_15_fam n) x0 x1 h)
theorem J7_fill_53178_15_iff {x0 : Nat} {x1 : Int32} {h : PH} {r : Rs} : J7_fill_53178_15 x0 x1 h = some r ↔ ∃ n, J7_fill_53178_15_g0 (J7_fill_53178_15_fam n) x0 x1 h = some r := lim_iff (fun n => by
  obtain ih5 := J7_fill_53178_15_fm n
  exact J7_fill_53178_15_n0 ih5 x0 x1 h)
noncomputable abbrev J7_fill_53178_15_F : List PV → PH → Option Rs := FW_R15I (J7_fill_53178_15)
set_option maxRecDepth 100000 in
theorem J7_fill_53178_15_gd (l : Launch) : Gd l 0 yJ7_fill_53178 cJ7_fill_53178 4 none (J7_fill_53178_15_F) := Gd_of (by decide +kernel) (fun z hzl as h r e => by
  obtain ⟨hst, e⟩ := gL_of e
  obtain ⟨x0, q0, e⟩ := gR_of e
  obtain ⟨x1, q1, e⟩ := gI_of e
  rw [st_2 hst q0 q1]
  obtain ⟨n, e⟩ := lim_of e
  obtain hG5 := J7_fill_53178_15_k (z := z) n
  exact ⟨show 2 ≤ 4 by decide, J7_fill_53178_15_s0 hG5 _ _ _ _ ((J7_fill_53178_15_l0 (J7_fill_53178_15_fam n) x0 x1 h).trans e)⟩)
abbrev J7_fill_53178_20_x (z : CZ) : CX := mx RJ7 cJ7_fill_53178 4 0 none "fill" z
noncomputable def J7_fill_53178_20_b0 (k5 : Kn) : Kn := (a_ic 0 (a_is 2 (a_al 0 (a_len 20 (a_is 3 k5)))))
set_option maxRecDepth 100000 in
theorem J7_fill_53178_20_s0 {z : CZ} {k5 : Kn} (hk5 : SK (J7_fill_53178_20_x z) 5 k5) : SK (J7_fill_53178_20_x z) 0 (J7_fill_53178_20_b0 k5) := (s_iconst (pc := 0) dJ7_fill_53178_0 c_ic_0 (s_istoren (pc := 1) dJ7_fill_53178_1 rfl (show 2 < 4 by decide) (s_aloadn (pc := 2) dJ7_fill_53178_2 rfl (s_len (pc := 3) (by decide) (by decide) rfl dJ7_fill_53178_3 (s_istoren (pc := 4) dJ7_fill_53178_4 rfl (show 3 < 4 by decide) hk5)))))
noncomputable def J7_fill_53178_20_b5 (k5 : Kn) : Kn := (a_il 2 (a_il 3 (a_lt (a_al 0 (a_il 2 (a_il 1 (a_ast 20 1280 (fun a => a) (a_inc 2 1 k5))))) a_vr)))
set_option maxRecDepth 100000 in
theorem J7_fill_53178_20_s5 {z : CZ} {k5 : Kn} (hk5 : SK (J7_fill_53178_20_x z) 5 k5) : SK (J7_fill_53178_20_x z) 5 (J7_fill_53178_20_b5 k5) := (s_iloadn (pc := 5) dJ7_fill_53178_5 rfl (s_iloadn (pc := 6) dJ7_fill_53178_6 rfl (s_cmpge (pc := 7) dJ7_fill_53178_7 (by decide) (s_vr (pc := 20) rfl dJ7_fill_53178_20) (s_aloadn (pc := 10) dJ7_fill_53178_10 rfl (s_iloadn (pc := 11) dJ7_fill_53178_11 rfl (s_iloadn (pc := 12) dJ7_fill_53178_12 rfl (s_iast (pc := 13) (by decide) (by decide) rfl rfl rfl dJ7_fill_53178_13 (s_iinc (pc := 14) dJ7_fill_53178_14 c_ic_1 (show 2 < 4 by decide) (s_goto (pc := 17) dJ7_fill_53178_17 (by decide) hk5)))))))))
noncomputable def J7_fill_53178_20_u5 (g : Nat → Int32 → Int32 → Int32 → PH → Option Rs) : Kn := fun ls st h => gL 0 st (gR 20 ls 0 fun x0 => gI ls 1 fun x1 => gI ls 2 fun x2 => gI ls 3 fun x3 => g x0 x1 x2 x3 h)
noncomputable def J7_fill_53178_20_f0 (g5 : Nat → Int32 → Int32 → Int32 → PH → Option Rs) (x0 : Nat) (x1 : Int32) (h : PH) : Option Rs :=
  nn x0 fun r1 =>
  g5 x0 x1 0 (Int32.ofNat (hL h 20 r1)) h
set_option maxRecDepth 100000 in
theorem J7_fill_53178_20_l0 (g5 : Nat → Int32 → Int32 → Int32 → PH → Option Rs) (x0 : Nat) (x1 : Int32) (h : PH) : J7_fill_53178_20_b0 (J7_fill_53178_20_u5 g5) [some (.inr (20, x0)), some (.inl x1), none, none] [] h = J7_fill_53178_20_f0 g5 x0 x1 h := rfl
theorem J7_fill_53178_20_m0 {g5 G5 : Nat → Int32 → Int32 → Int32 → PH → Option Rs} (hg5 : ∀ a0 a1 a2 a3 a4, Mo (g5 a0 a1 a2 a3 a4) (G5 a0 a1 a2 a3 a4)) (x0 : Nat) (x1 : Int32) (h : PH) : Mo (J7_fill_53178_20_f0 g5 x0 x1 h) (J7_fill_53178_20_f0 G5 x0 x1 h) := (mo_nn fun r1 => (hg5 x0 x1 0 (Int32.ofNat (hL h 20 r1)) h))
noncomputable def J7_fill_53178_20_f5 (g5 : Nat → Int32 → Int32 → Int32 → PH → Option Rs) (x0 : Nat) (x1 : Int32) (x2 : Int32) (x3 : Int32) (h : PH) : Option Rs :=
  if x2 < x3 then
    nn x0 fun r2 =>
    ix x2 (hL h 20 r2) fun j3 =>
    wr (pI h 1280 r2 j3 x1) fun h4 =>
    g5 x0 x1 (x2 + 1) x3 h4
  else
    some (none, h)
set_option maxRecDepth 100000 in
theorem J7_fill_53178_20_l5 (g5 : Nat → Int32 → Int32 → Int32 → PH → Option Rs) (x0 : Nat) (x1 : Int32) (x2 : Int32) (x3 : Int32) (h : PH) : J7_fill_53178_20_b5 (J7_fill_53178_20_u5 g5) [some (.inr (20, x0)), some (.inl x1), some (.inl x2), some (.inl x3)] [] h = J7_fill_53178_20_f5 g5 x0 x1 x2 x3 h := rfl
theorem J7_fill_53178_20_m5 {g5 G5 : Nat → Int32 → Int32 → Int32 → PH → Option Rs} (hg5 : ∀ a0 a1 a2 a3 a4, Mo (g5 a0 a1 a2 a3 a4) (G5 a0 a1 a2 a3 a4)) (x0 : Nat) (x1 : Int32) (x2 : Int32) (x3 : Int32) (h : PH) : Mo (J7_fill_53178_20_f5 g5 x0 x1 x2 x3 h) (J7_fill_53178_20_f5 G5 x0 x1 x2 x3 h) := (mo_if (mo_nn fun r2 => (mo_ix fun j3 => (mo_wr fun h4 => (hg5 x0 x1 (x2 + 1) x3 h4)))) mo_rf)
theorem J7_fill_53178_20_w5 {z : CZ} {g5 : Nat → Int32 → Int32 → Int32 → PH → Option Rs} (hk5 : SK (J7_fill_53178_20_x z) 5 (J7_fill_53178_20_u5 g5)) : SK (J7_fill_53178_20_x z) 5 (J7_fill_53178_20_u5 (J7_fill_53178_20_f5 g5)) := by
  intro ls st h r e
  obtain ⟨hst, e⟩ := gL_of e
  obtain ⟨x0, q0, e⟩ := gR_of e
  obtain ⟨x1, q1, e⟩ := gI_of e
  obtain ⟨x2, q2, e⟩ := gI_of e
  obtain ⟨x3, q3, e⟩ := gI_of e
  rw [st_0 hst]
  exact WK.sub (canon := [some (.inr (20, x0)), some (.inl x1), some (.inl x2), some (.inl x3)]) rfl ⟨q0, q1, q2, q3, trivial⟩ (J7_fill_53178_20_s5 hk5 _ _ _ _ ((J7_fill_53178_20_l5 g5 x0 x1 x2 x3 h).trans e))
noncomputable def J7_fill_53178_20_g0 (G : (Nat → Int32 → Int32 → Int32 → PH → Option Rs)) (x0 : Nat) (x1 : Int32) (h : PH) : Option Rs := J7_fill_53178_20_f0 (G) x0 x1 h
noncomputable def J7_fill_53178_20_g5 (G : (Nat → Int32 → Int32 → Int32 → PH → Option Rs)) (x0 : Nat) (x1 : Int32) (x2 : Int32) (x3 : Int32) (h : PH) : Option Rs := J7_fill_53178_20_f5 (G) x0 x1 x2 x3 h
theorem J7_fill_53178_20_v5 {z : CZ} {G : (Nat → Int32 → Int32 → Int32 → PH → Option Rs)} (hG5 : SK (J7_fill_53178_20_x z) 5 (J7_fill_53178_20_u5 (G))) : SK (J7_fill_53178_20_x z) 5 (J7_fill_53178_20_u5 (J7_fill_53178_20_g5 G)) := J7_fill_53178_20_w5 hG5
noncomputable def J7_fill_53178_20_fam : Nat → (Nat → Int32 → Int32 → Int32 → PH → Option Rs)
  | 0 => fun _ _ _ _ _ => none
  | n + 1 => J7_fill_53178_20_g5 (J7_fill_53178_20_fam n)
theorem J7_fill_53178_20_k {z : CZ} : ∀ n, SK (J7_fill_53178_20_x z) 5 (J7_fill_53178_20_u5 (J7_fill_53178_20_fam n))
  | 0 => (fun ls st h r e => by
      obtain ⟨_, e⟩ := gL_of e
      obtain ⟨_, _, e⟩ := gR_of e
      obtain ⟨_, _, e⟩ := gI_of e
      obtain ⟨_, _, e⟩ := gI_of e
      obtain ⟨_, _, e⟩ := gI_of e
      cases e)
  | n + 1 => by
    obtain ih5 := J7_fill_53178_20_k n
    exact J7_fill_53178_20_v5 ih5
theorem J7_fill_53178_20_n0 {G G' : (Nat → Int32 → Int32 → Int32 → PH → Option Rs)} (hg5 : ∀ a0 a1 a2 a3 a4, Mo ((G) a0 a1 a2 a3 a4) ((G') a0 a1 a2 a3 a4)) (x0 : Nat) (x1 : Int32) (h : PH) : Mo (J7_fill_53178_20_g0 G x0 x1 h) (J7_fill_53178_20_g0 G' x0 x1 h) := J7_fill_53178_20_m0 hg5 x0 x1 h
theorem J7_fill_53178_20_n5 {G G' : (Nat → Int32 → Int32 → Int32 → PH → Option Rs)} (hg5 : ∀ a0 a1 a2 a3 a4, Mo ((G) a0 a1 a2 a3 a4) ((G') a0 a1 a2 a3 a4)) (x0 : Nat) (x1 : Int32) (x2 : Int32) (x3 : Int32) (h : PH) : Mo (J7_fill_53178_20_g5 G x0 x1 x2 x3 h) (J7_fill_53178_20_g5 G' x0 x1 x2 x3 h) := J7_fill_53178_20_m5 hg5 x0 x1 x2 x3 h
theorem J7_fill_53178_20_fm : ∀ n, (∀ a0 a1 a2 a3 a4, Mo ((J7_fill_53178_20_fam n) a0 a1 a2 a3 a4) ((J7_fill_53178_20_fam (n + 1)) a0 a1 a2 a3 a4))
  | 0 => fun _ _ _ _ _ => mo_no
  | n + 1 => by
    obtain ih5 := J7_fill_53178_20_fm n
    exact fun a0 a1 a2 a3 a4 => J7_fill_53178_20_n5 ih5 a0 a1 a2 a3 a4
noncomputable def J7_fill_53178_20 (x0 : Nat) (x1 : Int32) (h : PH) : Option Rs := lim (fun n => J7_fill_53178_20_g0 (J7_fill_53178_20_fam n) x0 x1 h)
theorem J7_fill_53178_20_iff {x0 : Nat} {x1 : Int32} {h : PH} {r : Rs} : J7_fill_53178_20 x0 x1 h = some r ↔ ∃ n, J7_fill_53178_20_g0 (J7_fill_53178_20_fam n) x0 x1 h = some r := lim_iff (fun n => by
  obtain ih5 := J7_fill_53178_20_fm n
  exact J7_fill_53178_20_n0 ih5 x0 x1 h)
noncomputable abbrev J7_fill_53178_20_F : List PV → PH → Option Rs := FW_R20I (J7_fill_53178_20)
set_option maxRecDepth 100000 in
theorem J7_fill_53178_20_gd (l : Launch) : Gd l 0 yJ7_fill_53178 cJ7_fill_53178 4 none (J7_fill_53178_20_F) := Gd_of (by decide +kernel) (fun z hzl as h r e => by
  obtain ⟨hst, e⟩ := gL_of e
  obtain ⟨x0, q0, e⟩ := gR_of e
  obtain ⟨x1, q1, e⟩ := gI_of e
  rw [st_2 hst q0 q1]
  obtain ⟨n, e⟩ := lim_of e
  obtain hG5 := J7_fill_53178_20_k (z := z) n
  exact ⟨show 2 ≤ 4 by decide, J7_fill_53178_20_s0 hG5 _ _ _ _ ((J7_fill_53178_20_l0 (J7_fill_53178_20_fam n) x0 x1 h).trans e)⟩)
abbrev X1_init_x (z : CZ) : CX := mx RX1 cX1_init 2 1 none "<init>" z
noncomputable def X1_init_b0 (k29 : Kn) : Kn := (a_al 0 (a_oi (a_al 0 (a_ic 20 (a_nwa 14 (a_pR 1 64 14 (a_al 0 (a_ic 96 (a_nwa 15 (a_pR 1 65 15 (a_al 0 (a_ic 10 (a_nwa 16 (a_pR 1 66 16 k29))))))))))))))
set_option maxRecDepth 100000 in
theorem X1_init_s0 {z : CZ} {k29 : Kn} (hk29 : SK (X1_init_x z) 29 k29) : SK (X1_init_x z) 0 (X1_init_b0 k29) := (s_aloadn (pc := 0) dX1_init_0 rfl (s_oi (pc := 1) w_114 w_107 w_108 dX1_init_1 (s_aloadn (pc := 4) dX1_init_4 rfl (s_bipush (pc := 5) dX1_init_5 c_bp_20 (s_nwq (pc := 7) (by decide) (by decide) rfl rfl (by decide) w_115 dX1_init_7 (s_pRF (pc := 10) (f := 0) ko_1 (by decide) rfl rfl rfl rfl rfl (tyX1_ok 0 (by decide)) rfl w_213 dX1_init_10 (s_aloadn (pc := 13) dX1_init_13 rfl (s_bipush (pc := 14) dX1_init_14 c_bp_96 (s_nwa (pc := 16) (at0 := .int) (by decide) (by decide) rfl rfl rfl (by decide) w_161 dX1_init_16 (s_pRF (pc := 18) (f := 1) ko_1 (by decide) rfl rfl rfl rfl rfl (tyX1_ok 1 (by decide)) rfl w_218 dX1_init_18 (s_aloadn (pc := 21) dX1_init_21 rfl (s_bipush (pc := 22) dX1_init_22 c_bp_10 (s_nwa (pc := 24) (at0 := .int) (by decide) (by decide) rfl rfl rfl (by decide) w_161 dX1_init_24 (s_pRF (pc := 26) (f := 2) ko_1 (by decide) rfl rfl rfl rfl rfl (tyX1_ok 2 (by decide)) rfl w_219 dX1_init_26 hk29))))))))))))))
noncomputable def X1_init_b29 (k55 : Kn) : Kn := (a_al 0 (a_ic 10 (a_nwa 17 (a_pR 1 67 17 (a_al 0 (a_ic 14 (a_nwa 18 (a_pR 1 68 18 (a_al 0 (a_ic 14 (a_nwa 19 (a_pR 1 69 19 k55))))))))))))
set_option maxRecDepth 100000 in
theorem X1_init_s29 {z : CZ} {k55 : Kn} (hk55 : SK (X1_init_x z) 55 k55) : SK (X1_init_x z) 29 (X1_init_b29 k55) := (s_aloadn (pc := 29) dX1_init_29 rfl (s_bipush (pc := 30) dX1_init_30 c_bp_10 (s_nwa (pc := 32) (at0 := .int) (by decide) (by decide) rfl rfl rfl (by decide) w_161 dX1_init_32 (s_pRF (pc := 34) (f := 3) ko_1 (by decide) rfl rfl rfl rfl rfl (tyX1_ok 3 (by decide)) rfl w_224 dX1_init_34 (s_aloadn (pc := 37) dX1_init_37 rfl (s_bipush (pc := 38) dX1_init_38 c_bp_14 (s_nwq (pc := 40) (by decide) (by decide) rfl rfl (by decide) w_117 dX1_init_40 (s_pRF (pc := 43) (f := 4) ko_1 (by decide) rfl rfl rfl rfl rfl (tyX1_ok 4 (by decide)) rfl w_229 dX1_init_43 (s_aloadn (pc := 46) dX1_init_46 rfl (s_bipush (pc := 47) dX1_init_47 c_bp_14 (s_nwq (pc := 49) (by decide) (by decide) rfl rfl (by decide) w_119 dX1_init_49 (s_pRF (pc := 52) (f := 5) ko_1 (by decide) rfl rfl rfl rfl rfl (tyX1_ok 5 (by decide)) rfl w_234 dX1_init_52 hk55))))))))))))
noncomputable def X1_init_b55 (k75 : Kn) : Kn := (a_al 0 (a_ic 3 (a_nwa 20 (a_pR 1 70 20 (a_al 0 (a_ic 6 (a_nwa 21 (a_pR 1 71 21 (a_al 0 (a_ic 0 (a_pI 1 72 k75)))))))))))
set_option maxRecDepth 100000 in
theorem X1_init_s55 {z : CZ} {k75 : Kn} (hk75 : SK (X1_init_x z) 75 k75) : SK (X1_init_x z) 55 (X1_init_b55 k75) := (s_aloadn (pc := 55) dX1_init_55 rfl (s_iconst (pc := 56) dX1_init_56 c_ic_3 (s_nwa (pc := 57) (at0 := .int) (by decide) (by decide) rfl rfl rfl (by decide) w_161 dX1_init_57 (s_pRF (pc := 59) (f := 6) ko_1 (by decide) rfl rfl rfl rfl rfl (tyX1_ok 6 (by decide)) rfl w_236 dX1_init_59 (s_aloadn (pc := 62) dX1_init_62 rfl (s_bipush (pc := 63) dX1_init_63 c_bp_6 (s_nwa (pc := 65) (at0 := .int) (by decide) (by decide) rfl rfl rfl (by decide) w_161 dX1_init_65 (s_pRF (pc := 67) (f := 7) ko_1 (by decide) rfl rfl rfl rfl rfl (tyX1_ok 7 (by decide)) rfl w_238 dX1_init_67 (s_aloadn (pc := 70) dX1_init_70 rfl (s_iconst (pc := 71) dX1_init_71 c_ic_0 (s_pI (pc := 72) (f := 8) ko_1 (by decide) rfl rfl rfl (by decide +kernel) w_241 dX1_init_72 hk75)))))))))))
noncomputable def X1_init_b75 (k100 : Kn) : Kn := (a_al 0 (a_ic 0 (a_pI 1 73 (a_al 0 (a_ic 0 (a_pI 1 74 (a_al 0 (a_ic 0 (a_pI 1 75 (a_al 0 (a_ic 0 (a_pI 1 76 (a_al 0 (a_ic 0 (a_pI 1 77 k100)))))))))))))))
set_option maxRecDepth 100000 in
theorem X1_init_s75 {z : CZ} {k100 : Kn} (hk100 : SK (X1_init_x z) 100 k100) : SK (X1_init_x z) 75 (X1_init_b75 k100) := (s_aloadn (pc := 75) dX1_init_75 rfl (s_iconst (pc := 76) dX1_init_76 c_ic_0 (s_pI (pc := 77) (f := 9) ko_1 (by decide) rfl rfl rfl (by decide +kernel) w_244 dX1_init_77 (s_aloadn (pc := 80) dX1_init_80 rfl (s_iconst (pc := 81) dX1_init_81 c_ic_0 (s_pI (pc := 82) (f := 10) ko_1 (by decide) rfl rfl rfl (by decide +kernel) w_247 dX1_init_82 (s_aloadn (pc := 85) dX1_init_85 rfl (s_iconst (pc := 86) dX1_init_86 c_ic_0 (s_pI (pc := 87) (f := 11) ko_1 (by decide) rfl rfl rfl (by decide +kernel) w_251 dX1_init_87 (s_aloadn (pc := 90) dX1_init_90 rfl (s_iconst (pc := 91) dX1_init_91 c_ic_0 (s_pI (pc := 92) (f := 12) ko_1 (by decide) rfl rfl rfl (by decide +kernel) w_256 dX1_init_92 (s_aloadn (pc := 95) dX1_init_95 rfl (s_iconst (pc := 96) dX1_init_96 c_ic_0 (s_pI (pc := 97) (f := 13) ko_1 (by decide) rfl rfl rfl (by decide +kernel) w_258 dX1_init_97 hk100)))))))))))))))
noncomputable def X1_init_b100 (k118 : Kn) : Kn := (a_al 0 (a_ic 8 (a_pI 1 78 (a_al 0 (a_ic 0 (a_pI 1 79 (a_al 0 (a_ic 1 (a_pI 1 80 (a_ic 0 (a_is 1 k118)))))))))))
set_option maxRecDepth 100000 in
theorem X1_init_s100 {z : CZ} {k118 : Kn} (hk118 : SK (X1_init_x z) 118 k118) : SK (X1_init_x z) 100 (X1_init_b100 k118) := (s_aloadn (pc := 100) dX1_init_100 rfl (s_bipush (pc := 101) dX1_init_101 c_bp_8 (s_pI (pc := 103) (f := 14) ko_1 (by decide) rfl rfl rfl (by decide +kernel) w_261 dX1_init_103 (s_aloadn (pc := 106) dX1_init_106 rfl (s_iconst (pc := 107) dX1_init_107 c_ic_0 (s_pI (pc := 108) (f := 15) ko_1 (by decide) rfl rfl rfl (by decide +kernel) w_263 dX1_init_108 (s_aloadn (pc := 111) dX1_init_111 rfl (s_iconst (pc := 112) dX1_init_112 c_ic_1 (s_pI (pc := 113) (f := 16) ko_1 (by decide) rfl rfl rfl (by decide +kernel) w_265 dX1_init_113 (s_iconst (pc := 116) dX1_init_116 c_ic_0 (s_istoren (pc := 117) dX1_init_117 rfl (show 1 < 2 by decide) hk118)))))))))))
noncomputable def X1_init_b118 (c_X10_init : Nat → PH → Option Rs) (k118 k145 : Kn) : Kn := (a_il 1 (a_ic 20 (a_lt (a_al 0 (a_gR 1 64 14 (a_il 1 (a_new 9 6 (a_dup (a_vV 9 0 (FW_T9 c_X10_init) (a_rast 14 896 9 (a_inc 1 1 k118)))))))) (a_ic 0 (a_is 1 k145)))))
set_option maxRecDepth 100000 in
theorem X1_init_s118 {z : CZ} {k118 k145 : Kn} (hk118 : SK (X1_init_x z) 118 k118) (hk145 : SK (X1_init_x z) 145 k145) : SK (X1_init_x z) 118 (X1_init_b118 X10_init k118 k145) := (s_iloadn (pc := 118) dX1_init_118 rfl (s_bipush (pc := 119) dX1_init_119 c_bp_20 (s_cmpge (pc := 121) dX1_init_121 (by decide) (s_iconst (pc := 143) dX1_init_143 c_ic_0 (s_istoren (pc := 144) dX1_init_144 rfl (show 1 < 2 by decide) hk145)) (s_aloadn (pc := 124) dX1_init_124 rfl (s_gR (pc := 125) (f := 0) ko_1 (by decide) rfl rfl w_213 dX1_init_125 (s_iloadn (pc := 128) dX1_init_128 rfl (s_new (pc := 129) ko_9 rfl kd_9 w_115 w_121 w_81 dX1_init_129 (s_dup (pc := 132) dX1_init_132 (s_vV (pc := 133) (run_initN (X10_init_gd _) (show 0 < 1 by decide) cy_X10_init w_123 rfl nw_122 dX1_init_133) (s_rast (pc := 136) (by decide) (by decide) rfl (by decide) rfl rfl rfl dX1_init_136 (s_iinc (pc := 137) dX1_init_137 c_ic_1 (show 1 < 2 by decide) (s_goto (pc := 140) dX1_init_140 (by decide) hk118))))))))))))
noncomputable def X1_init_b145 (c_J7_fill_53178_15 : Nat → Int32 → PH → Option Rs) (c_J7_fill_53178_20 : Nat → Int32 → PH → Option Rs) (c_X6_init : Nat → PH → Option Rs) (k145 : Kn) : Kn := (a_il 1 (a_ic 14 (a_lt (a_al 0 (a_gR 1 68 18 (a_il 1 (a_new 5 7 (a_dup (a_vV 5 0 (FW_T5 c_X6_init) (a_rast 18 1152 5 (a_inc 1 1 k145)))))))) (a_al 0 (a_gR 1 65 15 (a_ic (-1) (a_sV 2 (FW_R15I c_J7_fill_53178_15) (a_al 0 (a_gR 1 70 20 (a_ic (-1) (a_sV 2 (FW_R20I c_J7_fill_53178_20) a_vr)))))))))))
set_option maxRecDepth 100000 in
theorem X1_init_s145 {z : CZ} {k145 : Kn} (hk145 : SK (X1_init_x z) 145 k145) : SK (X1_init_x z) 145 (X1_init_b145 J7_fill_53178_15 J7_fill_53178_20 X6_init k145) := (s_iloadn (pc := 145) dX1_init_145 rfl (s_bipush (pc := 146) dX1_init_146 c_bp_14 (s_cmpge (pc := 148) dX1_init_148 (by decide) (s_aloadn (pc := 170) dX1_init_170 rfl (s_gR (pc := 171) (f := 1) ko_1 (by decide) rfl rfl w_218 dX1_init_171 (s_iconst (pc := 174) dX1_init_174 c_ic_m1 (s_sV (pc := 175) (run_static (J7_fill_53178_15_gd _) (show 0 < 1 by decide) cy_J7_fill_53178 w_211 w_210 dX1_init_175) (s_aloadn (pc := 178) dX1_init_178 rfl (s_gR (pc := 179) (f := 6) ko_1 (by decide) rfl rfl w_236 dX1_init_179 (s_iconst (pc := 182) dX1_init_182 c_ic_m1 (s_sV (pc := 183) (run_static (J7_fill_53178_20_gd _) (show 0 < 1 by decide) cy_J7_fill_53178 w_211 w_210 dX1_init_183) (s_vr (pc := 186) rfl dX1_init_186))))))))) (s_aloadn (pc := 151) dX1_init_151 rfl (s_gR (pc := 152) (f := 4) ko_1 (by decide) rfl rfl w_229 dX1_init_152 (s_iloadn (pc := 155) dX1_init_155 rfl (s_new (pc := 156) ko_5 rfl kd_5 w_117 w_162 w_82 dX1_init_156 (s_dup (pc := 159) dX1_init_159 (s_vV (pc := 160) (run_initN (X6_init_gd _) (show 0 < 1 by decide) cy_X6_init w_164 rfl nw_163 dX1_init_160) (s_rast (pc := 163) (by decide) (by decide) rfl (by decide) rfl rfl rfl dX1_init_163 (s_iinc (pc := 164) dX1_init_164 c_ic_1 (show 1 < 2 by decide) (s_goto (pc := 167) dX1_init_167 (by decide) hk145))))))))))))
noncomputable def X1_init_u29 (g : Nat → PH → Option Rs) : Kn := fun ls st h => gL 0 st (gT 1 ls 0 fun t => g t h)
noncomputable def X1_init_u55 (g : Nat → PH → Option Rs) : Kn := fun ls st h => gL 0 st (gT 1 ls 0 fun t => g t h)
noncomputable def X1_init_u75 (g : Nat → PH → Option Rs) : Kn := fun ls st h => gL 0 st (gT 1 ls 0 fun t => g t h)
noncomputable def X1_init_u100 (g : Nat → PH → Option Rs) : Kn := fun ls st h => gL 0 st (gT 1 ls 0 fun t => g t h)
noncomputable def X1_init_u118 (g : Nat → Int32 → PH → Option Rs) : Kn := fun ls st h => gL 0 st (gT 1 ls 0 fun t => gI ls 1 fun x1 => g t x1 h)
noncomputable def X1_init_u145 (g : Nat → Int32 → PH → Option Rs) : Kn := fun ls st h => gL 0 st (gT 1 ls 0 fun t => gI ls 1 fun x1 => g t x1 h)
noncomputable def X1_init_f0 (g29 : Nat → PH → Option Rs) (t : Nat) (h : PH) : Option Rs :=
  nl 20 fun n1 =>
  wr (nw h 14 n1 n1) fun h2 =>
  wr (pR h2 64 t 0 (hN h 14 + 1)) fun h3 =>
  nl 96 fun n4 =>
  wr (nw h3 15 n4 n4) fun h5 =>
  wr (pR h5 65 t 0 (hN h3 15 + 1)) fun h6 =>
  nl 10 fun n7 =>
  wr (nw h6 16 n7 n7) fun h8 =>
  wr (pR h8 66 t 0 (hN h6 16 + 1)) fun h9 =>
  g29 t h9
set_option maxRecDepth 100000 in
theorem X1_init_l0 (g29 : Nat → PH → Option Rs) (t : Nat) (h : PH) : X1_init_b0 (X1_init_u29 g29) [some (.inr (1, t + 1)), none] [] h = X1_init_f0 g29 t h := rfl
theorem X1_init_m0 {g29 G29 : Nat → PH → Option Rs} (hg29 : ∀ a0 a1, Mo (g29 a0 a1) (G29 a0 a1)) (t : Nat) (h : PH) : Mo (X1_init_f0 g29 t h) (X1_init_f0 G29 t h) := (mo_nl fun n1 => (mo_wr fun h2 => (mo_wr fun h3 => (mo_nl fun n4 => (mo_wr fun h5 => (mo_wr fun h6 => (mo_nl fun n7 => (mo_wr fun h8 => (mo_wr fun h9 => (hg29 t h9))))))))))
noncomputable def X1_init_f29 (g55 : Nat → PH → Option Rs) (t : Nat) (h : PH) : Option Rs :=
  nl 10 fun n10 =>
  wr (nw h 17 n10 n10) fun h11 =>
  wr (pR h11 67 t 0 (hN h 17 + 1)) fun h12 =>
  nl 14 fun n13 =>
  wr (nw h12 18 n13 n13) fun h14 =>
  wr (pR h14 68 t 0 (hN h12 18 + 1)) fun h15 =>
  nl 14 fun n16 =>
  wr (nw h15 19 n16 n16) fun h17 =>
  wr (pR h17 69 t 0 (hN h15 19 + 1)) fun h18 =>
  g55 t h18
set_option maxRecDepth 100000 in
theorem X1_init_l29 (g55 : Nat → PH → Option Rs) (t : Nat) (h : PH) : X1_init_b29 (X1_init_u55 g55) [some (.inr (1, t + 1)), none] [] h = X1_init_f29 g55 t h := rfl
theorem X1_init_m29 {g55 G55 : Nat → PH → Option Rs} (hg55 : ∀ a0 a1, Mo (g55 a0 a1) (G55 a0 a1)) (t : Nat) (h : PH) : Mo (X1_init_f29 g55 t h) (X1_init_f29 G55 t h) := (mo_nl fun n10 => (mo_wr fun h11 => (mo_wr fun h12 => (mo_nl fun n13 => (mo_wr fun h14 => (mo_wr fun h15 => (mo_nl fun n16 => (mo_wr fun h17 => (mo_wr fun h18 => (hg55 t h18))))))))))
theorem X1_init_w29 {z : CZ} {g55 : Nat → PH → Option Rs} (hk55 : SK (X1_init_x z) 55 (X1_init_u55 g55)) : SK (X1_init_x z) 29 (X1_init_u29 (X1_init_f29 g55)) := by
  intro ls st h r e
  obtain ⟨hst, e⟩ := gL_of e
  obtain ⟨t, q0, e⟩ := gT_of e
  rw [st_0 hst]
  exact WK.sub (canon := [some (.inr (1, t + 1)), none]) rfl ⟨q0, trivial⟩ (X1_init_s29 hk55 _ _ _ _ ((X1_init_l29 g55 t h).trans e))
noncomputable def X1_init_f55 (g75 : Nat → PH → Option Rs) (t : Nat) (h : PH) : Option Rs :=
  nl 3 fun n19 =>
  wr (nw h 20 n19 n19) fun h20 =>
  wr (pR h20 70 t 0 (hN h 20 + 1)) fun h21 =>
  nl 6 fun n22 =>
  wr (nw h21 21 n22 n22) fun h23 =>
  wr (pR h23 71 t 0 (hN h21 21 + 1)) fun h24 =>
  wr (pI h24 72 t 0 0) fun h25 =>
  g75 t h25
set_option maxRecDepth 100000 in
theorem X1_init_l55 (g75 : Nat → PH → Option Rs) (t : Nat) (h : PH) : X1_init_b55 (X1_init_u75 g75) [some (.inr (1, t + 1)), none] [] h = X1_init_f55 g75 t h := rfl
theorem X1_init_m55 {g75 G75 : Nat → PH → Option Rs} (hg75 : ∀ a0 a1, Mo (g75 a0 a1) (G75 a0 a1)) (t : Nat) (h : PH) : Mo (X1_init_f55 g75 t h) (X1_init_f55 G75 t h) := (mo_nl fun n19 => (mo_wr fun h20 => (mo_wr fun h21 => (mo_nl fun n22 => (mo_wr fun h23 => (mo_wr fun h24 => (mo_wr fun h25 => (hg75 t h25))))))))
theorem X1_init_w55 {z : CZ} {g75 : Nat → PH → Option Rs} (hk75 : SK (X1_init_x z) 75 (X1_init_u75 g75)) : SK (X1_init_x z) 55 (X1_init_u55 (X1_init_f55 g75)) := by
  intro ls st h r e
  obtain ⟨hst, e⟩ := gL_of e
  obtain ⟨t, q0, e⟩ := gT_of e
  rw [st_0 hst]
  exact WK.sub (canon := [some (.inr (1, t + 1)), none]) rfl ⟨q0, trivial⟩ (X1_init_s55 hk75 _ _ _ _ ((X1_init_l55 g75 t h).trans e))
noncomputable def X1_init_f75 (g100 : Nat → PH → Option Rs) (t : Nat) (h : PH) : Option Rs :=
  wr (pI h 73 t 0 0) fun h26 =>
  wr (pI h26 74 t 0 0) fun h27 =>
  wr (pI h27 75 t 0 0) fun h28 =>
  wr (pI h28 76 t 0 0) fun h29 =>
  wr (pI h29 77 t 0 0) fun h30 =>
  g100 t h30
set_option maxRecDepth 100000 in
theorem X1_init_l75 (g100 : Nat → PH → Option Rs) (t : Nat) (h : PH) : X1_init_b75 (X1_init_u100 g100) [some (.inr (1, t + 1)), none] [] h = X1_init_f75 g100 t h := rfl
theorem X1_init_m75 {g100 G100 : Nat → PH → Option Rs} (hg100 : ∀ a0 a1, Mo (g100 a0 a1) (G100 a0 a1)) (t : Nat) (h : PH) : Mo (X1_init_f75 g100 t h) (X1_init_f75 G100 t h) := (mo_wr fun h26 => (mo_wr fun h27 => (mo_wr fun h28 => (mo_wr fun h29 => (mo_wr fun h30 => (hg100 t h30))))))
theorem X1_init_w75 {z : CZ} {g100 : Nat → PH → Option Rs} (hk100 : SK (X1_init_x z) 100 (X1_init_u100 g100)) : SK (X1_init_x z) 75 (X1_init_u75 (X1_init_f75 g100)) := by
  intro ls st h r e
  obtain ⟨hst, e⟩ := gL_of e
  obtain ⟨t, q0, e⟩ := gT_of e
  rw [st_0 hst]
  exact WK.sub (canon := [some (.inr (1, t + 1)), none]) rfl ⟨q0, trivial⟩ (X1_init_s75 hk100 _ _ _ _ ((X1_init_l75 g100 t h).trans e))
noncomputable def X1_init_f100 (g118 : Nat → Int32 → PH → Option Rs) (t : Nat) (h : PH) : Option Rs :=
  wr (pI h 78 t 0 8) fun h31 =>
  wr (pI h31 79 t 0 0) fun h32 =>
  wr (pI h32 80 t 0 1) fun h33 =>
  g118 t 0 h33
set_option maxRecDepth 100000 in
theorem X1_init_l100 (g118 : Nat → Int32 → PH → Option Rs) (t : Nat) (h : PH) : X1_init_b100 (X1_init_u118 g118) [some (.inr (1, t + 1)), none] [] h = X1_init_f100 g118 t h := rfl
theorem X1_init_m100 {g118 G118 : Nat → Int32 → PH → Option Rs} (hg118 : ∀ a0 a1 a2, Mo (g118 a0 a1 a2) (G118 a0 a1 a2)) (t : Nat) (h : PH) : Mo (X1_init_f100 g118 t h) (X1_init_f100 G118 t h) := (mo_wr fun h31 => (mo_wr fun h32 => (mo_wr fun h33 => (hg118 t 0 h33))))
theorem X1_init_w100 {z : CZ} {g118 : Nat → Int32 → PH → Option Rs} (hk118 : SK (X1_init_x z) 118 (X1_init_u118 g118)) : SK (X1_init_x z) 100 (X1_init_u100 (X1_init_f100 g118)) := by
  intro ls st h r e
  obtain ⟨hst, e⟩ := gL_of e
  obtain ⟨t, q0, e⟩ := gT_of e
  rw [st_0 hst]
  exact WK.sub (canon := [some (.inr (1, t + 1)), none]) rfl ⟨q0, trivial⟩ (X1_init_s100 hk118 _ _ _ _ ((X1_init_l100 g118 t h).trans e))
noncomputable def X1_init_f118 (c_X10_init : Nat → PH → Option Rs) (g118 : Nat → Int32 → PH → Option Rs) (g145 : Nat → Int32 → PH → Option Rs) (t : Nat) (x1 : Int32) (h : PH) : Option Rs :=
  if x1 < 20 then
    wr (nw h 9 0 6) fun h34 =>
    nn (hN h 9 + 1) fun r35 =>
    cV (c_X10_init r35 h34) fun h36 =>
    nn (hR h 64 t 0) fun r37 =>
    ix x1 (hL h36 14 r37) fun j38 =>
    wr (pR h36 896 r37 j38 (hN h 9 + 1)) fun h39 =>
    g118 t (x1 + 1) h39
  else
    g145 t 0 h
set_option maxRecDepth 100000 in
theorem X1_init_l118 (c_X10_init : Nat → PH → Option Rs) (g118 : Nat → Int32 → PH → Option Rs) (g145 : Nat → Int32 → PH → Option Rs) (t : Nat) (x1 : Int32) (h : PH) : X1_init_b118 c_X10_init (X1_init_u118 g118) (X1_init_u145 g145) [some (.inr (1, t + 1)), some (.inl x1)] [] h = X1_init_f118 c_X10_init g118 g145 t x1 h := rfl
theorem X1_init_m118 {c_X10_init : Nat → PH → Option Rs} {g118 G118 : Nat → Int32 → PH → Option Rs} {g145 G145 : Nat → Int32 → PH → Option Rs} (hg118 : ∀ a0 a1 a2, Mo (g118 a0 a1 a2) (G118 a0 a1 a2)) (hg145 : ∀ a0 a1 a2, Mo (g145 a0 a1 a2) (G145 a0 a1 a2)) (t : Nat) (x1 : Int32) (h : PH) : Mo (X1_init_f118 c_X10_init g118 g145 t x1 h) (X1_init_f118 c_X10_init G118 G145 t x1 h) := (mo_if (mo_wr fun h34 => (mo_nn fun r35 => (mo_cV fun h36 => (mo_nn fun r37 => (mo_ix fun j38 => (mo_wr fun h39 => (hg118 t (x1 + 1) h39))))))) (hg145 t 0 h))
theorem X1_init_w118 {z : CZ} {g118 : Nat → Int32 → PH → Option Rs} {g145 : Nat → Int32 → PH → Option Rs} (hk118 : SK (X1_init_x z) 118 (X1_init_u118 g118)) (hk145 : SK (X1_init_x z) 145 (X1_init_u145 g145)) : SK (X1_init_x z) 118 (X1_init_u118 (X1_init_f118 X10_init g118 g145)) := by
  intro ls st h r e
  obtain ⟨hst, e⟩ := gL_of e
  obtain ⟨t, q0, e⟩ := gT_of e
  obtain ⟨x1, q1, e⟩ := gI_of e
  rw [st_0 hst]
  exact WK.sub (canon := [some (.inr (1, t + 1)), some (.inl x1)]) rfl ⟨q0, q1, trivial⟩ (X1_init_s118 hk118 hk145 _ _ _ _ ((X1_init_l118 X10_init g118 g145 t x1 h).trans e))
noncomputable def X1_init_f145 (c_J7_fill_53178_15 : Nat → Int32 → PH → Option Rs) (c_J7_fill_53178_20 : Nat → Int32 → PH → Option Rs) (c_X6_init : Nat → PH → Option Rs) (g145 : Nat → Int32 → PH → Option Rs) (t : Nat) (x1 : Int32) (h : PH) : Option Rs :=
  if x1 < 14 then
    wr (nw h 5 0 7) fun h42 =>
    nn (hN h 5 + 1) fun r43 =>
    cV (c_X6_init r43 h42) fun h44 =>
    nn (hR h 68 t 0) fun r45 =>
    ix x1 (hL h44 18 r45) fun j46 =>
    wr (pR h44 1152 r45 j46 (hN h 5 + 1)) fun h47 =>
    g145 t (x1 + 1) h47
  else
    cV (c_J7_fill_53178_15 (hR h 65 t 0) (-1) h) fun h40 =>
    cV (c_J7_fill_53178_20 (hR h40 70 t 0) (-1) h40) fun h41 =>
    some (none, h41)
set_option maxRecDepth 100000 in
theorem X1_init_l145 (c_J7_fill_53178_15 : Nat → Int32 → PH → Option Rs) (c_J7_fill_53178_20 : Nat → Int32 → PH → Option Rs) (c_X6_init : Nat → PH → Option Rs) (g145 : Nat → Int32 → PH → Option Rs) (t : Nat) (x1 : Int32) (h : PH) : X1_init_b145 c_J7_fill_53178_15 c_J7_fill_53178_20 c_X6_init (X1_init_u145 g145) [some (.inr (1, t + 1)), some (.inl x1)] [] h = X1_init_f145 c_J7_fill_53178_15 c_J7_fill_53178_20 c_X6_init g145 t x1 h := rfl
theorem X1_init_m145 {c_J7_fill_53178_15 : Nat → Int32 → PH → Option Rs} {c_J7_fill_53178_20 : Nat → Int32 → PH → Option Rs} {c_X6_init : Nat → PH → Option Rs} {g145 G145 : Nat → Int32 → PH → Option Rs} (hg145 : ∀ a0 a1 a2, Mo (g145 a0 a1 a2) (G145 a0 a1 a2)) (t : Nat) (x1 : Int32) (h : PH) : Mo (X1_init_f145 c_J7_fill_53178_15 c_J7_fill_53178_20 c_X6_init g145 t x1 h) (X1_init_f145 c_J7_fill_53178_15 c_J7_fill_53178_20 c_X6_init G145 t x1 h) := (mo_if (mo_wr fun h42 => (mo_nn fun r43 => (mo_cV fun h44 => (mo_nn fun r45 => (mo_ix fun j46 => (mo_wr fun h47 => (hg145 t (x1 + 1) h47))))))) (mo_cV fun h40 => (mo_cV fun h41 => mo_rf)))
theorem X1_init_w145 {z : CZ} {g145 : Nat → Int32 → PH → Option Rs} (hk145 : SK (X1_init_x z) 145 (X1_init_u145 g145)) : SK (X1_init_x z) 145 (X1_init_u145 (X1_init_f145 J7_fill_53178_15 J7_fill_53178_20 X6_init g145)) := by
  intro ls st h r e
  obtain ⟨hst, e⟩ := gL_of e
  obtain ⟨t, q0, e⟩ := gT_of e
  obtain ⟨x1, q1, e⟩ := gI_of e
  rw [st_0 hst]
  exact WK.sub (canon := [some (.inr (1, t + 1)), some (.inl x1)]) rfl ⟨q0, q1, trivial⟩ (X1_init_s145 hk145 _ _ _ _ ((X1_init_l145 J7_fill_53178_15 J7_fill_53178_20 X6_init g145 t x1 h).trans e))
noncomputable def X1_init_g100 (G : (Nat → Int32 → PH → Option Rs) × (Nat → Int32 → PH → Option Rs)) (t : Nat) (h : PH) : Option Rs := X1_init_f100 (G).1 t h
noncomputable def X1_init_g75 (G : (Nat → Int32 → PH → Option Rs) × (Nat → Int32 → PH → Option Rs)) (t : Nat) (h : PH) : Option Rs := X1_init_f75 (X1_init_g100 G) t h
noncomputable def X1_init_g55 (G : (Nat → Int32 → PH → Option Rs) × (Nat → Int32 → PH → Option Rs)) (t : Nat) (h : PH) : Option Rs := X1_init_f55 (X1_init_g75 G) t h
noncomputable def X1_init_g29 (G : (Nat → Int32 → PH → Option Rs) × (Nat → Int32 → PH → Option Rs)) (t : Nat) (h : PH) : Option Rs := X1_init_f29 (X1_init_g55 G) t h
noncomputable def X1_init_g0 (G : (Nat → Int32 → PH → Option Rs) × (Nat → Int32 → PH → Option Rs)) (t : Nat) (h : PH) : Option Rs := X1_init_f0 (X1_init_g29 G) t h
noncomputable def X1_init_g118 (G : (Nat → Int32 → PH → Option Rs) × (Nat → Int32 → PH → Option Rs)) (t : Nat) (x1 : Int32) (h : PH) : Option Rs := X1_init_f118 X10_init (G).1 (G).2 t x1 h
noncomputable def X1_init_g145 (G : (Nat → Int32 → PH → Option Rs) × (Nat → Int32 → PH → Option Rs)) (t : Nat) (x1 : Int32) (h : PH) : Option Rs := X1_init_f145 J7_fill_53178_15 J7_fill_53178_20 X6_init (G).2 t x1 h
theorem X1_init_v100 {z : CZ} {G : (Nat → Int32 → PH → Option Rs) × (Nat → Int32 → PH → Option Rs)} (hG118 : SK (X1_init_x z) 118 (X1_init_u118 (G).1)) (hG145 : SK (X1_init_x z) 145 (X1_init_u145 (G).2)) : SK (X1_init_x z) 100 (X1_init_u100 (X1_init_g100 G)) := X1_init_w100 hG118
theorem X1_init_v75 {z : CZ} {G : (Nat → Int32 → PH → Option Rs) × (Nat → Int32 → PH → Option Rs)} (hG118 : SK (X1_init_x z) 118 (X1_init_u118 (G).1)) (hG145 : SK (X1_init_x z) 145 (X1_init_u145 (G).2)) : SK (X1_init_x z) 75 (X1_init_u75 (X1_init_g75 G)) := X1_init_w75 (X1_init_v100 hG118 hG145)
theorem X1_init_v55 {z : CZ} {G : (Nat → Int32 → PH → Option Rs) × (Nat → Int32 → PH → Option Rs)} (hG118 : SK (X1_init_x z) 118 (X1_init_u118 (G).1)) (hG145 : SK (X1_init_x z) 145 (X1_init_u145 (G).2)) : SK (X1_init_x z) 55 (X1_init_u55 (X1_init_g55 G)) := X1_init_w55 (X1_init_v75 hG118 hG145)
theorem X1_init_v29 {z : CZ} {G : (Nat → Int32 → PH → Option Rs) × (Nat → Int32 → PH → Option Rs)} (hG118 : SK (X1_init_x z) 118 (X1_init_u118 (G).1)) (hG145 : SK (X1_init_x z) 145 (X1_init_u145 (G).2)) : SK (X1_init_x z) 29 (X1_init_u29 (X1_init_g29 G)) := X1_init_w29 (X1_init_v55 hG118 hG145)
theorem X1_init_v118 {z : CZ} {G : (Nat → Int32 → PH → Option Rs) × (Nat → Int32 → PH → Option Rs)} (hG118 : SK (X1_init_x z) 118 (X1_init_u118 (G).1)) (hG145 : SK (X1_init_x z) 145 (X1_init_u145 (G).2)) : SK (X1_init_x z) 118 (X1_init_u118 (X1_init_g118 G)) := X1_init_w118 hG118 hG145
theorem X1_init_v145 {z : CZ} {G : (Nat → Int32 → PH → Option Rs) × (Nat → Int32 → PH → Option Rs)} (hG118 : SK (X1_init_x z) 118 (X1_init_u118 (G).1)) (hG145 : SK (X1_init_x z) 145 (X1_init_u145 (G).2)) : SK (X1_init_x z) 145 (X1_init_u145 (X1_init_g145 G)) := X1_init_w145 hG145
noncomputable def X1_init_fam : Nat → (Nat → Int32 → PH → Option Rs) × (Nat → Int32 → PH → Option Rs)
  | 0 => (fun _ _ _ => none, fun _ _ _ => none)
  | n + 1 => (X1_init_g118 (X1_init_fam n), X1_init_g145 (X1_init_fam n))
theorem X1_init_k {z : CZ} : ∀ n, SK (X1_init_x z) 118 (X1_init_u118 (X1_init_fam n).1) ∧ SK (X1_init_x z) 145 (X1_init_u145 (X1_init_fam n).2)
  | 0 => ⟨(fun ls st h r e => by
      obtain ⟨_, e⟩ := gL_of e
      obtain ⟨_, _, e⟩ := gT_of e
      obtain ⟨_, _, e⟩ := gI_of e
      cases e), (fun ls st h r e => by
      obtain ⟨_, e⟩ := gL_of e
      obtain ⟨_, _, e⟩ := gT_of e
      obtain ⟨_, _, e⟩ := gI_of e
      cases e)⟩
  | n + 1 => by
    obtain ⟨ih118, ih145⟩ := X1_init_k n
    exact ⟨X1_init_v118 ih118 ih145, X1_init_v145 ih118 ih145⟩
theorem X1_init_n100 {G G' : (Nat → Int32 → PH → Option Rs) × (Nat → Int32 → PH → Option Rs)} (hg118 : ∀ a0 a1 a2, Mo ((G).1 a0 a1 a2) ((G').1 a0 a1 a2)) (hg145 : ∀ a0 a1 a2, Mo ((G).2 a0 a1 a2) ((G').2 a0 a1 a2)) (t : Nat) (h : PH) : Mo (X1_init_g100 G t h) (X1_init_g100 G' t h) := X1_init_m100 hg118 t h
theorem X1_init_n75 {G G' : (Nat → Int32 → PH → Option Rs) × (Nat → Int32 → PH → Option Rs)} (hg118 : ∀ a0 a1 a2, Mo ((G).1 a0 a1 a2) ((G').1 a0 a1 a2)) (hg145 : ∀ a0 a1 a2, Mo ((G).2 a0 a1 a2) ((G').2 a0 a1 a2)) (t : Nat) (h : PH) : Mo (X1_init_g75 G t h) (X1_init_g75 G' t h) := X1_init_m75 (fun a0 a1 => X1_init_n100 hg118 hg145 a0 a1) t h
theorem X1_init_n55 {G G' : (Nat → Int32 → PH → Option Rs) × (Nat → Int32 → PH → Option Rs)} (hg118 : ∀ a0 a1 a2, Mo ((G).1 a0 a1 a2) ((G').1 a0 a1 a2)) (hg145 : ∀ a0 a1 a2, Mo ((G).2 a0 a1 a2) ((G').2 a0 a1 a2)) (t : Nat) (h : PH) : Mo (X1_init_g55 G t h) (X1_init_g55 G' t h) := X1_init_m55 (fun a0 a1 => X1_init_n75 hg118 hg145 a0 a1) t h
theorem X1_init_n29 {G G' : (Nat → Int32 → PH → Option Rs) × (Nat → Int32 → PH → Option Rs)} (hg118 : ∀ a0 a1 a2, Mo ((G).1 a0 a1 a2) ((G').1 a0 a1 a2)) (hg145 : ∀ a0 a1 a2, Mo ((G).2 a0 a1 a2) ((G').2 a0 a1 a2)) (t : Nat) (h : PH) : Mo (X1_init_g29 G t h) (X1_init_g29 G' t h) := X1_init_m29 (fun a0 a1 => X1_init_n55 hg118 hg145 a0 a1) t h
theorem X1_init_n0 {G G' : (Nat → Int32 → PH → Option Rs) × (Nat → Int32 → PH → Option Rs)} (hg118 : ∀ a0 a1 a2, Mo ((G).1 a0 a1 a2) ((G').1 a0 a1 a2)) (hg145 : ∀ a0 a1 a2, Mo ((G).2 a0 a1 a2) ((G').2 a0 a1 a2)) (t : Nat) (h : PH) : Mo (X1_init_g0 G t h) (X1_init_g0 G' t h) := X1_init_m0 (fun a0 a1 => X1_init_n29 hg118 hg145 a0 a1) t h
theorem X1_init_n118 {G G' : (Nat → Int32 → PH → Option Rs) × (Nat → Int32 → PH → Option Rs)} (hg118 : ∀ a0 a1 a2, Mo ((G).1 a0 a1 a2) ((G').1 a0 a1 a2)) (hg145 : ∀ a0 a1 a2, Mo ((G).2 a0 a1 a2) ((G').2 a0 a1 a2)) (t : Nat) (x1 : Int32) (h : PH) : Mo (X1_init_g118 G t x1 h) (X1_init_g118 G' t x1 h) := X1_init_m118 hg118 hg145 t x1 h
theorem X1_init_n145 {G G' : (Nat → Int32 → PH → Option Rs) × (Nat → Int32 → PH → Option Rs)} (hg118 : ∀ a0 a1 a2, Mo ((G).1 a0 a1 a2) ((G').1 a0 a1 a2)) (hg145 : ∀ a0 a1 a2, Mo ((G).2 a0 a1 a2) ((G').2 a0 a1 a2)) (t : Nat) (x1 : Int32) (h : PH) : Mo (X1_init_g145 G t x1 h) (X1_init_g145 G' t x1 h) := X1_init_m145 hg145 t x1 h
theorem X1_init_fm : ∀ n, (∀ a0 a1 a2, Mo ((X1_init_fam n).1 a0 a1 a2) ((X1_init_fam (n + 1)).1 a0 a1 a2)) ∧ (∀ a0 a1 a2, Mo ((X1_init_fam n).2 a0 a1 a2) ((X1_init_fam (n + 1)).2 a0 a1 a2))
  | 0 => ⟨fun _ _ _ => mo_no, fun _ _ _ => mo_no⟩
  | n + 1 => by
    obtain ⟨ih118, ih145⟩ := X1_init_fm n
    exact ⟨fun a0 a1 a2 => X1_init_n118 ih118 ih145 a0 a1 a2, fun a0 a1 a2 => X1_init_n145 ih118 ih145 a0 a1 a2⟩
noncomputable def X1_init (t : Nat) (h : PH) : Option Rs := lim (fun n => X1_init_g0 (X1_init_fam n) t h)
theorem X1_init_iff {t : Nat} {h : PH} {r : Rs} : X1_init t h = some r ↔ ∃ n, X1_init_g0 (X1_init_fam n) t h = some r := lim_iff (fun n => by
  obtain ⟨ih118, ih145⟩ := X1_init_fm n
  exact X1_init_n0 ih118 ih145 t h)
noncomputable abbrev X1_init_F : List PV → PH → Option Rs := FW_T1 (X1_init)
set_option maxRecDepth 100000 in
theorem X1_init_gd (l : Launch) : Gd l 1 yX1_init cX1_init 2 none (X1_init_F) := Gd_of (by decide +kernel) (fun z hzl as h r e => by
  obtain ⟨hst, e⟩ := gL_of e
  obtain ⟨t, q0, e⟩ := gT_of e
  rw [st_1 hst q0]
  obtain ⟨n, e⟩ := lim_of e
  obtain ⟨hG118, hG145⟩ := X1_init_k (z := z) n
  exact ⟨show 1 ≤ 2 by decide, X1_init_s0 (X1_init_v29 hG118 hG145) _ _ _ _ ((X1_init_l0 (X1_init_g29 (X1_init_fam n)) t h).trans e)⟩)
