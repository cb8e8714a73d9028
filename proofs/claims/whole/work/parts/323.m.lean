abbrev X12_tell_x (z : CZ) : CX := mx RX12 cX12_tell 2 0 (some .int) "tell" z
noncomputable def X12_tell_b0 : Kn := (a_al 0 (a_gI 11 754 (a_ic 60 (a_eq (a_ic (-1000000003) a_ir) (a_al 0 (a_gR 11 753 70 (a_al 0 (a_gI 11 754 (a_il 1 (a_ast 70 4480 (fun a => a) (a_al 0 (a_dup (a_gI 11 754 (a_ic 1 (a_b (fun a b => a + b) (a_pI 11 754 (a_al 0 (a_gI 11 754 a_ir))))))))))))))))))
set_option maxRecDepth 100000 in
theorem X12_tell_s0 {z : CZ} : SK (X12_tell_x z) 0 (X12_tell_b0) := (s_aloadn (pc := 0) dX12_tell_0 rfl (s_gI (pc := 1) (f := 50) ko_11 (by decide) rfl rfl w_1345 dX12_tell_1 (s_bipush (pc := 4) dX12_tell_4 c_bp_60 (s_cmpne (pc := 6) dX12_tell_6 (by decide) (s_aloadn (pc := 12) dX12_tell_12 rfl (s_gR (pc := 13) (f := 49) ko_11 (by decide) rfl rfl w_1344 dX12_tell_13 (s_aloadn (pc := 16) dX12_tell_16 rfl (s_gI (pc := 17) (f := 50) ko_11 (by decide) rfl rfl w_1345 dX12_tell_17 (s_iloadn (pc := 20) dX12_tell_20 rfl (s_iast (pc := 21) (by decide) (by decide) rfl rfl rfl dX12_tell_21 (s_aloadn (pc := 22) dX12_tell_22 rfl (s_dup (pc := 23) dX12_tell_23 (s_gI (pc := 24) (f := 50) ko_11 (by decide) rfl rfl w_1345 dX12_tell_24 (s_iconst (pc := 27) dX12_tell_27 c_ic_1 (s_iadd (pc := 28) dX12_tell_28 (s_pI (pc := 29) (f := 50) ko_11 (by decide) rfl rfl rfl (by decide +kernel) w_1345 dX12_tell_29 (s_aloadn (pc := 32) dX12_tell_32 rfl (s_gI (pc := 33) (f := 50) ko_11 (by decide) rfl rfl w_1345 dX12_tell_33 (s_ir (pc := 36) rfl dX12_tell_36))))))))))))))) (s_ldc (pc := 9) w_1454 dX12_tell_9 (s_ir (pc := 11) rfl dX12_tell_11))))))
noncomputable def X12_tell_f0 (t : Nat) (x1 : Int32) (h : PH) : Option Rs :=
  if (hI h 754 t 0) = 60 then
    some (some (.inl (-1000000003)), h)
  else
    nn (hR h 753 t 0) fun r1 =>
    ix (hI h 754 t 0) (hL h 70 r1) fun j2 =>
    wr (pI h 4480 r1 j2 x1) fun h3 =>
    wr (pI h3 754 t 0 ((hI h3 754 t 0) + 1)) fun h4 =>
    some (some (.inl (hI h4 754 t 0)), h4)
set_option maxRecDepth 100000 in
theorem X12_tell_l0 (t : Nat) (x1 : Int32) (h : PH) : X12_tell_b0 [some (.inr (11, t + 1)), some (.inl x1)] [] h = X12_tell_f0 t x1 h := rfl
noncomputable def X12_tell_g0 (t : Nat) (x1 : Int32) (h : PH) : Option Rs := X12_tell_f0 t x1 h
noncomputable def X12_tell (t : Nat) (x1 : Int32) (h : PH) : Option Rs := X12_tell_g0 t x1 h
noncomputable abbrev X12_tell_F : List PV → PH → Option Rs := FW_T11I (X12_tell)
set_option maxRecDepth 100000 in
theorem X12_tell_gd (l : Launch) : Gd l 0 yX12_tell cX12_tell 2 (some .int) (X12_tell_F)   := Gd_of (by decide +kernel) (fun z hzl as h r e => by
  obtain ⟨hst, e⟩ := gL_of e
  obtain ⟨t, q0, e⟩ := gT_of e
  obtain ⟨x1, q1, e⟩ := gI_of e
  rw [st_2 hst q0 q1]
  exact ⟨show 2 ≤ 2 by decide, X12_tell_s0 _ _ _ _ ((X12_tell_l0 t x1 h).trans e)⟩)
abbrev X12_copyAll_41_43_x (z : CZ) : CX := mx RX12 cX12_copyAll 3 0 none "copyAll" z
noncomputable def X12_copyAll_41_43_b0 (k2 : Kn) : Kn := (a_ic 0 (a_is 2 k2))
set_option maxRecDepth 100000 in
theorem X12_copyAll_41_43_s0 {z : CZ} {k2 : Kn} (hk2 : SK (X12_copyAll_41_43_x z) 2 k2) : SK (X12_copyAll_41_43_x z) 0 (X12_copyAll_41_43_b0 k2) := (s_iconst (pc := 0) dX12_copyAll_0 c_ic_0 (s_istoren (pc := 1) dX12_copyAll_1 rfl (show 2 < 3 by decide) hk2))
noncomputable def X12_copyAll_41_43_b2 (k2 : Kn) : Kn := (a_il 2 (a_ic 1765 (a_lt (a_al 1 (a_il 2 (a_al 0 (a_il 2 (a_ald 41 2624 (a_ast 43 2752 (fun a => a) (a_inc 2 1 k2))))))) a_vr)))
set_option maxRecDepth 100000 in
theorem X12_copyAll_41_43_s2 {z : CZ} {k2 : Kn} (hk2 : SK (X12_copyAll_41_43_x z) 2 k2) : SK (X12_copyAll_41_43_x z) 2 (X12_copyAll_41_43_b2 k2) := (s_iloadn (pc := 2) dX12_copyAll_2 rfl (s_sipush (pc := 3) dX12_copyAll_3 c_sp_1765 (s_cmpge (pc := 6) dX12_copyAll_6 (by decide) (s_vr (pc := 21) rfl dX12_copyAll_21) (s_aloadn (pc := 9) dX12_copyAll_9 rfl (s_iloadn (pc := 10) dX12_copyAll_10 rfl (s_aloadn (pc := 11) dX12_copyAll_11 rfl (s_iloadn (pc := 12) dX12_copyAll_12 rfl (s_iald (pc := 13) (by decide) (by decide) rfl rfl rfl dX12_copyAll_13 (s_iast (pc := 14) (by decide) (by decide) rfl rfl rfl dX12_copyAll_14 (s_iinc (pc := 15) dX12_copyAll_15 c_ic_1 (show 2 < 3 by decide) (s_goto (pc := 18) dX12_copyAll_18 (by decide) hk2)))))))))))
noncomputable def X12_copyAll_41_43_u2 (g : Nat → Nat → Int32 → PH → Option Rs) : Kn := fun ls st h => gL 0 st (gR 41 ls 0 fun x0 => gR 43 ls 1 fun x1 => gI ls 2 fun x2 => g x0 x1 x2 h)
noncomputable def X12_copyAll_41_43_f0 (g2 : Nat → Nat → Int32 → PH → Option Rs) (x0 : Nat) (x1 : Nat) (h : PH) : Option Rs :=
  g2 x0 x1 0 h
set_option maxRecDepth 100000 in
theorem X12_copyAll_41_43_l0 (g2 : Nat → Nat → Int32 → PH → Option Rs) (x0 : Nat) (x1 : Nat) (h : PH) : X12_copyAll_41_43_b0 (X12_copyAll_41_43_u2 g2) [some (.inr (41, x0)), some (.inr (43, x1)), none] [] h = X12_copyAll_41_43_f0 g2 x0 x1 h := rfl
theorem X12_copyAll_41_43_m0 {g2 G2 : Nat → Nat → Int32 → PH → Option Rs} (hg2 : ∀ a0 a1 a2 a3, Mo (g2 a0 a1 a2 a3) (G2 a0 a1 a2 a3)) (x0 : Nat) (x1 : Nat) (h : PH) : Mo (X12_copyAll_41_43_f0 g2 x0 x1 h) (X12_copyAll_41_43_f0 G2 x0 x1 h) := (hg2 x0 x1 0 h)
noncomputable def X12_copyAll_41_43_f2 (g2 : Nat → Nat → Int32 → PH → Option Rs) (x0 : Nat) (x1 : Nat) (x2 : Int32) (h : PH) : Option Rs :=
  if x2 < 1765 then
    nn x0 fun r1 =>
    ix x2 (hL h 41 r1) fun j2 =>
    nn x1 fun r3 =>
    ix x2 (hL h 43 r3) fun j4 =>
    wr (pI h 2752 r3 j4 (hI h 2624 r1 j2)) fun h5 =>
    g2 x0 x1 (x2 + 1) h5
  else
    some (none, h)
set_option maxRecDepth 100000 in
theorem X12_copyAll_41_43_l2 (g2 : Nat → Nat → Int32 → PH → Option Rs) (x0 : Nat) (x1 : Nat) (x2 : Int32) (h : PH) : X12_copyAll_41_43_b2 (X12_copyAll_41_43_u2 g2) [some (.inr (41, x0)), some (.inr (43, x1)), some (.inl x2)] [] h = X12_copyAll_41_43_f2 g2 x0 x1 x2 h := rfl
theorem X12_copyAll_41_43_m2 {g2 G2 : Nat → Nat → Int32 → PH → Option Rs} (hg2 : ∀ a0 a1 a2 a3, Mo (g2 a0 a1 a2 a3) (G2 a0 a1 a2 a3)) (x0 : Nat) (x1 : Nat) (x2 : Int32) (h : PH) : Mo (X12_copyAll_41_43_f2 g2 x0 x1 x2 h) (X12_copyAll_41_43_f2 G2 x0 x1 x2 h) := (mo_if (mo_nn fun r1 => (mo_ix fun j2 => (mo_nn fun r3 => (mo_ix fun j4 => (mo_wr fun h5 => (hg2 x0 x1 (x2 + 1) h5)))))) mo_rf)
theorem X12_copyAll_41_43_w2 {z : CZ} {g2 : Nat → Nat → Int32 → PH → Option Rs} (hk2 : SK (X12_copyAll_41_43_x z) 2 (X12_copyAll_41_43_u2 g2)) : SK (X12_copyAll_41_43_x z) 2 (X12_copyAll_41_43_u2 (X12_copyAll_41_43_f2 g2)) := by
  intro ls st h r e
  obtain ⟨hst, e⟩ := gL_of e
  obtain ⟨x0, q0, e⟩ := gR_of e
  obtain ⟨x1, q1, e⟩ := gR_of e
  obtain ⟨x2, q2, e⟩ := gI_of e
  rw [st_0 hst]
  exact WK.sub (canon := [some (.inr (41, x0)), some (.inr (43, x1)), some (.inl x2)]) rfl ⟨q0, q1, q2, trivial⟩ (X12_copyAll_41_43_s2 hk2 _ _ _ _ ((X12_copyAll_41_43_l2 g2 x0 x1 x2 h).trans e))
noncomputable def X12_copyAll_41_43_g0 (G : (Nat → Nat → Int32 → PH → Option Rs)) (x0 : Nat) (x1 : Nat) (h : PH) : Option Rs := X12_copyAll_41_43_f0 (G) x0 x1 h
noncomputable def X12_copyAll_41_43_g2 (G : (Nat → Nat → Int32 → PH → Option Rs)) (x0 : Nat) (x1 : Nat) (x2 : Int32) (h : PH) : Option Rs := X12_copyAll_41_43_f2 (G) x0 x1 x2 h
theorem X12_copyAll_41_43_v2 {z : CZ} {G : (Nat → Nat → Int32 → PH → Option Rs)} (hG2 : SK (X12_copyAll_41_43_x z) 2 (X12_copyAll_41_43_u2 (G))) : SK (X12_copyAll_41_43_x z) 2 (X12_copyAll_41_43_u2 (X12_copyAll_41_43_g2 G)) := X12_copyAll_41_43_w2 hG2
noncomputable def X12_copyAll_41_43_fam : Nat → (Nat → Nat → Int32 → PH → Option Rs)
  | 0 => fun _ _ _ _ => none
  | n + 1 => X12_copyAll_41_43_g2 (X12_copyAll_41_43_fam n)
theorem X12_copyAll_41_43_k {z : CZ} : ∀ n, SK (X12_copyAll_41_43_x z) 2 (X12_copyAll_41_43_u2 (X12_copyAll_41_43_fam n))
  | 0 => (fun ls st h r e => by
      obtain ⟨_, e⟩ := gL_of e
      obtain ⟨_, _, e⟩ := gR_of e
      obtain ⟨_, _, e⟩ := gR_of e
      obtain ⟨_, _, e⟩ := gI_of e
      cases e)
  | n + 1 => by
    obtain ih2 := X12_copyAll_41_43_k n
    exact X12_copyAll_41_43_v2 ih2
theorem X12_copyAll_41_43_n0 {G G' : (Nat → Nat → Int32 → PH → Option Rs)} (hg2 : ∀ a0 a1 a2 a3, Mo ((G) a0 a1 a2 a3) ((G') a0 a1 a2 a3)) (x0 : Nat) (x1 : Nat) (h : PH) : Mo (X12_copyAll_41_43_g0 G x0 x1 h) (X12_copyAll_41_43_g0 G' x0 x1 h) := X12_copyAll_41_43_m0 hg2 x0 x1 h
theorem X12_copyAll_41_43_n2 {G G' : (Nat → Nat → Int32 → PH → Option Rs)} (hg2 : ∀ a0 a1 a2 a3, Mo ((G) a0 a1 a2 a3) ((G') a0 a1 a2 a3)) (x0 : Nat) (x1 : Nat) (x2 : Int32) (h : PH) : Mo (X12_copyAll_41_43_g2 G x0 x1 x2 h) (X12_copyAll_41_43_g2 G' x0 x1 x2 h) := X12_copyAll_41_43_m2 hg2 x0 x1 x2 h
theorem X12_copyAll_41_43_fm : ∀ n, (∀ a0 a1 a2 a3, Mo ((X12_copyAll_41_43_fam n) a0 a1 a2 a3) ((X12_copyAll_41_43_fam (n + 1)) a0 a1 a2 a3))
  | 0 => fun _ _ _ _ => mo_no
  | n + 1 => by
    obtain ih2 := X12_copyAll_41_43_fm n
    exact fun a0 a1 a2 a3 => X12_copyAll_41_43_n2 ih2 a0 a1 a2 a3
noncomputable def X12_copyAll_41_43 (x0 : Nat) (x1 : Nat) (h : PH) : Option Rs := lim (fun n => X12_copyAll_41_43_g0 (X12_copyAll_41_43_fam n) x0 x1 h)
theorem X12_copyAll_41_43_iff {x0 : Nat} {x1 : Nat} {h : PH} {r : Rs} : X12_copyAll_41_43 x0 x1 h = some r ↔ ∃ n, X12_copyAll_41_43_g0 (X12_copyAll_41_43_fam n) x0 x1 h = some r := lim_iff (fun n => by
  obtain ih2 := X12_copyAll_41_43_fm n
  exact X12_copyAll_41_43_n0 ih2 x0 x1 h)
noncomputable abbrev X12_copyAll_41_43_F : List PV → PH → Option Rs := FW_R41R43 (X12_copyAll_41_43)
set_option maxRecDepth 100000 in
theorem X12_copyAll_41_43_gd (l : Launch) : Gd l 0 yX12_copyAll cX12_copyAll 3 none (X12_copyAll_41_43_F)   := Gd_of (by decide +kernel) (fun z hzl as h r e => by
  obtain ⟨hst, e⟩ := gL_of e
  obtain ⟨x0, q0, e⟩ := gR_of e
  obtain ⟨x1, q1, e⟩ := gR_of e
  rw [st_2 hst q0 q1]
  obtain ⟨n, e⟩ := lim_of e
  obtain hG2 := X12_copyAll_41_43_k (z := z) n
  exact ⟨show 2 ≤ 3 by decide, X12_copyAll_41_43_s0 hG2 _ _ _ _ ((X12_copyAll_41_43_l0 (X12_copyAll_41_43_fam n) x0 x1 h).trans e)⟩)
abbrev X12_copyAll_42_41_x (z : CZ) : CX := mx RX12 cX12_copyAll 3 0 none "copyAll" z
noncomputable def X12_copyAll_42_41_b0 (k2 : Kn) : Kn := (a_ic 0 (a_is 2 k2))
set_option maxRecDepth 100000 in
theorem X12_copyAll_42_41_s0 {z : CZ} {k2 : Kn} (hk2 : SK (X12_copyAll_42_41_x z) 2 k2) : SK (X12_copyAll_42_41_x z) 0 (X12_copyAll_42_41_b0 k2) := (s_iconst (pc := 0) dX12_copyAll_0 c_ic_0 (s_istoren (pc := 1) dX12_copyAll_1 rfl (show 2 < 3 by decide) hk2))
noncomputable def X12_copyAll_42_41_b2 (k2 : Kn) : Kn := (a_il 2 (a_ic 1765 (a_lt (a_al 1 (a_il 2 (a_al 0 (a_il 2 (a_ald 42 2688 (a_ast 41 2624 (fun a => a) (a_inc 2 1 k2))))))) a_vr)))
set_option maxRecDepth 100000 in
theorem X12_copyAll_42_41_s2 {z : CZ} {k2 : Kn} (hk2 : SK (X12_copyAll_42_41_x z) 2 k2) : SK (X12_copyAll_42_41_x z) 2 (X12_copyAll_42_41_b2 k2) := (s_iloadn (pc := 2) dX12_copyAll_2 rfl (s_sipush (pc := 3) dX12_copyAll_3 c_sp_1765 (s_cmpge (pc := 6) dX12_copyAll_6 (by decide) (s_vr (pc := 21) rfl dX12_copyAll_21) (s_aloadn (pc := 9) dX12_copyAll_9 rfl (s_iloadn (pc := 10) dX12_copyAll_10 rfl (s_aloadn (pc := 11) dX12_copyAll_11 rfl (s_iloadn (pc := 12) dX12_copyAll_12 rfl (s_iald (pc := 13) (by decide) (by decide) rfl rfl rfl dX12_copyAll_13 (s_iast (pc := 14) (by decide) (by decide) rfl rfl rfl dX12_copyAll_14 (s_iinc (pc := 15) dX12_copyAll_15 c_ic_1 (show 2 < 3 by decide) (s_goto (pc := 18) dX12_copyAll_18 (by decide) hk2)))))))))))
noncomputable def X12_copyAll_42_41_u2 (g : Nat → Nat → Int32 → PH → Option Rs) : Kn := fun ls st h => gL 0 st (gR 42 ls 0 fun x0 => gR 41 ls 1 fun x1 => gI ls 2 fun x2 => g x0 x1 x2 h)
noncomputable def X12_copyAll_42_41_f0 (g2 : Nat → Nat → Int32 → PH → Option Rs) (x0 : Nat) (x1 : Nat) (h : PH) : Option Rs :=
  g2 x0 x1 0 h
set_option maxRecDepth 100000 in
theorem X12_copyAll_42_41_l0 (g2 : Nat → Nat → Int32 → PH → Option Rs) (x0 : Nat) (x1 : Nat) (h : PH) : X12_copyAll_42_41_b0 (X12_copyAll_42_41_u2 g2) [some (.inr (42, x0)), some (.inr (41, x1)), none] [] h = X12_copyAll_42_41_f0 g2 x0 x1 h := rfl
theorem X12_copyAll_42_41_m0 {g2 G2 : Nat → Nat → Int32 → PH → Option Rs} (hg2 : ∀ a0 a1 a2 a3, Mo (g2 a0 a1 a2 a3) (G2 a0 a1 a2 a3)) (x0 : Nat) (x1 : Nat) (h : PH) : Mo (X12_copyAll_42_41_f0 g2 x0 x1 h) (X12_copyAll_42_41_f0 G2 x0 x1 h) := (hg2 x0 x1 0 h)
noncomputable def X12_copyAll_42_41_f2 (g2 : Nat → Nat → Int32 → PH → Option Rs) (x0 : Nat) (x1 : Nat) (x2 : Int32) (h : PH) : Option Rs :=
  if x2 < 1765 then
    nn x0 fun r1 =>
    ix x2 (hL h 42 r1) fun j2 =>
    nn x1 fun r3 =>
    ix x2 (hL h 41 r3) fun j4 =>
    wr (pI h 2624 r3 j4 (hI h 2688 r1 j2)) fun h5 =>
    g2 x0 x1 (x2 + 1) h5
  else
    some (none, h)
set_option maxRecDepth 100000 in
theorem X12_copyAll_42_41_l2 (g2 : Nat → Nat → Int32 → PH → Option Rs) (x0 : Nat) (x1 : Nat) (x2 : Int32) (h : PH) : X12_copyAll_42_41_b2 (X12_copyAll_42_41_u2 g2) [some (.inr (42, x0)), some (.inr (41, x1)), some (.inl x2)] [] h = X12_copyAll_42_41_f2 g2 x0 x1 x2 h := rfl
theorem X12_copyAll_42_41_m2 {g2 G2 : Nat → Nat → Int32 → PH → Option Rs} (hg2 : ∀ a0 a1 a2 a3, Mo (g2 a0 a1 a2 a3) (G2 a0 a1 a2 a3)) (x0 : Nat) (x1 : Nat) (x2 : Int32) (h : PH) : Mo (X12_copyAll_42_41_f2 g2 x0 x1 x2 h) (X12_copyAll_42_41_f2 G2 x0 x1 x2 h) := (mo_if (mo_nn fun r1 => (mo_ix fun j2 => (mo_nn fun r3 => (mo_ix fun j4 => (mo_wr fun h5 => (hg2 x0 x1 (x2 + 1) h5)))))) mo_rf)
theorem X12_copyAll_42_41_w2 {z : CZ} {g2 : Nat → Nat → Int32 → PH → Option Rs} (hk2 : SK (X12_copyAll_42_41_x z) 2 (X12_copyAll_42_41_u2 g2)) : SK (X12_copyAll_42_41_x z) 2 (X12_copyAll_42_41_u2 (X12_copyAll_42_41_f2 g2)) := by
  intro ls st h r e
  obtain ⟨hst, e⟩ := gL_of e
  obtain ⟨x0, q0, e⟩ := gR_of e
  obtain ⟨x1, q1, e⟩ := gR_of e
  obtain ⟨x2, q2, e⟩ := gI_of e
  rw [st_0 hst]
  exact WK.sub (canon := [some (.inr (42, x0)), some (.inr (41, x1)), some (.inl x2)]) rfl ⟨q0, q1, q2, trivial⟩ (X12_copyAll_42_41_s2 hk2 _ _ _ _ ((X12_copyAll_42_41_l2 g2 x0 x1 x2 h).trans e))
noncomputable def X12_copyAll_42_41_g0 (G : (Nat → Nat → Int32 → PH → Option Rs)) (x0 : Nat) (x1 : Nat) (h : PH) : Option Rs := X12_copyAll_42_41_f0 (G) x0 x1 h
noncomputable def X12_copyAll_42_41_g2 (G : (Nat → Nat → Int32 → PH → Option Rs)) (x0 : Nat) (x1 : Nat) (x2 : Int32) (h : PH) : Option Rs := X12_copyAll_42_41_f2 (G) x0 x1 x2 h
theorem X12_copyAll_42_41_v2 {z : CZ} {G : (Nat → Nat → Int32 → PH → Option Rs)} (hG2 : SK (X12_copyAll_42_41_x z) 2 (X12_copyAll_42_41_u2 (G))) : SK (X12_copyAll_42_41_x z) 2 (X12_copyAll_42_41_u2 (X12_copyAll_42_41_g2 G)) := X12_copyAll_42_41_w2 hG2
noncomputable def X12_copyAll_42_41_fam : Nat → (Nat → Nat → Int32 → PH → Option Rs)
  | 0 => fun _ _ _ _ => none
  | n + 1 => X12_copyAll_42_41_g2 (X12_copyAll_42_41_fam n)
theorem X12_copyAll_42_41_k {z : CZ} : ∀ n, SK (X12_copyAll_42_41_x z) 2 (X12_copyAll_42_41_u2 (X12_copyAll_42_41_fam n))
  | 0 => (fun ls st h r e => by
      obtain ⟨_, e⟩ := gL_of e
      obtain ⟨_, _, e⟩ := gR_of e
      obtain ⟨_, _, e⟩ := gR_of e
      obtain ⟨_, _, e⟩ := gI_of e
      cases e)
  | n + 1 => by
    obtain ih2 := X12_copyAll_42_41_k n
    exact X12_copyAll_42_41_v2 ih2
theorem X12_copyAll_42_41_n0 {G G' : (Nat → Nat → Int32 → PH → Option Rs)} (hg2 : ∀ a0 a1 a2 a3, Mo ((G) a0 a1 a2 a3) ((G') a0 a1 a2 a3)) (x0 : Nat) (x1 : Nat) (h : PH) : Mo (X12_copyAll_42_41_g0 G x0 x1 h) (X12_copyAll_42_41_g0 G' x0 x1 h) := X12_copyAll_42_41_m0 hg2 x0 x1 h
theorem X12_copyAll_42_41_n2 {G G' : (Nat → Nat → Int32 → PH → Option Rs)} (hg2 : ∀ a0 a1 a2 a3, Mo ((G) a0 a1 a2 a3) ((G') a0 a1 a2 a3)) (x0 : Nat) (x1 : Nat) (x2 : Int32) (h : PH) : Mo (X12_copyAll_42_41_g2 G x0 x1 x2 h) (X12_copyAll_42_41_g2 G' x0 x1 x2 h) := X12_copyAll_42_41_m2 hg2 x0 x1 x2 h
theorem X12_copyAll_42_41_fm : ∀ n, (∀ a0 a1 a2 a3, Mo ((X12_copyAll_42_41_fam n) a0 a1 a2 a3) ((X12_copyAll_42_41_fam (n + 1)) a0 a1 a2 a3))
  | 0 => fun _ _ _ _ => mo_no
  | n + 1 => by
    obtain ih2 := X12_copyAll_42_41_fm n
    exact fun a0 a1 a2 a3 => X12_copyAll_42_41_n2 ih2 a0 a1 a2 a3
noncomputable def X12_copyAll_42_41 (x0 : Nat) (x1 : Nat) (h : PH) : Option Rs := lim (fun n => X12_copyAll_42_41_g0 (X12_copyAll_42_41_fam n) x0 x1 h)
theorem X12_copyAll_42_41_iff {x0 : Nat} {x1 : Nat} {h : PH} {r : Rs} : X12_copyAll_42_41 x0 x1 h = some r ↔ ∃ n, X12_copyAll_42_41_g0 (X12_copyAll_42_41_fam n) x0 x1 h = some r := lim_iff (fun n => by
  obtain ih2 := X12_copyAll_42_41_fm n
  exact X12_copyAll_42_41_n0 ih2 x0 x1 h)
noncomputable abbrev X12_copyAll_42_41_F : List PV → PH → Option Rs := FW_R42R41 (X12_copyAll_42_41)
set_option maxRecDepth 100000 in
theorem X12_copyAll_42_41_gd (l : Launch) : Gd l 0 yX12_copyAll cX12_copyAll 3 none (X12_copyAll_42_41_F)   := Gd_of (by decide +kernel) (fun z hzl as h r e => by
  obtain ⟨hst, e⟩ := gL_of e
  obtain ⟨x0, q0, e⟩ := gR_of e
  obtain ⟨x1, q1, e⟩ := gR_of e
  rw [st_2 hst q0 q1]
  obtain ⟨n, e⟩ := lim_of e
  obtain hG2 := X12_copyAll_42_41_k (z := z) n
  exact ⟨show 2 ≤ 3 by decide, X12_copyAll_42_41_s0 hG2 _ _ _ _ ((X12_copyAll_42_41_l0 (X12_copyAll_42_41_fam n) x0 x1 h).trans e)⟩)
abbrev X12_copyAll_43_41_x (z : CZ) : CX := mx RX12 cX12_copyAll 3 0 none "copyAll" z
noncomputable def X12_copyAll_43_41_b0 (k2 : Kn) : Kn := (a_ic 0 (a_is 2 k2))
set_option maxRecDepth 100000 in
theorem X12_copyAll_43_41_s0 {z : CZ} {k2 : Kn} (hk2 : SK (X12_copyAll_43_41_x z) 2 k2) : SK (X12_copyAll_43_41_x z) 0 (X12_copyAll_43_41_b0 k2) := (s_iconst (pc := 0) dX12_copyAll_0 c_ic_0 (s_istoren (pc := 1) dX12_copyAll_1 rfl (show 2 < 3 by decide) hk2))
noncomputable def X12_copyAll_43_41_b2 (k2 : Kn) : Kn := (a_il 2 (a_ic 1765 (a_lt (a_al 1 (a_il 2 (a_al 0 (a_il 2 (a_ald 43 2752 (a_ast 41 2624 (fun a => a) (a_inc 2 1 k2))))))) a_vr)))
set_option maxRecDepth 100000 in
theorem X12_copyAll_43_41_s2 {z : CZ} {k2 : Kn} (hk2 : SK (X12_copyAll_43_41_x z) 2 k2) : SK (X12_copyAll_43_41_x z) 2 (X12_copyAll_43_41_b2 k2) := (s_iloadn (pc := 2) dX12_copyAll_2 rfl (s_sipush (pc := 3) dX12_copyAll_3 c_sp_1765 (s_cmpge (pc := 6) dX12_copyAll_6 (by decide) (s_vr (pc := 21) rfl dX12_copyAll_21) (s_aloadn (pc := 9) dX12_copyAll_9 rfl (s_iloadn (pc := 10) dX12_copyAll_10 rfl (s_aloadn (pc := 11) dX12_copyAll_11 rfl (s_iloadn (pc := 12) dX12_copyAll_12 rfl (s_iald (pc := 13) (by decide) (by decide) rfl rfl rfl dX12_copyAll_13 (s_iast (pc := 14) (by decide) (by decide) rfl rfl rfl dX12_copyAll_14 (s_iinc (pc := 15) dX12_copyAll_15 c_ic_1 (show 2 < 3 by decide) (s_goto (pc := 18) dX12_copyAll_18 (by decide) hk2)))))))))))
noncomputable def X12_copyAll_43_41_u2 (g : Nat → Nat → Int32 → PH → Option Rs) : Kn := fun ls st h => gL 0 st (gR 43 ls 0 fun x0 => gR 41 ls 1 fun x1 => gI ls 2 fun x2 => g x0 x1 x2 h)
noncomputable def X12_copyAll_43_41_f0 (g2 : Nat → Nat → Int32 → PH → Option Rs) (x0 : Nat) (x1 : Nat) (h : PH) : Option Rs :=
  g2 x0 x1 0 h
set_option maxRecDepth 100000 in
theorem X12_copyAll_43_41_l0 (g2 : Nat → Nat → Int32 → PH → Option Rs) (x0 : Nat) (x1 : Nat) (h : PH) : X12_copyAll_43_41_b0 (X12_copyAll_43_41_u2 g2) [some (.inr (43, x0)), some (.inr (41, x1)), none] [] h = X12_copyAll_43_41_f0 g2 x0 x1 h := rfl
theorem X12_copyAll_43_41_m0 {g2 G2 : Nat → Nat → Int32 → PH → Option Rs} (hg2 : ∀ a0 a1 a2 a3, Mo (g2 a0 a1 a2 a3) (G2 a0 a1 a2 a3)) (x0 : Nat) (x1 : Nat) (h : PH) : Mo (X12_copyAll_43_41_f0 g2 x0 x1 h) (X12_copyAll_43_41_f0 G2 x0 x1 h) := (hg2 x0 x1 0 h)
noncomputable def X12_copyAll_43_41_f2 (g2 : Nat → Nat → Int32 → PH → Option Rs) (x0 : Nat) (x1 : Nat) (x2 : Int32) (h : PH) : Option Rs :=
  if x2 < 1765 then
    nn x0 fun r1 =>
    ix x2 (hL h 43 r1) fun j2 =>
    nn x1 fun r3 =>
    ix x2 (hL h 41 r3) fun j4 =>
    wr (pI h 2624 r3 j4 (hI h 2752 r1 j2)) fun h5 =>
    g2 x0 x1 (x2 + 1) h5
  else
    some (none, h)
set_option maxRecDepth 100000 in
theorem X12_copyAll_43_41_l2 (g2 : Nat → Nat → Int32 → PH → Option Rs) (x0 : Nat) (x1 : Nat) (x2 : Int32) (h : PH) : X12_copyAll_43_41_b2 (X12_copyAll_43_41_u2 g2) [some (.inr (43, x0)), some (.inr (41, x1)), some (.inl x2)] [] h = X12_copyAll_43_41_f2 g2 x0 x1 x2 h := rfl
theorem X12_copyAll_43_41_m2 {g2 G2 : Nat → Nat → Int32 → PH → Option Rs} (hg2 : ∀ a0 a1 a2 a3, Mo (g2 a0 a1 a2 a3) (G2 a0 a1 a2 a3)) (x0 : Nat) (x1 : Nat) (x2 : Int32) (h : PH) : Mo (X12_copyAll_43_41_f2 g2 x0 x1 x2 h) (X12_copyAll_43_41_f2 G2 x0 x1 x2 h) := (mo_if (mo_nn fun r1 => (mo_ix fun j2 => (mo_nn fun r3 => (mo_ix fun j4 => (mo_wr fun h5 => (hg2 x0 x1 (x2 + 1) h5)))))) mo_rf)
theorem X12_copyAll_43_41_w2 {z : CZ} {g2 : Nat → Nat → Int32 → PH → Option Rs} (hk2 : SK (X12_copyAll_43_41_x z) 2 (X12_copyAll_43_41_u2 g2)) : SK (X12_copyAll_43_41_x z) 2 (X12_copyAll_43_41_u2 (X12_copyAll_43_41_f2 g2)) := by
  intro ls st h r e
  obtain ⟨hst, e⟩ := gL_of e
  obtain ⟨x0, q0, e⟩ := gR_of e
  obtain ⟨x1, q1, e⟩ := gR_of e
  obtain ⟨x2, q2, e⟩ := gI_of e
  rw [st_0 hst]
  exact WK.sub (canon := [some (.inr (43, x0)), some (.inr (41, x1)), some (.inl x2)]) rfl ⟨q0, q1, q2, trivial⟩ (X12_copyAll_43_41_s2 hk2 _ _ _ _ ((X12_copyAll_43_41_l2 g2 x0 x1 x2 h).trans e))
noncomputable def X12_copyAll_43_41_g0 (G : (Nat → Nat → Int32 → PH → Option Rs)) (x0 : Nat) (x1 : Nat) (h : PH) : Option Rs := X12_copyAll_43_41_f0 (G) x0 x1 h
noncomputable def X12_copyAll_43_41_g2 (G : (Nat → Nat → Int32 → PH → Option Rs)) (x0 : Nat) (x1 : Nat) (x2 : Int32) (h : PH) : Option Rs := X12_copyAll_43_41_f2 (G) x0 x1 x2 h
theorem X12_copyAll_43_41_v2 {z : CZ} {G : (Nat → Nat → Int32 → PH → Option Rs)} (hG2 : SK (X12_copyAll_43_41_x z) 2 (X12_copyAll_43_41_u2 (G))) : SK (X12_copyAll_43_41_x z) 2 (X12_copyAll_43_41_u2 (X12_copyAll_43_41_g2 G)) := X12_copyAll_43_41_w2 hG2
noncomputable def X12_copyAll_43_41_fam : Nat → (Nat → Nat → Int32 → PH → Option Rs)
  | 0 => fun _ _ _ _ => none
  | n + 1 => X12_copyAll_43_41_g2 (X12_copyAll_43_41_fam n)
theorem X12_copyAll_43_41_k {z : CZ} : ∀ n, SK (X12_copyAll_43_41_x z) 2 (X12_copyAll_43_41_u2 (X12_copyAll_43_41_fam n))
  | 0 => (fun ls st h r e => by
      obtain ⟨_, e⟩ := gL_of e
      obtain ⟨_, _, e⟩ := gR_of e
      obtain ⟨_, _, e⟩ := gR_of e
      obtain ⟨_, _, e⟩ := gI_of e
      cases e)
  | n + 1 => by
    obtain ih2 := X12_copyAll_43_41_k n
    exact X12_copyAll_43_41_v2 ih2
theorem X12_copyAll_43_41_n0 {G G' : (Nat → Nat → Int32 → PH → Option Rs)} (hg2 : ∀ a0 a1 a2 a3, Mo ((G) a0 a1 a2 a3) ((G') a0 a1 a2 a3)) (x0 : Nat) (x1 : Nat) (h : PH) : Mo (X12_copyAll_43_41_g0 G x0 x1 h) (X12_copyAll_43_41_g0 G' x0 x1 h) := X12_copyAll_43_41_m0 hg2 x0 x1 h
theorem X12_copyAll_43_41_n2 {G G' : (Nat → Nat → Int32 → PH → Option Rs)} (hg2 : ∀ a0 a1 a2 a3, Mo ((G) a0 a1 a2 a3) ((G') a0 a1 a2 a3)) (x0 : Nat) (x1 : Nat) (x2 : Int32) (h : PH) : Mo (X12_copyAll_43_41_g2 G x0 x1 x2 h) (X12_copyAll_43_41_g2 G' x0 x1 x2 h) := X12_copyAll_43_41_m2 hg2 x0 x1 x2 h
theorem X12_copyAll_43_41_fm : ∀ n, (∀ a0 a1 a2 a3, Mo ((X12_copyAll_43_41_fam n) a0 a1 a2 a3) ((X12_copyAll_43_41_fam (n + 1)) a0 a1 a2 a3))
  | 0 => fun _ _ _ _ => mo_no
  | n + 1 => by
    obtain ih2 := X12_copyAll_43_41_fm n
    exact fun a0 a1 a2 a3 => X12_copyAll_43_41_n2 ih2 a0 a1 a2 a3
noncomputable def X12_copyAll_43_41 (x0 : Nat) (x1 : Nat) (h : PH) : Option Rs := lim (fun n => X12_copyAll_43_41_g0 (X12_copyAll_43_41_fam n) x0 x1 h)
theorem X12_copyAll_43_41_iff {x0 : Nat} {x1 : Nat} {h : PH} {r : Rs} : X12_copyAll_43_41 x0 x1 h = some r ↔ ∃ n, X12_copyAll_43_41_g0 (X12_copyAll_43_41_fam n) x0 x1 h = some r := lim_iff (fun n => by
  obtain ih2 := X12_copyAll_43_41_fm n
  exact X12_copyAll_43_41_n0 ih2 x0 x1 h)
noncomputable abbrev X12_copyAll_43_41_F : List PV → PH → Option Rs := FW_R43R41 (X12_copyAll_43_41)
set_option maxRecDepth 100000 in
theorem X12_copyAll_43_41_gd (l : Launch) : Gd l 0 yX12_copyAll cX12_copyAll 3 none (X12_copyAll_43_41_F)   := Gd_of (by decide +kernel) (fun z hzl as h r e => by
  obtain ⟨hst, e⟩ := gL_of e
  obtain ⟨x0, q0, e⟩ := gR_of e
  obtain ⟨x1, q1, e⟩ := gR_of e
  rw [st_2 hst q0 q1]
  obtain ⟨n, e⟩ := lim_of e
  obtain hG2 := X12_copyAll_43_41_k (z := z) n
  exact ⟨show 2 ≤ 3 by decide, X12_copyAll_43_41_s0 hG2 _ _ _ _ ((X12_copyAll_43_41_l0 (X12_copyAll_43_41_fam n) x0 x1 h).trans e)⟩)
abbrev X12_check_x (z : CZ) : CX := mx RX12 cX12_check 5 7 (some .int) "check" z
noncomputable def X12_check_b0 (c_X12_in : Int32 → Int32 → Int32 → PH → Option Rs) (c_X12_copyAll_41_43 : Nat → Nat → PH → Option Rs) (c_X12_copyAll_42_41 : Nat → Nat → PH → Option Rs) (k78 : Kn) : Kn := (a_al 0 (a_gI 11 754 (a_is 2 (a_al 0 (a_ic 0 (a_pI 11 754 (a_il 1 (a_ic 1 (a_ic 30 (a_sI 3 (FW_III c_X12_in) (a_z (a_ic (-1000000001) a_ir) (a_al 0 (a_gI 11 707 (a_z (a_ic (-1000000002) a_ir) (a_al 0 (a_gR 11 705 42 (a_ic 3 (a_ald 42 2688 (a_z (a_ic (-1000000002) a_ir) (a_al 0 (a_gR 11 705 42 (a_ic 5 (a_ald 42 2688 (a_z (a_ic (-1000000002) a_ir) (a_al 0 (a_gR 11 704 41 (a_al 0 (a_gR 11 706 43 (a_sV 2 (FW_R41R43 c_X12_copyAll_41_43) (a_al 0 (a_gR 11 705 42 (a_al 0 (a_gR 11 704 41 (a_sV 2 (FW_R42R41 c_X12_copyAll_42_41) (a_ic 0 (a_is 3 (a_ic 0 (a_is 4 k78))))))))))))))))))))))))))))))))))))))
set_option maxRecDepth 100000 in
theorem X12_check_s0 {z : CZ} {k78 : Kn} (hk78 : SK (X12_check_x z) 78 k78) : SK (X12_check_x z) 0 (X12_check_b0 X12_in X12_copyAll_41_43 X12_copyAll_42_41 k78) := (s_aloadn (pc := 0) dX12_check_0 rfl (s_gI (pc := 1) (f := 50) ko_11 (by decide) rfl rfl w_1345 dX12_check_1 (s_istoren (pc := 4) dX12_check_4 rfl (show 2 < 5 by decide) (s_aloadn (pc := 5) dX12_check_5 rfl (s_iconst (pc := 6) dX12_check_6 c_ic_0 (s_pI (pc := 7) (f := 50) ko_11 (by decide) rfl rfl rfl (by decide +kernel) w_1345 dX12_check_7 (s_iloadn (pc := 10) dX12_check_10 rfl (s_iconst (pc := 11) dX12_check_11 c_ic_1 (s_bipush (pc := 12) dX12_check_12 c_bp_30 (s_sI (pc := 14) (run_static (X12_in_gd _) (show 0 < 7 by decide) cy_X12_in w_1464 w_1463 dX12_check_14) (s_ifne (pc := 17) dX12_check_17 (by decide) (s_aloadn (pc := 23) dX12_check_23 rfl (s_gI (pc := 24) (f := 3) ko_11 (by decide) rfl rfl w_1298 dX12_check_24 (s_ifeq (pc := 27) dX12_check_27 (by decide) (s_ldc (pc := 48) w_1471 dX12_check_48 (s_ir (pc := 50) rfl dX12_check_50)) (s_aloadn (pc := 30) dX12_check_30 rfl (s_gR (pc := 31) (f := 1) ko_11 (by decide) rfl rfl w_1296 dX12_check_31 (s_iconst (pc := 34) dX12_check_34 c_ic_3 (s_iald (pc := 35) (by decide) (by decide) rfl rfl rfl dX12_check_35 (s_ifeq (pc := 36) dX12_check_36 (by decide) (s_ldc (pc := 48) w_1471 dX12_check_48 (s_ir (pc := 50) rfl dX12_check_50)) (s_aloadn (pc := 39) dX12_check_39 rfl (s_gR (pc := 40) (f := 1) ko_11 (by decide) rfl rfl w_1296 dX12_check_40 (s_iconst (pc := 43) dX12_check_43 c_ic_5 (s_iald (pc := 44) (by decide) (by decide) rfl rfl rfl dX12_check_44 (s_ifne (pc := 45) dX12_check_45 (by decide) (s_aloadn (pc := 51) dX12_check_51 rfl (s_gR (pc := 52) (f := 0) ko_11 (by decide) rfl rfl w_1295 dX12_check_52 (s_aloadn (pc := 55) dX12_check_55 rfl (s_gR (pc := 56) (f := 2) ko_11 (by decide) rfl rfl w_1297 dX12_check_56 (s_sV (pc := 59) (run_static (X12_copyAll_41_43_gd _) (show 0 < 7 by decide) cy_X12_copyAll w_1870 w_1869 dX12_check_59) (s_aloadn (pc := 62) dX12_check_62 rfl (s_gR (pc := 63) (f := 1) ko_11 (by decide) rfl rfl w_1296 dX12_check_63 (s_aloadn (pc := 66) dX12_check_66 rfl (s_gR (pc := 67) (f := 0) ko_11 (by decide) rfl rfl w_1295 dX12_check_67 (s_sV (pc := 70) (run_static (X12_copyAll_42_41_gd _) (show 0 < 7 by decide) cy_X12_copyAll w_1870 w_1869 dX12_check_70) (s_iconst (pc := 73) dX12_check_73 c_ic_0 (s_istoren (pc := 74) dX12_check_74 rfl (show 3 < 5 by decide) (s_iconst (pc := 75) dX12_check_75 c_ic_0 (s_istore (pc := 76) dX12_check_76 (show 4 < 5 by decide) hk78)))))))))))))) (s_ldc (pc := 48) w_1471 dX12_check_48 (s_ir (pc := 50) rfl dX12_check_50))))))))))))))) (s_ldc (pc := 20) w_1466 dX12_check_20 (s_ir (pc := 22) rfl dX12_check_22)))))))))))))
noncomputable def X12_check_b78 (c_X12_aStranger : Nat → PH → Option Rs) (k120 k164 : Kn) : Kn := (a_il 4 (a_il 1 (a_lt (a_il 3 (a_ic 2 (a_il 4 (a_b (fun a b => a * b) (a_eq (a_al 0 (a_vV 11 0 (FW_T11 c_X12_aStranger) (a_il 3 (a_il 3 (a_il 2 (a_lt (a_al 0 (a_gR 11 753 70 (a_il 3 (a_ald 70 4480 (a_al 0 (a_gI 11 731 (a_eq (a_ic 1 k120) (a_ic 0 k120)))))))) (a_ic 0 k120))))))) k164))))) k164)))
set_option maxRecDepth 100000 in
theorem X12_check_s78 {z : CZ} {k120 k164 : Kn} (hk120 : SK (X12_check_x z) 120 k120) (hk164 : SK (X12_check_x z) 164 k164) : SK (X12_check_x z) 78 (X12_check_b78 X12_aStranger k120 k164) := (s_iload (pc := 78) dX12_check_78 (s_iloadn (pc := 80) dX12_check_80 rfl (s_cmpge (pc := 81) dX12_check_81 (by decide) hk164 (s_iloadn (pc := 84) dX12_check_84 rfl (s_iconst (pc := 85) dX12_check_85 c_ic_2 (s_iload (pc := 86) dX12_check_86 (s_imul (pc := 88) dX12_check_88 (s_cmpne (pc := 89) dX12_check_89 (by decide) hk164 (s_aloadn (pc := 92) dX12_check_92 rfl (s_vV (pc := 93) (run_virtual (X12_aStranger_gd _) (show 6 < 7 by decide) cy_X12_aStranger (by decide) rfl w_1809 w_s75 w_1807 dX12_check_93) (s_iloadn (pc := 96) dX12_check_96 rfl (s_iloadn (pc := 97) dX12_check_97 rfl (s_iloadn (pc := 98) dX12_check_98 rfl (s_cmpge (pc := 99) dX12_check_99 (by decide) (s_iconst (pc := 119) dX12_check_119 c_ic_0 hk120) (s_aloadn (pc := 102) dX12_check_102 rfl (s_gR (pc := 103) (f := 49) ko_11 (by decide) rfl rfl w_1344 dX12_check_103 (s_iloadn (pc := 106) dX12_check_106 rfl (s_iald (pc := 107) (by decide) (by decide) rfl rfl rfl dX12_check_107 (s_aloadn (pc := 108) dX12_check_108 rfl (s_gI (pc := 109) (f := 27) ko_11 (by decide) rfl rfl w_1322 dX12_check_109 (s_cmpne (pc := 112) dX12_check_112 (by decide) (s_iconst (pc := 119) dX12_check_119 c_ic_0 hk120) (s_iconst (pc := 115) dX12_check_115 c_ic_1 (s_goto (pc := 116) dX12_check_116 (by decide) hk120)))))))))))))))))))))))
noncomputable def X12_check_b120 (k156 : Kn) : Kn := (a_b (fun a b => a + b) (a_is 3 (a_il 3 (a_il 3 (a_ic 2 (a_il 4 (a_b (fun a b => a * b) (a_ic 1 (a_b (fun a b => a + b) (a_eq (a_il 3 (a_il 2 (a_lt (a_al 0 (a_gR 11 753 70 (a_il 3 (a_ald 70 4480 (a_al 0 (a_gI 11 732 (a_eq (a_ic 1 k156) (a_ic 0 k156)))))))) (a_ic 0 k156)))) (a_ic 0 k156)))))))))))
set_option maxRecDepth 100000 in
theorem X12_check_s120 {z : CZ} {k156 : Kn} (hk156 : SK (X12_check_x z) 156 k156) : SK (X12_check_x z) 120 (X12_check_b120 k156) := (s_iadd (pc := 120) dX12_check_120 (s_istoren (pc := 121) dX12_check_121 rfl (show 3 < 5 by decide) (s_iloadn (pc := 122) dX12_check_122 rfl (s_iloadn (pc := 123) dX12_check_123 rfl (s_iconst (pc := 124) dX12_check_124 c_ic_2 (s_iload (pc := 125) dX12_check_125 (s_imul (pc := 127) dX12_check_127 (s_iconst (pc := 128) dX12_check_128 c_ic_1 (s_iadd (pc := 129) dX12_check_129 (s_cmpne (pc := 130) dX12_check_130 (by decide) (s_iconst (pc := 155) dX12_check_155 c_ic_0 hk156) (s_iloadn (pc := 133) dX12_check_133 rfl (s_iloadn (pc := 134) dX12_check_134 rfl (s_cmpge (pc := 135) dX12_check_135 (by decide) (s_iconst (pc := 155) dX12_check_155 c_ic_0 hk156) (s_aloadn (pc := 138) dX12_check_138 rfl (s_gR (pc := 139) (f := 49) ko_11 (by decide) rfl rfl w_1344 dX12_check_139 (s_iloadn (pc := 142) dX12_check_142 rfl (s_iald (pc := 143) (by decide) (by decide) rfl rfl rfl dX12_check_143 (s_aloadn (pc := 144) dX12_check_144 rfl (s_gI (pc := 145) (f := 28) ko_11 (by decide) rfl rfl w_1323 dX12_check_145 (s_cmpne (pc := 148) dX12_check_148 (by decide) (s_iconst (pc := 155) dX12_check_155 c_ic_0 hk156) (s_iconst (pc := 151) dX12_check_151 c_ic_1 (s_goto (pc := 152) dX12_check_152 (by decide) hk156))))))))))))))))))))))
noncomputable def X12_check_b156 (k78 : Kn) : Kn := (a_b (fun a b => a + b) (a_is 3 (a_inc 4 1 k78)))
set_option maxRecDepth 100000 in
theorem X12_check_s156 {z : CZ} {k78 : Kn} (hk78 : SK (X12_check_x z) 78 k78) : SK (X12_check_x z) 156 (X12_check_b156 k78) := (s_iadd (pc := 156) dX12_check_156 (s_istoren (pc := 157) dX12_check_157 rfl (show 3 < 5 by decide) (s_iinc (pc := 158) dX12_check_158 c_ic_1 (show 4 < 5 by decide) (s_goto (pc := 161) dX12_check_161 (by decide) hk78))))
noncomputable def X12_check_b164 (c_X12_copyAll_43_41 : Nat → Nat → PH → Option Rs) (k191 : Kn) : Kn := (a_al 0 (a_gR 11 706 43 (a_al 0 (a_gR 11 704 41 (a_sV 2 (FW_R43R41 c_X12_copyAll_43_41) (a_il 3 (a_il 2 (a_eq (a_il 3 (a_ic 2 (a_il 1 (a_b (fun a b => a * b) (a_eq (a_ic 0 a_ir) k191))))) k191))))))))
set_option maxRecDepth 100000 in
theorem X12_check_s164 {z : CZ} {k191 : Kn} (hk191 : SK (X12_check_x z) 191 k191) : SK (X12_check_x z) 164 (X12_check_b164 X12_copyAll_43_41 k191) := (s_aloadn (pc := 164) dX12_check_164 rfl (s_gR (pc := 165) (f := 2) ko_11 (by decide) rfl rfl w_1297 dX12_check_165 (s_aloadn (pc := 168) dX12_check_168 rfl (s_gR (pc := 169) (f := 0) ko_11 (by decide) rfl rfl w_1295 dX12_check_169 (s_sV (pc := 172) (run_static (X12_copyAll_43_41_gd _) (show 0 < 7 by decide) cy_X12_copyAll w_1870 w_1869 dX12_check_172) (s_iloadn (pc := 175) dX12_check_175 rfl (s_iloadn (pc := 176) dX12_check_176 rfl (s_cmpne (pc := 177) dX12_check_177 (by decide) hk191 (s_iloadn (pc := 180) dX12_check_180 rfl (s_iconst (pc := 181) dX12_check_181 c_ic_2 (s_iloadn (pc := 182) dX12_check_182 rfl (s_imul (pc := 183) dX12_check_183 (s_cmpne (pc := 184) dX12_check_184 (by decide) hk191 (s_iconst (pc := 187) dX12_check_187 c_ic_0 (s_goto (pc := 188) dX12_check_188 (by decide) (s_ir (pc := 194) rfl dX12_check_194))))))))))))))))
noncomputable def X12_check_b191 : Kn := (a_ic 1 (a_il 3 (a_b (fun a b => a + b) a_ir)))
set_option maxRecDepth 100000 in
theorem X12_check_s191 {z : CZ} : SK (X12_check_x z) 191 (X12_check_b191) := (s_iconst (pc := 191) dX12_check_191 c_ic_1 (s_iloadn (pc := 192) dX12_check_192 rfl (s_iadd (pc := 193) dX12_check_193 (s_ir (pc := 194) rfl dX12_check_194))))
noncomputable def X12_check_u78 (g : Nat → Int32 → Int32 → Int32 → Int32 → PH → Option Rs) : Kn := fun ls st h => gL 0 st (gT 11 ls 0 fun t => gI ls 1 fun x1 => gI ls 2 fun x2 => gI ls 3 fun x3 => gI ls 4 fun x4 => g t x1 x2 x3 x4 h)
noncomputable def X12_check_u120 (g : Nat → Int32 → Int32 → Int32 → Int32 → Int32 → PH → Option Rs) : Kn := fun ls st h => gL 2 st (gT 11 ls 0 fun t => gI ls 1 fun x1 => gI ls 2 fun x2 => gI ls 4 fun x4 => gI (st.map some) 0 fun s0 => gI (st.map some) 1 fun s1 => g t x1 x2 x4 s0 s1 h)
noncomputable def X12_check_u156 (g : Nat → Int32 → Int32 → Int32 → Int32 → Int32 → PH → Option Rs) : Kn := fun ls st h => gL 2 st (gT 11 ls 0 fun t => gI ls 1 fun x1 => gI ls 2 fun x2 => gI ls 4 fun x4 => gI (st.map some) 0 fun s0 => gI (st.map some) 1 fun s1 => g t x1 x2 x4 s0 s1 h)
noncomputable def X12_check_u164 (g : Nat → Int32 → Int32 → Int32 → PH → Option Rs) : Kn := fun ls st h => gL 0 st (gT 11 ls 0 fun t => gI ls 1 fun x1 => gI ls 2 fun x2 => gI ls 3 fun x3 => g t x1 x2 x3 h)
noncomputable def X12_check_u191 (g : Int32 → PH → Option Rs) : Kn := fun ls st h => gL 0 st (gI ls 3 fun x3 => g x3 h)
noncomputable def X12_check_f0 (c_X12_in : Int32 → Int32 → Int32 → PH → Option Rs) (c_X12_copyAll_41_43 : Nat → Nat → PH → Option Rs) (c_X12_copyAll_42_41 : Nat → Nat → PH → Option Rs) (g78 : Nat → Int32 → Int32 → Int32 → Int32 → PH → Option Rs) (t : Nat) (x1 : Int32) (h : PH) : Option Rs :=
  wr (pI h 754 t 0 0) fun h1 =>
  cI (c_X12_in x1 1 30 h1) fun v3 h2 =>
  if v3 = 0 then
    some (some (.inl (-1000000001)), h2)
  else
    if (hI h2 707 t 0) = 0 then
      some (some (.inl (-1000000002)), h2)
    else
      nn (hR h2 705 t 0) fun r4 =>
      ix 3 (hL h2 42 r4) fun j5 =>
      if (hI h2 2688 r4 j5) = 0 then
        some (some (.inl (-1000000002)), h2)
      else
        nn (hR h2 705 t 0) fun r6 =>
        ix 5 (hL h2 42 r6) fun j7 =>
        if (hI h2 2688 r6 j7) = 0 then
          some (some (.inl (-1000000002)), h2)
        else
          cV (c_X12_copyAll_41_43 (hR h2 704 t 0) (hR h2 706 t 0) h2) fun h8 =>
          cV (c_X12_copyAll_42_41 (hR h8 705 t 0) (hR h8 704 t 0) h8) fun h9 =>
          g78 t x1 (hI h 754 t 0) 0 0 h9
set_option maxRecDepth 100000 in
theorem X12_check_l0 (c_X12_in : Int32 → Int32 → Int32 → PH → Option Rs) (c_X12_copyAll_41_43 : Nat → Nat → PH → Option Rs) (c_X12_copyAll_42_41 : Nat → Nat → PH → Option Rs) (g78 : Nat → Int32 → Int32 → Int32 → Int32 → PH → Option Rs) (t : Nat) (x1 : Int32) (h : PH) : X12_check_b0 c_X12_in c_X12_copyAll_41_43 c_X12_copyAll_42_41 (X12_check_u78 g78) [some (.inr (11, t + 1)), some (.inl x1), none, none, none] [] h = X12_check_f0 c_X12_in c_X12_copyAll_41_43 c_X12_copyAll_42_41 g78 t x1 h := rfl
theorem X12_check_m0 {c_X12_in : Int32 → Int32 → Int32 → PH → Option Rs} {c_X12_copyAll_41_43 : Nat → Nat → PH → Option Rs} {c_X12_copyAll_42_41 : Nat → Nat → PH → Option Rs} {g78 G78 : Nat → Int32 → Int32 → Int32 → Int32 → PH → Option Rs} (hg78 : ∀ a0 a1 a2 a3 a4 a5, Mo (g78 a0 a1 a2 a3 a4 a5) (G78 a0 a1 a2 a3 a4 a5)) (t : Nat) (x1 : Int32) (h : PH) : Mo (X12_check_f0 c_X12_in c_X12_copyAll_41_43 c_X12_copyAll_42_41 g78 t x1 h) (X12_check_f0 c_X12_in c_X12_copyAll_41_43 c_X12_copyAll_42_41 G78 t x1 h) := (mo_wr fun h1 => (mo_cI fun v3 h2 => (mo_if mo_rf (mo_if mo_rf (mo_nn fun r4 => (mo_ix fun j5 => (mo_if mo_rf (mo_nn fun r6 => (mo_ix fun j7 => (mo_if mo_rf (mo_cV fun h8 => (mo_cV fun h9 => (hg78 t x1 (hI h 754 t 0) 0 0 h9)))))))))))))
noncomputable def X12_check_f78 (c_X12_aStranger : Nat → PH → Option Rs) (g120 : Nat → Int32 → Int32 → Int32 → Int32 → Int32 → PH → Option Rs) (g164 : Nat → Int32 → Int32 → Int32 → PH → Option Rs) (t : Nat) (x1 : Int32) (x2 : Int32) (x3 : Int32) (x4 : Int32) (h : PH) : Option Rs :=
  if x4 < x1 then
    if x3 = (2 * x4) then
      cV (c_X12_aStranger t h) fun h10 =>
      if x3 < x2 then
        nn (hR h10 753 t 0) fun r11 =>
        ix x3 (hL h10 70 r11) fun j12 =>
        if (hI h10 4480 r11 j12) = (hI h10 731 t 0) then
          g120 t x1 x2 x4 1 x3 h10
        else
          g120 t x1 x2 x4 0 x3 h10
      else
        g120 t x1 x2 x4 0 x3 h10
    else
      g164 t x1 x2 x3 h
  else
    g164 t x1 x2 x3 h
set_option maxRecDepth 100000 in
theorem X12_check_l78 (c_X12_aStranger : Nat → PH → Option Rs) (g120 : Nat → Int32 → Int32 → Int32 → Int32 → Int32 → PH → Option Rs) (g164 : Nat → Int32 → Int32 → Int32 → PH → Option Rs) (t : Nat) (x1 : Int32) (x2 : Int32) (x3 : Int32) (x4 : Int32) (h : PH) : X12_check_b78 c_X12_aStranger (X12_check_u120 g120) (X12_check_u164 g164) [some (.inr (11, t + 1)), some (.inl x1), some (.inl x2), some (.inl x3), some (.inl x4)] [] h = X12_check_f78 c_X12_aStranger g120 g164 t x1 x2 x3 x4 h := rfl
theorem X12_check_m78 {c_X12_aStranger : Nat → PH → Option Rs} {g120 G120 : Nat → Int32 → Int32 → Int32 → Int32 → Int32 → PH → Option Rs} {g164 G164 : Nat → Int32 → Int32 → Int32 → PH → Option Rs} (hg120 : ∀ a0 a1 a2 a3 a4 a5 a6, Mo (g120 a0 a1 a2 a3 a4 a5 a6) (G120 a0 a1 a2 a3 a4 a5 a6)) (hg164 : ∀ a0 a1 a2 a3 a4, Mo (g164 a0 a1 a2 a3 a4) (G164 a0 a1 a2 a3 a4)) (t : Nat) (x1 : Int32) (x2 : Int32) (x3 : Int32) (x4 : Int32) (h : PH) : Mo (X12_check_f78 c_X12_aStranger g120 g164 t x1 x2 x3 x4 h) (X12_check_f78 c_X12_aStranger G120 G164 t x1 x2 x3 x4 h) := (mo_if (mo_if (mo_cV fun h10 => (mo_if (mo_nn fun r11 => (mo_ix fun j12 => (mo_if (hg120 t x1 x2 x4 1 x3 h10) (hg120 t x1 x2 x4 0 x3 h10)))) (hg120 t x1 x2 x4 0 x3 h10))) (hg164 t x1 x2 x3 h)) (hg164 t x1 x2 x3 h))
theorem X12_check_w78 {z : CZ} {g120 : Nat → Int32 → Int32 → Int32 → Int32 → Int32 → PH → Option Rs} {g164 : Nat → Int32 → Int32 → Int32 → PH → Option Rs} (hk120 : SK (X12_check_x z) 120 (X12_check_u120 g120)) (hk164 : SK (X12_check_x z) 164 (X12_check_u164 g164)) : SK (X12_check_x z) 78 (X12_check_u78 (X12_check_f78 X12_aStranger g120 g164)) := by
  intro ls st h r e
  obtain ⟨hst, e⟩ := gL_of e
  obtain ⟨t, q0, e⟩ := gT_of e
  obtain ⟨x1, q1, e⟩ := gI_of e
  obtain ⟨x2, q2, e⟩ := gI_of e
  obtain ⟨x3, q3, e⟩ := gI_of e
  obtain ⟨x4, q4, e⟩ := gI_of e
  rw [st_0 hst]
  exact WK.sub (canon := [some (.inr (11, t + 1)), some (.inl x1), some (.inl x2), some (.inl x3), some (.inl x4)]) rfl ⟨q0, q1, q2, q3, q4, trivial⟩ (X12_check_s78 hk120 hk164 _ _ _ _ ((X12_check_l78 X12_aStranger g120 g164 t x1 x2 x3 x4 h).trans e))
noncomputable def X12_check_f120 (g156 : Nat → Int32 → Int32 → Int32 → Int32 → Int32 → PH → Option Rs) (t : Nat) (x1 : Int32) (x2 : Int32) (x4 : Int32) (s0 : Int32) (s1 : Int32) (h : PH) : Option Rs :=
  if (s1 + s0) = ((2 * x4) + 1) then
    if (s1 + s0) < x2 then
      nn (hR h 753 t 0) fun r13 =>
      ix (s1 + s0) (hL h 70 r13) fun j14 =>
      if (hI h 4480 r13 j14) = (hI h 732 t 0) then
        g156 t x1 x2 x4 1 (s1 + s0) h
      else
        g156 t x1 x2 x4 0 (s1 + s0) h
    else
      g156 t x1 x2 x4 0 (s1 + s0) h
  else
    g156 t x1 x2 x4 0 (s1 + s0) h
set_option maxRecDepth 100000 in
theorem X12_check_l120 (g156 : Nat → Int32 → Int32 → Int32 → Int32 → Int32 → PH → Option Rs) (t : Nat) (x1 : Int32) (x2 : Int32) (x4 : Int32) (s0 : Int32) (s1 : Int32) (h : PH) : X12_check_b120 (X12_check_u156 g156) [some (.inr (11, t + 1)), some (.inl x1), some (.inl x2), none, some (.inl x4)] [.inl s0, .inl s1] h = X12_check_f120 g156 t x1 x2 x4 s0 s1 h := rfl
theorem X12_check_m120 {g156 G156 : Nat → Int32 → Int32 → Int32 → Int32 → Int32 → PH → Option Rs} (hg156 : ∀ a0 a1 a2 a3 a4 a5 a6, Mo (g156 a0 a1 a2 a3 a4 a5 a6) (G156 a0 a1 a2 a3 a4 a5 a6)) (t : Nat) (x1 : Int32) (x2 : Int32) (x4 : Int32) (s0 : Int32) (s1 : Int32) (h : PH) : Mo (X12_check_f120 g156 t x1 x2 x4 s0 s1 h) (X12_check_f120 G156 t x1 x2 x4 s0 s1 h) := (mo_if (mo_if (mo_nn fun r13 => (mo_ix fun j14 => (mo_if (hg156 t x1 x2 x4 1 (s1 + s0) h) (hg156 t x1 x2 x4 0 (s1 + s0) h)))) (hg156 t x1 x2 x4 0 (s1 + s0) h)) (hg156 t x1 x2 x4 0 (s1 + s0) h))
theorem X12_check_w120 {z : CZ} {g156 : Nat → Int32 → Int32 → Int32 → Int32 → Int32 → PH → Option Rs} (hk156 : SK (X12_check_x z) 156 (X12_check_u156 g156)) : SK (X12_check_x z) 120 (X12_check_u120 (X12_check_f120 g156)) := by
  intro ls st h r e
  obtain ⟨hst, e⟩ := gL_of e
  obtain ⟨t, q0, e⟩ := gT_of e
  obtain ⟨x1, q1, e⟩ := gI_of e
  obtain ⟨x2, q2, e⟩ := gI_of e
  obtain ⟨x4, q3, e⟩ := gI_of e
  obtain ⟨s0, q4, e⟩ := gI_of e
  obtain ⟨s1, q5, e⟩ := gI_of e
  rw [st_2 hst q4 q5]
  exact WK.sub (canon := [some (.inr (11, t + 1)), some (.inl x1), some (.inl x2), none, some (.inl x4)]) rfl ⟨q0, q1, q2, q3, trivial⟩ (X12_check_s120 hk156 _ _ _ _ ((X12_check_l120 g156 t x1 x2 x4 s0 s1 h).trans e))
noncomputable def X12_check_f156 (g78 : Nat → Int32 → Int32 → Int32 → Int32 → PH → Option Rs) (t : Nat) (x1 : Int32) (x2 : Int32) (x4 : Int32) (s0 : Int32) (s1 : Int32) (h : PH) : Option Rs :=
  g78 t x1 x2 (s1 + s0) (x4 + 1) h
set_option maxRecDepth 100000 in
theorem X12_check_l156 (g78 : Nat → Int32 → Int32 → Int32 → Int32 → PH → Option Rs) (t : Nat) (x1 : Int32) (x2 : Int32) (x4 : Int32) (s0 : Int32) (s1 : Int32) (h : PH) : X12_check_b156 (X12_check_u78 g78) [some (.inr (11, t + 1)), some (.inl x1), some (.inl x2), none, some (.inl x4)] [.inl s0, .inl s1] h = X12_check_f156 g78 t x1 x2 x4 s0 s1 h := rfl
theorem X12_check_m156 {g78 G78 : Nat → Int32 → Int32 → Int32 → Int32 → PH → Option Rs} (hg78 : ∀ a0 a1 a2 a3 a4 a5, Mo (g78 a0 a1 a2 a3 a4 a5) (G78 a0 a1 a2 a3 a4 a5)) (t : Nat) (x1 : Int32) (x2 : Int32) (x4 : Int32) (s0 : Int32) (s1 : Int32) (h : PH) : Mo (X12_check_f156 g78 t x1 x2 x4 s0 s1 h) (X12_check_f156 G78 t x1 x2 x4 s0 s1 h) := (hg78 t x1 x2 (s1 + s0) (x4 + 1) h)
theorem X12_check_w156 {z : CZ} {g78 : Nat → Int32 → Int32 → Int32 → Int32 → PH → Option Rs} (hk78 : SK (X12_check_x z) 78 (X12_check_u78 g78)) : SK (X12_check_x z) 156 (X12_check_u156 (X12_check_f156 g78)) := by
  intro ls st h r e
  obtain ⟨hst, e⟩ := gL_of e
  obtain ⟨t, q0, e⟩ := gT_of e
  obtain ⟨x1, q1, e⟩ := gI_of e
  obtain ⟨x2, q2, e⟩ := gI_of e
  obtain ⟨x4, q3, e⟩ := gI_of e
  obtain ⟨s0, q4, e⟩ := gI_of e
  obtain ⟨s1, q5, e⟩ := gI_of e
  rw [st_2 hst q4 q5]
  exact WK.sub (canon := [some (.inr (11, t + 1)), some (.inl x1), some (.inl x2), none, some (.inl x4)]) rfl ⟨q0, q1, q2, q3, trivial⟩ (X12_check_s156 hk78 _ _ _ _ ((X12_check_l156 g78 t x1 x2 x4 s0 s1 h).trans e))
noncomputable def X12_check_f164 (c_X12_copyAll_43_41 : Nat → Nat → PH → Option Rs) (g191 : Int32 → PH → Option Rs) (t : Nat) (x1 : Int32) (x2 : Int32) (x3 : Int32) (h : PH) : Option Rs :=
  cV (c_X12_copyAll_43_41 (hR h 706 t 0) (hR h 704 t 0) h) fun h15 =>
  if x3 = x2 then
    if x3 = (2 * x1) then
      some (some (.inl 0), h15)
    else
      g191 x3 h15
  else
    g191 x3 h15
set_option maxRecDepth 100000 in
theorem X12_check_l164 (c_X12_copyAll_43_41 : Nat → Nat → PH → Option Rs) (g191 : Int32 → PH → Option Rs) (t : Nat) (x1 : Int32) (x2 : Int32) (x3 : Int32) (h : PH) : X12_check_b164 c_X12_copyAll_43_41 (X12_check_u191 g191) [some (.inr (11, t + 1)), some (.inl x1), some (.inl x2), some (.inl x3), none] [] h = X12_check_f164 c_X12_copyAll_43_41 g191 t x1 x2 x3 h := rfl
theorem X12_check_m164 {c_X12_copyAll_43_41 : Nat → Nat → PH → Option Rs} {g191 G191 : Int32 → PH → Option Rs} (hg191 : ∀ a0 a1, Mo (g191 a0 a1) (G191 a0 a1)) (t : Nat) (x1 : Int32) (x2 : Int32) (x3 : Int32) (h : PH) : Mo (X12_check_f164 c_X12_copyAll_43_41 g191 t x1 x2 x3 h) (X12_check_f164 c_X12_copyAll_43_41 G191 t x1 x2 x3 h) := (mo_cV fun h15 => (mo_if (mo_if mo_rf (hg191 x3 h15)) (hg191 x3 h15)))
theorem X12_check_w164 {z : CZ} {g191 : Int32 → PH → Option Rs} (hk191 : SK (X12_check_x z) 191 (X12_check_u191 g191)) : SK (X12_check_x z) 164 (X12_check_u164 (X12_check_f164 X12_copyAll_43_41 g191)) := by
  intro ls st h r e
  obtain ⟨hst, e⟩ := gL_of e
  obtain ⟨t, q0, e⟩ := gT_of e
  obtain ⟨x1, q1, e⟩ := gI_of e
  obtain ⟨x2, q2, e⟩ := gI_of e
  obtain ⟨x3, q3, e⟩ := gI_of e
  rw [st_0 hst]
  exact WK.sub (canon := [some (.inr (11, t + 1)), some (.inl x1), some (.inl x2), some (.inl x3), none]) rfl ⟨q0, q1, q2, q3, trivial⟩ (X12_check_s164 hk191 _ _ _ _ ((X12_check_l164 X12_copyAll_43_41 g191 t x1 x2 x3 h).trans e))
noncomputable def X12_check_f191 (x3 : Int32) (h : PH) : Option Rs :=
  some (some (.inl (1 + x3)), h)
set_option maxRecDepth 100000 in
theorem X12_check_l191 (x3 : Int32) (h : PH) : X12_check_b191 [none, none, none, some (.inl x3), none] [] h = X12_check_f191 x3 h := rfl
theorem X12_check_w191 {z : CZ} : SK (X12_check_x z) 191 (X12_check_u191 (X12_check_f191)) := by
  intro ls st h r e
  obtain ⟨hst, e⟩ := gL_of e
  obtain ⟨x3, q0, e⟩ := gI_of e
  rw [st_0 hst]
  exact WK.sub (canon := [none, none, none, some (.inl x3), none]) rfl ⟨q0, trivial⟩ (X12_check_s191 _ _ _ _ ((X12_check_l191 x3 h).trans e))
noncomputable def X12_check_g0 (G : (Nat → Int32 → Int32 → Int32 → Int32 → PH → Option Rs)) (t : Nat) (x1 : Int32) (h : PH) : Option Rs := X12_check_f0 X12_in X12_copyAll_41_43 X12_copyAll_42_41 (G) t x1 h
noncomputable def X12_check_g156 (G : (Nat → Int32 → Int32 → Int32 → Int32 → PH → Option Rs)) (t : Nat) (x1 : Int32) (x2 : Int32) (x4 : Int32) (s0 : Int32) (s1 : Int32) (h : PH) : Option Rs := X12_check_f156 (G) t x1 x2 x4 s0 s1 h
noncomputable def X12_check_g120 (G : (Nat → Int32 → Int32 → Int32 → Int32 → PH → Option Rs)) (t : Nat) (x1 : Int32) (x2 : Int32) (x4 : Int32) (s0 : Int32) (s1 : Int32) (h : PH) : Option Rs := X12_check_f120 (X12_check_g156 G) t x1 x2 x4 s0 s1 h
noncomputable def X12_check_g191 (G : (Nat → Int32 → Int32 → Int32 → Int32 → PH → Option Rs)) (x3 : Int32) (h : PH) : Option Rs := X12_check_f191 x3 h
noncomputable def X12_check_g164 (G : (Nat → Int32 → Int32 → Int32 → Int32 → PH → Option Rs)) (t : Nat) (x1 : Int32) (x2 : Int32) (x3 : Int32) (h : PH) : Option Rs := X12_check_f164 X12_copyAll_43_41 (X12_check_g191 G) t x1 x2 x3 h
noncomputable def X12_check_g78 (G : (Nat → Int32 → Int32 → Int32 → Int32 → PH → Option Rs)) (t : Nat) (x1 : Int32) (x2 : Int32) (x3 : Int32) (x4 : Int32) (h : PH) : Option Rs := X12_check_f78 X12_aStranger (X12_check_g120 G) (X12_check_g164 G) t x1 x2 x3 x4 h
theorem X12_check_v156 {z : CZ} {G : (Nat → Int32 → Int32 → Int32 → Int32 → PH → Option Rs)} (hG78 : SK (X12_check_x z) 78 (X12_check_u78 (G))) : SK (X12_check_x z) 156 (X12_check_u156 (X12_check_g156 G)) := X12_check_w156 hG78
theorem X12_check_v120 {z : CZ} {G : (Nat → Int32 → Int32 → Int32 → Int32 → PH → Option Rs)} (hG78 : SK (X12_check_x z) 78 (X12_check_u78 (G))) : SK (X12_check_x z) 120 (X12_check_u120 (X12_check_g120 G)) := X12_check_w120 (X12_check_v156 hG78)
theorem X12_check_v191 {z : CZ} {G : (Nat → Int32 → Int32 → Int32 → Int32 → PH → Option Rs)} (hG78 : SK (X12_check_x z) 78 (X12_check_u78 (G))) : SK (X12_check_x z) 191 (X12_check_u191 (X12_check_g191 G)) := X12_check_w191
theorem X12_check_v164 {z : CZ} {G : (Nat → Int32 → Int32 → Int32 → Int32 → PH → Option Rs)} (hG78 : SK (X12_check_x z) 78 (X12_check_u78 (G))) : SK (X12_check_x z) 164 (X12_check_u164 (X12_check_g164 G)) := X12_check_w164 (X12_check_v191 hG78)
theorem X12_check_v78 {z : CZ} {G : (Nat → Int32 → Int32 → Int32 → Int32 → PH → Option Rs)} (hG78 : SK (X12_check_x z) 78 (X12_check_u78 (G))) : SK (X12_check_x z) 78 (X12_check_u78 (X12_check_g78 G)) := X12_check_w78 (X12_check_v120 hG78) (X12_check_v164 hG78)
noncomputable def X12_check_fam : Nat → (Nat → Int32 → Int32 → Int32 → Int32 → PH → Option Rs)
  | 0 => fun _ _ _ _ _ _ => none
  | n + 1 => X12_check_g78 (X12_check_fam n)
theorem X12_check_k {z : CZ} : ∀ n, SK (X12_check_x z) 78 (X12_check_u78 (X12_check_fam n))
  | 0 => (fun ls st h r e => by
      obtain ⟨_, e⟩ := gL_of e
      obtain ⟨_, _, e⟩ := gT_of e
      obtain ⟨_, _, e⟩ := gI_of e
      obtain ⟨_, _, e⟩ := gI_of e
      obtain ⟨_, _, e⟩ := gI_of e
      obtain ⟨_, _, e⟩ := gI_of e
      cases e)
  | n + 1 => by
    obtain ih78 := X12_check_k n
    exact X12_check_v78 ih78
theorem X12_check_n0 {G G' : (Nat → Int32 → Int32 → Int32 → Int32 → PH → Option Rs)} (hg78 : ∀ a0 a1 a2 a3 a4 a5, Mo ((G) a0 a1 a2 a3 a4 a5) ((G') a0 a1 a2 a3 a4 a5)) (t : Nat) (x1 : Int32) (h : PH) : Mo (X12_check_g0 G t x1 h) (X12_check_g0 G' t x1 h) := X12_check_m0 hg78 t x1 h
theorem X12_check_n156 {G G' : (Nat → Int32 → Int32 → Int32 → Int32 → PH → Option Rs)} (hg78 : ∀ a0 a1 a2 a3 a4 a5, Mo ((G) a0 a1 a2 a3 a4 a5) ((G') a0 a1 a2 a3 a4 a5)) (t : Nat) (x1 : Int32) (x2 : Int32) (x4 : Int32) (s0 : Int32) (s1 : Int32) (h : PH) : Mo (X12_check_g156 G t x1 x2 x4 s0 s1 h) (X12_check_g156 G' t x1 x2 x4 s0 s1 h) := X12_check_m156 hg78 t x1 x2 x4 s0 s1 h
theorem X12_check_n120 {G G' : (Nat → Int32 → Int32 → Int32 → Int32 → PH → Option Rs)} (hg78 : ∀ a0 a1 a2 a3 a4 a5, Mo ((G) a0 a1 a2 a3 a4 a5) ((G') a0 a1 a2 a3 a4 a5)) (t : Nat) (x1 : Int32) (x2 : Int32) (x4 : Int32) (s0 : Int32) (s1 : Int32) (h : PH) : Mo (X12_check_g120 G t x1 x2 x4 s0 s1 h) (X12_check_g120 G' t x1 x2 x4 s0 s1 h) := X12_check_m120 (fun a0 a1 a2 a3 a4 a5 a6 => X12_check_n156 hg78 a0 a1 a2 a3 a4 a5 a6) t x1 x2 x4 s0 s1 h
theorem X12_check_n191 {G G' : (Nat → Int32 → Int32 → Int32 → Int32 → PH → Option Rs)} (hg78 : ∀ a0 a1 a2 a3 a4 a5, Mo ((G) a0 a1 a2 a3 a4 a5) ((G') a0 a1 a2 a3 a4 a5)) (x3 : Int32) (h : PH) : Mo (X12_check_g191 G x3 h) (X12_check_g191 G' x3 h) := mo_rf
theorem X12_check_n164 {G G' : (Nat → Int32 → Int32 → Int32 → Int32 → PH → Option Rs)} (hg78 : ∀ a0 a1 a2 a3 a4 a5, Mo ((G) a0 a1 a2 a3 a4 a5) ((G') a0 a1 a2 a3 a4 a5)) (t : Nat) (x1 : Int32) (x2 : Int32) (x3 : Int32) (h : PH) : Mo (X12_check_g164 G t x1 x2 x3 h) (X12_check_g164 G' t x1 x2 x3 h) := X12_check_m164 (fun a0 a1 => X12_check_n191 hg78 a0 a1) t x1 x2 x3 h
theorem X12_check_n78 {G G' : (Nat → Int32 → Int32 → Int32 → Int32 → PH → Option Rs)} (hg78 : ∀ a0 a1 a2 a3 a4 a5, Mo ((G) a0 a1 a2 a3 a4 a5) ((G') a0 a1 a2 a3 a4 a5)) (t : Nat) (x1 : Int32) (x2 : Int32) (x3 : Int32) (x4 : Int32) (h : PH) : Mo (X12_check_g78 G t x1 x2 x3 x4 h) (X12_check_g78 G' t x1 x2 x3 x4 h) := X12_check_m78 (fun a0 a1 a2 a3 a4 a5 a6 => X12_check_n120 hg78 a0 a1 a2 a3 a4 a5 a6) (fun a0 a1 a2 a3 a4 => X12_check_n164 hg78 a0 a1 a2 a3 a4) t x1 x2 x3 x4 h
theorem X12_check_fm : ∀ n, (∀ a0 a1 a2 a3 a4 a5, Mo ((X12_check_fam n) a0 a1 a2 a3 a4 a5) ((X12_check_fam (n + 1)) a0 a1 a2 a3 a4 a5))
  | 0 => fun _ _ _ _ _ _ => mo_no
  | n + 1 => by
    obtain ih78 := X12_check_fm n
    exact fun a0 a1 a2 a3 a4 a5 => X12_check_n78 ih78 a0 a1 a2 a3 a4 a5
noncomputable def X12_check (t : Nat) (x1 : Int32) (h : PH) : Option Rs := lim (fun n => X12_check_g0 (X12_check_fam n) t x1 h)
theorem X12_check_iff {t : Nat} {x1 : Int32} {h : PH} {r : Rs} : X12_check t x1 h = some r ↔ ∃ n, X12_check_g0 (X12_check_fam n) t x1 h = some r := lim_iff (fun n => by
  obtain ih78 := X12_check_fm n
  exact X12_check_n0 ih78 t x1 h)
noncomputable abbrev X12_check_F : List PV → PH → Option Rs := FW_T11I (X12_check)
set_option maxRecDepth 100000 in
theorem X12_check_gd (l : Launch) : Gd l 7 yX12_check cX12_check 5 (some .int) (X12_check_F)   := Gd_of (by decide +kernel) (fun z hzl as h r e => by
  obtain ⟨hst, e⟩ := gL_of e
  obtain ⟨t, q0, e⟩ := gT_of e
  obtain ⟨x1, q1, e⟩ := gI_of e
  rw [st_2 hst q0 q1]
  obtain ⟨n, e⟩ := lim_of e
  obtain hG78 := X12_check_k (z := z) n
  exact ⟨show 2 ≤ 5 by decide, X12_check_s0 hG78 _ _ _ _ ((X12_check_l0 X12_in X12_copyAll_41_43 X12_copyAll_42_41 (X12_check_fam n) t x1 h).trans e)⟩)
abbrev X12_copyAll_41_42_x (z : CZ) : CX := mx RX12 cX12_copyAll 3 0 none "copyAll" z
noncomputable def X12_copyAll_41_42_b0 (k2 : Kn) : Kn := (a_ic 0 (a_is 2 k2))
set_option maxRecDepth 100000 in
theorem X12_copyAll_41_42_s0 {z : CZ} {k2 : Kn} (hk2 : SK (X12_copyAll_41_42_x z) 2 k2) : SK (X12_copyAll_41_42_x z) 0 (X12_copyAll_41_42_b0 k2) := (s_iconst (pc := 0) dX12_copyAll_0 c_ic_0 (s_istoren (pc := 1) dX12_copyAll_1 rfl (show 2 < 3 by decide) hk2))
noncomputable def X12_copyAll_41_42_b2 (k2 : Kn) : Kn := (a_il 2 (a_ic 1765 (a_lt (a_al 1 (a_il 2 (a_al 0 (a_il 2 (a_ald 41 2624 (a_ast 42 2688 (fun a => a) (a_inc 2 1 k2))))))) a_vr)))
set_option maxRecDepth 100000 in
theorem X12_copyAll_41_42_s2 {z : CZ} {k2 : Kn} (hk2 : SK (X12_copyAll_41_42_x z) 2 k2) : SK (X12_copyAll_41_42_x z) 2 (X12_copyAll_41_42_b2 k2) := (s_iloadn (pc := 2) dX12_copyAll_2 rfl (s_sipush (pc := 3) dX12_copyAll_3 c_sp_1765 (s_cmpge (pc := 6) dX12_copyAll_6 (by decide) (s_vr (pc := 21) rfl dX12_copyAll_21) (s_aloadn (pc := 9) dX12_copyAll_9 rfl (s_iloadn (pc := 10) dX12_copyAll_10 rfl (s_aloadn (pc := 11) dX12_copyAll_11 rfl (s_iloadn (pc := 12) dX12_copyAll_12 rfl (s_iald (pc := 13) (by decide) (by decide) rfl rfl rfl dX12_copyAll_13 (s_iast (pc := 14) (by decide) (by decide) rfl rfl rfl dX12_copyAll_14 (s_iinc (pc := 15) dX12_copyAll_15 c_ic_1 (show 2 < 3 by decide) (s_goto (pc := 18) dX12_copyAll_18 (by decide) hk2)))))))))))
noncomputable def X12_copyAll_41_42_u2 (g : Nat → Nat → Int32 → PH → Option Rs) : Kn := fun ls st h => gL 0 st (gR 41 ls 0 fun x0 => gR 42 ls 1 fun x1 => gI ls 2 fun x2 => g x0 x1 x2 h)
noncomputable def X12_copyAll_41_42_f0 (g2 : Nat → Nat → Int32 → PH → Option Rs) (x0 : Nat) (x1 : Nat) (h : PH) : Option Rs :=
  g2 x0 x1 0 h
set_option maxRecDepth 100000 in
theorem X12_copyAll_41_42_l0 (g2 : Nat → Nat → Int32 → PH → Option Rs) (x0 : Nat) (x1 : Nat) (h : PH) : X12_copyAll_41_42_b0 (X12_copyAll_41_42_u2 g2) [some (.inr (41, x0)), some (.inr (42, x1)), none] [] h = X12_copyAll_41_42_f0 g2 x0 x1 h := rfl
theorem X12_copyAll_41_42_m0 {g2 G2 : Nat → Nat → Int32 → PH → Option Rs} (hg2 : ∀ a0 a1 a2 a3, Mo (g2 a0 a1 a2 a3) (G2 a0 a1 a2 a3)) (x0 : Nat) (x1 : Nat) (h : PH) : Mo (X12_copyAll_41_42_f0 g2 x0 x1 h) (X12_copyAll_41_42_f0 G2 x0 x1 h) := (hg2 x0 x1 0 h)
noncomputable def X12_copyAll_41_42_f2 (g2 : Nat → Nat → Int32 → PH → Option Rs) (x0 : Nat) (x1 : Nat) (x2 : Int32) (h : PH) : Option Rs :=
  if x2 < 1765 then
    nn x0 fun r1 =>
    ix x2 (hL h 41 r1) fun j2 =>
    nn x1 fun r3 =>
    ix x2 (hL h 42 r3) fun j4 =>
    wr (pI h 2688 r3 j4 (hI h 2624 r1 j2)) fun h5 =>
    g2 x0 x1 (x2 + 1) h5
  else
    some (none, h)
set_option maxRecDepth 100000 in
theorem X12_copyAll_41_42_l2 (g2 : Nat → Nat → Int32 → PH → Option Rs) (x0 : Nat) (x1 : Nat) (x2 : Int32) (h : PH) : X12_copyAll_41_42_b2 (X12_copyAll_41_42_u2 g2) [some (.inr (41, x0)), some (.inr (42, x1)), some (.inl x2)] [] h = X12_copyAll_41_42_f2 g2 x0 x1 x2 h := rfl
theorem X12_copyAll_41_42_m2 {g2 G2 : Nat → Nat → Int32 → PH → Option Rs} (hg2 : ∀ a0 a1 a2 a3, Mo (g2 a0 a1 a2 a3) (G2 a0 a1 a2 a3)) (x0 : Nat) (x1 : Nat) (x2 : Int32) (h : PH) : Mo (X12_copyAll_41_42_f2 g2 x0 x1 x2 h) (X12_copyAll_41_42_f2 G2 x0 x1 x2 h) := (mo_if (mo_nn fun r1 => (mo_ix fun j2 => (mo_nn fun r3 => (mo_ix fun j4 => (mo_wr fun h5 => (hg2 x0 x1 (x2 + 1) h5)))))) mo_rf)
theorem X12_copyAll_41_42_w2 {z : CZ} {g2 : Nat → Nat → Int32 → PH → Option Rs} (hk2 : SK (X12_copyAll_41_42_x z) 2 (X12_copyAll_41_42_u2 g2)) : SK (X12_copyAll_41_42_x z) 2 (X12_copyAll_41_42_u2 (X12_copyAll_41_42_f2 g2)) := by
  intro ls st h r e
  obtain ⟨hst, e⟩ := gL_of e
  obtain ⟨x0, q0, e⟩ := gR_of e
  obtain ⟨x1, q1, e⟩ := gR_of e
  obtain ⟨x2, q2, e⟩ := gI_of e
  rw [st_0 hst]
  exact WK.sub (canon := [some (.inr (41, x0)), some (.inr (42, x1)), some (.inl x2)]) rfl ⟨q0, q1, q2, trivial⟩ (X12_copyAll_41_42_s2 hk2 _ _ _ _ ((X12_copyAll_41_42_l2 g2 x0 x1 x2 h).trans e))
noncomputable def X12_copyAll_41_42_g0 (G : (Nat → Nat → Int32 → PH → Option Rs)) (x0 : Nat) (x1 : Nat) (h : PH) : Option Rs := X12_copyAll_41_42_f0 (G) x0 x1 h
noncomputable def X12_copyAll_41_42_g2 (G : (Nat → Nat → Int32 → PH → Option Rs)) (x0 : Nat) (x1 : Nat) (x2 : Int32) (h : PH) : Option Rs := X12_copyAll_41_42_f2 (G) x0 x1 x2 h
theorem X12_copyAll_41_42_v2 {z : CZ} {G : (Nat → Nat → Int32 → PH → Option Rs)} (hG2 : SK (X12_copyAll_41_42_x z) 2 (X12_copyAll_41_42_u2 (G))) : SK (X12_copyAll_41_42_x z) 2 (X12_copyAll_41_42_u2 (X12_copyAll_41_42_g2 G)) := X12_copyAll_41_42_w2 hG2
noncomputable def X12_copyAll_41_42_fam : Nat → (Nat → Nat → Int32 → PH → Option Rs)
  | 0 => fun _ _ _ _ => none
  | n + 1 => X12_copyAll_41_42_g2 (X12_copyAll_41_42_fam n)
theorem X12_copyAll_41_42_k {z : CZ} : ∀ n, SK (X12_copyAll_41_42_x z) 2 (X12_copyAll_41_42_u2 (X12_copyAll_41_42_fam n))
  | 0 => (fun ls st h r e => by
      obtain ⟨_, e⟩ := gL_of e
      obtain ⟨_, _, e⟩ := gR_of e
      obtain ⟨_, _, e⟩ := gR_of e
      obtain ⟨_, _, e⟩ := gI_of e
      cases e)
  | n + 1 => by
    obtain ih2 := X12_copyAll_41_42_k n
    exact X12_copyAll_41_42_v2 ih2
theorem X12_copyAll_41_42_n0 {G G' : (Nat → Nat → Int32 → PH → Option Rs)} (hg2 : ∀ a0 a1 a2 a3, Mo ((G) a0 a1 a2 a3) ((G') a0 a1 a2 a3)) (x0 : Nat) (x1 : Nat) (h : PH) : Mo (X12_copyAll_41_42_g0 G x0 x1 h) (X12_copyAll_41_42_g0 G' x0 x1 h) := X12_copyAll_41_42_m0 hg2 x0 x1 h
theorem X12_copyAll_41_42_n2 {G G' : (Nat → Nat → Int32 → PH → Option Rs)} (hg2 : ∀ a0 a1 a2 a3, Mo ((G) a0 a1 a2 a3) ((G') a0 a1 a2 a3)) (x0 : Nat) (x1 : Nat) (x2 : Int32) (h : PH) : Mo (X12_copyAll_41_42_g2 G x0 x1 x2 h) (X12_copyAll_41_42_g2 G' x0 x1 x2 h) := X12_copyAll_41_42_m2 hg2 x0 x1 x2 h
theorem X12_copyAll_41_42_fm : ∀ n, (∀ a0 a1 a2 a3, Mo ((X12_copyAll_41_42_fam n) a0 a1 a2 a3) ((X12_copyAll_41_42_fam (n + 1)) a0 a1 a2 a3))
  | 0 => fun _ _ _ _ => mo_no
  | n + 1 => by
    obtain ih2 := X12_copyAll_41_42_fm n
    exact fun a0 a1 a2 a3 => X12_copyAll_41_42_n2 ih2 a0 a1 a2 a3
noncomputable def X12_copyAll_41_42 (x0 : Nat) (x1 : Nat) (h : PH) : Option Rs := lim (fun n => X12_copyAll_41_42_g0 (X12_copyAll_41_42_fam n) x0 x1 h)
theorem X12_copyAll_41_42_iff {x0 : Nat} {x1 : Nat} {h : PH} {r : Rs} : X12_copyAll_41_42 x0 x1 h = some r ↔ ∃ n, X12_copyAll_41_42_g0 (X12_copyAll_41_42_fam n) x0 x1 h = some r := lim_iff (fun n => by
  obtain ih2 := X12_copyAll_41_42_fm n
  exact X12_copyAll_41_42_n0 ih2 x0 x1 h)
noncomputable abbrev X12_copyAll_41_42_F : List PV → PH → Option Rs := FW_R41R42 (X12_copyAll_41_42)
set_option maxRecDepth 100000 in
theorem X12_copyAll_41_42_gd (l : Launch) : Gd l 0 yX12_copyAll cX12_copyAll 3 none (X12_copyAll_41_42_F)   := Gd_of (by decide +kernel) (fun z hzl as h r e => by
  obtain ⟨hst, e⟩ := gL_of e
  obtain ⟨x0, q0, e⟩ := gR_of e
  obtain ⟨x1, q1, e⟩ := gR_of e
  rw [st_2 hst q0 q1]
  obtain ⟨n, e⟩ := lim_of e
  obtain hG2 := X12_copyAll_41_42_k (z := z) n
  exact ⟨show 2 ≤ 3 by decide, X12_copyAll_41_42_s0 hG2 _ _ _ _ ((X12_copyAll_41_42_l0 (X12_copyAll_41_42_fam n) x0 x1 h).trans e)⟩)
abbrev X12_keep_x (z : CZ) : CX := mx RX12 cX12_keep 1 1 (some .int) "keep" z
noncomputable def X12_keep_b0 (c_X12_copyAll_41_42 : Nat → Nat → PH → Option Rs) : Kn := (a_al 0 (a_gR 11 704 41 (a_al 0 (a_gR 11 705 42 (a_sV 2 (FW_R41R42 c_X12_copyAll_41_42) (a_al 0 (a_ic 1 (a_pZ 11 707 (a_al 0 (a_gR 11 704 41 (a_ic 6 (a_ald 41 2624 a_ir))))))))))))
set_option maxRecDepth 100000 in
theorem X12_keep_s0 {z : CZ} : SK (X12_keep_x z) 0 (X12_keep_b0 X12_copyAll_41_42) := (s_aloadn (pc := 0) dX12_keep_0 rfl (s_gR (pc := 1) (f := 0) ko_11 (by decide) rfl rfl w_1295 dX12_keep_1 (s_aloadn (pc := 4) dX12_keep_4 rfl (s_gR (pc := 5) (f := 1) ko_11 (by decide) rfl rfl w_1296 dX12_keep_5 (s_sV (pc := 8) (run_static (X12_copyAll_41_42_gd _) (show 0 < 1 by decide) cy_X12_copyAll w_1870 w_1869 dX12_keep_8) (s_aloadn (pc := 11) dX12_keep_11 rfl (s_iconst (pc := 12) dX12_keep_12 c_ic_1 (s_pZ (pc := 13) (f := 3) ko_11 (by decide) rfl rfl rfl (by decide +kernel) w_1298 dX12_keep_13 (s_aloadn (pc := 16) dX12_keep_16 rfl (s_gR (pc := 17) (f := 0) ko_11 (by decide) rfl rfl w_1295 dX12_keep_17 (s_bipush (pc := 20) dX12_keep_20 c_bp_6 (s_iald (pc := 22) (by decide) (by decide) rfl rfl rfl dX12_keep_22 (s_ir (pc := 23) rfl dX12_keep_23)))))))))))))
noncomputable def X12_keep_f0 (c_X12_copyAll_41_42 : Nat → Nat → PH → Option Rs) (t : Nat) (h : PH) : Option Rs :=
  cV (c_X12_copyAll_41_42 (hR h 704 t 0) (hR h 705 t 0) h) fun h1 =>
  bz 1 <|
  wr (pI h1 707 t 0 1) fun h2 =>
  nn (hR h2 704 t 0) fun r3 =>
  ix 6 (hL h2 41 r3) fun j4 =>
  some (some (.inl (hI h2 2624 r3 j4)), h2)
set_option maxRecDepth 100000 in
theorem X12_keep_l0 (c_X12_copyAll_41_42 : Nat → Nat → PH → Option Rs) (t : Nat) (h : PH) : X12_keep_b0 c_X12_copyAll_41_42 [some (.inr (11, t + 1))] [] h = X12_keep_f0 c_X12_copyAll_41_42 t h := rfl
noncomputable def X12_keep_g0 (t : Nat) (h : PH) : Option Rs := X12_keep_f0 X12_copyAll_41_42 t h
noncomputable def X12_keep (t : Nat) (h : PH) : Option Rs := X12_keep_g0 t h
noncomputable abbrev X12_keep_F : List PV → PH → Option Rs := FW_T11 (X12_keep)
set_option maxRecDepth 100000 in
theorem X12_keep_gd (l : Launch) : Gd l 1 yX12_keep cX12_keep 1 (some .int) (X12_keep_F)   := Gd_of (by decide +kernel) (fun z hzl as h r e => by
  obtain ⟨hst, e⟩ := gL_of e
  obtain ⟨t, q0, e⟩ := gT_of e
  rw [st_1 hst q0]
  exact ⟨show 1 ≤ 1 by decide, X12_keep_s0 _ _ _ _ ((X12_keep_l0 X12_copyAll_41_42 t h).trans e)⟩)
abbrev X12_back_x (z : CZ) : CX := mx RX12 cX12_back 1 1 (some .int) "back" z
noncomputable def X12_back_b0 (c_X12_copyAll_42_41 : Nat → Nat → PH → Option Rs) : Kn := (a_al 0 (a_gI 11 707 (a_z (a_ic (-1000000002) a_ir) (a_al 0 (a_gR 11 705 42 (a_al 0 (a_gR 11 704 41 (a_sV 2 (FW_R42R41 c_X12_copyAll_42_41) (a_al 0 (a_ic 0 (a_pI 11 709 (a_al 0 (a_gR 11 704 41 (a_ic 6 (a_ald 41 2624 a_ir)))))))))))))))
set_option maxRecDepth 100000 in
theorem X12_back_s0 {z : CZ} : SK (X12_back_x z) 0 (X12_back_b0 X12_copyAll_42_41) := (s_aloadn (pc := 0) dX12_back_0 rfl (s_gI (pc := 1) (f := 3) ko_11 (by decide) rfl rfl w_1298 dX12_back_1 (s_ifne (pc := 4) dX12_back_4 (by decide) (s_aloadn (pc := 10) dX12_back_10 rfl (s_gR (pc := 11) (f := 1) ko_11 (by decide) rfl rfl w_1296 dX12_back_11 (s_aloadn (pc := 14) dX12_back_14 rfl (s_gR (pc := 15) (f := 0) ko_11 (by decide) rfl rfl w_1295 dX12_back_15 (s_sV (pc := 18) (run_static (X12_copyAll_42_41_gd _) (show 0 < 1 by decide) cy_X12_copyAll w_1870 w_1869 dX12_back_18) (s_aloadn (pc := 21) dX12_back_21 rfl (s_iconst (pc := 22) dX12_back_22 c_ic_0 (s_pI (pc := 23) (f := 5) ko_11 (by decide) rfl rfl rfl (by decide +kernel) w_1300 dX12_back_23 (s_aloadn (pc := 26) dX12_back_26 rfl (s_gR (pc := 27) (f := 0) ko_11 (by decide) rfl rfl w_1295 dX12_back_27 (s_bipush (pc := 30) dX12_back_30 c_bp_6 (s_iald (pc := 32) (by decide) (by decide) rfl rfl rfl dX12_back_32 (s_ir (pc := 33) rfl dX12_back_33))))))))))))) (s_ldc (pc := 7) w_1471 dX12_back_7 (s_ir (pc := 9) rfl dX12_back_9)))))
noncomputable def X12_back_f0 (c_X12_copyAll_42_41 : Nat → Nat → PH → Option Rs) (t : Nat) (h : PH) : Option Rs :=
  if (hI h 707 t 0) = 0 then
    some (some (.inl (-1000000002)), h)
  else
    cV (c_X12_copyAll_42_41 (hR h 705 t 0) (hR h 704 t 0) h) fun h1 =>
    wr (pI h1 709 t 0 0) fun h2 =>
    nn (hR h2 704 t 0) fun r3 =>
    ix 6 (hL h2 41 r3) fun j4 =>
    some (some (.inl (hI h2 2624 r3 j4)), h2)
set_option maxRecDepth 100000 in
theorem X12_back_l0 (c_X12_copyAll_42_41 : Nat → Nat → PH → Option Rs) (t : Nat) (h : PH) : X12_back_b0 c_X12_copyAll_42_41 [some (.inr (11, t + 1))] [] h = X12_back_f0 c_X12_copyAll_42_41 t h := rfl
noncomputable def X12_back_g0 (t : Nat) (h : PH) : Option Rs := X12_back_f0 X12_copyAll_42_41 t h
noncomputable def X12_back (t : Nat) (h : PH) : Option Rs := X12_back_g0 t h
noncomputable abbrev X12_back_F : List PV → PH → Option Rs := FW_T11 (X12_back)
set_option maxRecDepth 100000 in
theorem X12_back_gd (l : Launch) : Gd l 1 yX12_back cX12_back 1 (some .int) (X12_back_F)   := Gd_of (by decide +kernel) (fun z hzl as h r e => by
  obtain ⟨hst, e⟩ := gL_of e
  obtain ⟨t, q0, e⟩ := gT_of e
  rw [st_1 hst q0]
  exact ⟨show 1 ≤ 1 by decide, X12_back_s0 _ _ _ _ ((X12_back_l0 X12_copyAll_42_41 t h).trans e)⟩)
abbrev X12_allRows_x (z : CZ) : CX := mx RX12 cX12_allRows 3 2 (some .int) "allRows" z
noncomputable def X12_allRows_b0 (k4 : Kn) : Kn := (a_ic 0 (a_is 1 (a_ic 0 (a_is 2 k4))))
set_option maxRecDepth 100000 in
theorem X12_allRows_s0 {z : CZ} {k4 : Kn} (hk4 : SK (X12_allRows_x z) 4 k4) : SK (X12_allRows_x z) 0 (X12_allRows_b0 k4) := (s_iconst (pc := 0) dX12_allRows_0 c_ic_0 (s_istoren (pc := 1) dX12_allRows_1 rfl (show 1 < 3 by decide) (s_iconst (pc := 2) dX12_allRows_2 c_ic_0 (s_istoren (pc := 3) dX12_allRows_3 rfl (show 2 < 3 by decide) hk4))))
noncomputable def X12_allRows_b4 (c_X12_rowsOf : Nat → Int32 → PH → Option Rs) (k4 : Kn) : Kn := (a_il 2 (a_al 0 (a_gR 11 704 41 (a_ic 6 (a_ald 41 2624 (a_lt (a_il 1 (a_al 0 (a_il 2 (a_vI 11 1 (FW_T11I c_X12_rowsOf) (a_b (fun a b => a + b) (a_is 1 (a_inc 2 1 k4))))))) (a_il 1 a_ir)))))))
set_option maxRecDepth 100000 in
theorem X12_allRows_s4 {z : CZ} {k4 : Kn} (hk4 : SK (X12_allRows_x z) 4 k4) : SK (X12_allRows_x z) 4 (X12_allRows_b4 X12_rowsOf k4) := (s_iloadn (pc := 4) dX12_allRows_4 rfl (s_aloadn (pc := 5) dX12_allRows_5 rfl (s_gR (pc := 6) (f := 0) ko_11 (by decide) rfl rfl w_1295 dX12_allRows_6 (s_bipush (pc := 9) dX12_allRows_9 c_bp_6 (s_iald (pc := 11) (by decide) (by decide) rfl rfl rfl dX12_allRows_11 (s_cmpge (pc := 12) dX12_allRows_12 (by decide) (s_iloadn (pc := 29) dX12_allRows_29 rfl (s_ir (pc := 30) rfl dX12_allRows_30)) (s_iloadn (pc := 15) dX12_allRows_15 rfl (s_aloadn (pc := 16) dX12_allRows_16 rfl (s_iloadn (pc := 17) dX12_allRows_17 rfl (s_vI (pc := 18) (run_virtual (X12_rowsOf_gd _) (show 1 < 2 by decide) cy_X12_rowsOf (by decide) rfl w_1538 w_s39 w_1536 dX12_allRows_18) (s_iadd (pc := 21) dX12_allRows_21 (s_istoren (pc := 22) dX12_allRows_22 rfl (show 1 < 3 by decide) (s_iinc (pc := 23) dX12_allRows_23 c_ic_1 (show 2 < 3 by decide) (s_goto (pc := 26) dX12_allRows_26 (by decide) hk4))))))))))))))
noncomputable def X12_allRows_u4 (g : Nat → Int32 → Int32 → PH → Option Rs) : Kn := fun ls st h => gL 0 st (gT 11 ls 0 fun t => gI ls 1 fun x1 => gI ls 2 fun x2 => g t x1 x2 h)
noncomputable def X12_allRows_f0 (g4 : Nat → Int32 → Int32 → PH → Option Rs) (t : Nat) (h : PH) : Option Rs :=
  g4 t 0 0 h
set_option maxRecDepth 100000 in
theorem X12_allRows_l0 (g4 : Nat → Int32 → Int32 → PH → Option Rs) (t : Nat) (h : PH) : X12_allRows_b0 (X12_allRows_u4 g4) [some (.inr (11, t + 1)), none, none] [] h = X12_allRows_f0 g4 t h := rfl
theorem X12_allRows_m0 {g4 G4 : Nat → Int32 → Int32 → PH → Option Rs} (hg4 : ∀ a0 a1 a2 a3, Mo (g4 a0 a1 a2 a3) (G4 a0 a1 a2 a3)) (t : Nat) (h : PH) : Mo (X12_allRows_f0 g4 t h) (X12_allRows_f0 G4 t h) := (hg4 t 0 0 h)
noncomputable def X12_allRows_f4 (c_X12_rowsOf : Nat → Int32 → PH → Option Rs) (g4 : Nat → Int32 → Int32 → PH → Option Rs) (t : Nat) (x1 : Int32) (x2 : Int32) (h : PH) : Option Rs :=
  nn (hR h 704 t 0) fun r1 =>
  ix 6 (hL h 41 r1) fun j2 =>
  if x2 < (hI h 2624 r1 j2) then
    cI (c_X12_rowsOf t x2 h) fun v4 h3 =>
    g4 t (x1 + v4) (x2 + 1) h3
  else
    some (some (.inl x1), h)
set_option maxRecDepth 100000 in
theorem X12_allRows_l4 (c_X12_rowsOf : Nat → Int32 → PH → Option Rs) (g4 : Nat → Int32 → Int32 → PH → Option Rs) (t : Nat) (x1 : Int32) (x2 : Int32) (h : PH) : X12_allRows_b4 c_X12_rowsOf (X12_allRows_u4 g4) [some (.inr (11, t + 1)), some (.inl x1), some (.inl x2)] [] h = X12_allRows_f4 c_X12_rowsOf g4 t x1 x2 h := rfl
theorem X12_allRows_m4 {c_X12_rowsOf : Nat → Int32 → PH → Option Rs} {g4 G4 : Nat → Int32 → Int32 → PH → Option Rs} (hg4 : ∀ a0 a1 a2 a3, Mo (g4 a0 a1 a2 a3) (G4 a0 a1 a2 a3)) (t : Nat) (x1 : Int32) (x2 : Int32) (h : PH) : Mo (X12_allRows_f4 c_X12_rowsOf g4 t x1 x2 h) (X12_allRows_f4 c_X12_rowsOf G4 t x1 x2 h) := (mo_nn fun r1 => (mo_ix fun j2 => (mo_if (mo_cI fun v4 h3 => (hg4 t (x1 + v4) (x2 + 1) h3)) mo_rf)))
theorem X12_allRows_w4 {z : CZ} {g4 : Nat → Int32 → Int32 → PH → Option Rs} (hk4 : SK (X12_allRows_x z) 4 (X12_allRows_u4 g4)) : SK (X12_allRows_x z) 4 (X12_allRows_u4 (X12_allRows_f4 X12_rowsOf g4)) := by
  intro ls st h r e
  obtain ⟨hst, e⟩ := gL_of e
  obtain ⟨t, q0, e⟩ := gT_of e
  obtain ⟨x1, q1, e⟩ := gI_of e
  obtain ⟨x2, q2, e⟩ := gI_of e
  rw [st_0 hst]
  exact WK.sub (canon := [some (.inr (11, t + 1)), some (.inl x1), some (.inl x2)]) rfl ⟨q0, q1, q2, trivial⟩ (X12_allRows_s4 hk4 _ _ _ _ ((X12_allRows_l4 X12_rowsOf g4 t x1 x2 h).trans e))
noncomputable def X12_allRows_g0 (G : (Nat → Int32 → Int32 → PH → Option Rs)) (t : Nat) (h : PH) : Option Rs := X12_allRows_f0 (G) t h
noncomputable def X12_allRows_g4 (G : (Nat → Int32 → Int32 → PH → Option Rs)) (t : Nat) (x1 : Int32) (x2 : Int32) (h : PH) : Option Rs := X12_allRows_f4 X12_rowsOf (G) t x1 x2 h
theorem X12_allRows_v4 {z : CZ} {G : (Nat → Int32 → Int32 → PH → Option Rs)} (hG4 : SK (X12_allRows_x z) 4 (X12_allRows_u4 (G))) : SK (X12_allRows_x z) 4 (X12_allRows_u4 (X12_allRows_g4 G)) := X12_allRows_w4 hG4
noncomputable def X12_allRows_fam : Nat → (Nat → Int32 → Int32 → PH → Option Rs)
  | 0 => fun _ _ _ _ => none
  | n + 1 => X12_allRows_g4 (X12_allRows_fam n)
theorem X12_allRows_k {z : CZ} : ∀ n, SK (X12_allRows_x z) 4 (X12_allRows_u4 (X12_allRows_fam n))
  | 0 => (fun ls st h r e => by
      obtain ⟨_, e⟩ := gL_of e
      obtain ⟨_, _, e⟩ := gT_of e
      obtain ⟨_, _, e⟩ := gI_of e
      obtain ⟨_, _, e⟩ := gI_of e
      cases e)
  | n + 1 => by
    obtain ih4 := X12_allRows_k n
    exact X12_allRows_v4 ih4
theorem X12_allRows_n0 {G G' : (Nat → Int32 → Int32 → PH → Option Rs)} (hg4 : ∀ a0 a1 a2 a3, Mo ((G) a0 a1 a2 a3) ((G') a0 a1 a2 a3)) (t : Nat) (h : PH) : Mo (X12_allRows_g0 G t h) (X12_allRows_g0 G' t h) := X12_allRows_m0 hg4 t h
theorem X12_allRows_n4 {G G' : (Nat → Int32 → Int32 → PH → Option Rs)} (hg4 : ∀ a0 a1 a2 a3, Mo ((G) a0 a1 a2 a3) ((G') a0 a1 a2 a3)) (t : Nat) (x1 : Int32) (x2 : Int32) (h : PH) : Mo (X12_allRows_g4 G t x1 x2 h) (X12_allRows_g4 G' t x1 x2 h) := X12_allRows_m4 hg4 t x1 x2 h
theorem X12_allRows_fm : ∀ n, (∀ a0 a1 a2 a3, Mo ((X12_allRows_fam n) a0 a1 a2 a3) ((X12_allRows_fam (n + 1)) a0 a1 a2 a3))
  | 0 => fun _ _ _ _ => mo_no
  | n + 1 => by
    obtain ih4 := X12_allRows_fm n
    exact fun a0 a1 a2 a3 => X12_allRows_n4 ih4 a0 a1 a2 a3
noncomputable def X12_allRows (t : Nat) (h : PH) : Option Rs := lim (fun n => X12_allRows_g0 (X12_allRows_fam n) t h)
theorem X12_allRows_iff {t : Nat} {h : PH} {r : Rs} : X12_allRows t h = some r ↔ ∃ n, X12_allRows_g0 (X12_allRows_fam n) t h = some r := lim_iff (fun n => by
  obtain ih4 := X12_allRows_fm n
  exact X12_allRows_n0 ih4 t h)
noncomputable abbrev X12_allRows_F : List PV → PH → Option Rs := FW_T11 (X12_allRows)
set_option maxRecDepth 100000 in
theorem X12_allRows_gd (l : Launch) : Gd l 2 yX12_allRows cX12_allRows 3 (some .int) (X12_allRows_F)   := Gd_of (by decide +kernel) (fun z hzl as h r e => by
  obtain ⟨hst, e⟩ := gL_of e
  obtain ⟨t, q0, e⟩ := gT_of e
  rw [st_1 hst q0]
  obtain ⟨n, e⟩ := lim_of e
  obtain hG4 := X12_allRows_k (z := z) n
  exact ⟨show 1 ≤ 3 by decide, X12_allRows_s0 hG4 _ _ _ _ ((X12_allRows_l0 (X12_allRows_fam n) t h).trans e)⟩)
abbrev X12_count_x (z : CZ) : CX := mx RX12 cX12_count 2 3 (some .int) "count" z
noncomputable def X12_count_b0 (c_X12_allRows : Nat → PH → Option Rs) : Kn := (a_il 1 (a_sw [(0, (a_al 0 (a_gR 11 704 41 (a_ic 3 (a_ald 41 2624 a_ir))))), (1, (a_al 0 (a_gR 11 704 41 (a_ic 4 (a_ald 41 2624 a_ir))))), (2, (a_al 0 (a_gR 11 704 41 (a_ic 5 (a_ald 41 2624 a_ir))))), (3, (a_al 0 (a_gR 11 704 41 (a_ic 6 (a_ald 41 2624 a_ir))))), (4, (a_al 0 (a_vI 11 0 (FW_T11 c_X12_allRows) a_ir))), (5, (a_al 0 (a_gR 11 704 41 (a_ic 8 (a_ald 41 2624 a_ir))))), (6, (a_al 0 (a_gR 11 704 41 (a_ic 7 (a_ald 41 2624 a_ir))))), (7, (a_al 0 (a_gI 11 709 a_ir))), (8, (a_al 0 (a_gI 11 754 a_ir))), (9, (a_al 0 (a_gI 11 711 a_ir))), (10, (a_al 0 (a_gR 11 704 41 (a_ic 1 (a_ald 41 2624 a_ir))))), (11, (a_al 0 (a_gR 11 704 41 (a_ic 2 (a_ald 41 2624 a_ir))))), (12, (a_al 0 (a_gR 11 704 41 (a_ic 0 (a_ald 41 2624 a_ir)))))] (a_ic (-1000000001) a_ir)))
set_option maxRecDepth 100000 in
theorem X12_count_s0 {z : CZ} : SK (X12_count_x z) 0 (X12_count_b0 X12_allRows) := (s_iloadn (pc := 0) dX12_count_0 rfl (s_table (pc := 1) dX12_count_1 (by decide) (by decide) ⟨c_ti_0, ⟨_, by decide, (s_aloadn (pc := 68) dX12_count_68 rfl (s_gR (pc := 69) (f := 0) ko_11 (by decide) rfl rfl w_1295 dX12_count_69 (s_iconst (pc := 72) dX12_count_72 c_ic_3 (s_iald (pc := 73) (by decide) (by decide) rfl rfl rfl dX12_count_73 (s_ir (pc := 74) rfl dX12_count_74)))))⟩, ⟨c_ti_1, ⟨_, by decide, (s_aloadn (pc := 75) dX12_count_75 rfl (s_gR (pc := 76) (f := 0) ko_11 (by decide) rfl rfl w_1295 dX12_count_76 (s_iconst (pc := 79) dX12_count_79 c_ic_4 (s_iald (pc := 80) (by decide) (by decide) rfl rfl rfl dX12_count_80 (s_ir (pc := 81) rfl dX12_count_81)))))⟩, ⟨c_ti_2, ⟨_, by decide, (s_aloadn (pc := 82) dX12_count_82 rfl (s_gR (pc := 83) (f := 0) ko_11 (by decide) rfl rfl w_1295 dX12_count_83 (s_iconst (pc := 86) dX12_count_86 c_ic_5 (s_iald (pc := 87) (by decide) (by decide) rfl rfl rfl dX12_count_87 (s_ir (pc := 88) rfl dX12_count_88)))))⟩, ⟨c_ti_3, ⟨_, by decide, (s_aloadn (pc := 89) dX12_count_89 rfl (s_gR (pc := 90) (f := 0) ko_11 (by decide) rfl rfl w_1295 dX12_count_90 (s_bipush (pc := 93) dX12_count_93 c_bp_6 (s_iald (pc := 95) (by decide) (by decide) rfl rfl rfl dX12_count_95 (s_ir (pc := 96) rfl dX12_count_96)))))⟩, ⟨c_ti_4, ⟨_, by decide, (s_aloadn (pc := 97) dX12_count_97 rfl (s_vI (pc := 98) (run_virtual (X12_allRows_gd _) (show 2 < 3 by decide) cy_X12_allRows (by decide) rfl w_1886 w_s77 w_1884 dX12_count_98) (s_ir (pc := 101) rfl dX12_count_101)))⟩, ⟨c_ti_5, ⟨_, by decide, (s_aloadn (pc := 102) dX12_count_102 rfl (s_gR (pc := 103) (f := 0) ko_11 (by decide) rfl rfl w_1295 dX12_count_103 (s_bipush (pc := 106) dX12_count_106 c_bp_8 (s_iald (pc := 108) (by decide) (by decide) rfl rfl rfl dX12_count_108 (s_ir (pc := 109) rfl dX12_count_109)))))⟩, ⟨c_ti_6, ⟨_, by decide, (s_aloadn (pc := 110) dX12_count_110 rfl (s_gR (pc := 111) (f := 0) ko_11 (by decide) rfl rfl w_1295 dX12_count_111 (s_bipush (pc := 114) dX12_count_114 c_bp_7 (s_iald (pc := 116) (by decide) (by decide) rfl rfl rfl dX12_count_116 (s_ir (pc := 117) rfl dX12_count_117)))))⟩, ⟨c_ti_7, ⟨_, by decide, (s_aloadn (pc := 118) dX12_count_118 rfl (s_gI (pc := 119) (f := 5) ko_11 (by decide) rfl rfl w_1300 dX12_count_119 (s_ir (pc := 122) rfl dX12_count_122)))⟩, ⟨c_ti_8, ⟨_, by decide, (s_aloadn (pc := 123) dX12_count_123 rfl (s_gI (pc := 124) (f := 50) ko_11 (by decide) rfl rfl w_1345 dX12_count_124 (s_ir (pc := 127) rfl dX12_count_127)))⟩, ⟨c_ti_9, ⟨_, by decide, (s_aloadn (pc := 128) dX12_count_128 rfl (s_gI (pc := 129) (f := 7) ko_11 (by decide) rfl rfl w_1302 dX12_count_129 (s_ir (pc := 132) rfl dX12_count_132)))⟩, ⟨c_ti_10, ⟨_, by decide, (s_aloadn (pc := 133) dX12_count_133 rfl (s_gR (pc := 134) (f := 0) ko_11 (by decide) rfl rfl w_1295 dX12_count_134 (s_iconst (pc := 137) dX12_count_137 c_ic_1 (s_iald (pc := 138) (by decide) (by decide) rfl rfl rfl dX12_count_138 (s_ir (pc := 139) rfl dX12_count_139)))))⟩, ⟨c_ti_11, ⟨_, by decide, (s_aloadn (pc := 140) dX12_count_140 rfl (s_gR (pc := 141) (f := 0) ko_11 (by decide) rfl rfl w_1295 dX12_count_141 (s_iconst (pc := 144) dX12_count_144 c_ic_2 (s_iald (pc := 145) (by decide) (by decide) rfl rfl rfl dX12_count_145 (s_ir (pc := 146) rfl dX12_count_146)))))⟩, ⟨c_ti_12, ⟨_, by decide, (s_aloadn (pc := 147) dX12_count_147 rfl (s_gR (pc := 148) (f := 0) ko_11 (by decide) rfl rfl w_1295 dX12_count_148 (s_iconst (pc := 151) dX12_count_151 c_ic_0 (s_iald (pc := 152) (by decide) (by decide) rfl rfl rfl dX12_count_152 (s_ir (pc := 153) rfl dX12_count_153)))))⟩, trivial⟩⟩⟩⟩⟩⟩⟩⟩⟩⟩⟩⟩⟩ (s_ldc (pc := 154) w_1466 dX12_count_154 (s_ir (pc := 156) rfl dX12_count_156))))
noncomputable def X12_count_f0 (c_X12_allRows : Nat → PH → Option Rs) (t : Nat) (x1 : Int32) (h : PH) : Option Rs :=
  if x1 = 0 then
    nn (hR h 704 t 0) fun r1 =>
    ix 3 (hL h 41 r1) fun j2 =>
    some (some (.inl (hI h 2624 r1 j2)), h)
  else
  if x1 = 1 then
    nn (hR h 704 t 0) fun r3 =>
    ix 4 (hL h 41 r3) fun j4 =>
    some (some (.inl (hI h 2624 r3 j4)), h)
  else
  if x1 = 2 then
    nn (hR h 704 t 0) fun r5 =>
    ix 5 (hL h 41 r5) fun j6 =>
    some (some (.inl (hI h 2624 r5 j6)), h)
  else
  if x1 = 3 then
    nn (hR h 704 t 0) fun r7 =>
    ix 6 (hL h 41 r7) fun j8 =>
    some (some (.inl (hI h 2624 r7 j8)), h)
  else
  if x1 = 4 then
    cI (c_X12_allRows t h) fun v10 h9 =>
    some (some (.inl v10), h9)
  else
  if x1 = 5 then
    nn (hR h 704 t 0) fun r11 =>
    ix 8 (hL h 41 r11) fun j12 =>
    some (some (.inl (hI h 2624 r11 j12)), h)
  else
  if x1 = 6 then
    nn (hR h 704 t 0) fun r13 =>
    ix 7 (hL h 41 r13) fun j14 =>
    some (some (.inl (hI h 2624 r13 j14)), h)
  else
  if x1 = 7 then
    some (some (.inl (hI h 709 t 0)), h)
  else
  if x1 = 8 then
    some (some (.inl (hI h 754 t 0)), h)
  else
  if x1 = 9 then
    some (some (.inl (hI h 711 t 0)), h)
  else
  if x1 = 10 then
    nn (hR h 704 t 0) fun r15 =>
    ix 1 (hL h 41 r15) fun j16 =>
    some (some (.inl (hI h 2624 r15 j16)), h)
  else
  if x1 = 11 then
    nn (hR h 704 t 0) fun r17 =>
    ix 2 (hL h 41 r17) fun j18 =>
    some (some (.inl (hI h 2624 r17 j18)), h)
  else
  if x1 = 12 then
    nn (hR h 704 t 0) fun r19 =>
    ix 0 (hL h 41 r19) fun j20 =>
    some (some (.inl (hI h 2624 r19 j20)), h)
  else
    some (some (.inl (-1000000001)), h)
set_option maxRecDepth 100000 in
theorem X12_count_l0 (c_X12_allRows : Nat → PH → Option Rs) (t : Nat) (x1 : Int32) (h : PH) : X12_count_b0 c_X12_allRows [some (.inr (11, t + 1)), some (.inl x1)] [] h = X12_count_f0 c_X12_allRows t x1 h := rfl
noncomputable def X12_count_g0 (t : Nat) (x1 : Int32) (h : PH) : Option Rs := X12_count_f0 X12_allRows t x1 h
noncomputable def X12_count (t : Nat) (x1 : Int32) (h : PH) : Option Rs := X12_count_g0 t x1 h
noncomputable abbrev X12_count_F : List PV → PH → Option Rs := FW_T11I (X12_count)
set_option maxRecDepth 100000 in
theorem X12_count_gd (l : Launch) : Gd l 3 yX12_count cX12_count 2 (some .int) (X12_count_F)   := Gd_of (by decide +kernel) (fun z hzl as h r e => by
  obtain ⟨hst, e⟩ := gL_of e
  obtain ⟨t, q0, e⟩ := gT_of e
  obtain ⟨x1, q1, e⟩ := gI_of e
  rw [st_2 hst q0 q1]
  exact ⟨show 2 ≤ 2 by decide, X12_count_s0 _ _ _ _ ((X12_count_l0 X12_allRows t x1 h).trans e)⟩)
