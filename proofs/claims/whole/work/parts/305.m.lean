abbrev X3_readLevel_x (dd : Nat) (z : CZ) : CX := mx RX3 cX3_readLevel 5 (dd + 10) none "readLevel" z
noncomputable def X3_readLevel_b0 (rl rp : List PV → PH → Option Rs) (k28 : Kn) : Kn := (a_il 1 (a_ic 5 (a_eq (a_al 0 (a_vV 2 0 rp a_vr)) (a_al 0 (a_il 1 (a_ic 1 (a_b (fun a b => a + b) (a_vV 2 1 rl (a_il 1 (a_ic 2 (a_eq (a_ic 1 k28) (a_ic 96 k28))))))))))))
set_option maxRecDepth 100000 in
theorem X3_readLevel_s0 {dd : Nat} {rl rp : List PV → PH → Option Rs} {z : CZ} (hrl : Gd (xL (X3_readLevel_x dd z)) dd yX3_readLevel cX3_readLevel 5 none rl) (hrp : Gd (xL (X3_readLevel_x dd z)) dd yX3_readPiece cX3_readPiece 1 none rp) {k28 : Kn} (hk28 : SK (X3_readLevel_x dd z) 28 k28) : SK (X3_readLevel_x dd z) 0 (X3_readLevel_b0 rl rp k28) := (s_iloadn (pc := 0) dX3_readLevel_0 rfl (s_iconst (pc := 1) dX3_readLevel_1 c_ic_5 (s_cmpne (pc := 2) dX3_readLevel_2 (by decide) (s_aloadn (pc := 10) dX3_readLevel_10 rfl (s_iloadn (pc := 11) dX3_readLevel_11 rfl (s_iconst (pc := 12) dX3_readLevel_12 c_ic_1 (s_iadd (pc := 13) dX3_readLevel_13 (s_vV (pc := 14) (run_virtual hrl (show dd < dd + 10 by omega) cy_X3_readLevel (by decide) rfl w_814 w_s7 w_812 dX3_readLevel_14) (s_iloadn (pc := 17) dX3_readLevel_17 rfl (s_iconst (pc := 18) dX3_readLevel_18 c_ic_2 (s_cmpne (pc := 19) dX3_readLevel_19 (by decide) (s_bipush (pc := 26) dX3_readLevel_26 c_bp_96 hk28) (s_iconst (pc := 22) dX3_readLevel_22 c_ic_1 (s_goto (pc := 23) dX3_readLevel_23 (by decide) hk28)))))))))) (s_aloadn (pc := 5) dX3_readLevel_5 rfl (s_vV (pc := 6) (run_virtual hrp (show dd < dd + 10 by omega) cy_X3_readPiece (by decide) rfl w_818 w_s8 w_816 dX3_readLevel_6) (s_vr (pc := 9) rfl dX3_readLevel_9))))))
noncomputable def X3_readLevel_b28 (rl rp : List PV → PH → Option Rs) (k31 : Kn) : Kn := (a_is 2 (a_ic 0 (a_is 3 k31)))
set_option maxRecDepth 100000 in
theorem X3_readLevel_s28 {dd : Nat} {rl rp : List PV → PH → Option Rs} {z : CZ} (hrl : Gd (xL (X3_readLevel_x dd z)) dd yX3_readLevel cX3_readLevel 5 none rl) (hrp : Gd (xL (X3_readLevel_x dd z)) dd yX3_readPiece cX3_readPiece 1 none rp) {k31 : Kn} (hk31 : SK (X3_readLevel_x dd z) 31 k31) : SK (X3_readLevel_x dd z) 28 (X3_readLevel_b28 rl rp k31) := (s_istoren (pc := 28) dX3_readLevel_28 rfl (show 2 < 5 by decide) (s_iconst (pc := 29) dX3_readLevel_29 c_ic_0 (s_istoren (pc := 30) dX3_readLevel_30 rfl (show 3 < 5 by decide) hk31)))
noncomputable def X3_readLevel_b31 (rl rp : List PV → PH → Option Rs) (c_X3_isJoining : Nat → Int32 → PH → Option Rs) (c_X3_look : Nat → PH → Option Rs) (c_X3_put : Nat → Int32 → PH → Option Rs) (k31 : Kn) : Kn := (a_il 3 (a_il 2 (a_lt (a_al 0 (a_gI 2 133 (a_ic (-1) (a_eq (a_al 0 (a_il 1 (a_vI 2 1 (FW_T2I c_X3_isJoining) (a_z a_vr (a_al 0 (a_gI 2 130 (a_is 4 (a_al 0 (a_vV 2 0 (FW_T2 c_X3_look) (a_al 0 (a_il 1 (a_ic 1 (a_b (fun a b => a + b) (a_vV 2 1 rl (a_al 0 (a_il 4 (a_u (fun a => -a) (a_vV 2 1 (FW_T2I c_X3_put) (a_inc 3 1 k31))))))))))))))))))) a_vr)))) a_vr)))
set_option maxRecDepth 100000 in
theorem X3_readLevel_s31 {dd : Nat} {rl rp : List PV → PH → Option Rs} {z : CZ} (hrl : Gd (xL (X3_readLevel_x dd z)) dd yX3_readLevel cX3_readLevel 5 none rl) (hrp : Gd (xL (X3_readLevel_x dd z)) dd yX3_readPiece cX3_readPiece 1 none rp) {k31 : Kn} (hk31 : SK (X3_readLevel_x dd z) 31 k31) : SK (X3_readLevel_x dd z) 31 (X3_readLevel_b31 rl rp X3_isJoining X3_look X3_put k31) := (s_iloadn (pc := 31) dX3_readLevel_31 rfl (s_iloadn (pc := 32) dX3_readLevel_32 rfl (s_cmpge (pc := 33) dX3_readLevel_33 (by decide) (s_vr (pc := 82) rfl dX3_readLevel_82) (s_aloadn (pc := 36) dX3_readLevel_36 rfl (s_gI (pc := 37) (f := 5) ko_2 (by decide) rfl rfl w_418 dX3_readLevel_37 (s_iconst (pc := 40) dX3_readLevel_40 c_ic_m1 (s_cmpne (pc := 41) dX3_readLevel_41 (by decide) (s_vr (pc := 82) rfl dX3_readLevel_82) (s_aloadn (pc := 44) dX3_readLevel_44 rfl (s_iloadn (pc := 45) dX3_readLevel_45 rfl (s_vI (pc := 46) (run_virtual (X3_isJoining_gd _) (show 0 < dd + 10 by omega) cy_X3_isJoining (by decide) rfl w_898 w_s13 w_896 dX3_readLevel_46) (s_ifeq (pc := 49) dX3_readLevel_49 (by decide) (s_vr (pc := 82) rfl dX3_readLevel_82) (s_aloadn (pc := 52) dX3_readLevel_52 rfl (s_gI (pc := 53) (f := 2) ko_2 (by decide) rfl rfl w_415 dX3_readLevel_53 (s_istore (pc := 56) dX3_readLevel_56 (show 4 < 5 by decide) (s_aloadn (pc := 58) dX3_readLevel_58 rfl (s_vV (pc := 59) (run_virtual (X3_look_gd _) (show 2 < dd + 10 by omega) cy_X3_look (by decide) rfl w_739 w_s1 w_737 dX3_readLevel_59) (s_aloadn (pc := 62) dX3_readLevel_62 rfl (s_iloadn (pc := 63) dX3_readLevel_63 rfl (s_iconst (pc := 64) dX3_readLevel_64 c_ic_1 (s_iadd (pc := 65) dX3_readLevel_65 (s_vV (pc := 66) (run_virtual hrl (show dd < dd + 10 by omega) cy_X3_readLevel (by decide) rfl w_814 w_s7 w_812 dX3_readLevel_66) (s_aloadn (pc := 69) dX3_readLevel_69 rfl (s_iload (pc := 70) dX3_readLevel_70 (s_ineg (pc := 72) dX3_readLevel_72 (s_vV (pc := 73) (run_virtual (X3_put_gd _) (show 0 < dd + 10 by omega) cy_X3_put (by decide) rfl w_890 w_s11 w_888 dX3_readLevel_73) (s_iinc (pc := 76) dX3_readLevel_76 c_ic_1 (show 3 < 5 by decide) (s_goto (pc := 79) dX3_readLevel_79 (by decide) hk31)))))))))))))))))))))))))))
noncomputable def X3_readLevel_u28 (g : Nat → Int32 → Int32 → PH → Option Rs) : Kn := fun ls st h => gL 1 st (gT 2 ls 0 fun t => gI ls 1 fun x1 => gI (st.map some) 0 fun s0 => g t x1 s0 h)
noncomputable def X3_readLevel_u31 (g : Nat → Int32 → Int32 → Int32 → PH → Option Rs) : Kn := fun ls st h => gL 0 st (gT 2 ls 0 fun t => gI ls 1 fun x1 => gI ls 2 fun x2 => gI ls 3 fun x3 => g t x1 x2 x3 h)
noncomputable def X3_readLevel_f0 (rl rp : List PV → PH → Option Rs) (g28 : Nat → Int32 → Int32 → PH → Option Rs) (t : Nat) (x1 : Int32) (h : PH) : Option Rs :=
  if x1 = 5 then
    cV (rp [.inr (2, t + 1)] h) fun h2 =>
    some (none, h2)
  else
    cV (rl [.inr (2, t + 1), .inl (x1 + 1)] h) fun h1 =>
    if x1 = 2 then
      g28 t x1 1 h1
    else
      g28 t x1 96 h1
set_option maxRecDepth 100000 in
theorem X3_readLevel_l0 (rl rp : List PV → PH → Option Rs) (g28 : Nat → Int32 → Int32 → PH → Option Rs) (t : Nat) (x1 : Int32) (h : PH) : X3_readLevel_b0 rl rp (X3_readLevel_u28 g28) [some (.inr (2, t + 1)), some (.inl x1), none, none, none] [] h = X3_readLevel_f0 rl rp g28 t x1 h := rfl
theorem X3_readLevel_m0 {rl rp : List PV → PH → Option Rs} {g28 G28 : Nat → Int32 → Int32 → PH → Option Rs} (hg28 : ∀ a0 a1 a2 a3, Mo (g28 a0 a1 a2 a3) (G28 a0 a1 a2 a3)) (t : Nat) (x1 : Int32) (h : PH) : Mo (X3_readLevel_f0 rl rp g28 t x1 h) (X3_readLevel_f0 rl rp G28 t x1 h) := (mo_if (mo_cV fun h2 => mo_rf) (mo_cV fun h1 => (mo_if (hg28 t x1 1 h1) (hg28 t x1 96 h1))))
noncomputable def X3_readLevel_f28 (rl rp : List PV → PH → Option Rs) (g31 : Nat → Int32 → Int32 → Int32 → PH → Option Rs) (t : Nat) (x1 : Int32) (s0 : Int32) (h : PH) : Option Rs :=
  g31 t x1 s0 0 h
set_option maxRecDepth 100000 in
theorem X3_readLevel_l28 (rl rp : List PV → PH → Option Rs) (g31 : Nat → Int32 → Int32 → Int32 → PH → Option Rs) (t : Nat) (x1 : Int32) (s0 : Int32) (h : PH) : X3_readLevel_b28 rl rp (X3_readLevel_u31 g31) [some (.inr (2, t + 1)), some (.inl x1), none, none, none] [.inl s0] h = X3_readLevel_f28 rl rp g31 t x1 s0 h := rfl
theorem X3_readLevel_m28 {rl rp : List PV → PH → Option Rs} {g31 G31 : Nat → Int32 → Int32 → Int32 → PH → Option Rs} (hg31 : ∀ a0 a1 a2 a3 a4, Mo (g31 a0 a1 a2 a3 a4) (G31 a0 a1 a2 a3 a4)) (t : Nat) (x1 : Int32) (s0 : Int32) (h : PH) : Mo (X3_readLevel_f28 rl rp g31 t x1 s0 h) (X3_readLevel_f28 rl rp G31 t x1 s0 h) := (hg31 t x1 s0 0 h)
theorem X3_readLevel_w28 {dd : Nat} {rl rp : List PV → PH → Option Rs} {z : CZ} (hrl : Gd (xL (X3_readLevel_x dd z)) dd yX3_readLevel cX3_readLevel 5 none rl) (hrp : Gd (xL (X3_readLevel_x dd z)) dd yX3_readPiece cX3_readPiece 1 none rp) {g31 : Nat → Int32 → Int32 → Int32 → PH → Option Rs} (hk31 : SK (X3_readLevel_x dd z) 31 (X3_readLevel_u31 g31)) : SK (X3_readLevel_x dd z) 28 (X3_readLevel_u28 (X3_readLevel_f28 rl rp g31)) := by
  intro ls st h r e
  obtain ⟨hst, e⟩ := gL_of e
  obtain ⟨t, q0, e⟩ := gT_of e
  obtain ⟨x1, q1, e⟩ := gI_of e
  obtain ⟨s0, q2, e⟩ := gI_of e
  rw [st_1 hst q2]
  exact WK.sub (canon := [some (.inr (2, t + 1)), some (.inl x1), none, none, none]) rfl ⟨q0, q1, trivial⟩ (X3_readLevel_s28 hrl hrp hk31 _ _ _ _ ((X3_readLevel_l28 rl rp g31 t x1 s0 h).trans e))
noncomputable def X3_readLevel_f31 (rl rp : List PV → PH → Option Rs) (c_X3_isJoining : Nat → Int32 → PH → Option Rs) (c_X3_look : Nat → PH → Option Rs) (c_X3_put : Nat → Int32 → PH → Option Rs) (g31 : Nat → Int32 → Int32 → Int32 → PH → Option Rs) (t : Nat) (x1 : Int32) (x2 : Int32) (x3 : Int32) (h : PH) : Option Rs :=
  if x3 < x2 then
    if (hI h 133 t 0) = (-1) then
      cI (c_X3_isJoining t x1 h) fun v4 h3 =>
      if v4 = 0 then
        some (none, h3)
      else
        cV (c_X3_look t h3) fun h5 =>
        cV (rl [.inr (2, t + 1), .inl (x1 + 1)] h5) fun h6 =>
        cV (c_X3_put t (-(hI h3 130 t 0)) h6) fun h7 =>
        g31 t x1 x2 (x3 + 1) h7
    else
      some (none, h)
  else
    some (none, h)
set_option maxRecDepth 100000 in
theorem X3_readLevel_l31 (rl rp : List PV → PH → Option Rs) (c_X3_isJoining : Nat → Int32 → PH → Option Rs) (c_X3_look : Nat → PH → Option Rs) (c_X3_put : Nat → Int32 → PH → Option Rs) (g31 : Nat → Int32 → Int32 → Int32 → PH → Option Rs) (t : Nat) (x1 : Int32) (x2 : Int32) (x3 : Int32) (h : PH) : X3_readLevel_b31 rl rp c_X3_isJoining c_X3_look c_X3_put (X3_readLevel_u31 g31) [some (.inr (2, t + 1)), some (.inl x1), some (.inl x2), some (.inl x3), none] [] h = X3_readLevel_f31 rl rp c_X3_isJoining c_X3_look c_X3_put g31 t x1 x2 x3 h := rfl
theorem X3_readLevel_m31 {rl rp : List PV → PH → Option Rs} {c_X3_isJoining : Nat → Int32 → PH → Option Rs} {c_X3_look : Nat → PH → Option Rs} {c_X3_put : Nat → Int32 → PH → Option Rs} {g31 G31 : Nat → Int32 → Int32 → Int32 → PH → Option Rs} (hg31 : ∀ a0 a1 a2 a3 a4, Mo (g31 a0 a1 a2 a3 a4) (G31 a0 a1 a2 a3 a4)) (t : Nat) (x1 : Int32) (x2 : Int32) (x3 : Int32) (h : PH) : Mo (X3_readLevel_f31 rl rp c_X3_isJoining c_X3_look c_X3_put g31 t x1 x2 x3 h) (X3_readLevel_f31 rl rp c_X3_isJoining c_X3_look c_X3_put G31 t x1 x2 x3 h) := (mo_if (mo_if (mo_cI fun v4 h3 => (mo_if mo_rf (mo_cV fun h5 => (mo_cV fun h6 => (mo_cV fun h7 => (hg31 t x1 x2 (x3 + 1) h7)))))) mo_rf) mo_rf)
theorem X3_readLevel_w31 {dd : Nat} {rl rp : List PV → PH → Option Rs} {z : CZ} (hrl : Gd (xL (X3_readLevel_x dd z)) dd yX3_readLevel cX3_readLevel 5 none rl) (hrp : Gd (xL (X3_readLevel_x dd z)) dd yX3_readPiece cX3_readPiece 1 none rp) {g31 : Nat → Int32 → Int32 → Int32 → PH → Option Rs} (hk31 : SK (X3_readLevel_x dd z) 31 (X3_readLevel_u31 g31)) : SK (X3_readLevel_x dd z) 31 (X3_readLevel_u31 (X3_readLevel_f31 rl rp X3_isJoining X3_look X3_put g31)) := by
  intro ls st h r e
  obtain ⟨hst, e⟩ := gL_of e
  obtain ⟨t, q0, e⟩ := gT_of e
  obtain ⟨x1, q1, e⟩ := gI_of e
  obtain ⟨x2, q2, e⟩ := gI_of e
  obtain ⟨x3, q3, e⟩ := gI_of e
  rw [st_0 hst]
  exact WK.sub (canon := [some (.inr (2, t + 1)), some (.inl x1), some (.inl x2), some (.inl x3), none]) rfl ⟨q0, q1, q2, q3, trivial⟩ (X3_readLevel_s31 hrl hrp hk31 _ _ _ _ ((X3_readLevel_l31 rl rp X3_isJoining X3_look X3_put g31 t x1 x2 x3 h).trans e))
noncomputable def X3_readLevel_g28 (rl rp : List PV → PH → Option Rs) (G : (Nat → Int32 → Int32 → Int32 → PH → Option Rs)) (t : Nat) (x1 : Int32) (s0 : Int32) (h : PH) : Option Rs := X3_readLevel_f28 rl rp (G) t x1 s0 h
noncomputable def X3_readLevel_g0 (rl rp : List PV → PH → Option Rs) (G : (Nat → Int32 → Int32 → Int32 → PH → Option Rs)) (t : Nat) (x1 : Int32) (h : PH) : Option Rs := X3_readLevel_f0 rl rp (X3_readLevel_g28 rl rp G) t x1 h
noncomputable def X3_readLevel_g31 (rl rp : List PV → PH → Option Rs) (G : (Nat → Int32 → Int32 → Int32 → PH → Option Rs)) (t : Nat) (x1 : Int32) (x2 : Int32) (x3 : Int32) (h : PH) : Option Rs := X3_readLevel_f31 rl rp X3_isJoining X3_look X3_put (G) t x1 x2 x3 h
theorem X3_readLevel_v28 {dd : Nat} {rl rp : List PV → PH → Option Rs} {z : CZ} (hrl : Gd (xL (X3_readLevel_x dd z)) dd yX3_readLevel cX3_readLevel 5 none rl) (hrp : Gd (xL (X3_readLevel_x dd z)) dd yX3_readPiece cX3_readPiece 1 none rp) {G : (Nat → Int32 → Int32 → Int32 → PH → Option Rs)} (hG31 : SK (X3_readLevel_x dd z) 31 (X3_readLevel_u31 (G))) : SK (X3_readLevel_x dd z) 28 (X3_readLevel_u28 (X3_readLevel_g28 rl rp G)) := X3_readLevel_w28 hrl hrp hG31
theorem X3_readLevel_v31 {dd : Nat} {rl rp : List PV → PH → Option Rs} {z : CZ} (hrl : Gd (xL (X3_readLevel_x dd z)) dd yX3_readLevel cX3_readLevel 5 none rl) (hrp : Gd (xL (X3_readLevel_x dd z)) dd yX3_readPiece cX3_readPiece 1 none rp) {G : (Nat → Int32 → Int32 → Int32 → PH → Option Rs)} (hG31 : SK (X3_readLevel_x dd z) 31 (X3_readLevel_u31 (G))) : SK (X3_readLevel_x dd z) 31 (X3_readLevel_u31 (X3_readLevel_g31 rl rp G)) := X3_readLevel_w31 hrl hrp hG31
noncomputable def X3_readLevel_fam (rl rp : List PV → PH → Option Rs) : Nat → (Nat → Int32 → Int32 → Int32 → PH → Option Rs)
  | 0 => fun _ _ _ _ _ => none
  | n + 1 => X3_readLevel_g31 rl rp (X3_readLevel_fam rl rp n)
theorem X3_readLevel_k {dd : Nat} {rl rp : List PV → PH → Option Rs} {z : CZ} (hrl : Gd (xL (X3_readLevel_x dd z)) dd yX3_readLevel cX3_readLevel 5 none rl) (hrp : Gd (xL (X3_readLevel_x dd z)) dd yX3_readPiece cX3_readPiece 1 none rp) : ∀ n, SK (X3_readLevel_x dd z) 31 (X3_readLevel_u31 (X3_readLevel_fam rl rp n))
  | 0 => (fun ls st h r e => by
      obtain ⟨_, e⟩ := gL_of e
      obtain ⟨_, _, e⟩ := gT_of e
      obtain ⟨_, _, e⟩ := gI_of e
      obtain ⟨_, _, e⟩ := gI_of e
      obtain ⟨_, _, e⟩ := gI_of e
      cases e)
  | n + 1 => by
    obtain ih31 := X3_readLevel_k hrl hrp n
    exact X3_readLevel_v31 hrl hrp ih31
theorem X3_readLevel_n28 {rl rp : List PV → PH → Option Rs} {G G' : (Nat → Int32 → Int32 → Int32 → PH → Option Rs)} (hg31 : ∀ a0 a1 a2 a3 a4, Mo ((G) a0 a1 a2 a3 a4) ((G') a0 a1 a2 a3 a4)) (t : Nat) (x1 : Int32) (s0 : Int32) (h : PH) : Mo (X3_readLevel_g28 rl rp G t x1 s0 h) (X3_readLevel_g28 rl rp G' t x1 s0 h) := X3_readLevel_m28 hg31 t x1 s0 h
theorem X3_readLevel_n0 {rl rp : List PV → PH → Option Rs} {G G' : (Nat → Int32 → Int32 → Int32 → PH → Option Rs)} (hg31 : ∀ a0 a1 a2 a3 a4, Mo ((G) a0 a1 a2 a3 a4) ((G') a0 a1 a2 a3 a4)) (t : Nat) (x1 : Int32) (h : PH) : Mo (X3_readLevel_g0 rl rp G t x1 h) (X3_readLevel_g0 rl rp G' t x1 h) := X3_readLevel_m0 (fun a0 a1 a2 a3 => X3_readLevel_n28 hg31 a0 a1 a2 a3) t x1 h
theorem X3_readLevel_n31 {rl rp : List PV → PH → Option Rs} {G G' : (Nat → Int32 → Int32 → Int32 → PH → Option Rs)} (hg31 : ∀ a0 a1 a2 a3 a4, Mo ((G) a0 a1 a2 a3 a4) ((G') a0 a1 a2 a3 a4)) (t : Nat) (x1 : Int32) (x2 : Int32) (x3 : Int32) (h : PH) : Mo (X3_readLevel_g31 rl rp G t x1 x2 x3 h) (X3_readLevel_g31 rl rp G' t x1 x2 x3 h) := X3_readLevel_m31 hg31 t x1 x2 x3 h
theorem X3_readLevel_fm {rl rp : List PV → PH → Option Rs} : ∀ n, (∀ a0 a1 a2 a3 a4, Mo ((X3_readLevel_fam rl rp n) a0 a1 a2 a3 a4) ((X3_readLevel_fam rl rp (n + 1)) a0 a1 a2 a3 a4))
  | 0 => fun _ _ _ _ _ => mo_no
  | n + 1 => by
    obtain ih31 := X3_readLevel_fm n
    exact fun a0 a1 a2 a3 a4 => X3_readLevel_n31 ih31 a0 a1 a2 a3 a4
noncomputable def X3_readLevel (rl rp : List PV → PH → Option Rs) (t : Nat) (x1 : Int32) (h : PH) : Option Rs := lim (fun n => X3_readLevel_g0 rl rp (X3_readLevel_fam rl rp n) t x1 h)
theorem X3_readLevel_iff {rl rp : List PV → PH → Option Rs} {t : Nat} {x1 : Int32} {h : PH} {r : Rs} : X3_readLevel rl rp t x1 h = some r ↔ ∃ n, X3_readLevel_g0 rl rp (X3_readLevel_fam rl rp n) t x1 h = some r := lim_iff (fun n => by
  obtain ih31 := X3_readLevel_fm n
  exact X3_readLevel_n0 ih31 t x1 h)
noncomputable abbrev X3_readLevel_F (rl rp : List PV → PH → Option Rs) : List PV → PH → Option Rs := FW_T2I (X3_readLevel rl rp)
set_option maxRecDepth 100000 in
theorem X3_readLevel_gd {dd : Nat} {rl rp : List PV → PH → Option Rs} (l : Launch) (hrl : Gd l dd yX3_readLevel cX3_readLevel 5 none rl) (hrp : Gd l dd yX3_readPiece cX3_readPiece 1 none rp) : Gd l (dd + 10) yX3_readLevel cX3_readLevel 5 none (X3_readLevel_F rl rp)   := Gd_of (by decide +kernel) (fun z hzl as h r e => by
  subst hzl
  obtain ⟨hst, e⟩ := gL_of e
  obtain ⟨t, q0, e⟩ := gT_of e
  obtain ⟨x1, q1, e⟩ := gI_of e
  rw [st_2 hst q0 q1]
  obtain ⟨n, e⟩ := lim_of e
  obtain hG31 := X3_readLevel_k hrl hrp (z := z) n
  exact ⟨show 2 ≤ 5 by decide, X3_readLevel_s0 hrl hrp (X3_readLevel_v28 hrl hrp hG31) _ _ _ _ ((X3_readLevel_l0 rl rp (X3_readLevel_g28 rl rp (X3_readLevel_fam rl rp n)) t x1 h).trans e)⟩)
abbrev X3_readPiece_x (dd : Nat) (z : CZ) : CX := mx RX3 cX3_readPiece 1 (dd + 10) none "readPiece" z
noncomputable def X3_readPiece_b0 (rl rp : List PV → PH → Option Rs) (k31 k48 : Kn) : Kn := (a_al 0 (a_gI 2 133 (a_ic (-1) (a_eq (a_al 0 (a_gI 2 130 (a_ic (-3) (a_eq (a_al 0 (a_gI 2 132 (a_al 0 (a_gI 2 131 (a_b (fun a b => a - b) (a_ic 4 (a_gt k31 k48))))))) k31)))) a_vr))))
set_option maxRecDepth 100000 in
theorem X3_readPiece_s0 {dd : Nat} {rl rp : List PV → PH → Option Rs} {z : CZ} (hrl : Gd (xL (X3_readPiece_x dd z)) dd yX3_readLevel cX3_readLevel 5 none rl) (hrp : Gd (xL (X3_readPiece_x dd z)) dd yX3_readPiece cX3_readPiece 1 none rp) {k31 k48 : Kn} (hk31 : SK (X3_readPiece_x dd z) 31 k31) (hk48 : SK (X3_readPiece_x dd z) 48 k48) : SK (X3_readPiece_x dd z) 0 (X3_readPiece_b0 rl rp k31 k48) := (s_aloadn (pc := 0) dX3_readPiece_0 rfl (s_gI (pc := 1) (f := 5) ko_2 (by decide) rfl rfl w_418 dX3_readPiece_1 (s_iconst (pc := 4) dX3_readPiece_4 c_ic_m1 (s_cmpeq (pc := 5) dX3_readPiece_5 (by decide) (s_aloadn (pc := 9) dX3_readPiece_9 rfl (s_gI (pc := 10) (f := 2) ko_2 (by decide) rfl rfl w_415 dX3_readPiece_10 (s_bipush (pc := 13) dX3_readPiece_13 c_bp_m3 (s_cmpne (pc := 15) dX3_readPiece_15 (by decide) hk31 (s_aloadn (pc := 18) dX3_readPiece_18 rfl (s_gI (pc := 19) (f := 4) ko_2 (by decide) rfl rfl w_417 dX3_readPiece_19 (s_aloadn (pc := 22) dX3_readPiece_22 rfl (s_gI (pc := 23) (f := 3) ko_2 (by decide) rfl rfl w_416 dX3_readPiece_23 (s_isub (pc := 26) dX3_readPiece_26 (s_iconst (pc := 27) dX3_readPiece_27 c_ic_4 (s_cmple (pc := 28) dX3_readPiece_28 (by decide) hk48 hk31))))))))))) (s_vr (pc := 8) rfl dX3_readPiece_8)))))
noncomputable def X3_readPiece_b31 (rl rp : List PV → PH → Option Rs) (c_X3_nameRead : Nat → PH → Option Rs) (k48 k91 : Kn) : Kn := (a_al 0 (a_gI 2 130 (a_ic (-2) (a_eq (a_al 0 (a_vI 2 0 (FW_T2 c_X3_nameRead) (a_ic (-1) (a_eq k91 k48)))) k91))))
set_option maxRecDepth 100000 in
theorem X3_readPiece_s31 {dd : Nat} {rl rp : List PV → PH → Option Rs} {z : CZ} (hrl : Gd (xL (X3_readPiece_x dd z)) dd yX3_readLevel cX3_readLevel 5 none rl) (hrp : Gd (xL (X3_readPiece_x dd z)) dd yX3_readPiece cX3_readPiece 1 none rp) {k48 k91 : Kn} (hk48 : SK (X3_readPiece_x dd z) 48 k48) (hk91 : SK (X3_readPiece_x dd z) 91 k91) : SK (X3_readPiece_x dd z) 31 (X3_readPiece_b31 rl rp X3_nameRead k48 k91) := (s_aloadn (pc := 31) dX3_readPiece_31 rfl (s_gI (pc := 32) (f := 2) ko_2 (by decide) rfl rfl w_415 dX3_readPiece_32 (s_bipush (pc := 35) dX3_readPiece_35 c_bp_m2 (s_cmpne (pc := 37) dX3_readPiece_37 (by decide) hk91 (s_aloadn (pc := 40) dX3_readPiece_40 rfl (s_vI (pc := 41) (run_virtual (X3_nameRead_gd _) (show 4 < dd + 10 by omega) cy_X3_nameRead (by decide) rfl w_822 w_s9 w_820 dX3_readPiece_41) (s_iconst (pc := 44) dX3_readPiece_44 c_ic_m1 (s_cmpeq (pc := 45) dX3_readPiece_45 (by decide) hk91 hk48))))))))
noncomputable def X3_readPiece_b48 (rl rp : List PV → PH → Option Rs) (c_X3_nameRead : Nat → PH → Option Rs) (c_X3_numberRead : Nat → PH → Option Rs) (k71 : Kn) : Kn := (a_al 0 (a_al 0 (a_gI 2 130 (a_ic (-3) (a_eq (a_al 0 (a_vI 2 0 (FW_T2 c_X3_numberRead) k71)) (a_ic (-1) (a_al 0 (a_vI 2 0 (FW_T2 c_X3_nameRead) (a_b (fun a b => a - b) k71)))))))))
set_option maxRecDepth 100000 in
theorem X3_readPiece_s48 {dd : Nat} {rl rp : List PV → PH → Option Rs} {z : CZ} (hrl : Gd (xL (X3_readPiece_x dd z)) dd yX3_readLevel cX3_readLevel 5 none rl) (hrp : Gd (xL (X3_readPiece_x dd z)) dd yX3_readPiece cX3_readPiece 1 none rp) {k71 : Kn} (hk71 : SK (X3_readPiece_x dd z) 71 k71) : SK (X3_readPiece_x dd z) 48 (X3_readPiece_b48 rl rp X3_nameRead X3_numberRead k71) := (s_aloadn (pc := 48) dX3_readPiece_48 rfl (s_aloadn (pc := 49) dX3_readPiece_49 rfl (s_gI (pc := 50) (f := 2) ko_2 (by decide) rfl rfl w_415 dX3_readPiece_50 (s_bipush (pc := 53) dX3_readPiece_53 c_bp_m3 (s_cmpne (pc := 55) dX3_readPiece_55 (by decide) (s_iconst (pc := 65) dX3_readPiece_65 c_ic_m1 (s_aloadn (pc := 66) dX3_readPiece_66 rfl (s_vI (pc := 67) (run_virtual (X3_nameRead_gd _) (show 4 < dd + 10 by omega) cy_X3_nameRead (by decide) rfl w_822 w_s9 w_820 dX3_readPiece_67) (s_isub (pc := 70) dX3_readPiece_70 hk71)))) (s_aloadn (pc := 58) dX3_readPiece_58 rfl (s_vI (pc := 59) (run_virtual (X3_numberRead_gd _) (show 0 < dd + 10 by omega) cy_X3_numberRead (by decide) rfl w_886 w_s10 w_884 dX3_readPiece_59) (s_goto (pc := 62) dX3_readPiece_62 (by decide) hk71))))))))
noncomputable def X3_readPiece_b71 (rl rp : List PV → PH → Option Rs) (c_X3_put : Nat → Int32 → PH → Option Rs) (c_X3_look : Nat → PH → Option Rs) : Kn := (a_vV 2 1 (FW_T2I c_X3_put) (a_al 0 (a_dup (a_gI 2 137 (a_ic 1 (a_b (fun a b => a + b) (a_pI 2 137 (a_al 0 (a_vV 2 0 (FW_T2 c_X3_look) a_vr)))))))))
set_option maxRecDepth 100000 in
theorem X3_readPiece_s71 {dd : Nat} {rl rp : List PV → PH → Option Rs} {z : CZ} (hrl : Gd (xL (X3_readPiece_x dd z)) dd yX3_readLevel cX3_readLevel 5 none rl) (hrp : Gd (xL (X3_readPiece_x dd z)) dd yX3_readPiece cX3_readPiece 1 none rp) : SK (X3_readPiece_x dd z) 71 (X3_readPiece_b71 rl rp X3_put X3_look) := (s_vV (pc := 71) (run_virtual (X3_put_gd _) (show 0 < dd + 10 by omega) cy_X3_put (by decide) rfl w_890 w_s11 w_888 dX3_readPiece_71) (s_aloadn (pc := 74) dX3_readPiece_74 rfl (s_dup (pc := 75) dX3_readPiece_75 (s_gI (pc := 76) (f := 9) ko_2 (by decide) rfl rfl w_422 dX3_readPiece_76 (s_iconst (pc := 79) dX3_readPiece_79 c_ic_1 (s_iadd (pc := 80) dX3_readPiece_80 (s_pI (pc := 81) (f := 9) ko_2 (by decide) rfl rfl rfl (by decide +kernel) w_422 dX3_readPiece_81 (s_aloadn (pc := 84) dX3_readPiece_84 rfl (s_vV (pc := 85) (run_virtual (X3_look_gd _) (show 2 < dd + 10 by omega) cy_X3_look (by decide) rfl w_739 w_s1 w_737 dX3_readPiece_85) (s_goto (pc := 88) dX3_readPiece_88 (by decide) (s_vr (pc := 208) rfl dX3_readPiece_208)))))))))))
noncomputable def X3_readPiece_b91 (rl rp : List PV → PH → Option Rs) (c_X3_look : Nat → PH → Option Rs) (c_X3_put : Nat → Int32 → PH → Option Rs) (k146 : Kn) : Kn := (a_al 0 (a_gI 2 130 (a_ic 33 (a_eq (a_al 0 (a_gI 2 139 (a_ic 8 (a_lt (a_al 0 (a_dup (a_gI 2 139 (a_ic 1 (a_b (fun a b => a + b) (a_pI 2 139 (a_al 0 (a_vV 2 0 (FW_T2 c_X3_look) (a_al 0 (a_vV 2 0 rp (a_al 0 (a_dup (a_gI 2 139 (a_ic 1 (a_b (fun a b => a - b) (a_pI 2 139 (a_al 0 (a_ic (-33) (a_vV 2 1 (FW_T2I c_X3_put) a_vr))))))))))))))))))) k146)))) k146))))
set_option maxRecDepth 100000 in
theorem X3_readPiece_s91 {dd : Nat} {rl rp : List PV → PH → Option Rs} {z : CZ} (hrl : Gd (xL (X3_readPiece_x dd z)) dd yX3_readLevel cX3_readLevel 5 none rl) (hrp : Gd (xL (X3_readPiece_x dd z)) dd yX3_readPiece cX3_readPiece 1 none rp) {k146 : Kn} (hk146 : SK (X3_readPiece_x dd z) 146 k146) : SK (X3_readPiece_x dd z) 91 (X3_readPiece_b91 rl rp X3_look X3_put k146) := (s_aloadn (pc := 91) dX3_readPiece_91 rfl (s_gI (pc := 92) (f := 2) ko_2 (by decide) rfl rfl w_415 dX3_readPiece_92 (s_bipush (pc := 95) dX3_readPiece_95 c_bp_33 (s_cmpne (pc := 97) dX3_readPiece_97 (by decide) hk146 (s_aloadn (pc := 100) dX3_readPiece_100 rfl (s_gI (pc := 101) (f := 11) ko_2 (by decide) rfl rfl w_424 dX3_readPiece_101 (s_bipush (pc := 104) dX3_readPiece_104 c_bp_8 (s_cmpge (pc := 106) dX3_readPiece_106 (by decide) hk146 (s_aloadn (pc := 109) dX3_readPiece_109 rfl (s_dup (pc := 110) dX3_readPiece_110 (s_gI (pc := 111) (f := 11) ko_2 (by decide) rfl rfl w_424 dX3_readPiece_111 (s_iconst (pc := 114) dX3_readPiece_114 c_ic_1 (s_iadd (pc := 115) dX3_readPiece_115 (s_pI (pc := 116) (f := 11) ko_2 (by decide) rfl rfl rfl (by decide +kernel) w_424 dX3_readPiece_116 (s_aloadn (pc := 119) dX3_readPiece_119 rfl (s_vV (pc := 120) (run_virtual (X3_look_gd _) (show 2 < dd + 10 by omega) cy_X3_look (by decide) rfl w_739 w_s1 w_737 dX3_readPiece_120) (s_aloadn (pc := 123) dX3_readPiece_123 rfl (s_vV (pc := 124) (run_virtual hrp (show dd < dd + 10 by omega) cy_X3_readPiece (by decide) rfl w_818 w_s8 w_816 dX3_readPiece_124) (s_aloadn (pc := 127) dX3_readPiece_127 rfl (s_dup (pc := 128) dX3_readPiece_128 (s_gI (pc := 129) (f := 11) ko_2 (by decide) rfl rfl w_424 dX3_readPiece_129 (s_iconst (pc := 132) dX3_readPiece_132 c_ic_1 (s_isub (pc := 133) dX3_readPiece_133 (s_pI (pc := 134) (f := 11) ko_2 (by decide) rfl rfl rfl (by decide +kernel) w_424 dX3_readPiece_134 (s_aloadn (pc := 137) dX3_readPiece_137 rfl (s_bipush (pc := 138) dX3_readPiece_138 c_bp_m33 (s_vV (pc := 140) (run_virtual (X3_put_gd _) (show 0 < dd + 10 by omega) cy_X3_put (by decide) rfl w_890 w_s11 w_888 dX3_readPiece_140) (s_goto (pc := 143) dX3_readPiece_143 (by decide) (s_vr (pc := 208) rfl dX3_readPiece_208)))))))))))))))))))))))))))))
noncomputable def X3_readPiece_b146 (rl rp : List PV → PH → Option Rs) (c_X3_look : Nat → PH → Option Rs) (c_X3_readClosing : Nat → PH → Option Rs) (k200 : Kn) : Kn := (a_al 0 (a_gI 2 130 (a_ic 40 (a_eq (a_al 0 (a_gI 2 138 (a_ic 8 (a_lt (a_al 0 (a_dup (a_gI 2 138 (a_ic 1 (a_b (fun a b => a + b) (a_pI 2 138 (a_al 0 (a_vV 2 0 (FW_T2 c_X3_look) (a_al 0 (a_ic 0 (a_vV 2 1 rl (a_al 0 (a_vV 2 0 (FW_T2 c_X3_readClosing) (a_al 0 (a_dup (a_gI 2 138 (a_ic 1 (a_b (fun a b => a - b) (a_pI 2 138 a_vr))))))))))))))))))) k200)))) k200))))
set_option maxRecDepth 100000 in
theorem X3_readPiece_s146 {dd : Nat} {rl rp : List PV → PH → Option Rs} {z : CZ} (hrl : Gd (xL (X3_readPiece_x dd z)) dd yX3_readLevel cX3_readLevel 5 none rl) (hrp : Gd (xL (X3_readPiece_x dd z)) dd yX3_readPiece cX3_readPiece 1 none rp) {k200 : Kn} (hk200 : SK (X3_readPiece_x dd z) 200 k200) : SK (X3_readPiece_x dd z) 146 (X3_readPiece_b146 rl rp X3_look X3_readClosing k200) := (s_aloadn (pc := 146) dX3_readPiece_146 rfl (s_gI (pc := 147) (f := 2) ko_2 (by decide) rfl rfl w_415 dX3_readPiece_147 (s_bipush (pc := 150) dX3_readPiece_150 c_bp_40 (s_cmpne (pc := 152) dX3_readPiece_152 (by decide) hk200 (s_aloadn (pc := 155) dX3_readPiece_155 rfl (s_gI (pc := 156) (f := 10) ko_2 (by decide) rfl rfl w_423 dX3_readPiece_156 (s_bipush (pc := 159) dX3_readPiece_159 c_bp_8 (s_cmpge (pc := 161) dX3_readPiece_161 (by decide) hk200 (s_aloadn (pc := 164) dX3_readPiece_164 rfl (s_dup (pc := 165) dX3_readPiece_165 (s_gI (pc := 166) (f := 10) ko_2 (by decide) rfl rfl w_423 dX3_readPiece_166 (s_iconst (pc := 169) dX3_readPiece_169 c_ic_1 (s_iadd (pc := 170) dX3_readPiece_170 (s_pI (pc := 171) (f := 10) ko_2 (by decide) rfl rfl rfl (by decide +kernel) w_423 dX3_readPiece_171 (s_aloadn (pc := 174) dX3_readPiece_174 rfl (s_vV (pc := 175) (run_virtual (X3_look_gd _) (show 2 < dd + 10 by omega) cy_X3_look (by decide) rfl w_739 w_s1 w_737 dX3_readPiece_175) (s_aloadn (pc := 178) dX3_readPiece_178 rfl (s_iconst (pc := 179) dX3_readPiece_179 c_ic_0 (s_vV (pc := 180) (run_virtual hrl (show dd < dd + 10 by omega) cy_X3_readLevel (by decide) rfl w_814 w_s7 w_812 dX3_readPiece_180) (s_aloadn (pc := 183) dX3_readPiece_183 rfl (s_vV (pc := 184) (run_virtual (X3_readClosing_gd _) (show 3 < dd + 10 by omega) cy_X3_readClosing (by decide) rfl w_894 w_s12 w_892 dX3_readPiece_184) (s_aloadn (pc := 187) dX3_readPiece_187 rfl (s_dup (pc := 188) dX3_readPiece_188 (s_gI (pc := 189) (f := 10) ko_2 (by decide) rfl rfl w_423 dX3_readPiece_189 (s_iconst (pc := 192) dX3_readPiece_192 c_ic_1 (s_isub (pc := 193) dX3_readPiece_193 (s_pI (pc := 194) (f := 10) ko_2 (by decide) rfl rfl rfl (by decide +kernel) w_423 dX3_readPiece_194 (s_goto (pc := 197) dX3_readPiece_197 (by decide) (s_vr (pc := 208) rfl dX3_readPiece_208)))))))))))))))))))))))))))))
noncomputable def X3_readPiece_b200 (rl rp : List PV → PH → Option Rs) : Kn := (a_al 0 (a_al 0 (a_gI 2 131 (a_pI 2 133 a_vr))))
set_option maxRecDepth 100000 in
theorem X3_readPiece_s200 {dd : Nat} {rl rp : List PV → PH → Option Rs} {z : CZ} (hrl : Gd (xL (X3_readPiece_x dd z)) dd yX3_readLevel cX3_readLevel 5 none rl) (hrp : Gd (xL (X3_readPiece_x dd z)) dd yX3_readPiece cX3_readPiece 1 none rp) : SK (X3_readPiece_x dd z) 200 (X3_readPiece_b200 rl rp) := (s_aloadn (pc := 200) dX3_readPiece_200 rfl (s_aloadn (pc := 201) dX3_readPiece_201 rfl (s_gI (pc := 202) (f := 3) ko_2 (by decide) rfl rfl w_416 dX3_readPiece_202 (s_pI (pc := 205) (f := 5) ko_2 (by decide) rfl rfl rfl (by decide +kernel) w_418 dX3_readPiece_205 (s_vr (pc := 208) rfl dX3_readPiece_208)))))
noncomputable def X3_readPiece_u31 (g : Nat → PH → Option Rs) : Kn := fun ls st h => gL 0 st (gT 2 ls 0 fun t => g t h)
noncomputable def X3_readPiece_u48 (g : Nat → PH → Option Rs) : Kn := fun ls st h => gL 0 st (gT 2 ls 0 fun t => g t h)
noncomputable def X3_readPiece_u71 (g : Nat → Int32 → Nat → PH → Option Rs) : Kn := fun ls st h => gL 2 st (gT 2 ls 0 fun t => gI (st.map some) 0 fun s0 => gT 2 (st.map some) 1 fun s1 => g t s0 s1 h)
noncomputable def X3_readPiece_u91 (g : Nat → PH → Option Rs) : Kn := fun ls st h => gL 0 st (gT 2 ls 0 fun t => g t h)
noncomputable def X3_readPiece_u146 (g : Nat → PH → Option Rs) : Kn := fun ls st h => gL 0 st (gT 2 ls 0 fun t => g t h)
noncomputable def X3_readPiece_u200 (g : Nat → PH → Option Rs) : Kn := fun ls st h => gL 0 st (gT 2 ls 0 fun t => g t h)
noncomputable def X3_readPiece_f0 (rl rp : List PV → PH → Option Rs) (g31 : Nat → PH → Option Rs) (g48 : Nat → PH → Option Rs) (t : Nat) (h : PH) : Option Rs :=
  if (hI h 133 t 0) = (-1) then
    if (hI h 130 t 0) = (-3) then
      if 4 < ((hI h 132 t 0) - (hI h 131 t 0)) then
        g31 t h
      else
        g48 t h
    else
      g31 t h
  else
    some (none, h)
set_option maxRecDepth 100000 in
theorem X3_readPiece_l0 (rl rp : List PV → PH → Option Rs) (g31 : Nat → PH → Option Rs) (g48 : Nat → PH → Option Rs) (t : Nat) (h : PH) : X3_readPiece_b0 rl rp (X3_readPiece_u31 g31) (X3_readPiece_u48 g48) [some (.inr (2, t + 1))] [] h = X3_readPiece_f0 rl rp g31 g48 t h := rfl
theorem X3_readPiece_m0 {rl rp : List PV → PH → Option Rs} {g31 G31 : Nat → PH → Option Rs} {g48 G48 : Nat → PH → Option Rs} (hg31 : ∀ a0 a1, Mo (g31 a0 a1) (G31 a0 a1)) (hg48 : ∀ a0 a1, Mo (g48 a0 a1) (G48 a0 a1)) (t : Nat) (h : PH) : Mo (X3_readPiece_f0 rl rp g31 g48 t h) (X3_readPiece_f0 rl rp G31 G48 t h) := (mo_if (mo_if (mo_if (hg31 t h) (hg48 t h)) (hg31 t h)) mo_rf)
noncomputable def X3_readPiece_f31 (rl rp : List PV → PH → Option Rs) (c_X3_nameRead : Nat → PH → Option Rs) (g48 : Nat → PH → Option Rs) (g91 : Nat → PH → Option Rs) (t : Nat) (h : PH) : Option Rs :=
  if (hI h 130 t 0) = (-2) then
    cI (c_X3_nameRead t h) fun v2 h1 =>
    if v2 = (-1) then
      g91 t h1
    else
      g48 t h1
  else
    g91 t h
set_option maxRecDepth 100000 in
theorem X3_readPiece_l31 (rl rp : List PV → PH → Option Rs) (c_X3_nameRead : Nat → PH → Option Rs) (g48 : Nat → PH → Option Rs) (g91 : Nat → PH → Option Rs) (t : Nat) (h : PH) : X3_readPiece_b31 rl rp c_X3_nameRead (X3_readPiece_u48 g48) (X3_readPiece_u91 g91) [some (.inr (2, t + 1))] [] h = X3_readPiece_f31 rl rp c_X3_nameRead g48 g91 t h := rfl
theorem X3_readPiece_m31 {rl rp : List PV → PH → Option Rs} {c_X3_nameRead : Nat → PH → Option Rs} {g48 G48 : Nat → PH → Option Rs} {g91 G91 : Nat → PH → Option Rs} (hg48 : ∀ a0 a1, Mo (g48 a0 a1) (G48 a0 a1)) (hg91 : ∀ a0 a1, Mo (g91 a0 a1) (G91 a0 a1)) (t : Nat) (h : PH) : Mo (X3_readPiece_f31 rl rp c_X3_nameRead g48 g91 t h) (X3_readPiece_f31 rl rp c_X3_nameRead G48 G91 t h) := (mo_if (mo_cI fun v2 h1 => (mo_if (hg91 t h1) (hg48 t h1))) (hg91 t h))
theorem X3_readPiece_w31 {dd : Nat} {rl rp : List PV → PH → Option Rs} {z : CZ} (hrl : Gd (xL (X3_readPiece_x dd z)) dd yX3_readLevel cX3_readLevel 5 none rl) (hrp : Gd (xL (X3_readPiece_x dd z)) dd yX3_readPiece cX3_readPiece 1 none rp) {g48 : Nat → PH → Option Rs} {g91 : Nat → PH → Option Rs} (hk48 : SK (X3_readPiece_x dd z) 48 (X3_readPiece_u48 g48)) (hk91 : SK (X3_readPiece_x dd z) 91 (X3_readPiece_u91 g91)) : SK (X3_readPiece_x dd z) 31 (X3_readPiece_u31 (X3_readPiece_f31 rl rp X3_nameRead g48 g91)) := by
  intro ls st h r e
  obtain ⟨hst, e⟩ := gL_of e
  obtain ⟨t, q0, e⟩ := gT_of e
  rw [st_0 hst]
  exact WK.sub (canon := [some (.inr (2, t + 1))]) rfl ⟨q0, trivial⟩ (X3_readPiece_s31 hrl hrp hk48 hk91 _ _ _ _ ((X3_readPiece_l31 rl rp X3_nameRead g48 g91 t h).trans e))
noncomputable def X3_readPiece_f48 (rl rp : List PV → PH → Option Rs) (c_X3_nameRead : Nat → PH → Option Rs) (c_X3_numberRead : Nat → PH → Option Rs) (g71 : Nat → Int32 → Nat → PH → Option Rs) (t : Nat) (h : PH) : Option Rs :=
  if (hI h 130 t 0) = (-3) then
    cI (c_X3_numberRead t h) fun v6 h5 =>
    g71 t v6 t h5
  else
    cI (c_X3_nameRead t h) fun v4 h3 =>
    g71 t ((-1) - v4) t h3
set_option maxRecDepth 100000 in
theorem X3_readPiece_l48 (rl rp : List PV → PH → Option Rs) (c_X3_nameRead : Nat → PH → Option Rs) (c_X3_numberRead : Nat → PH → Option Rs) (g71 : Nat → Int32 → Nat → PH → Option Rs) (t : Nat) (h : PH) : X3_readPiece_b48 rl rp c_X3_nameRead c_X3_numberRead (X3_readPiece_u71 g71) [some (.inr (2, t + 1))] [] h = X3_readPiece_f48 rl rp c_X3_nameRead c_X3_numberRead g71 t h := rfl
theorem X3_readPiece_m48 {rl rp : List PV → PH → Option Rs} {c_X3_nameRead : Nat → PH → Option Rs} {c_X3_numberRead : Nat → PH → Option Rs} {g71 G71 : Nat → Int32 → Nat → PH → Option Rs} (hg71 : ∀ a0 a1 a2 a3, Mo (g71 a0 a1 a2 a3) (G71 a0 a1 a2 a3)) (t : Nat) (h : PH) : Mo (X3_readPiece_f48 rl rp c_X3_nameRead c_X3_numberRead g71 t h) (X3_readPiece_f48 rl rp c_X3_nameRead c_X3_numberRead G71 t h) := (mo_if (mo_cI fun v6 h5 => (hg71 t v6 t h5)) (mo_cI fun v4 h3 => (hg71 t ((-1) - v4) t h3)))
theorem X3_readPiece_w48 {dd : Nat} {rl rp : List PV → PH → Option Rs} {z : CZ} (hrl : Gd (xL (X3_readPiece_x dd z)) dd yX3_readLevel cX3_readLevel 5 none rl) (hrp : Gd (xL (X3_readPiece_x dd z)) dd yX3_readPiece cX3_readPiece 1 none rp) {g71 : Nat → Int32 → Nat → PH → Option Rs} (hk71 : SK (X3_readPiece_x dd z) 71 (X3_readPiece_u71 g71)) : SK (X3_readPiece_x dd z) 48 (X3_readPiece_u48 (X3_readPiece_f48 rl rp X3_nameRead X3_numberRead g71)) := by
  intro ls st h r e
  obtain ⟨hst, e⟩ := gL_of e
  obtain ⟨t, q0, e⟩ := gT_of e
  rw [st_0 hst]
  exact WK.sub (canon := [some (.inr (2, t + 1))]) rfl ⟨q0, trivial⟩ (X3_readPiece_s48 hrl hrp hk71 _ _ _ _ ((X3_readPiece_l48 rl rp X3_nameRead X3_numberRead g71 t h).trans e))
noncomputable def X3_readPiece_f71 (rl rp : List PV → PH → Option Rs) (c_X3_put : Nat → Int32 → PH → Option Rs) (c_X3_look : Nat → PH → Option Rs) (t : Nat) (s0 : Int32) (s1 : Nat) (h : PH) : Option Rs :=
  cV (c_X3_put s1 s0 h) fun h7 =>
  wr (pI h7 137 t 0 ((hI h7 137 t 0) + 1)) fun h8 =>
  cV (c_X3_look t h8) fun h9 =>
  some (none, h9)
set_option maxRecDepth 100000 in
theorem X3_readPiece_l71 (rl rp : List PV → PH → Option Rs) (c_X3_put : Nat → Int32 → PH → Option Rs) (c_X3_look : Nat → PH → Option Rs) (t : Nat) (s0 : Int32) (s1 : Nat) (h : PH) : X3_readPiece_b71 rl rp c_X3_put c_X3_look [some (.inr (2, t + 1))] [.inl s0, .inr (2, s1 + 1)] h = X3_readPiece_f71 rl rp c_X3_put c_X3_look t s0 s1 h := rfl
theorem X3_readPiece_w71 {dd : Nat} {rl rp : List PV → PH → Option Rs} {z : CZ} (hrl : Gd (xL (X3_readPiece_x dd z)) dd yX3_readLevel cX3_readLevel 5 none rl) (hrp : Gd (xL (X3_readPiece_x dd z)) dd yX3_readPiece cX3_readPiece 1 none rp) : SK (X3_readPiece_x dd z) 71 (X3_readPiece_u71 (X3_readPiece_f71 rl rp X3_put X3_look)) := by
  intro ls st h r e
  obtain ⟨hst, e⟩ := gL_of e
  obtain ⟨t, q0, e⟩ := gT_of e
  obtain ⟨s0, q1, e⟩ := gI_of e
  obtain ⟨s1, q2, e⟩ := gT_of e
  rw [st_2 hst q1 q2]
  exact WK.sub (canon := [some (.inr (2, t + 1))]) rfl ⟨q0, trivial⟩ (X3_readPiece_s71 hrl hrp _ _ _ _ ((X3_readPiece_l71 rl rp X3_put X3_look t s0 s1 h).trans e))
noncomputable def X3_readPiece_f91 (rl rp : List PV → PH → Option Rs) (c_X3_look : Nat → PH → Option Rs) (c_X3_put : Nat → Int32 → PH → Option Rs) (g146 : Nat → PH → Option Rs) (t : Nat) (h : PH) : Option Rs :=
  if (hI h 130 t 0) = 33 then
    if (hI h 139 t 0) < 8 then
      wr (pI h 139 t 0 ((hI h 139 t 0) + 1)) fun h10 =>
      cV (c_X3_look t h10) fun h11 =>
      cV (rp [.inr (2, t + 1)] h11) fun h12 =>
      wr (pI h12 139 t 0 ((hI h12 139 t 0) - 1)) fun h13 =>
      cV (c_X3_put t (-33) h13) fun h14 =>
      some (none, h14)
    else
      g146 t h
  else
    g146 t h
set_option maxRecDepth 100000 in
theorem X3_readPiece_l91 (rl rp : List PV → PH → Option Rs) (c_X3_look : Nat → PH → Option Rs) (c_X3_put : Nat → Int32 → PH → Option Rs) (g146 : Nat → PH → Option Rs) (t : Nat) (h : PH) : X3_readPiece_b91 rl rp c_X3_look c_X3_put (X3_readPiece_u146 g146) [some (.inr (2, t + 1))] [] h = X3_readPiece_f91 rl rp c_X3_look c_X3_put g146 t h := rfl
theorem X3_readPiece_m91 {rl rp : List PV → PH → Option Rs} {c_X3_look : Nat → PH → Option Rs} {c_X3_put : Nat → Int32 → PH → Option Rs} {g146 G146 : Nat → PH → Option Rs} (hg146 : ∀ a0 a1, Mo (g146 a0 a1) (G146 a0 a1)) (t : Nat) (h : PH) : Mo (X3_readPiece_f91 rl rp c_X3_look c_X3_put g146 t h) (X3_readPiece_f91 rl rp c_X3_look c_X3_put G146 t h) := (mo_if (mo_if (mo_wr fun h10 => (mo_cV fun h11 => (mo_cV fun h12 => (mo_wr fun h13 => (mo_cV fun h14 => mo_rf))))) (hg146 t h)) (hg146 t h))
theorem X3_readPiece_w91 {dd : Nat} {rl rp : List PV → PH → Option Rs} {z : CZ} (hrl : Gd (xL (X3_readPiece_x dd z)) dd yX3_readLevel cX3_readLevel 5 none rl) (hrp : Gd (xL (X3_readPiece_x dd z)) dd yX3_readPiece cX3_readPiece 1 none rp) {g146 : Nat → PH → Option Rs} (hk146 : SK (X3_readPiece_x dd z) 146 (X3_readPiece_u146 g146)) : SK (X3_readPiece_x dd z) 91 (X3_readPiece_u91 (X3_readPiece_f91 rl rp X3_look X3_put g146)) := by
  intro ls st h r e
  obtain ⟨hst, e⟩ := gL_of e
  obtain ⟨t, q0, e⟩ := gT_of e
  rw [st_0 hst]
  exact WK.sub (canon := [some (.inr (2, t + 1))]) rfl ⟨q0, trivial⟩ (X3_readPiece_s91 hrl hrp hk146 _ _ _ _ ((X3_readPiece_l91 rl rp X3_look X3_put g146 t h).trans e))
noncomputable def X3_readPiece_f146 (rl rp : List PV → PH → Option Rs) (c_X3_look : Nat → PH → Option Rs) (c_X3_readClosing : Nat → PH → Option Rs) (g200 : Nat → PH → Option Rs) (t : Nat) (h : PH) : Option Rs :=
  if (hI h 130 t 0) = 40 then
    if (hI h 138 t 0) < 8 then
      wr (pI h 138 t 0 ((hI h 138 t 0) + 1)) fun h15 =>
      cV (c_X3_look t h15) fun h16 =>
      cV (rl [.inr (2, t + 1), .inl 0] h16) fun h17 =>
      cV (c_X3_readClosing t h17) fun h18 =>
      wr (pI h18 138 t 0 ((hI h18 138 t 0) - 1)) fun h19 =>
      some (none, h19)
    else
      g200 t h
  else
    g200 t h
set_option maxRecDepth 100000 in
theorem X3_readPiece_l146 (rl rp : List PV → PH → Option Rs) (c_X3_look : Nat → PH → Option Rs) (c_X3_readClosing : Nat → PH → Option Rs) (g200 : Nat → PH → Option Rs) (t : Nat) (h : PH) : X3_readPiece_b146 rl rp c_X3_look c_X3_readClosing (X3_readPiece_u200 g200) [some (.inr (2, t + 1))] [] h = X3_readPiece_f146 rl rp c_X3_look c_X3_readClosing g200 t h := rfl
theorem X3_readPiece_m146 {rl rp : List PV → PH → Option Rs} {c_X3_look : Nat → PH → Option Rs} {c_X3_readClosing : Nat → PH → Option Rs} {g200 G200 : Nat → PH → Option Rs} (hg200 : ∀ a0 a1, Mo (g200 a0 a1) (G200 a0 a1)) (t : Nat) (h : PH) : Mo (X3_readPiece_f146 rl rp c_X3_look c_X3_readClosing g200 t h) (X3_readPiece_f146 rl rp c_X3_look c_X3_readClosing G200 t h) := (mo_if (mo_if (mo_wr fun h15 => (mo_cV fun h16 => (mo_cV fun h17 => (mo_cV fun h18 => (mo_wr fun h19 => mo_rf))))) (hg200 t h)) (hg200 t h))
theorem X3_readPiece_w146 {dd : Nat} {rl rp : List PV → PH → Option Rs} {z : CZ} (hrl : Gd (xL (X3_readPiece_x dd z)) dd yX3_readLevel cX3_readLevel 5 none rl) (hrp : Gd (xL (X3_readPiece_x dd z)) dd yX3_readPiece cX3_readPiece 1 none rp) {g200 : Nat → PH → Option Rs} (hk200 : SK (X3_readPiece_x dd z) 200 (X3_readPiece_u200 g200)) : SK (X3_readPiece_x dd z) 146 (X3_readPiece_u146 (X3_readPiece_f146 rl rp X3_look X3_readClosing g200)) := by
  intro ls st h r e
  obtain ⟨hst, e⟩ := gL_of e
  obtain ⟨t, q0, e⟩ := gT_of e
  rw [st_0 hst]
  exact WK.sub (canon := [some (.inr (2, t + 1))]) rfl ⟨q0, trivial⟩ (X3_readPiece_s146 hrl hrp hk200 _ _ _ _ ((X3_readPiece_l146 rl rp X3_look X3_readClosing g200 t h).trans e))
noncomputable def X3_readPiece_f200 (rl rp : List PV → PH → Option Rs) (t : Nat) (h : PH) : Option Rs :=
  wr (pI h 133 t 0 (hI h 131 t 0)) fun h20 =>
  some (none, h20)
set_option maxRecDepth 100000 in
theorem X3_readPiece_l200 (rl rp : List PV → PH → Option Rs) (t : Nat) (h : PH) : X3_readPiece_b200 rl rp [some (.inr (2, t + 1))] [] h = X3_readPiece_f200 rl rp t h := rfl
theorem X3_readPiece_w200 {dd : Nat} {rl rp : List PV → PH → Option Rs} {z : CZ} (hrl : Gd (xL (X3_readPiece_x dd z)) dd yX3_readLevel cX3_readLevel 5 none rl) (hrp : Gd (xL (X3_readPiece_x dd z)) dd yX3_readPiece cX3_readPiece 1 none rp) : SK (X3_readPiece_x dd z) 200 (X3_readPiece_u200 (X3_readPiece_f200 rl rp)) := by
  intro ls st h r e
  obtain ⟨hst, e⟩ := gL_of e
  obtain ⟨t, q0, e⟩ := gT_of e
  rw [st_0 hst]
  exact WK.sub (canon := [some (.inr (2, t + 1))]) rfl ⟨q0, trivial⟩ (X3_readPiece_s200 hrl hrp _ _ _ _ ((X3_readPiece_l200 rl rp t h).trans e))
noncomputable def X3_readPiece_g71 (rl rp : List PV → PH → Option Rs) (t : Nat) (s0 : Int32) (s1 : Nat) (h : PH) : Option Rs := X3_readPiece_f71 rl rp X3_put X3_look t s0 s1 h
noncomputable def X3_readPiece_g48 (rl rp : List PV → PH → Option Rs) (t : Nat) (h : PH) : Option Rs := X3_readPiece_f48 rl rp X3_nameRead X3_numberRead (X3_readPiece_g71 rl rp) t h
noncomputable def X3_readPiece_g200 (rl rp : List PV → PH → Option Rs) (t : Nat) (h : PH) : Option Rs := X3_readPiece_f200 rl rp t h
noncomputable def X3_readPiece_g146 (rl rp : List PV → PH → Option Rs) (t : Nat) (h : PH) : Option Rs := X3_readPiece_f146 rl rp X3_look X3_readClosing (X3_readPiece_g200 rl rp) t h
noncomputable def X3_readPiece_g91 (rl rp : List PV → PH → Option Rs) (t : Nat) (h : PH) : Option Rs := X3_readPiece_f91 rl rp X3_look X3_put (X3_readPiece_g146 rl rp) t h
noncomputable def X3_readPiece_g31 (rl rp : List PV → PH → Option Rs) (t : Nat) (h : PH) : Option Rs := X3_readPiece_f31 rl rp X3_nameRead (X3_readPiece_g48 rl rp) (X3_readPiece_g91 rl rp) t h
noncomputable def X3_readPiece_g0 (rl rp : List PV → PH → Option Rs) (t : Nat) (h : PH) : Option Rs := X3_readPiece_f0 rl rp (X3_readPiece_g31 rl rp) (X3_readPiece_g48 rl rp) t h
theorem X3_readPiece_v71 {dd : Nat} {rl rp : List PV → PH → Option Rs} {z : CZ} (hrl : Gd (xL (X3_readPiece_x dd z)) dd yX3_readLevel cX3_readLevel 5 none rl) (hrp : Gd (xL (X3_readPiece_x dd z)) dd yX3_readPiece cX3_readPiece 1 none rp) : SK (X3_readPiece_x dd z) 71 (X3_readPiece_u71 (X3_readPiece_g71 rl rp)) := X3_readPiece_w71 hrl hrp
theorem X3_readPiece_v48 {dd : Nat} {rl rp : List PV → PH → Option Rs} {z : CZ} (hrl : Gd (xL (X3_readPiece_x dd z)) dd yX3_readLevel cX3_readLevel 5 none rl) (hrp : Gd (xL (X3_readPiece_x dd z)) dd yX3_readPiece cX3_readPiece 1 none rp) : SK (X3_readPiece_x dd z) 48 (X3_readPiece_u48 (X3_readPiece_g48 rl rp)) := X3_readPiece_w48 hrl hrp (X3_readPiece_v71 hrl hrp)
theorem X3_readPiece_v200 {dd : Nat} {rl rp : List PV → PH → Option Rs} {z : CZ} (hrl : Gd (xL (X3_readPiece_x dd z)) dd yX3_readLevel cX3_readLevel 5 none rl) (hrp : Gd (xL (X3_readPiece_x dd z)) dd yX3_readPiece cX3_readPiece 1 none rp) : SK (X3_readPiece_x dd z) 200 (X3_readPiece_u200 (X3_readPiece_g200 rl rp)) := X3_readPiece_w200 hrl hrp
theorem X3_readPiece_v146 {dd : Nat} {rl rp : List PV → PH → Option Rs} {z : CZ} (hrl : Gd (xL (X3_readPiece_x dd z)) dd yX3_readLevel cX3_readLevel 5 none rl) (hrp : Gd (xL (X3_readPiece_x dd z)) dd yX3_readPiece cX3_readPiece 1 none rp) : SK (X3_readPiece_x dd z) 146 (X3_readPiece_u146 (X3_readPiece_g146 rl rp)) := X3_readPiece_w146 hrl hrp (X3_readPiece_v200 hrl hrp)
theorem X3_readPiece_v91 {dd : Nat} {rl rp : List PV → PH → Option Rs} {z : CZ} (hrl : Gd (xL (X3_readPiece_x dd z)) dd yX3_readLevel cX3_readLevel 5 none rl) (hrp : Gd (xL (X3_readPiece_x dd z)) dd yX3_readPiece cX3_readPiece 1 none rp) : SK (X3_readPiece_x dd z) 91 (X3_readPiece_u91 (X3_readPiece_g91 rl rp)) := X3_readPiece_w91 hrl hrp (X3_readPiece_v146 hrl hrp)
theorem X3_readPiece_v31 {dd : Nat} {rl rp : List PV → PH → Option Rs} {z : CZ} (hrl : Gd (xL (X3_readPiece_x dd z)) dd yX3_readLevel cX3_readLevel 5 none rl) (hrp : Gd (xL (X3_readPiece_x dd z)) dd yX3_readPiece cX3_readPiece 1 none rp) : SK (X3_readPiece_x dd z) 31 (X3_readPiece_u31 (X3_readPiece_g31 rl rp)) := X3_readPiece_w31 hrl hrp (X3_readPiece_v48 hrl hrp) (X3_readPiece_v91 hrl hrp)
noncomputable def X3_readPiece (rl rp : List PV → PH → Option Rs) (t : Nat) (h : PH) : Option Rs := X3_readPiece_g0 rl rp t h
noncomputable abbrev X3_readPiece_F (rl rp : List PV → PH → Option Rs) : List PV → PH → Option Rs := FW_T2 (X3_readPiece rl rp)
set_option maxRecDepth 100000 in
theorem X3_readPiece_gd {dd : Nat} {rl rp : List PV → PH → Option Rs} (l : Launch) (hrl : Gd l dd yX3_readLevel cX3_readLevel 5 none rl) (hrp : Gd l dd yX3_readPiece cX3_readPiece 1 none rp) : Gd l (dd + 10) yX3_readPiece cX3_readPiece 1 none (X3_readPiece_F rl rp)   := Gd_of (by decide +kernel) (fun z hzl as h r e => by
  subst hzl
  obtain ⟨hst, e⟩ := gL_of e
  obtain ⟨t, q0, e⟩ := gT_of e
  rw [st_1 hst q0]
  exact ⟨show 1 ≤ 1 by decide, X3_readPiece_s0 hrl hrp (X3_readPiece_v31 hrl hrp) (X3_readPiece_v48 hrl hrp) _ _ _ _ ((X3_readPiece_l0 rl rp (X3_readPiece_g31 rl rp) (X3_readPiece_g48 rl rp) t h).trans e)⟩)
noncomputable def rlN : Nat → (List PV → PH → Option Rs) × (List PV → PH → Option Rs)
  | 0 => (fun _ _ => none, fun _ _ => none)
  | n + 1 => (X3_readLevel_F (rlN n).1 (rlN n).2, X3_readPiece_F (rlN n).1 (rlN n).2)
theorem rlN_gd (l : Launch) : ∀ n, Gd l (10 * n) yX3_readLevel cX3_readLevel 5 none (rlN n).1 ∧ Gd l (10 * n) yX3_readPiece cX3_readPiece 1 none (rlN n).2
  | 0 => ⟨fun _ _ _ _ _ _ _ e => (by cases e), fun _ _ _ _ _ _ _ e => by cases e⟩
  | n + 1 => ⟨X3_readLevel_gd (dd := 10 * n) l (rlN_gd l n).1 (rlN_gd l n).2, X3_readPiece_gd (dd := 10 * n) l (rlN_gd l n).1 (rlN_gd l n).2⟩
noncomputable def rl80 : List PV → PH → Option Rs := (rlN 80).1
theorem rl80_gd (l : Launch) : Gd l 800 yX3_readLevel cX3_readLevel 5 none rl80 := (rlN_gd l 80).1
abbrev X3_readTape_x (z : CZ) : CX := mx RX3 cX3_readTape 1 801 (some .int) "readTape" z
noncomputable def X3_readTape_b0 (k25 : Kn) : Kn := (a_al 0 (a_ic (-1) (a_pI 2 130 (a_al 0 (a_ic 0 (a_pI 2 132 (a_al 0 (a_ic (-1) (a_pI 2 133 (a_al 0 (a_ic 0 (a_pI 2 136 (a_al 0 (a_ic 0 (a_pI 2 137 k25)))))))))))))))
set_option maxRecDepth 100000 in
theorem X3_readTape_s0 {z : CZ} {k25 : Kn} (hk25 : SK (X3_readTape_x z) 25 k25) : SK (X3_readTape_x z) 0 (X3_readTape_b0 k25) := (s_aloadn (pc := 0) dX3_readTape_0 rfl (s_iconst (pc := 1) dX3_readTape_1 c_ic_m1 (s_pI (pc := 2) (f := 2) ko_2 (by decide) rfl rfl rfl (by decide +kernel) w_415 dX3_readTape_2 (s_aloadn (pc := 5) dX3_readTape_5 rfl (s_iconst (pc := 6) dX3_readTape_6 c_ic_0 (s_pI (pc := 7) (f := 4) ko_2 (by decide) rfl rfl rfl (by decide +kernel) w_417 dX3_readTape_7 (s_aloadn (pc := 10) dX3_readTape_10 rfl (s_iconst (pc := 11) dX3_readTape_11 c_ic_m1 (s_pI (pc := 12) (f := 5) ko_2 (by decide) rfl rfl rfl (by decide +kernel) w_418 dX3_readTape_12 (s_aloadn (pc := 15) dX3_readTape_15 rfl (s_iconst (pc := 16) dX3_readTape_16 c_ic_0 (s_pI (pc := 17) (f := 8) ko_2 (by decide) rfl rfl rfl (by decide +kernel) w_421 dX3_readTape_17 (s_aloadn (pc := 20) dX3_readTape_20 rfl (s_iconst (pc := 21) dX3_readTape_21 c_ic_0 (s_pI (pc := 22) (f := 9) ko_2 (by decide) rfl rfl rfl (by decide +kernel) w_422 dX3_readTape_22 hk25)))))))))))))))
noncomputable def X3_readTape_b25 (c_X3_look : Nat → PH → Option Rs) (c_X3_readKey : Nat → PH → Option Rs) (c_rl80 : List PV → PH → Option Rs) (k72 : Kn) : Kn := (a_al 0 (a_ic 0 (a_pI 2 138 (a_al 0 (a_ic 0 (a_pI 2 139 (a_al 0 (a_vV 2 0 (FW_T2 c_X3_look) (a_al 0 (a_vV 2 0 (FW_T2 c_X3_readKey) (a_al 0 (a_ic 0 (a_vV 2 1 c_rl80 (a_al 0 (a_gI 2 133 (a_ic (-1) (a_eq (a_al 0 (a_gI 2 130 (a_ic (-1) (a_eq k72 (a_al 0 (a_al 0 (a_gI 2 131 (a_pI 2 133 k72)))))))) k72)))))))))))))))))
set_option maxRecDepth 100000 in
theorem X3_readTape_s25 {z : CZ} {k72 : Kn} (hk72 : SK (X3_readTape_x z) 72 k72) : SK (X3_readTape_x z) 25 (X3_readTape_b25 X3_look X3_readKey rl80 k72) := (s_aloadn (pc := 25) dX3_readTape_25 rfl (s_iconst (pc := 26) dX3_readTape_26 c_ic_0 (s_pI (pc := 27) (f := 10) ko_2 (by decide) rfl rfl rfl (by decide +kernel) w_423 dX3_readTape_27 (s_aloadn (pc := 30) dX3_readTape_30 rfl (s_iconst (pc := 31) dX3_readTape_31 c_ic_0 (s_pI (pc := 32) (f := 11) ko_2 (by decide) rfl rfl rfl (by decide +kernel) w_424 dX3_readTape_32 (s_aloadn (pc := 35) dX3_readTape_35 rfl (s_vV (pc := 36) (run_virtual (X3_look_gd _) (show 2 < 801 by decide) cy_X3_look (by decide) rfl w_739 w_s1 w_737 dX3_readTape_36) (s_aloadn (pc := 39) dX3_readTape_39 rfl (s_vV (pc := 40) (run_virtual (X3_readKey_gd _) (show 5 < 801 by decide) cy_X3_readKey (by decide) rfl w_755 w_s5 w_753 dX3_readTape_40) (s_aloadn (pc := 43) dX3_readTape_43 rfl (s_iconst (pc := 44) dX3_readTape_44 c_ic_0 (s_vV (pc := 45) (run_virtual (rl80_gd _) (show 800 < 801 by decide) cy_X3_readLevel (by decide) rfl w_814 w_s7 w_812 dX3_readTape_45) (s_aloadn (pc := 48) dX3_readTape_48 rfl (s_gI (pc := 49) (f := 5) ko_2 (by decide) rfl rfl w_418 dX3_readTape_49 (s_iconst (pc := 52) dX3_readTape_52 c_ic_m1 (s_cmpne (pc := 53) dX3_readTape_53 (by decide) hk72 (s_aloadn (pc := 56) dX3_readTape_56 rfl (s_gI (pc := 57) (f := 2) ko_2 (by decide) rfl rfl w_415 dX3_readTape_57 (s_iconst (pc := 60) dX3_readTape_60 c_ic_m1 (s_cmpeq (pc := 61) dX3_readTape_61 (by decide) hk72 (s_aloadn (pc := 64) dX3_readTape_64 rfl (s_aloadn (pc := 65) dX3_readTape_65 rfl (s_gI (pc := 66) (f := 3) ko_2 (by decide) rfl rfl w_416 dX3_readTape_66 (s_pI (pc := 69) (f := 5) ko_2 (by decide) rfl rfl rfl (by decide +kernel) w_418 dX3_readTape_69 hk72)))))))))))))))))))))))))
noncomputable def X3_readTape_b72 : Kn := (a_al 0 (a_ic 0 (a_pI 2 129 (a_al 0 (a_gI 2 133 a_ir)))))
set_option maxRecDepth 100000 in
theorem X3_readTape_s72 {z : CZ} : SK (X3_readTape_x z) 72 (X3_readTape_b72) := (s_aloadn (pc := 72) dX3_readTape_72 rfl (s_iconst (pc := 73) dX3_readTape_73 c_ic_0 (s_pI (pc := 74) (f := 1) ko_2 (by decide) rfl rfl rfl (by decide +kernel) w_413 dX3_readTape_74 (s_aloadn (pc := 77) dX3_readTape_77 rfl (s_gI (pc := 78) (f := 5) ko_2 (by decide) rfl rfl w_418 dX3_readTape_78 (s_ir (pc := 81) rfl dX3_readTape_81))))))
noncomputable def X3_readTape_u25 (g : Nat → PH → Option Rs) : Kn := fun ls st h => gL 0 st (gT 2 ls 0 fun t => g t h)
noncomputable def X3_readTape_u72 (g : Nat → PH → Option Rs) : Kn := fun ls st h => gL 0 st (gT 2 ls 0 fun t => g t h)
noncomputable def X3_readTape_f0 (g25 : Nat → PH → Option Rs) (t : Nat) (h : PH) : Option Rs :=
  wr (pI h 130 t 0 (-1)) fun h1 =>
  wr (pI h1 132 t 0 0) fun h2 =>
  wr (pI h2 133 t 0 (-1)) fun h3 =>
  wr (pI h3 136 t 0 0) fun h4 =>
  wr (pI h4 137 t 0 0) fun h5 =>
  g25 t h5
set_option maxRecDepth 100000 in
theorem X3_readTape_l0 (g25 : Nat → PH → Option Rs) (t : Nat) (h : PH) : X3_readTape_b0 (X3_readTape_u25 g25) [some (.inr (2, t + 1))] [] h = X3_readTape_f0 g25 t h := rfl
theorem X3_readTape_m0 {g25 G25 : Nat → PH → Option Rs} (hg25 : ∀ a0 a1, Mo (g25 a0 a1) (G25 a0 a1)) (t : Nat) (h : PH) : Mo (X3_readTape_f0 g25 t h) (X3_readTape_f0 G25 t h) := (mo_wr fun h1 => (mo_wr fun h2 => (mo_wr fun h3 => (mo_wr fun h4 => (mo_wr fun h5 => (hg25 t h5))))))
noncomputable def X3_readTape_f25 (c_X3_look : Nat → PH → Option Rs) (c_X3_readKey : Nat → PH → Option Rs) (c_rl80 : List PV → PH → Option Rs) (g72 : Nat → PH → Option Rs) (t : Nat) (h : PH) : Option Rs :=
  wr (pI h 138 t 0 0) fun h6 =>
  wr (pI h6 139 t 0 0) fun h7 =>
  cV (c_X3_look t h7) fun h8 =>
  cV (c_X3_readKey t h8) fun h9 =>
  cV (c_rl80 [.inr (2, t + 1), .inl 0] h9) fun h10 =>
  if (hI h10 133 t 0) = (-1) then
    if (hI h10 130 t 0) = (-1) then
      g72 t h10
    else
      wr (pI h10 133 t 0 (hI h10 131 t 0)) fun h11 =>
      g72 t h11
  else
    g72 t h10
set_option maxRecDepth 100000 in
theorem X3_readTape_l25 (c_X3_look : Nat → PH → Option Rs) (c_X3_readKey : Nat → PH → Option Rs) (c_rl80 : List PV → PH → Option Rs) (g72 : Nat → PH → Option Rs) (t : Nat) (h : PH) : X3_readTape_b25 c_X3_look c_X3_readKey c_rl80 (X3_readTape_u72 g72) [some (.inr (2, t + 1))] [] h = X3_readTape_f25 c_X3_look c_X3_readKey c_rl80 g72 t h := rfl
theorem X3_readTape_m25 {c_X3_look : Nat → PH → Option Rs} {c_X3_readKey : Nat → PH → Option Rs} {c_rl80 : List PV → PH → Option Rs} {g72 G72 : Nat → PH → Option Rs} (hg72 : ∀ a0 a1, Mo (g72 a0 a1) (G72 a0 a1)) (t : Nat) (h : PH) : Mo (X3_readTape_f25 c_X3_look c_X3_readKey c_rl80 g72 t h) (X3_readTape_f25 c_X3_look c_X3_readKey c_rl80 G72 t h) := (mo_wr fun h6 => (mo_wr fun h7 => (mo_cV fun h8 => (mo_cV fun h9 => (mo_cV fun h10 => (mo_if (mo_if (hg72 t h10) (mo_wr fun h11 => (hg72 t h11))) (hg72 t h10)))))))
theorem X3_readTape_w25 {z : CZ} {g72 : Nat → PH → Option Rs} (hk72 : SK (X3_readTape_x z) 72 (X3_readTape_u72 g72)) : SK (X3_readTape_x z) 25 (X3_readTape_u25 (X3_readTape_f25 X3_look X3_readKey rl80 g72)) := by
  intro ls st h r e
  obtain ⟨hst, e⟩ := gL_of e
  obtain ⟨t, q0, e⟩ := gT_of e
  rw [st_0 hst]
  exact WK.sub (canon := [some (.inr (2, t + 1))]) rfl ⟨q0, trivial⟩ (X3_readTape_s25 hk72 _ _ _ _ ((X3_readTape_l25 X3_look X3_readKey rl80 g72 t h).trans e))
noncomputable def X3_readTape_f72 (t : Nat) (h : PH) : Option Rs :=
  wr (pI h 129 t 0 0) fun h12 =>
  some (some (.inl (hI h12 133 t 0)), h12)
set_option maxRecDepth 100000 in
theorem X3_readTape_l72 (t : Nat) (h : PH) : X3_readTape_b72 [some (.inr (2, t + 1))] [] h = X3_readTape_f72 t h := rfl
theorem X3_readTape_w72 {z : CZ} : SK (X3_readTape_x z) 72 (X3_readTape_u72 (X3_readTape_f72)) := by
  intro ls st h r e
  obtain ⟨hst, e⟩ := gL_of e
  obtain ⟨t, q0, e⟩ := gT_of e
  rw [st_0 hst]
  exact WK.sub (canon := [some (.inr (2, t + 1))]) rfl ⟨q0, trivial⟩ (X3_readTape_s72 _ _ _ _ ((X3_readTape_l72 t h).trans e))
noncomputable def X3_readTape_g72 (t : Nat) (h : PH) : Option Rs := X3_readTape_f72 t h
noncomputable def X3_readTape_g25 (t : Nat) (h : PH) : Option Rs := X3_readTape_f25 X3_look X3_readKey rl80 (X3_readTape_g72) t h
noncomputable def X3_readTape_g0 (t : Nat) (h : PH) : Option Rs := X3_readTape_f0 (X3_readTape_g25) t h
theorem X3_readTape_v72 {z : CZ} : SK (X3_readTape_x z) 72 (X3_readTape_u72 (X3_readTape_g72)) := X3_readTape_w72
theorem X3_readTape_v25 {z : CZ} : SK (X3_readTape_x z) 25 (X3_readTape_u25 (X3_readTape_g25)) := X3_readTape_w25 (X3_readTape_v72)
noncomputable def X3_readTape (t : Nat) (h : PH) : Option Rs := X3_readTape_g0 t h
noncomputable abbrev X3_readTape_F : List PV → PH → Option Rs := FW_T2 (X3_readTape)
set_option maxRecDepth 100000 in
theorem X3_readTape_gd (l : Launch) : Gd l 801 yX3_readTape cX3_readTape 1 (some .int) (X3_readTape_F)   := Gd_of (by decide +kernel) (fun z hzl as h r e => by
  obtain ⟨hst, e⟩ := gL_of e
  obtain ⟨t, q0, e⟩ := gT_of e
  rw [st_1 hst q0]
  exact ⟨show 1 ≤ 1 by decide, X3_readTape_s0 (X3_readTape_v25) _ _ _ _ ((X3_readTape_l0 (X3_readTape_g25) t h).trans e)⟩)
abbrev J7_copyOf_59c91_23_x (z : CZ) : CX := mx RJ7 cJ7_copyOf_59c91 3 0 (some (.array .int)) "copyOf" z
noncomputable def J7_copyOf_59c91_23_b0 : Kn := (a_il 1 (a_al 0 (a_len 23 (a_eq a_bad (a_il 1 (a_nwa 29 (a_as 2 (a_al 0 (a_ic 0 (a_al 2 (a_ic 0 (a_al 0 (a_len 23 (a_il 1 (a_min (a_cp 23 1472 29 1856 (a_al 2 a_ar)))))))))))))))))
set_option maxRecDepth 100000 in
theorem J7_copyOf_59c91_23_s0 {z : CZ} : SK (J7_copyOf_59c91_23_x z) 0 (J7_copyOf_59c91_23_b0) := (s_iloadn (pc := 0) dJ7_copyOf_59c91_0 rfl (s_aloadn (pc := 1) dJ7_copyOf_59c91_1 rfl (s_len (pc := 2) (by decide) (by decide) rfl dJ7_copyOf_59c91_2 (s_cmpne (pc := 3) dJ7_copyOf_59c91_3 (by decide) (s_iloadn (pc := 14) dJ7_copyOf_59c91_14 rfl (s_nwa (pc := 15) (at0 := .int) (by decide) (by decide) rfl rfl rfl (by decide) w_161 dJ7_copyOf_59c91_15 (s_astoren (pc := 17) dJ7_copyOf_59c91_17 rfl (show 2 < 3 by decide) (s_aloadn (pc := 18) dJ7_copyOf_59c91_18 rfl (s_iconst (pc := 19) dJ7_copyOf_59c91_19 c_ic_0 (s_aloadn (pc := 20) dJ7_copyOf_59c91_20 rfl (s_iconst (pc := 21) dJ7_copyOf_59c91_21 c_ic_0 (s_aloadn (pc := 22) dJ7_copyOf_59c91_22 rfl (s_len (pc := 23) (by decide) (by decide) rfl dJ7_copyOf_59c91_23 (s_iloadn (pc := 24) dJ7_copyOf_59c91_24 rfl (s_min (pc := 25) w_916 w_681 w_92 w_682 dJ7_copyOf_59c91_25 (s_cp (pc := 28) (by decide) (by decide) (by decide) (by decide) rfl rfl rfl rfl rfl rfl w_917 w_919 w_918 w_98 dJ7_copyOf_59c91_28 (s_aloadn (pc := 31) dJ7_copyOf_59c91_31 rfl (s_ar (pc := 32) (Or.inr ⟨_, rfl⟩) dJ7_copyOf_59c91_32)))))))))))))) (s_bad (pc := 6))))))
noncomputable def J7_copyOf_59c91_23_f0 (x0 : Nat) (x1 : Int32) (h : PH) : Option Rs :=
  nn x0 fun r1 =>
  if x1 = (Int32.ofNat (hL h 23 r1)) then
    none
  else
    nl x1 fun n2 =>
    wr (nw h 29 n2 n2) fun h3 =>
    nn x0 fun r4 =>
    nn x0 fun r5 =>
    nn (hN h 29 + 1) fun r6 =>
    cpk (hL h3 23 r5) (hL h3 29 r6) 0 0 (if x1 < (Int32.ofNat (hL h3 23 r4)) then x1 else Int32.ofNat (hL h3 23 r4)) <|
    wr (pCp h3 1472 r5 (0 : Int32).toNatClampNeg 1856 r6 (0 : Int32).toNatClampNeg (if x1 < (Int32.ofNat (hL h3 23 r4)) then x1 else Int32.ofNat (hL h3 23 r4) : Int32).toNatClampNeg) fun h7 =>
    some (some (.inr (29, hN h 29 + 1)), h7)
set_option maxRecDepth 100000 in
theorem J7_copyOf_59c91_23_l0 (x0 : Nat) (x1 : Int32) (h : PH) : J7_copyOf_59c91_23_b0 [some (.inr (23, x0)), some (.inl x1), none] [] h = J7_copyOf_59c91_23_f0 x0 x1 h := rfl
noncomputable def J7_copyOf_59c91_23_g0 (x0 : Nat) (x1 : Int32) (h : PH) : Option Rs := J7_copyOf_59c91_23_f0 x0 x1 h
noncomputable def J7_copyOf_59c91_23 (x0 : Nat) (x1 : Int32) (h : PH) : Option Rs := J7_copyOf_59c91_23_g0 x0 x1 h
noncomputable abbrev J7_copyOf_59c91_23_F : List PV → PH → Option Rs := FW_R23I (J7_copyOf_59c91_23)
set_option maxRecDepth 100000 in
theorem J7_copyOf_59c91_23_gd (l : Launch) : Gd l 0 yJ7_copyOf_59c91 cJ7_copyOf_59c91 3 (some (.array .int)) (J7_copyOf_59c91_23_F)   := Gd_of (by decide +kernel) (fun z hzl as h r e => by
  obtain ⟨hst, e⟩ := gL_of e
  obtain ⟨x0, q0, e⟩ := gR_of e
  obtain ⟨x1, q1, e⟩ := gI_of e
  rw [st_2 hst q0 q1]
  exact ⟨show 2 ≤ 3 by decide, J7_copyOf_59c91_23_s0 _ _ _ _ ((J7_copyOf_59c91_23_l0 x0 x1 h).trans e)⟩)
abbrev X8_init_x (z : CZ) : CX := mx RX8 cX8_init 4 0 none "<init>" z
noncomputable def X8_init_b0 : Kn := (a_al 0 (a_oi (a_al 0 (a_il 1 (a_pI 7 448 (a_al 0 (a_il 2 (a_pI 7 449 (a_al 0 (a_al 3 (a_pR 7 450 29 (a_al 0 (a_il 2 (a_nwa 30 (a_pR 7 451 30 a_vr)))))))))))))))
set_option maxRecDepth 100000 in
theorem X8_init_s0 {z : CZ} : SK (X8_init_x z) 0 (X8_init_b0) := (s_aloadn (pc := 0) dX8_init_0 rfl (s_oi (pc := 1) w_923 w_107 w_108 dX8_init_1 (s_aloadn (pc := 4) dX8_init_4 rfl (s_iloadn (pc := 5) dX8_init_5 rfl (s_pIF (pc := 6) (f := 0) ko_7 (by decide) rfl rfl rfl rfl rfl (by decide +kernel) w_924 dX8_init_6 (s_aloadn (pc := 9) dX8_init_9 rfl (s_iloadn (pc := 10) dX8_init_10 rfl (s_pIF (pc := 11) (f := 1) ko_7 (by decide) rfl rfl rfl rfl rfl (by decide +kernel) w_926 dX8_init_11 (s_aloadn (pc := 14) dX8_init_14 rfl (s_aloadn (pc := 15) dX8_init_15 rfl (s_pRF (pc := 16) (f := 2) ko_7 (by decide) rfl rfl rfl rfl rfl (tyX8_ok 2 (by decide)) rfl w_928 dX8_init_16 (s_aloadn (pc := 19) dX8_init_19 rfl (s_iloadn (pc := 20) dX8_init_20 rfl (s_nwa (pc := 21) (at0 := .int) (by decide) (by decide) rfl rfl rfl (by decide) w_161 dX8_init_21 (s_pRF (pc := 23) (f := 3) ko_7 (by decide) rfl rfl rfl rfl rfl (tyX8_ok 3 (by decide)) rfl w_929 dX8_init_23 (s_vr (pc := 26) rfl dX8_init_26))))))))))))))))
noncomputable def X8_init_f0 (t : Nat) (x1 : Int32) (x2 : Int32) (x3 : Nat) (h : PH) : Option Rs :=
  wr (pI h 448 t 0 x1) fun h1 =>
  wr (pI h1 449 t 0 x2) fun h2 =>
  wr (pR h2 450 t 0 x3) fun h3 =>
  nl x2 fun n4 =>
  wr (nw h3 30 n4 n4) fun h5 =>
  wr (pR h5 451 t 0 (hN h3 30 + 1)) fun h6 =>
  some (none, h6)
set_option maxRecDepth 100000 in
theorem X8_init_l0 (t : Nat) (x1 : Int32) (x2 : Int32) (x3 : Nat) (h : PH) : X8_init_b0 [some (.inr (7, t + 1)), some (.inl x1), some (.inl x2), some (.inr (29, x3))] [] h = X8_init_f0 t x1 x2 x3 h := rfl
noncomputable def X8_init_g0 (t : Nat) (x1 : Int32) (x2 : Int32) (x3 : Nat) (h : PH) : Option Rs := X8_init_f0 t x1 x2 x3 h
noncomputable def X8_init (t : Nat) (x1 : Int32) (x2 : Int32) (x3 : Nat) (h : PH) : Option Rs := X8_init_g0 t x1 x2 x3 h
noncomputable abbrev X8_init_F : List PV → PH → Option Rs := FW_T7IIR29 (X8_init)
set_option maxRecDepth 100000 in
theorem X8_init_gd (l : Launch) : Gd l 0 yX8_init cX8_init 4 none (X8_init_F)   := Gd_of (by decide +kernel) (fun z hzl as h r e => by
  obtain ⟨hst, e⟩ := gL_of e
  obtain ⟨t, q0, e⟩ := gT_of e
  obtain ⟨x1, q1, e⟩ := gI_of e
  obtain ⟨x2, q2, e⟩ := gI_of e
  obtain ⟨x3, q3, e⟩ := gR_of e
  rw [st_4 hst q0 q1 q2 q3]
  exact ⟨show 4 ≤ 4 by decide, X8_init_s0 _ _ _ _ ((X8_init_l0 t x1 x2 x3 h).trans e)⟩)
abbrev X3_makeText_x (z : CZ) : CX := mx RX3 cX3_makeText 1 1 (some (.object "StrangerSigns$Text")) "makeText" z
noncomputable def X3_makeText_b0 (c_J7_copyOf_59c91_23 : Nat → Int32 → PH → Option Rs) (c_X8_init : Nat → Int32 → Int32 → Nat → PH → Option Rs) : Kn := (a_new 7 4 (a_dup (a_al 0 (a_gI 2 134 (a_al 0 (a_gI 2 137 (a_al 0 (a_gR 2 135 23 (a_al 0 (a_gI 2 136 (a_sR 29 2 (FW_R23I c_J7_copyOf_59c91_23) (a_vV 7 3 (FW_T7IIR29 c_X8_init) a_ar))))))))))))
set_option maxRecDepth 100000 in
theorem X3_makeText_s0 {z : CZ} : SK (X3_makeText_x z) 0 (X3_makeText_b0 J7_copyOf_59c91_23 X8_init) := (s_new (pc := 0) ko_7 rfl kd_7 w_904 w_905 w_91 dX3_makeText_0 (s_dup (pc := 3) dX3_makeText_3 (s_aloadn (pc := 4) dX3_makeText_4 rfl (s_gI (pc := 5) (f := 6) ko_2 (by decide) rfl rfl w_419 dX3_makeText_5 (s_aloadn (pc := 8) dX3_makeText_8 rfl (s_gI (pc := 9) (f := 9) ko_2 (by decide) rfl rfl w_422 dX3_makeText_9 (s_aloadn (pc := 12) dX3_makeText_12 rfl (s_gR (pc := 13) (f := 7) ko_2 (by decide) rfl rfl w_420 dX3_makeText_13 (s_aloadn (pc := 16) dX3_makeText_16 rfl (s_gI (pc := 17) (f := 8) ko_2 (by decide) rfl rfl w_421 dX3_makeText_17 (s_sR (pc := 20) (run_static (J7_copyOf_59c91_23_gd _) (show 0 < 1 by decide) cy_J7_copyOf_59c91 w_907 w_906 dX3_makeText_20) (s_vV (pc := 23) (run_init (X8_init_gd _) (show 0 < 1 by decide) cy_X8_init w_921 rfl w_920 dX3_makeText_23) (s_ar (pc := 26) (Or.inl ⟨_, rfl⟩) dX3_makeText_26)))))))))))))
noncomputable def X3_makeText_f0 (c_J7_copyOf_59c91_23 : Nat → Int32 → PH → Option Rs) (c_X8_init : Nat → Int32 → Int32 → Nat → PH → Option Rs) (t : Nat) (h : PH) : Option Rs :=
  wr (nw h 7 0 4) fun h1 =>
  cR 29 (c_J7_copyOf_59c91_23 (hR h1 135 t 0) (hI h1 136 t 0) h1) fun r3 h2 =>
  nn (hN h 7 + 1) fun r4 =>
  cV (c_X8_init r4 (hI h1 134 t 0) (hI h1 137 t 0) r3 h2) fun h5 =>
  some (some (.inr (7, hN h 7 + 1)), h5)
set_option maxRecDepth 100000 in
theorem X3_makeText_l0 (c_J7_copyOf_59c91_23 : Nat → Int32 → PH → Option Rs) (c_X8_init : Nat → Int32 → Int32 → Nat → PH → Option Rs) (t : Nat) (h : PH) : X3_makeText_b0 c_J7_copyOf_59c91_23 c_X8_init [some (.inr (2, t + 1))] [] h = X3_makeText_f0 c_J7_copyOf_59c91_23 c_X8_init t h := rfl
noncomputable def X3_makeText_g0 (t : Nat) (h : PH) : Option Rs := X3_makeText_f0 J7_copyOf_59c91_23 X8_init t h
noncomputable def X3_makeText (t : Nat) (h : PH) : Option Rs := X3_makeText_g0 t h
noncomputable abbrev X3_makeText_F : List PV → PH → Option Rs := FW_T2 (X3_makeText)
set_option maxRecDepth 100000 in
theorem X3_makeText_gd (l : Launch) : Gd l 1 yX3_makeText cX3_makeText 1 (some (.object "StrangerSigns$Text")) (X3_makeText_F)   := Gd_of (by decide +kernel) (fun z hzl as h r e => by
  obtain ⟨hst, e⟩ := gL_of e
  obtain ⟨t, q0, e⟩ := gT_of e
  rw [st_1 hst q0]
  exact ⟨show 1 ≤ 1 by decide, X3_makeText_s0 _ _ _ _ ((X3_makeText_l0 J7_copyOf_59c91_23 X8_init t h).trans e)⟩)
abbrev X11_text_x (z : CZ) : CX := mx RX11 cX11_text 3 802 (some .int) "text" z
noncomputable def X11_text_b0 (c_X3_readTape : Nat → PH → Option Rs) (c_X3_makeText : Nat → PH → Option Rs) : Kn := (a_al 0 (a_gR 10 645 2 (a_vI 2 0 (FW_T2 c_X3_readTape) (a_is 1 (a_il 1 (a_ic (-1) (a_eq (a_al 0 (a_gR 10 640 1 (a_gI 1 76 (a_ic 14 (a_lt (a_al 0 (a_gR 10 645 2 (a_vR 2 7 0 (FW_T2 c_X3_makeText) (a_as 2 (a_al 0 (a_gR 10 640 1 (a_gR 1 69 19 (a_al 0 (a_gR 10 640 1 (a_gI 1 76 (a_al 2 (a_rast 19 1216 7 (a_al 0 (a_gR 10 640 1 (a_gR 1 70 20 (a_al 2 (a_gI 7 448 (a_al 0 (a_gR 10 640 1 (a_gI 1 76 (a_ast 20 1280 (fun a => a) (a_al 0 (a_gR 10 640 1 (a_dup (a_gI 1 76 (a_dupx1 (a_ic 1 (a_b (fun a b => a + b) (a_pI 1 76 a_ir))))))))))))))))))))))))))))) (a_ic (-1000000003) a_ir)))))) (a_ic (-100) (a_il 1 (a_b (fun a b => a - b) a_ir))))))))))
set_option maxRecDepth 100000 in
theorem X11_text_s0 {z : CZ} : SK (X11_text_x z) 0 (X11_text_b0 X3_readTape X3_makeText) := (s_aloadn (pc := 0) dX11_text_0 rfl (s_gR (pc := 1) (f := 5) ko_10 (by decide) rfl rfl w_509 dX11_text_1 (s_vI (pc := 4) (run_virtual (X3_readTape_gd _) (show 801 < 802 by decide) cy_X3_readTape (by decide) rfl w_734 w_735 w_733 dX11_text_4) (s_istoren (pc := 7) dX11_text_7 rfl (show 1 < 3 by decide) (s_iloadn (pc := 8) dX11_text_8 rfl (s_iconst (pc := 9) dX11_text_9 c_ic_m1 (s_cmpeq (pc := 10) dX11_text_10 (by decide) (s_aloadn (pc := 18) dX11_text_18 rfl (s_gR (pc := 19) (f := 0) ko_10 (by decide) rfl rfl w_504 dX11_text_19 (s_gI (pc := 22) (f := 12) ko_1 (by decide) rfl rfl w_257 dX11_text_22 (s_bipush (pc := 25) dX11_text_25 c_bp_14 (s_cmplt (pc := 27) dX11_text_27 (by decide) (s_aloadn (pc := 33) dX11_text_33 rfl (s_gR (pc := 34) (f := 5) ko_10 (by decide) rfl rfl w_509 dX11_text_34 (s_vR (pc := 37) (run_virtual (X3_makeText_gd _) (show 1 < 802 by decide) cy_X3_makeText (by decide) rfl w_901 w_902 w_900 dX11_text_37) (s_astoren (pc := 40) dX11_text_40 rfl (show 2 < 3 by decide) (s_aloadn (pc := 41) dX11_text_41 rfl (s_gR (pc := 42) (f := 0) ko_10 (by decide) rfl rfl w_504 dX11_text_42 (s_gR (pc := 45) (f := 5) ko_1 (by decide) rfl rfl w_235 dX11_text_45 (s_aloadn (pc := 48) dX11_text_48 rfl (s_gR (pc := 49) (f := 0) ko_10 (by decide) rfl rfl w_504 dX11_text_49 (s_gI (pc := 52) (f := 12) ko_1 (by decide) rfl rfl w_257 dX11_text_52 (s_aloadn (pc := 55) dX11_text_55 rfl (s_rast (pc := 56) (by decide) (by decide) rfl (by decide) rfl rfl rfl dX11_text_56 (s_aloadn (pc := 57) dX11_text_57 rfl (s_gR (pc := 58) (f := 0) ko_10 (by decide) rfl rfl w_504 dX11_text_58 (s_gR (pc := 61) (f := 6) ko_1 (by decide) rfl rfl w_237 dX11_text_61 (s_aloadn (pc := 64) dX11_text_64 rfl (s_gI (pc := 65) (f := 0) ko_7 (by decide) rfl rfl w_925 dX11_text_65 (s_aloadn (pc := 68) dX11_text_68 rfl (s_gR (pc := 69) (f := 0) ko_10 (by decide) rfl rfl w_504 dX11_text_69 (s_gI (pc := 72) (f := 12) ko_1 (by decide) rfl rfl w_257 dX11_text_72 (s_iast (pc := 75) (by decide) (by decide) rfl rfl rfl dX11_text_75 (s_aloadn (pc := 76) dX11_text_76 rfl (s_gR (pc := 77) (f := 0) ko_10 (by decide) rfl rfl w_504 dX11_text_77 (s_dup (pc := 80) dX11_text_80 (s_gI (pc := 81) (f := 12) ko_1 (by decide) rfl rfl w_257 dX11_text_81 (s_dupx1 (pc := 84) dX11_text_84 (s_iconst (pc := 85) dX11_text_85 c_ic_1 (s_iadd (pc := 86) dX11_text_86 (s_pI (pc := 87) (f := 12) ko_1 (by decide) rfl rfl rfl (by decide +kernel) w_257 dX11_text_87 (s_ir (pc := 90) rfl dX11_text_90)))))))))))))))))))))))))))))) (s_ldc (pc := 30) w_539 dX11_text_30 (s_ir (pc := 32) rfl dX11_text_32))))))) (s_bipush (pc := 13) dX11_text_13 c_bp_m100 (s_iloadn (pc := 15) dX11_text_15 rfl (s_isub (pc := 16) dX11_text_16 (s_ir (pc := 17) rfl dX11_text_17)))))))))))
noncomputable def X11_text_f0 (c_X3_readTape : Nat → PH → Option Rs) (c_X3_makeText : Nat → PH → Option Rs) (t : Nat) (h : PH) : Option Rs :=
  nn (hR h 645 t 0) fun r1 =>
  cI (c_X3_readTape r1 h) fun v3 h2 =>
  if v3 = (-1) then
    nn (hR h2 640 t 0) fun r4 =>
    if (hI h2 76 r4 0) < 14 then
      nn (hR h2 645 t 0) fun r5 =>
      cR 7 (c_X3_makeText r5 h2) fun r7 h6 =>
      nn (hR h6 640 t 0) fun r8 =>
      nn (hR h6 640 t 0) fun r9 =>
      nn (hR h6 69 r8 0) fun r10 =>
      ix (hI h6 76 r9 0) (hL h6 19 r10) fun j11 =>
      wr (pR h6 1216 r10 j11 r7) fun h12 =>
      nn (hR h12 640 t 0) fun r13 =>
      nn r7 fun r14 =>
      nn (hR h12 640 t 0) fun r15 =>
      nn (hR h12 70 r13 0) fun r16 =>
      ix (hI h12 448 r14 0) (hL h12 20 r16) fun j17 =>
      wr (pI h12 1280 r16 j17 (hI h12 76 r15 0)) fun h18 =>
      nn (hR h18 640 t 0) fun r19 =>
      nn (hR h18 640 t 0) fun r20 =>
      wr (pI h18 76 r20 0 ((hI h18 76 r19 0) + 1)) fun h21 =>
      some (some (.inl (hI h18 76 r19 0)), h21)
    else
      some (some (.inl (-1000000003)), h2)
  else
    some (some (.inl ((-100) - v3)), h2)
set_option maxRecDepth 100000 in
theorem X11_text_l0 (c_X3_readTape : Nat → PH → Option Rs) (c_X3_makeText : Nat → PH → Option Rs) (t : Nat) (h : PH) : X11_text_b0 c_X3_readTape c_X3_makeText [some (.inr (10, t + 1)), none, none] [] h = X11_text_f0 c_X3_readTape c_X3_makeText t h := rfl
noncomputable def X11_text_g0 (t : Nat) (h : PH) : Option Rs := X11_text_f0 X3_readTape X3_makeText t h
noncomputable def X11_text (t : Nat) (h : PH) : Option Rs := X11_text_g0 t h
noncomputable abbrev X11_text_F : List PV → PH → Option Rs := FW_T10 (X11_text)
set_option maxRecDepth 100000 in
theorem X11_text_gd (l : Launch) : Gd l 802 yX11_text cX11_text 3 (some .int) (X11_text_F)   := Gd_of (by decide +kernel) (fun z hzl as h r e => by
  obtain ⟨hst, e⟩ := gL_of e
  obtain ⟨t, q0, e⟩ := gT_of e
  rw [st_1 hst q0]
  exact ⟨show 1 ≤ 3 by decide, X11_text_s0 _ _ _ _ ((X11_text_l0 X3_readTape X3_makeText t h).trans e)⟩)
abbrev X11_textTold_x (z : CZ) : CX := mx RX11 cX11_textTold 4 1 (some .int) "textTold" z
noncomputable def X11_textTold_b0 (c_X11_isWithin : Int32 → Int32 → PH → Option Rs) : Kn := (a_il 1 (a_al 0 (a_gR 10 640 1 (a_gI 1 76 (a_sI 2 (FW_II c_X11_isWithin) (a_z (a_ic (-1000000001) a_ir) (a_il 2 (a_ic 2 (a_sI 2 (FW_II c_X11_isWithin) (a_z (a_ic (-1000000001) a_ir) (a_al 0 (a_gR 10 640 1 (a_gR 1 69 19 (a_il 1 (a_rald 19 1216 7 (a_as 3 (a_al 3 (a_nu (a_ic (-1000000001) a_ir) (a_il 2 (a_z (a_al 3 (a_gI 7 448 a_ir)) (a_al 3 (a_gI 7 449 a_ir))))))))))))))))))))))
set_option maxRecDepth 100000 in
theorem X11_textTold_s0 {z : CZ} : SK (X11_textTold_x z) 0 (X11_textTold_b0 X11_isWithin) := (s_iloadn (pc := 0) dX11_textTold_0 rfl (s_aloadn (pc := 1) dX11_textTold_1 rfl (s_gR (pc := 2) (f := 0) ko_10 (by decide) rfl rfl w_504 dX11_textTold_2 (s_gI (pc := 5) (f := 12) ko_1 (by decide) rfl rfl w_257 dX11_textTold_5 (s_sI (pc := 8) (run_static (X11_isWithin_gd _) (show 0 < 1 by decide) cy_X11_isWithin w_549 w_552 dX11_textTold_8) (s_ifeq (pc := 11) dX11_textTold_11 (by decide) (s_ldc (pc := 22) w_551 dX11_textTold_22 (s_ir (pc := 24) rfl dX11_textTold_24)) (s_iloadn (pc := 14) dX11_textTold_14 rfl (s_iconst (pc := 15) dX11_textTold_15 c_ic_2 (s_sI (pc := 16) (run_static (X11_isWithin_gd _) (show 0 < 1 by decide) cy_X11_isWithin w_549 w_552 dX11_textTold_16) (s_ifne (pc := 19) dX11_textTold_19 (by decide) (s_aloadn (pc := 25) dX11_textTold_25 rfl (s_gR (pc := 26) (f := 0) ko_10 (by decide) rfl rfl w_504 dX11_textTold_26 (s_gR (pc := 29) (f := 5) ko_1 (by decide) rfl rfl w_235 dX11_textTold_29 (s_iloadn (pc := 32) dX11_textTold_32 rfl (s_rald (pc := 33) (by decide) (by decide) rfl rfl rfl dX11_textTold_33 (s_astoren (pc := 34) dX11_textTold_34 rfl (show 3 < 4 by decide) (s_aloadn (pc := 35) dX11_textTold_35 rfl (s_ifnn (pc := 36) dX11_textTold_36 (by decide) (s_iloadn (pc := 42) dX11_textTold_42 rfl (s_ifne (pc := 43) dX11_textTold_43 (by decide) (s_aloadn (pc := 53) dX11_textTold_53 rfl (s_gI (pc := 54) (f := 1) ko_7 (by decide) rfl rfl w_927 dX11_textTold_54 (s_ir (pc := 57) rfl dX11_textTold_57))) (s_aloadn (pc := 46) dX11_textTold_46 rfl (s_gI (pc := 47) (f := 0) ko_7 (by decide) rfl rfl w_925 dX11_textTold_47 (s_goto (pc := 50) dX11_textTold_50 (by decide) (s_ir (pc := 57) rfl dX11_textTold_57)))))) (s_ldc (pc := 39) w_551 dX11_textTold_39 (s_ir (pc := 41) rfl dX11_textTold_41)))))))))) (s_ldc (pc := 22) w_551 dX11_textTold_22 (s_ir (pc := 24) rfl dX11_textTold_24))))))))))))
noncomputable def X11_textTold_f0 (c_X11_isWithin : Int32 → Int32 → PH → Option Rs) (t : Nat) (x1 : Int32) (x2 : Int32) (h : PH) : Option Rs :=
  nn (hR h 640 t 0) fun r1 =>
  cI (c_X11_isWithin x1 (hI h 76 r1 0) h) fun v3 h2 =>
  if v3 = 0 then
    some (some (.inl (-1000000001)), h2)
  else
    cI (c_X11_isWithin x2 2 h2) fun v5 h4 =>
    if v5 = 0 then
      some (some (.inl (-1000000001)), h4)
    else
      nn (hR h4 640 t 0) fun r6 =>
      nn (hR h4 69 r6 0) fun r7 =>
      ix x1 (hL h4 19 r7) fun j8 =>
      if (hR h4 1216 r7 j8) = 0 then
        some (some (.inl (-1000000001)), h4)
      else
        if x2 = 0 then
          nn (hR h4 1216 r7 j8) fun r10 =>
          some (some (.inl (hI h4 448 r10 0)), h4)
        else
          nn (hR h4 1216 r7 j8) fun r9 =>
          some (some (.inl (hI h4 449 r9 0)), h4)
set_option maxRecDepth 100000 in
theorem X11_textTold_l0 (c_X11_isWithin : Int32 → Int32 → PH → Option Rs) (t : Nat) (x1 : Int32) (x2 : Int32) (h : PH) : X11_textTold_b0 c_X11_isWithin [some (.inr (10, t + 1)), some (.inl x1), some (.inl x2), none] [] h = X11_textTold_f0 c_X11_isWithin t x1 x2 h := rfl
noncomputable def X11_textTold_g0 (t : Nat) (x1 : Int32) (x2 : Int32) (h : PH) : Option Rs := X11_textTold_f0 X11_isWithin t x1 x2 h
noncomputable def X11_textTold (t : Nat) (x1 : Int32) (x2 : Int32) (h : PH) : Option Rs := X11_textTold_g0 t x1 x2 h
noncomputable abbrev X11_textTold_F : List PV → PH → Option Rs := FW_T10II (X11_textTold)
set_option maxRecDepth 100000 in
theorem X11_textTold_gd (l : Launch) : Gd l 1 yX11_textTold cX11_textTold 4 (some .int) (X11_textTold_F)   := Gd_of (by decide +kernel) (fun z hzl as h r e => by
  obtain ⟨hst, e⟩ := gL_of e
  obtain ⟨t, q0, e⟩ := gT_of e
  obtain ⟨x1, q1, e⟩ := gI_of e
  obtain ⟨x2, q2, e⟩ := gI_of e
  rw [st_3 hst q0 q1 q2]
  exact ⟨show 3 ≤ 4 by decide, X11_textTold_s0 _ _ _ _ ((X11_textTold_l0 X11_isWithin t x1 x2 h).trans e)⟩)
abbrev X11_why_x (z : CZ) : CX := mx RX11 cX11_why 2 1 (some .int) "why" z
noncomputable def X11_why_b0 (c_X11_isWithin : Int32 → Int32 → PH → Option Rs) (c_X11_orNone : Int32 → PH → Option Rs) : Kn := (a_il 1 (a_ic 3 (a_sI 2 (FW_II c_X11_isWithin) (a_z (a_ic (-1000000001) a_ir) (a_al 0 (a_gR 10 640 1 (a_gR 1 70 20 (a_il 1 (a_ald 20 1280 (a_sI 1 (FW_I c_X11_orNone) a_ir))))))))))
set_option maxRecDepth 100000 in
theorem X11_why_s0 {z : CZ} : SK (X11_why_x z) 0 (X11_why_b0 X11_isWithin X11_orNone) := (s_iloadn (pc := 0) dX11_why_0 rfl (s_iconst (pc := 1) dX11_why_1 c_ic_3 (s_sI (pc := 2) (run_static (X11_isWithin_gd _) (show 0 < 1 by decide) cy_X11_isWithin w_549 w_552 dX11_why_2) (s_ifeq (pc := 5) dX11_why_5 (by decide) (s_ldc (pc := 23) w_551 dX11_why_23 (s_ir (pc := 25) rfl dX11_why_25)) (s_aloadn (pc := 8) dX11_why_8 rfl (s_gR (pc := 9) (f := 0) ko_10 (by decide) rfl rfl w_504 dX11_why_9 (s_gR (pc := 12) (f := 6) ko_1 (by decide) rfl rfl w_237 dX11_why_12 (s_iloadn (pc := 15) dX11_why_15 rfl (s_iald (pc := 16) (by decide) (by decide) rfl rfl rfl dX11_why_16 (s_sI (pc := 17) (run_static (X11_orNone_gd _) (show 0 < 1 by decide) cy_X11_orNone w_609 w_608 dX11_why_17) (s_goto (pc := 20) dX11_why_20 (by decide) (s_ir (pc := 25) rfl dX11_why_25))))))))))))
noncomputable def X11_why_f0 (c_X11_isWithin : Int32 → Int32 → PH → Option Rs) (c_X11_orNone : Int32 → PH → Option Rs) (t : Nat) (x1 : Int32) (h : PH) : Option Rs :=
  cI (c_X11_isWithin x1 3 h) fun v2 h1 =>
  if v2 = 0 then
    some (some (.inl (-1000000001)), h1)
  else
    nn (hR h1 640 t 0) fun r3 =>
    nn (hR h1 70 r3 0) fun r4 =>
    ix x1 (hL h1 20 r4) fun j5 =>
    cI (c_X11_orNone (hI h1 1280 r4 j5) h1) fun v7 h6 =>
    some (some (.inl v7), h6)
set_option maxRecDepth 100000 in
theorem X11_why_l0 (c_X11_isWithin : Int32 → Int32 → PH → Option Rs) (c_X11_orNone : Int32 → PH → Option Rs) (t : Nat) (x1 : Int32) (h : PH) : X11_why_b0 c_X11_isWithin c_X11_orNone [some (.inr (10, t + 1)), some (.inl x1)] [] h = X11_why_f0 c_X11_isWithin c_X11_orNone t x1 h := rfl
noncomputable def X11_why_g0 (t : Nat) (x1 : Int32) (h : PH) : Option Rs := X11_why_f0 X11_isWithin X11_orNone t x1 h
noncomputable def X11_why (t : Nat) (x1 : Int32) (h : PH) : Option Rs := X11_why_g0 t x1 h
noncomputable abbrev X11_why_F : List PV → PH → Option Rs := FW_T10I (X11_why)
set_option maxRecDepth 100000 in
theorem X11_why_gd (l : Launch) : Gd l 1 yX11_why cX11_why 2 (some .int) (X11_why_F)   := Gd_of (by decide +kernel) (fun z hzl as h r e => by
  obtain ⟨hst, e⟩ := gL_of e
  obtain ⟨t, q0, e⟩ := gT_of e
  obtain ⟨x1, q1, e⟩ := gI_of e
  rw [st_2 hst q0 q1]
  exact ⟨show 2 ≤ 2 by decide, X11_why_s0 _ _ _ _ ((X11_why_l0 X11_isWithin X11_orNone t x1 h).trans e)⟩)
abbrev X11_isTrip_x (z : CZ) : CX := mx RX11 cX11_isTrip 4 2 (some .boolean) "isTrip" z
noncomputable def X11_isTrip_b0 (c_X1_hasPlace : Nat → Int32 → PH → Option Rs) (c_X1_hasGoal : Nat → Int32 → PH → Option Rs) (c_X11_isWithin : Int32 → Int32 → PH → Option Rs) : Kn := (a_al 0 (a_gR 10 640 1 (a_il 1 (a_vI 1 1 (FW_T1I c_X1_hasPlace) (a_z (a_ic 0 a_zr) (a_al 0 (a_gR 10 640 1 (a_il 2 (a_vI 1 1 (FW_T1I c_X1_hasGoal) (a_z (a_ic 0 a_zr) (a_il 3 (a_ic 2 (a_sI 2 (FW_II c_X11_isWithin) (a_z (a_ic 0 a_zr) (a_ic 1 a_zr)))))))))))))))
set_option maxRecDepth 100000 in
theorem X11_isTrip_s0 {z : CZ} : SK (X11_isTrip_x z) 0 (X11_isTrip_b0 X1_hasPlace X1_hasGoal X11_isWithin) := (s_aloadn (pc := 0) dX11_isTrip_0 rfl (s_gR (pc := 1) (f := 0) ko_10 (by decide) rfl rfl w_504 dX11_isTrip_1 (s_iloadn (pc := 4) dX11_isTrip_4 rfl (s_vI (pc := 5) (run_virtual (X1_hasPlace_gd _) (show 1 < 2 by decide) cy_X1_hasPlace (by decide) rfl w_545 w_546 w_544 dX11_isTrip_5) (s_ifeq (pc := 8) dX11_isTrip_8 (by decide) (s_iconst (pc := 34) dX11_isTrip_34 c_ic_0 (s_zr (pc := 35) rfl dX11_isTrip_35)) (s_aloadn (pc := 11) dX11_isTrip_11 rfl (s_gR (pc := 12) (f := 0) ko_10 (by decide) rfl rfl w_504 dX11_isTrip_12 (s_iloadn (pc := 15) dX11_isTrip_15 rfl (s_vI (pc := 16) (run_virtual (X1_hasGoal_gd _) (show 1 < 2 by decide) cy_X1_hasGoal (by decide) rfl w_605 w_606 w_604 dX11_isTrip_16) (s_ifeq (pc := 19) dX11_isTrip_19 (by decide) (s_iconst (pc := 34) dX11_isTrip_34 c_ic_0 (s_zr (pc := 35) rfl dX11_isTrip_35)) (s_iloadn (pc := 22) dX11_isTrip_22 rfl (s_iconst (pc := 23) dX11_isTrip_23 c_ic_2 (s_sI (pc := 24) (run_static (X11_isWithin_gd _) (show 0 < 2 by decide) cy_X11_isWithin w_549 w_552 dX11_isTrip_24) (s_ifeq (pc := 27) dX11_isTrip_27 (by decide) (s_iconst (pc := 34) dX11_isTrip_34 c_ic_0 (s_zr (pc := 35) rfl dX11_isTrip_35)) (s_iconst (pc := 30) dX11_isTrip_30 c_ic_1 (s_goto (pc := 31) dX11_isTrip_31 (by decide) (s_zr (pc := 35) rfl dX11_isTrip_35)))))))))))))))))
noncomputable def X11_isTrip_f0 (c_X1_hasPlace : Nat → Int32 → PH → Option Rs) (c_X1_hasGoal : Nat → Int32 → PH → Option Rs) (c_X11_isWithin : Int32 → Int32 → PH → Option Rs) (t : Nat) (x1 : Int32) (x2 : Int32) (x3 : Int32) (h : PH) : Option Rs :=
  nn (hR h 640 t 0) fun r1 =>
  cI (c_X1_hasPlace r1 x1 h) fun v3 h2 =>
  if v3 = 0 then
    bz 0 <|
    some (some (.inl 0), h2)
  else
    nn (hR h2 640 t 0) fun r4 =>
    cI (c_X1_hasGoal r4 x2 h2) fun v6 h5 =>
    if v6 = 0 then
      bz 0 <|
      some (some (.inl 0), h5)
    else
      cI (c_X11_isWithin x3 2 h5) fun v8 h7 =>
      if v8 = 0 then
        bz 0 <|
        some (some (.inl 0), h7)
      else
        bz 1 <|
        some (some (.inl 1), h7)
set_option maxRecDepth 100000 in
theorem X11_isTrip_l0 (c_X1_hasPlace : Nat → Int32 → PH → Option Rs) (c_X1_hasGoal : Nat → Int32 → PH → Option Rs) (c_X11_isWithin : Int32 → Int32 → PH → Option Rs) (t : Nat) (x1 : Int32) (x2 : Int32) (x3 : Int32) (h : PH) : X11_isTrip_b0 c_X1_hasPlace c_X1_hasGoal c_X11_isWithin [some (.inr (10, t + 1)), some (.inl x1), some (.inl x2), some (.inl x3)] [] h = X11_isTrip_f0 c_X1_hasPlace c_X1_hasGoal c_X11_isWithin t x1 x2 x3 h := rfl
noncomputable def X11_isTrip_g0 (t : Nat) (x1 : Int32) (x2 : Int32) (x3 : Int32) (h : PH) : Option Rs := X11_isTrip_f0 X1_hasPlace X1_hasGoal X11_isWithin t x1 x2 x3 h
noncomputable def X11_isTrip (t : Nat) (x1 : Int32) (x2 : Int32) (x3 : Int32) (h : PH) : Option Rs := X11_isTrip_g0 t x1 x2 x3 h
noncomputable abbrev X11_isTrip_F : List PV → PH → Option Rs := FW_T10III (X11_isTrip)
set_option maxRecDepth 100000 in
theorem X11_isTrip_gd (l : Launch) : Gd l 2 yX11_isTrip cX11_isTrip 4 (some .boolean) (X11_isTrip_F)   := Gd_of (by decide +kernel) (fun z hzl as h r e => by
  obtain ⟨hst, e⟩ := gL_of e
  obtain ⟨t, q0, e⟩ := gT_of e
  obtain ⟨x1, q1, e⟩ := gI_of e
  obtain ⟨x2, q2, e⟩ := gI_of e
  obtain ⟨x3, q3, e⟩ := gI_of e
  rw [st_4 hst q0 q1 q2 q3]
  exact ⟨show 4 ≤ 4 by decide, X11_isTrip_s0 _ _ _ _ ((X11_isTrip_l0 X1_hasPlace X1_hasGoal X11_isWithin t x1 x2 x3 h).trans e)⟩)
abbrev X4_survey_x (z : CZ) : CX := mx RX4 cX4_survey 3 3 none "survey" z
noncomputable def X4_survey_b0 (k7 : Kn) : Kn := (a_al 0 (a_al 1 (a_pR 3 193 1 (a_ic 0 (a_is 2 k7)))))
set_option maxRecDepth 100000 in
theorem X4_survey_s0 {z : CZ} {k7 : Kn} (hk7 : SK (X4_survey_x z) 7 k7) : SK (X4_survey_x z) 0 (X4_survey_b0 k7) := (s_aloadn (pc := 0) dX4_survey_0 rfl (s_aloadn (pc := 1) dX4_survey_1 rfl (s_pR (pc := 2) (f := 1) ko_3 (by decide) rfl rfl rfl (tyX4_ok 1 (by decide)) rfl w_313 dX4_survey_2 (s_iconst (pc := 5) dX4_survey_5 c_ic_0 (s_istoren (pc := 6) dX4_survey_6 rfl (show 2 < 3 by decide) hk7)))))
noncomputable def X4_survey_b7 (c_X1_passes : Nat → Nat → Int32 → PH → Option Rs) (k7 : Kn) : Kn := (a_il 2 (a_al 0 (a_gR 3 193 1 (a_gI 1 73 (a_lt (a_al 0 (a_gR 3 194 24 (a_il 2 (a_al 0 (a_gR 3 193 1 (a_al 0 (a_gR 3 193 1 (a_gR 1 64 14 (a_il 2 (a_rald 14 896 9 (a_al 0 (a_gI 3 192 (a_vI 1 2 (FW_T1R9I c_X1_passes) (a_ast 24 1536 (vp_nar .boolean) (a_inc 2 1 k7))))))))))))))) a_vr)))))
set_option maxRecDepth 100000 in
theorem X4_survey_s7 {z : CZ} {k7 : Kn} (hk7 : SK (X4_survey_x z) 7 k7) : SK (X4_survey_x z) 7 (X4_survey_b7 X1_passes k7) := (s_iloadn (pc := 7) dX4_survey_7 rfl (s_aloadn (pc := 8) dX4_survey_8 rfl (s_gR (pc := 9) (f := 1) ko_3 (by decide) rfl rfl w_313 dX4_survey_9 (s_gI (pc := 12) (f := 9) ko_1 (by decide) rfl rfl w_245 dX4_survey_12 (s_cmpge (pc := 15) dX4_survey_15 (by decide) (s_vr (pc := 50) rfl dX4_survey_50) (s_aloadn (pc := 18) dX4_survey_18 rfl (s_gR (pc := 19) (f := 2) ko_3 (by decide) rfl rfl w_315 dX4_survey_19 (s_iloadn (pc := 22) dX4_survey_22 rfl (s_aloadn (pc := 23) dX4_survey_23 rfl (s_gR (pc := 24) (f := 1) ko_3 (by decide) rfl rfl w_313 dX4_survey_24 (s_aloadn (pc := 27) dX4_survey_27 rfl (s_gR (pc := 28) (f := 1) ko_3 (by decide) rfl rfl w_313 dX4_survey_28 (s_gR (pc := 31) (f := 0) ko_1 (by decide) rfl rfl w_214 dX4_survey_31 (s_iloadn (pc := 34) dX4_survey_34 rfl (s_rald (pc := 35) (by decide) (by decide) rfl rfl rfl dX4_survey_35 (s_aloadn (pc := 36) dX4_survey_36 rfl (s_gI (pc := 37) (f := 0) ko_3 (by decide) rfl rfl w_311 dX4_survey_37 (s_vI (pc := 40) (run_virtual (X1_passes_gd _) (show 2 < 3 by decide) cy_X1_passes (by decide) rfl w_577 w_578 w_967 dX4_survey_40) (s_zast (pc := 43) (by decide) (by decide) rfl rfl rfl dX4_survey_43 (s_iinc (pc := 44) dX4_survey_44 c_ic_1 (show 2 < 3 by decide) (s_goto (pc := 47) dX4_survey_47 (by decide) hk7)))))))))))))))))))))
noncomputable def X4_survey_u7 (g : Nat → Int32 → PH → Option Rs) : Kn := fun ls st h => gL 0 st (gT 3 ls 0 fun t => gI ls 2 fun x2 => g t x2 h)
noncomputable def X4_survey_f0 (g7 : Nat → Int32 → PH → Option Rs) (t : Nat) (x1 : Nat) (h : PH) : Option Rs :=
  wr (pR h 193 t 0 x1) fun h1 =>
  g7 t 0 h1
set_option maxRecDepth 100000 in
theorem X4_survey_l0 (g7 : Nat → Int32 → PH → Option Rs) (t : Nat) (x1 : Nat) (h : PH) : X4_survey_b0 (X4_survey_u7 g7) [some (.inr (3, t + 1)), some (.inr (1, x1)), none] [] h = X4_survey_f0 g7 t x1 h := rfl
theorem X4_survey_m0 {g7 G7 : Nat → Int32 → PH → Option Rs} (hg7 : ∀ a0 a1 a2, Mo (g7 a0 a1 a2) (G7 a0 a1 a2)) (t : Nat) (x1 : Nat) (h : PH) : Mo (X4_survey_f0 g7 t x1 h) (X4_survey_f0 G7 t x1 h) := (mo_wr fun h1 => (hg7 t 0 h1))
noncomputable def X4_survey_f7 (c_X1_passes : Nat → Nat → Int32 → PH → Option Rs) (g7 : Nat → Int32 → PH → Option Rs) (t : Nat) (x2 : Int32) (h : PH) : Option Rs :=
  nn (hR h 193 t 0) fun r2 =>
  if x2 < (hI h 73 r2 0) then
    nn (hR h 193 t 0) fun r3 =>
    nn (hR h 64 r3 0) fun r4 =>
    ix x2 (hL h 14 r4) fun j5 =>
    nn (hR h 193 t 0) fun r6 =>
    cI (c_X1_passes r6 (hR h 896 r4 j5) (hI h 192 t 0) h) fun v8 h7 =>
    nn (hR h 194 t 0) fun r9 =>
    ix x2 (hL h7 24 r9) fun j10 =>
    wr (pI h7 1536 r9 j10 (vp_nar .boolean v8)) fun h11 =>
    g7 t (x2 + 1) h11
  else
    some (none, h)
set_option maxRecDepth 100000 in
theorem X4_survey_l7 (c_X1_passes : Nat → Nat → Int32 → PH → Option Rs) (g7 : Nat → Int32 → PH → Option Rs) (t : Nat) (x2 : Int32) (h : PH) : X4_survey_b7 c_X1_passes (X4_survey_u7 g7) [some (.inr (3, t + 1)), none, some (.inl x2)] [] h = X4_survey_f7 c_X1_passes g7 t x2 h := rfl
theorem X4_survey_m7 {c_X1_passes : Nat → Nat → Int32 → PH → Option Rs} {g7 G7 : Nat → Int32 → PH → Option Rs} (hg7 : ∀ a0 a1 a2, Mo (g7 a0 a1 a2) (G7 a0 a1 a2)) (t : Nat) (x2 : Int32) (h : PH) : Mo (X4_survey_f7 c_X1_passes g7 t x2 h) (X4_survey_f7 c_X1_passes G7 t x2 h) := (mo_nn fun r2 => (mo_if (mo_nn fun r3 => (mo_nn fun r4 => (mo_ix fun j5 => (mo_nn fun r6 => (mo_cI fun v8 h7 => (mo_nn fun r9 => (mo_ix fun j10 => (mo_wr fun h11 => (hg7 t (x2 + 1) h11))))))))) mo_rf))
theorem X4_survey_w7 {z : CZ} {g7 : Nat → Int32 → PH → Option Rs} (hk7 : SK (X4_survey_x z) 7 (X4_survey_u7 g7)) : SK (X4_survey_x z) 7 (X4_survey_u7 (X4_survey_f7 X1_passes g7)) := by
  intro ls st h r e
  obtain ⟨hst, e⟩ := gL_of e
  obtain ⟨t, q0, e⟩ := gT_of e
  obtain ⟨x2, q1, e⟩ := gI_of e
  rw [st_0 hst]
  exact WK.sub (canon := [some (.inr (3, t + 1)), none, some (.inl x2)]) rfl ⟨q0, q1, trivial⟩ (X4_survey_s7 hk7 _ _ _ _ ((X4_survey_l7 X1_passes g7 t x2 h).trans e))
noncomputable def X4_survey_g0 (G : (Nat → Int32 → PH → Option Rs)) (t : Nat) (x1 : Nat) (h : PH) : Option Rs := X4_survey_f0 (G) t x1 h
noncomputable def X4_survey_g7 (G : (Nat → Int32 → PH → Option Rs)) (t : Nat) (x2 : Int32) (h : PH) : Option Rs := X4_survey_f7 X1_passes (G) t x2 h
theorem X4_survey_v7 {z : CZ} {G : (Nat → Int32 → PH → Option Rs)} (hG7 : SK (X4_survey_x z) 7 (X4_survey_u7 (G))) : SK (X4_survey_x z) 7 (X4_survey_u7 (X4_survey_g7 G)) := X4_survey_w7 hG7
noncomputable def X4_survey_fam : Nat → (Nat → Int32 → PH → Option Rs)
  | 0 => fun _ _ _ => none
  | n + 1 => X4_survey_g7 (X4_survey_fam n)
theorem X4_survey_k {z : CZ} : ∀ n, SK (X4_survey_x z) 7 (X4_survey_u7 (X4_survey_fam n))
  | 0 => (fun ls st h r e => by
      obtain ⟨_, e⟩ := gL_of e
      obtain ⟨_, _, e⟩ := gT_of e
      obtain ⟨_, _, e⟩ := gI_of e
      cases e)
  | n + 1 => by
    obtain ih7 := X4_survey_k n
    exact X4_survey_v7 ih7
theorem X4_survey_n0 {G G' : (Nat → Int32 → PH → Option Rs)} (hg7 : ∀ a0 a1 a2, Mo ((G) a0 a1 a2) ((G') a0 a1 a2)) (t : Nat) (x1 : Nat) (h : PH) : Mo (X4_survey_g0 G t x1 h) (X4_survey_g0 G' t x1 h) := X4_survey_m0 hg7 t x1 h
theorem X4_survey_n7 {G G' : (Nat → Int32 → PH → Option Rs)} (hg7 : ∀ a0 a1 a2, Mo ((G) a0 a1 a2) ((G') a0 a1 a2)) (t : Nat) (x2 : Int32) (h : PH) : Mo (X4_survey_g7 G t x2 h) (X4_survey_g7 G' t x2 h) := X4_survey_m7 hg7 t x2 h
theorem X4_survey_fm : ∀ n, (∀ a0 a1 a2, Mo ((X4_survey_fam n) a0 a1 a2) ((X4_survey_fam (n + 1)) a0 a1 a2))
  | 0 => fun _ _ _ => mo_no
  | n + 1 => by
    obtain ih7 := X4_survey_fm n
    exact fun a0 a1 a2 => X4_survey_n7 ih7 a0 a1 a2
noncomputable def X4_survey (t : Nat) (x1 : Nat) (h : PH) : Option Rs := lim (fun n => X4_survey_g0 (X4_survey_fam n) t x1 h)
theorem X4_survey_iff {t : Nat} {x1 : Nat} {h : PH} {r : Rs} : X4_survey t x1 h = some r ↔ ∃ n, X4_survey_g0 (X4_survey_fam n) t x1 h = some r := lim_iff (fun n => by
  obtain ih7 := X4_survey_fm n
  exact X4_survey_n0 ih7 t x1 h)
noncomputable abbrev X4_survey_F : List PV → PH → Option Rs := FW_T3R1 (X4_survey)
set_option maxRecDepth 100000 in
theorem X4_survey_gd (l : Launch) : Gd l 3 yX4_survey cX4_survey 3 none (X4_survey_F)   := Gd_of (by decide +kernel) (fun z hzl as h r e => by
  obtain ⟨hst, e⟩ := gL_of e
  obtain ⟨t, q0, e⟩ := gT_of e
  obtain ⟨x1, q1, e⟩ := gR_of e
  rw [st_2 hst q0 q1]
  obtain ⟨n, e⟩ := lim_of e
  obtain hG7 := X4_survey_k (z := z) n
  exact ⟨show 2 ≤ 3 by decide, X4_survey_s0 hG7 _ _ _ _ ((X4_survey_l0 (X4_survey_fam n) t x1 h).trans e)⟩)
abbrev X9_enter_x (z : CZ) : CX := mx RX9 cX9_enter 5 32 none "enter" z
noncomputable def X9_enter_b0 (c_X4_survey : Nat → Nat → PH → Option Rs) (k21 : Kn) : Kn := (a_al 0 (a_al 1 (a_pR 8 513 1 (a_al 0 (a_gR 8 512 3 (a_al 1 (a_vV 3 1 (FW_T3R1 c_X4_survey) (a_al 0 (a_ic 0 (a_pI 8 515 (a_ic 6 (a_is 2 k21))))))))))))
set_option maxRecDepth 100000 in
theorem X9_enter_s0 {z : CZ} {k21 : Kn} (hk21 : SK (X9_enter_x z) 21 k21) : SK (X9_enter_x z) 0 (X9_enter_b0 X4_survey k21) := (s_aloadn (pc := 0) dX9_enter_0 rfl (s_aloadn (pc := 1) dX9_enter_1 rfl (s_pR (pc := 2) (f := 1) ko_8 (by decide) rfl rfl rfl (tyX9_ok 1 (by decide)) rfl w_333 dX9_enter_2 (s_aloadn (pc := 5) dX9_enter_5 rfl (s_gR (pc := 6) (f := 0) ko_8 (by decide) rfl rfl w_331 dX9_enter_6 (s_aloadn (pc := 9) dX9_enter_9 rfl (s_vV (pc := 10) (run_virtual (X4_survey_gd _) (show 3 < 32 by decide) cy_X4_survey (by decide) rfl w_964 w_965 w_963 dX9_enter_10) (s_aloadn (pc := 13) dX9_enter_13 rfl (s_iconst (pc := 14) dX9_enter_14 c_ic_0 (s_pI (pc := 15) (f := 3) ko_8 (by decide) rfl rfl rfl (by decide +kernel) w_335 dX9_enter_15 (s_bipush (pc := 18) dX9_enter_18 c_bp_6 (s_istoren (pc := 20) dX9_enter_20 rfl (show 2 < 5 by decide) hk21))))))))))))
noncomputable def X9_enter_b21 (k27 : Kn) : Kn := (a_il 2 (a_p (a_ic 0 (a_is 3 k27)) a_vr))
set_option maxRecDepth 100000 in
theorem X9_enter_s21 {z : CZ} {k27 : Kn} (hk27 : SK (X9_enter_x z) 27 k27) : SK (X9_enter_x z) 21 (X9_enter_b21 k27) := (s_iloadn (pc := 21) dX9_enter_21 rfl (s_ifle (pc := 22) dX9_enter_22 (by decide) (s_vr (pc := 124) rfl dX9_enter_124) (s_iconst (pc := 25) dX9_enter_25 c_ic_0 (s_istoren (pc := 26) dX9_enter_26 rfl (show 3 < 5 by decide) hk27))))
noncomputable def X9_enter_b27 (c_se3 : List PV → PH → Option Rs) (c_X1_isLit : Nat → Nat → PH → Option Rs) (c_X1_isObeyed : Nat → Nat → Int32 → PH → Option Rs) (k21 k112 : Kn) : Kn := (a_il 3 (a_al 0 (a_gR 8 513 1 (a_gI 1 75 (a_lt (a_al 0 (a_gR 8 513 1 (a_gR 1 68 18 (a_il 3 (a_rald 18 1152 5 (a_as 4 (a_al 4 (a_gI 5 321 (a_sI 1 c_se3 (a_il 2 (a_eq (a_al 0 (a_gR 8 513 1 (a_al 4 (a_vI 1 1 (FW_T1R5 c_X1_isLit) (a_z k112 (a_al 0 (a_gR 8 513 1 (a_al 4 (a_al 0 (a_gR 8 512 3 (a_gI 3 192 (a_vI 1 2 (FW_T1R5I c_X1_isObeyed) (a_z k112 (a_al 0 (a_gR 8 514 31 (a_al 0 (a_gI 8 515 (a_il 3 (a_ast 31 1984 (fun a => a) (a_al 0 (a_dup (a_gI 8 515 (a_ic 1 (a_b (fun a b => a + b) (a_pI 8 515 k112))))))))))))))))))))))))) k112))))))))))) (a_inc 2 (-1) k21))))))
set_option maxRecDepth 100000 in
theorem X9_enter_s27 {z : CZ} {k21 k112 : Kn} (hk21 : SK (X9_enter_x z) 21 k21) (hk112 : SK (X9_enter_x z) 112 k112) : SK (X9_enter_x z) 27 (X9_enter_b27 se3 X1_isLit X1_isObeyed k21 k112) := (s_iloadn (pc := 27) dX9_enter_27 rfl (s_aloadn (pc := 28) dX9_enter_28 rfl (s_gR (pc := 29) (f := 1) ko_8 (by decide) rfl rfl w_333 dX9_enter_29 (s_gI (pc := 32) (f := 11) ko_1 (by decide) rfl rfl w_252 dX9_enter_32 (s_cmpge (pc := 35) dX9_enter_35 (by decide) (s_iinc (pc := 118) dX9_enter_118 c_ic_m1 (show 2 < 5 by decide) (s_goto (pc := 121) dX9_enter_121 (by decide) hk21)) (s_aloadn (pc := 38) dX9_enter_38 rfl (s_gR (pc := 39) (f := 1) ko_8 (by decide) rfl rfl w_333 dX9_enter_39 (s_gR (pc := 42) (f := 4) ko_1 (by decide) rfl rfl w_231 dX9_enter_42 (s_iloadn (pc := 45) dX9_enter_45 rfl (s_rald (pc := 46) (by decide) (by decide) rfl rfl rfl dX9_enter_46 (s_astore (pc := 47) dX9_enter_47 (show 4 < 5 by decide) (s_aload (pc := 49) dX9_enter_49 (s_gI (pc := 51) (f := 1) ko_5 (by decide) rfl rfl w_171 dX9_enter_51 (s_sI (pc := 54) (run_staticN (se3_gd _) (show 30 < 32 by decide) cy_X6_seenOf w_641 nw_968 dX9_enter_54) (s_iloadn (pc := 57) dX9_enter_57 rfl (s_cmpne (pc := 58) dX9_enter_58 (by decide) hk112 (s_aloadn (pc := 61) dX9_enter_61 rfl (s_gR (pc := 62) (f := 1) ko_8 (by decide) rfl rfl w_333 dX9_enter_62 (s_aload (pc := 65) dX9_enter_65 (s_vI (pc := 67) (run_virtual (X1_isLit_gd _) (show 2 < 32 by decide) cy_X1_isLit (by decide) rfl w_649 w_650 w_969 dX9_enter_67) (s_ifeq (pc := 70) dX9_enter_70 (by decide) hk112 (s_aloadn (pc := 73) dX9_enter_73 rfl (s_gR (pc := 74) (f := 1) ko_8 (by decide) rfl rfl w_333 dX9_enter_74 (s_aload (pc := 77) dX9_enter_77 (s_aloadn (pc := 79) dX9_enter_79 rfl (s_gR (pc := 80) (f := 0) ko_8 (by decide) rfl rfl w_331 dX9_enter_80 (s_gI (pc := 83) (f := 0) ko_3 (by decide) rfl rfl w_312 dX9_enter_83 (s_vI (pc := 86) (run_virtual (X1_isObeyed_gd _) (show 31 < 32 by decide) cy_X1_isObeyed (by decide) rfl w_653 w_654 w_970 dX9_enter_86) (s_ifeq (pc := 89) dX9_enter_89 (by decide) hk112 (s_aloadn (pc := 92) dX9_enter_92 rfl (s_gR (pc := 93) (f := 2) ko_8 (by decide) rfl rfl w_334 dX9_enter_93 (s_aloadn (pc := 96) dX9_enter_96 rfl (s_gI (pc := 97) (f := 3) ko_8 (by decide) rfl rfl w_335 dX9_enter_97 (s_iloadn (pc := 100) dX9_enter_100 rfl (s_iast (pc := 101) (by decide) (by decide) rfl rfl rfl dX9_enter_101 (s_aloadn (pc := 102) dX9_enter_102 rfl (s_dup (pc := 103) dX9_enter_103 (s_gI (pc := 104) (f := 3) ko_8 (by decide) rfl rfl w_335 dX9_enter_104 (s_iconst (pc := 107) dX9_enter_107 c_ic_1 (s_iadd (pc := 108) dX9_enter_108 (s_pI (pc := 109) (f := 3) ko_8 (by decide) rfl rfl rfl (by decide +kernel) w_335 dX9_enter_109 hk112)))))))))))))))))))))))))))))))))))))))))
noncomputable def X9_enter_b112 (k27 : Kn) : Kn := (a_inc 3 1 k27)
set_option maxRecDepth 100000 in
theorem X9_enter_s112 {z : CZ} {k27 : Kn} (hk27 : SK (X9_enter_x z) 27 k27) : SK (X9_enter_x z) 112 (X9_enter_b112 k27) := (s_iinc (pc := 112) dX9_enter_112 c_ic_1 (show 3 < 5 by decide) (s_goto (pc := 115) dX9_enter_115 (by decide) hk27))
noncomputable def X9_enter_u21 (g : Nat → Int32 → PH → Option Rs) : Kn := fun ls st h => gL 0 st (gT 8 ls 0 fun t => gI ls 2 fun x2 => g t x2 h)
noncomputable def X9_enter_u27 (g : Nat → Int32 → Int32 → PH → Option Rs) : Kn := fun ls st h => gL 0 st (gT 8 ls 0 fun t => gI ls 2 fun x2 => gI ls 3 fun x3 => g t x2 x3 h)
noncomputable def X9_enter_u112 (g : Nat → Int32 → Int32 → PH → Option Rs) : Kn := fun ls st h => gL 0 st (gT 8 ls 0 fun t => gI ls 2 fun x2 => gI ls 3 fun x3 => g t x2 x3 h)
noncomputable def X9_enter_f0 (c_X4_survey : Nat → Nat → PH → Option Rs) (g21 : Nat → Int32 → PH → Option Rs) (t : Nat) (x1 : Nat) (h : PH) : Option Rs :=
  wr (pR h 513 t 0 x1) fun h1 =>
  nn (hR h1 512 t 0) fun r2 =>
  cV (c_X4_survey r2 x1 h1) fun h3 =>
  wr (pI h3 515 t 0 0) fun h4 =>
  g21 t 6 h4
set_option maxRecDepth 100000 in
theorem X9_enter_l0 (c_X4_survey : Nat → Nat → PH → Option Rs) (g21 : Nat → Int32 → PH → Option Rs) (t : Nat) (x1 : Nat) (h : PH) : X9_enter_b0 c_X4_survey (X9_enter_u21 g21) [some (.inr (8, t + 1)), some (.inr (1, x1)), none, none, none] [] h = X9_enter_f0 c_X4_survey g21 t x1 h := rfl
theorem X9_enter_m0 {c_X4_survey : Nat → Nat → PH → Option Rs} {g21 G21 : Nat → Int32 → PH → Option Rs} (hg21 : ∀ a0 a1 a2, Mo (g21 a0 a1 a2) (G21 a0 a1 a2)) (t : Nat) (x1 : Nat) (h : PH) : Mo (X9_enter_f0 c_X4_survey g21 t x1 h) (X9_enter_f0 c_X4_survey G21 t x1 h) := (mo_wr fun h1 => (mo_nn fun r2 => (mo_cV fun h3 => (mo_wr fun h4 => (hg21 t 6 h4)))))
noncomputable def X9_enter_f21 (g27 : Nat → Int32 → Int32 → PH → Option Rs) (t : Nat) (x2 : Int32) (h : PH) : Option Rs :=
  if 0 < x2 then
    g27 t x2 0 h
  else
    some (none, h)
set_option maxRecDepth 100000 in
theorem X9_enter_l21 (g27 : Nat → Int32 → Int32 → PH → Option Rs) (t : Nat) (x2 : Int32) (h : PH) : X9_enter_b21 (X9_enter_u27 g27) [some (.inr (8, t + 1)), none, some (.inl x2), none, none] [] h = X9_enter_f21 g27 t x2 h := rfl
theorem X9_enter_m21 {g27 G27 : Nat → Int32 → Int32 → PH → Option Rs} (hg27 : ∀ a0 a1 a2 a3, Mo (g27 a0 a1 a2 a3) (G27 a0 a1 a2 a3)) (t : Nat) (x2 : Int32) (h : PH) : Mo (X9_enter_f21 g27 t x2 h) (X9_enter_f21 G27 t x2 h) := (mo_if (hg27 t x2 0 h) mo_rf)
theorem X9_enter_w21 {z : CZ} {g27 : Nat → Int32 → Int32 → PH → Option Rs} (hk27 : SK (X9_enter_x z) 27 (X9_enter_u27 g27)) : SK (X9_enter_x z) 21 (X9_enter_u21 (X9_enter_f21 g27)) := by
  intro ls st h r e
  obtain ⟨hst, e⟩ := gL_of e
  obtain ⟨t, q0, e⟩ := gT_of e
  obtain ⟨x2, q1, e⟩ := gI_of e
  rw [st_0 hst]
  exact WK.sub (canon := [some (.inr (8, t + 1)), none, some (.inl x2), none, none]) rfl ⟨q0, q1, trivial⟩ (X9_enter_s21 hk27 _ _ _ _ ((X9_enter_l21 g27 t x2 h).trans e))
noncomputable def X9_enter_f27 (c_se3 : List PV → PH → Option Rs) (c_X1_isLit : Nat → Nat → PH → Option Rs) (c_X1_isObeyed : Nat → Nat → Int32 → PH → Option Rs) (g21 : Nat → Int32 → PH → Option Rs) (g112 : Nat → Int32 → Int32 → PH → Option Rs) (t : Nat) (x2 : Int32) (x3 : Int32) (h : PH) : Option Rs :=
  nn (hR h 513 t 0) fun r5 =>
  if x3 < (hI h 75 r5 0) then
    nn (hR h 513 t 0) fun r6 =>
    nn (hR h 68 r6 0) fun r7 =>
    ix x3 (hL h 18 r7) fun j8 =>
    nn (hR h 1152 r7 j8) fun r9 =>
    cI (c_se3 [.inl (hI h 321 r9 0)] h) fun v11 h10 =>
    if v11 = x2 then
      nn (hR h10 513 t 0) fun r12 =>
      cI (c_X1_isLit r12 (hR h 1152 r7 j8) h10) fun v14 h13 =>
      if v14 = 0 then
        g112 t x2 x3 h13
      else
        nn (hR h13 512 t 0) fun r15 =>
        nn (hR h13 513 t 0) fun r16 =>
        cI (c_X1_isObeyed r16 (hR h 1152 r7 j8) (hI h13 192 r15 0) h13) fun v18 h17 =>
        if v18 = 0 then
          g112 t x2 x3 h17
        else
          nn (hR h17 514 t 0) fun r19 =>
          ix (hI h17 515 t 0) (hL h17 31 r19) fun j20 =>
          wr (pI h17 1984 r19 j20 x3) fun h21 =>
          wr (pI h21 515 t 0 ((hI h21 515 t 0) + 1)) fun h22 =>
          g112 t x2 x3 h22
    else
      g112 t x2 x3 h10
  else
    g21 t (x2 + (-1)) h
set_option maxRecDepth 100000 in
theorem X9_enter_l27 (c_se3 : List PV → PH → Option Rs) (c_X1_isLit : Nat → Nat → PH → Option Rs) (c_X1_isObeyed : Nat → Nat → Int32 → PH → Option Rs) (g21 : Nat → Int32 → PH → Option Rs) (g112 : Nat → Int32 → Int32 → PH → Option Rs) (t : Nat) (x2 : Int32) (x3 : Int32) (h : PH) : X9_enter_b27 c_se3 c_X1_isLit c_X1_isObeyed (X9_enter_u21 g21) (X9_enter_u112 g112) [some (.inr (8, t + 1)), none, some (.inl x2), some (.inl x3), none] [] h = X9_enter_f27 c_se3 c_X1_isLit c_X1_isObeyed g21 g112 t x2 x3 h := rfl
theorem X9_enter_m27 {c_se3 : List PV → PH → Option Rs} {c_X1_isLit : Nat → Nat → PH → Option Rs} {c_X1_isObeyed : Nat → Nat → Int32 → PH → Option Rs} {g21 G21 : Nat → Int32 → PH → Option Rs} {g112 G112 : Nat → Int32 → Int32 → PH → Option Rs} (hg21 : ∀ a0 a1 a2, Mo (g21 a0 a1 a2) (G21 a0 a1 a2)) (hg112 : ∀ a0 a1 a2 a3, Mo (g112 a0 a1 a2 a3) (G112 a0 a1 a2 a3)) (t : Nat) (x2 : Int32) (x3 : Int32) (h : PH) : Mo (X9_enter_f27 c_se3 c_X1_isLit c_X1_isObeyed g21 g112 t x2 x3 h) (X9_enter_f27 c_se3 c_X1_isLit c_X1_isObeyed G21 G112 t x2 x3 h) := (mo_nn fun r5 => (mo_if (mo_nn fun r6 => (mo_nn fun r7 => (mo_ix fun j8 => (mo_nn fun r9 => (mo_cI fun v11 h10 => (mo_if (mo_nn fun r12 => (mo_cI fun v14 h13 => (mo_if (hg112 t x2 x3 h13) (mo_nn fun r15 => (mo_nn fun r16 => (mo_cI fun v18 h17 => (mo_if (hg112 t x2 x3 h17) (mo_nn fun r19 => (mo_ix fun j20 => (mo_wr fun h21 => (mo_wr fun h22 => (hg112 t x2 x3 h22)))))))))))) (hg112 t x2 x3 h10))))))) (hg21 t (x2 + (-1)) h)))
theorem X9_enter_w27 {z : CZ} {g21 : Nat → Int32 → PH → Option Rs} {g112 : Nat → Int32 → Int32 → PH → Option Rs} (hk21 : SK (X9_enter_x z) 21 (X9_enter_u21 g21)) (hk112 : SK (X9_enter_x z) 112 (X9_enter_u112 g112)) : SK (X9_enter_x z) 27 (X9_enter_u27 (X9_enter_f27 se3 X1_isLit X1_isObeyed g21 g112)) := by
  intro ls st h r e
  obtain ⟨hst, e⟩ := gL_of e
  obtain ⟨t, q0, e⟩ := gT_of e
  obtain ⟨x2, q1, e⟩ := gI_of e
  obtain ⟨x3, q2, e⟩ := gI_of e
  rw [st_0 hst]
  exact WK.sub (canon := [some (.inr (8, t + 1)), none, some (.inl x2), some (.inl x3), none]) rfl ⟨q0, q1, q2, trivial⟩ (X9_enter_s27 hk21 hk112 _ _ _ _ ((X9_enter_l27 se3 X1_isLit X1_isObeyed g21 g112 t x2 x3 h).trans e))
noncomputable def X9_enter_f112 (g27 : Nat → Int32 → Int32 → PH → Option Rs) (t : Nat) (x2 : Int32) (x3 : Int32) (h : PH) : Option Rs :=
  g27 t x2 (x3 + 1) h
set_option maxRecDepth 100000 in
theorem X9_enter_l112 (g27 : Nat → Int32 → Int32 → PH → Option Rs) (t : Nat) (x2 : Int32) (x3 : Int32) (h : PH) : X9_enter_b112 (X9_enter_u27 g27) [some (.inr (8, t + 1)), none, some (.inl x2), some (.inl x3), none] [] h = X9_enter_f112 g27 t x2 x3 h := rfl
theorem X9_enter_m112 {g27 G27 : Nat → Int32 → Int32 → PH → Option Rs} (hg27 : ∀ a0 a1 a2 a3, Mo (g27 a0 a1 a2 a3) (G27 a0 a1 a2 a3)) (t : Nat) (x2 : Int32) (x3 : Int32) (h : PH) : Mo (X9_enter_f112 g27 t x2 x3 h) (X9_enter_f112 G27 t x2 x3 h) := (hg27 t x2 (x3 + 1) h)
theorem X9_enter_w112 {z : CZ} {g27 : Nat → Int32 → Int32 → PH → Option Rs} (hk27 : SK (X9_enter_x z) 27 (X9_enter_u27 g27)) : SK (X9_enter_x z) 112 (X9_enter_u112 (X9_enter_f112 g27)) := by
  intro ls st h r e
  obtain ⟨hst, e⟩ := gL_of e
  obtain ⟨t, q0, e⟩ := gT_of e
  obtain ⟨x2, q1, e⟩ := gI_of e
  obtain ⟨x3, q2, e⟩ := gI_of e
  rw [st_0 hst]
  exact WK.sub (canon := [some (.inr (8, t + 1)), none, some (.inl x2), some (.inl x3), none]) rfl ⟨q0, q1, q2, trivial⟩ (X9_enter_s112 hk27 _ _ _ _ ((X9_enter_l112 g27 t x2 x3 h).trans e))
noncomputable def X9_enter_g0 (G : (Nat → Int32 → PH → Option Rs) × (Nat → Int32 → Int32 → PH → Option Rs)) (t : Nat) (x1 : Nat) (h : PH) : Option Rs := X9_enter_f0 X4_survey (G).1 t x1 h
noncomputable def X9_enter_g21 (G : (Nat → Int32 → PH → Option Rs) × (Nat → Int32 → Int32 → PH → Option Rs)) (t : Nat) (x2 : Int32) (h : PH) : Option Rs := X9_enter_f21 (G).2 t x2 h
noncomputable def X9_enter_g112 (G : (Nat → Int32 → PH → Option Rs) × (Nat → Int32 → Int32 → PH → Option Rs)) (t : Nat) (x2 : Int32) (x3 : Int32) (h : PH) : Option Rs := X9_enter_f112 (G).2 t x2 x3 h
noncomputable def X9_enter_g27 (G : (Nat → Int32 → PH → Option Rs) × (Nat → Int32 → Int32 → PH → Option Rs)) (t : Nat) (x2 : Int32) (x3 : Int32) (h : PH) : Option Rs := X9_enter_f27 se3 X1_isLit X1_isObeyed (G).1 (X9_enter_g112 G) t x2 x3 h
theorem X9_enter_v21 {z : CZ} {G : (Nat → Int32 → PH → Option Rs) × (Nat → Int32 → Int32 → PH → Option Rs)} (hG21 : SK (X9_enter_x z) 21 (X9_enter_u21 (G).1)) (hG27 : SK (X9_enter_x z) 27 (X9_enter_u27 (G).2)) : SK (X9_enter_x z) 21 (X9_enter_u21 (X9_enter_g21 G)) := X9_enter_w21 hG27
theorem X9_enter_v112 {z : CZ} {G : (Nat → Int32 → PH → Option Rs) × (Nat → Int32 → Int32 → PH → Option Rs)} (hG21 : SK (X9_enter_x z) 21 (X9_enter_u21 (G).1)) (hG27 : SK (X9_enter_x z) 27 (X9_enter_u27 (G).2)) : SK (X9_enter_x z) 112 (X9_enter_u112 (X9_enter_g112 G)) := X9_enter_w112 hG27
theorem X9_enter_v27 {z : CZ} {G : (Nat → Int32 → PH → Option Rs) × (Nat → Int32 → Int32 → PH → Option Rs)} (hG21 : SK (X9_enter_x z) 21 (X9_enter_u21 (G).1)) (hG27 : SK (X9_enter_x z) 27 (X9_enter_u27 (G).2)) : SK (X9_enter_x z) 27 (X9_enter_u27 (X9_enter_g27 G)) := X9_enter_w27 hG21 (X9_enter_v112 hG21 hG27)
noncomputable def X9_enter_fam : Nat → (Nat → Int32 → PH → Option Rs) × (Nat → Int32 → Int32 → PH → Option Rs)
  | 0 => (fun _ _ _ => none, fun _ _ _ _ => none)
  | n + 1 => (X9_enter_g21 (X9_enter_fam n), X9_enter_g27 (X9_enter_fam n))
theorem X9_enter_k {z : CZ} : ∀ n, SK (X9_enter_x z) 21 (X9_enter_u21 (X9_enter_fam n).1) ∧ SK (X9_enter_x z) 27 (X9_enter_u27 (X9_enter_fam n).2)
  | 0 => ⟨(fun ls st h r e => by
      obtain ⟨_, e⟩ := gL_of e
      obtain ⟨_, _, e⟩ := gT_of e
      obtain ⟨_, _, e⟩ := gI_of e
      cases e), (fun ls st h r e => by
      obtain ⟨_, e⟩ := gL_of e
      obtain ⟨_, _, e⟩ := gT_of e
      obtain ⟨_, _, e⟩ := gI_of e
      obtain ⟨_, _, e⟩ := gI_of e
      cases e)⟩
  | n + 1 => by
    obtain ⟨ih21, ih27⟩ := X9_enter_k n
    exact ⟨X9_enter_v21 ih21 ih27, X9_enter_v27 ih21 ih27⟩
theorem X9_enter_n0 {G G' : (Nat → Int32 → PH → Option Rs) × (Nat → Int32 → Int32 → PH → Option Rs)} (hg21 : ∀ a0 a1 a2, Mo ((G).1 a0 a1 a2) ((G').1 a0 a1 a2)) (hg27 : ∀ a0 a1 a2 a3, Mo ((G).2 a0 a1 a2 a3) ((G').2 a0 a1 a2 a3)) (t : Nat) (x1 : Nat) (h : PH) : Mo (X9_enter_g0 G t x1 h) (X9_enter_g0 G' t x1 h) := X9_enter_m0 hg21 t x1 h
theorem X9_enter_n21 {G G' : (Nat → Int32 → PH → Option Rs) × (Nat → Int32 → Int32 → PH → Option Rs)} (hg21 : ∀ a0 a1 a2, Mo ((G).1 a0 a1 a2) ((G').1 a0 a1 a2)) (hg27 : ∀ a0 a1 a2 a3, Mo ((G).2 a0 a1 a2 a3) ((G').2 a0 a1 a2 a3)) (t : Nat) (x2 : Int32) (h : PH) : Mo (X9_enter_g21 G t x2 h) (X9_enter_g21 G' t x2 h) := X9_enter_m21 hg27 t x2 h
theorem X9_enter_n112 {G G' : (Nat → Int32 → PH → Option Rs) × (Nat → Int32 → Int32 → PH → Option Rs)} (hg21 : ∀ a0 a1 a2, Mo ((G).1 a0 a1 a2) ((G').1 a0 a1 a2)) (hg27 : ∀ a0 a1 a2 a3, Mo ((G).2 a0 a1 a2 a3) ((G').2 a0 a1 a2 a3)) (t : Nat) (x2 : Int32) (x3 : Int32) (h : PH) : Mo (X9_enter_g112 G t x2 x3 h) (X9_enter_g112 G' t x2 x3 h) := X9_enter_m112 hg27 t x2 x3 h
theorem X9_enter_n27 {G G' : (Nat → Int32 → PH → Option Rs) × (Nat → Int32 → Int32 → PH → Option Rs)} (hg21 : ∀ a0 a1 a2, Mo ((G).1 a0 a1 a2) ((G').1 a0 a1 a2)) (hg27 : ∀ a0 a1 a2 a3, Mo ((G).2 a0 a1 a2 a3) ((G').2 a0 a1 a2 a3)) (t : Nat) (x2 : Int32) (x3 : Int32) (h : PH) : Mo (X9_enter_g27 G t x2 x3 h) (X9_enter_g27 G' t x2 x3 h) := X9_enter_m27 hg21 (fun a0 a1 a2 a3 => X9_enter_n112 hg21 hg27 a0 a1 a2 a3) t x2 x3 h
theorem X9_enter_fm : ∀ n, (∀ a0 a1 a2, Mo ((X9_enter_fam n).1 a0 a1 a2) ((X9_enter_fam (n + 1)).1 a0 a1 a2)) ∧ (∀ a0 a1 a2 a3, Mo ((X9_enter_fam n).2 a0 a1 a2 a3) ((X9_enter_fam (n + 1)).2 a0 a1 a2 a3))
  | 0 => ⟨fun _ _ _ => mo_no, fun _ _ _ _ => mo_no⟩
  | n + 1 => by
    obtain ⟨ih21, ih27⟩ := X9_enter_fm n
    exact ⟨fun a0 a1 a2 => X9_enter_n21 ih21 ih27 a0 a1 a2, fun a0 a1 a2 a3 => X9_enter_n27 ih21 ih27 a0 a1 a2 a3⟩
noncomputable def X9_enter (t : Nat) (x1 : Nat) (h : PH) : Option Rs := lim (fun n => X9_enter_g0 (X9_enter_fam n) t x1 h)
theorem X9_enter_iff {t : Nat} {x1 : Nat} {h : PH} {r : Rs} : X9_enter t x1 h = some r ↔ ∃ n, X9_enter_g0 (X9_enter_fam n) t x1 h = some r := lim_iff (fun n => by
  obtain ⟨ih21, ih27⟩ := X9_enter_fm n
  exact X9_enter_n0 ih21 ih27 t x1 h)
noncomputable abbrev X9_enter_F : List PV → PH → Option Rs := FW_T8R1 (X9_enter)
set_option maxRecDepth 100000 in
theorem X9_enter_gd (l : Launch) : Gd l 32 yX9_enter cX9_enter 5 none (X9_enter_F)   := Gd_of (by decide +kernel) (fun z hzl as h r e => by
  obtain ⟨hst, e⟩ := gL_of e
  obtain ⟨t, q0, e⟩ := gT_of e
  obtain ⟨x1, q1, e⟩ := gR_of e
  rw [st_2 hst q0 q1]
  obtain ⟨n, e⟩ := lim_of e
  obtain ⟨hG21, hG27⟩ := X9_enter_k (z := z) n
  exact ⟨show 2 ≤ 5 by decide, X9_enter_s0 hG21 _ _ _ _ ((X9_enter_l0 X4_survey (X9_enter_fam n).1 t x1 h).trans e)⟩)
abbrev J7_fill_53178_32_x (z : CZ) : CX := mx RJ7 cJ7_fill_53178 4 0 none "fill" z
noncomputable def J7_fill_53178_32_b0 (k5 : Kn) : Kn := (a_ic 0 (a_is 2 (a_al 0 (a_len 32 (a_is 3 k5)))))
set_option maxRecDepth 100000 in
theorem J7_fill_53178_32_s0 {z : CZ} {k5 : Kn} (hk5 : SK (J7_fill_53178_32_x z) 5 k5) : SK (J7_fill_53178_32_x z) 0 (J7_fill_53178_32_b0 k5) := (s_iconst (pc := 0) dJ7_fill_53178_0 c_ic_0 (s_istoren (pc := 1) dJ7_fill_53178_1 rfl (show 2 < 4 by decide) (s_aloadn (pc := 2) dJ7_fill_53178_2 rfl (s_len (pc := 3) (by decide) (by decide) rfl dJ7_fill_53178_3 (s_istoren (pc := 4) dJ7_fill_53178_4 rfl (show 3 < 4 by decide) hk5)))))
noncomputable def J7_fill_53178_32_b5 (k5 : Kn) : Kn := (a_il 2 (a_il 3 (a_lt (a_al 0 (a_il 2 (a_il 1 (a_ast 32 2048 (fun a => a) (a_inc 2 1 k5))))) a_vr)))
set_option maxRecDepth 100000 in
theorem J7_fill_53178_32_s5 {z : CZ} {k5 : Kn} (hk5 : SK (J7_fill_53178_32_x z) 5 k5) : SK (J7_fill_53178_32_x z) 5 (J7_fill_53178_32_b5 k5) := (s_iloadn (pc := 5) dJ7_fill_53178_5 rfl (s_iloadn (pc := 6) dJ7_fill_53178_6 rfl (s_cmpge (pc := 7) dJ7_fill_53178_7 (by decide) (s_vr (pc := 20) rfl dJ7_fill_53178_20) (s_aloadn (pc := 10) dJ7_fill_53178_10 rfl (s_iloadn (pc := 11) dJ7_fill_53178_11 rfl (s_iloadn (pc := 12) dJ7_fill_53178_12 rfl (s_iast (pc := 13) (by decide) (by decide) rfl rfl rfl dJ7_fill_53178_13 (s_iinc (pc := 14) dJ7_fill_53178_14 c_ic_1 (show 2 < 4 by decide) (s_goto (pc := 17) dJ7_fill_53178_17 (by decide) hk5)))))))))
noncomputable def J7_fill_53178_32_u5 (g : Nat → Int32 → Int32 → Int32 → PH → Option Rs) : Kn := fun ls st h => gL 0 st (gR 32 ls 0 fun x0 => gI ls 1 fun x1 => gI ls 2 fun x2 => gI ls 3 fun x3 => g x0 x1 x2 x3 h)
noncomputable def J7_fill_53178_32_f0 (g5 : Nat → Int32 → Int32 → Int32 → PH → Option Rs) (x0 : Nat) (x1 : Int32) (h : PH) : Option Rs :=
  nn x0 fun r1 =>
  g5 x0 x1 0 (Int32.ofNat (hL h 32 r1)) h
set_option maxRecDepth 100000 in
theorem J7_fill_53178_32_l0 (g5 : Nat → Int32 → Int32 → Int32 → PH → Option Rs) (x0 : Nat) (x1 : Int32) (h : PH) : J7_fill_53178_32_b0 (J7_fill_53178_32_u5 g5) [some (.inr (32, x0)), some (.inl x1), none, none] [] h = J7_fill_53178_32_f0 g5 x0 x1 h := rfl
theorem J7_fill_53178_32_m0 {g5 G5 : Nat → Int32 → Int32 → Int32 → PH → Option Rs} (hg5 : ∀ a0 a1 a2 a3 a4, Mo (g5 a0 a1 a2 a3 a4) (G5 a0 a1 a2 a3 a4)) (x0 : Nat) (x1 : Int32) (h : PH) : Mo (J7_fill_53178_32_f0 g5 x0 x1 h) (J7_fill_53178_32_f0 G5 x0 x1 h) := (mo_nn fun r1 => (hg5 x0 x1 0 (Int32.ofNat (hL h 32 r1)) h))
noncomputable def J7_fill_53178_32_f5 (g5 : Nat → Int32 → Int32 → Int32 → PH → Option Rs) (x0 : Nat) (x1 : Int32) (x2 : Int32) (x3 : Int32) (h : PH) : Option Rs :=
  if x2 < x3 then
    nn x0 fun r2 =>
    ix x2 (hL h 32 r2) fun j3 =>
    wr (pI h 2048 r2 j3 x1) fun h4 =>
    g5 x0 x1 (x2 + 1) x3 h4
  else
    some (none, h)
set_option maxRecDepth 100000 in
theorem J7_fill_53178_32_l5 (g5 : Nat → Int32 → Int32 → Int32 → PH → Option Rs) (x0 : Nat) (x1 : Int32) (x2 : Int32) (x3 : Int32) (h : PH) : J7_fill_53178_32_b5 (J7_fill_53178_32_u5 g5) [some (.inr (32, x0)), some (.inl x1), some (.inl x2), some (.inl x3)] [] h = J7_fill_53178_32_f5 g5 x0 x1 x2 x3 h := rfl
theorem J7_fill_53178_32_m5 {g5 G5 : Nat → Int32 → Int32 → Int32 → PH → Option Rs} (hg5 : ∀ a0 a1 a2 a3 a4, Mo (g5 a0 a1 a2 a3 a4) (G5 a0 a1 a2 a3 a4)) (x0 : Nat) (x1 : Int32) (x2 : Int32) (x3 : Int32) (h : PH) : Mo (J7_fill_53178_32_f5 g5 x0 x1 x2 x3 h) (J7_fill_53178_32_f5 G5 x0 x1 x2 x3 h) := (mo_if (mo_nn fun r2 => (mo_ix fun j3 => (mo_wr fun h4 => (hg5 x0 x1 (x2 + 1) x3 h4)))) mo_rf)
theorem J7_fill_53178_32_w5 {z : CZ} {g5 : Nat → Int32 → Int32 → Int32 → PH → Option Rs} (hk5 : SK (J7_fill_53178_32_x z) 5 (J7_fill_53178_32_u5 g5)) : SK (J7_fill_53178_32_x z) 5 (J7_fill_53178_32_u5 (J7_fill_53178_32_f5 g5)) := by
  intro ls st h r e
  obtain ⟨hst, e⟩ := gL_of e
  obtain ⟨x0, q0, e⟩ := gR_of e
  obtain ⟨x1, q1, e⟩ := gI_of e
  obtain ⟨x2, q2, e⟩ := gI_of e
  obtain ⟨x3, q3, e⟩ := gI_of e
  rw [st_0 hst]
  exact WK.sub (canon := [some (.inr (32, x0)), some (.inl x1), some (.inl x2), some (.inl x3)]) rfl ⟨q0, q1, q2, q3, trivial⟩ (J7_fill_53178_32_s5 hk5 _ _ _ _ ((J7_fill_53178_32_l5 g5 x0 x1 x2 x3 h).trans e))
noncomputable def J7_fill_53178_32_g0 (G : (Nat → Int32 → Int32 → Int32 → PH → Option Rs)) (x0 : Nat) (x1 : Int32) (h : PH) : Option Rs := J7_fill_53178_32_f0 (G) x0 x1 h
noncomputable def J7_fill_53178_32_g5 (G : (Nat → Int32 → Int32 → Int32 → PH → Option Rs)) (x0 : Nat) (x1 : Int32) (x2 : Int32) (x3 : Int32) (h : PH) : Option Rs := J7_fill_53178_32_f5 (G) x0 x1 x2 x3 h
theorem J7_fill_53178_32_v5 {z : CZ} {G : (Nat → Int32 → Int32 → Int32 → PH → Option Rs)} (hG5 : SK (J7_fill_53178_32_x z) 5 (J7_fill_53178_32_u5 (G))) : SK (J7_fill_53178_32_x z) 5 (J7_fill_53178_32_u5 (J7_fill_53178_32_g5 G)) := J7_fill_53178_32_w5 hG5
noncomputable def J7_fill_53178_32_fam : Nat → (Nat → Int32 → Int32 → Int32 → PH → Option Rs)
  | 0 => fun _ _ _ _ _ => none
  | n + 1 => J7_fill_53178_32_g5 (J7_fill_53178_32_fam n)
theorem J7_fill_53178_32_k {z : CZ} : ∀ n, SK (J7_fill_53178_32_x z) 5 (J7_fill_53178_32_u5 (J7_fill_53178_32_fam n))
  | 0 => (fun ls st h r e => by
      obtain ⟨_, e⟩ := gL_of e
      obtain ⟨_, _, e⟩ := gR_of e
      obtain ⟨_, _, e⟩ := gI_of e
      obtain ⟨_, _, e⟩ := gI_of e
      obtain ⟨_, _, e⟩ := gI_of e
      cases e)
  | n + 1 => by
    obtain ih5 := J7_fill_53178_32_k n
    exact J7_fill_53178_32_v5 ih5
theorem J7_fill_53178_32_n0 {G G' : (Nat → Int32 → Int32 → Int32 → PH → Option Rs)} (hg5 : ∀ a0 a1 a2 a3 a4, Mo ((G) a0 a1 a2 a3 a4) ((G') a0 a1 a2 a3 a4)) (x0 : Nat) (x1 : Int32) (h : PH) : Mo (J7_fill_53178_32_g0 G x0 x1 h) (J7_fill_53178_32_g0 G' x0 x1 h) := J7_fill_53178_32_m0 hg5 x0 x1 h
theorem J7_fill_53178_32_n5 {G G' : (Nat → Int32 → Int32 → Int32 → PH → Option Rs)} (hg5 : ∀ a0 a1 a2 a3 a4, Mo ((G) a0 a1 a2 a3 a4) ((G') a0 a1 a2 a3 a4)) (x0 : Nat) (x1 : Int32) (x2 : Int32) (x3 : Int32) (h : PH) : Mo (J7_fill_53178_32_g5 G x0 x1 x2 x3 h) (J7_fill_53178_32_g5 G' x0 x1 x2 x3 h) := J7_fill_53178_32_m5 hg5 x0 x1 x2 x3 h
theorem J7_fill_53178_32_fm : ∀ n, (∀ a0 a1 a2 a3 a4, Mo ((J7_fill_53178_32_fam n) a0 a1 a2 a3 a4) ((J7_fill_53178_32_fam (n + 1)) a0 a1 a2 a3 a4))
  | 0 => fun _ _ _ _ _ => mo_no
  | n + 1 => by
    obtain ih5 := J7_fill_53178_32_fm n
    exact fun a0 a1 a2 a3 a4 => J7_fill_53178_32_n5 ih5 a0 a1 a2 a3 a4
noncomputable def J7_fill_53178_32 (x0 : Nat) (x1 : Int32) (h : PH) : Option Rs := lim (fun n => J7_fill_53178_32_g0 (J7_fill_53178_32_fam n) x0 x1 h)
theorem J7_fill_53178_32_iff {x0 : Nat} {x1 : Int32} {h : PH} {r : Rs} : J7_fill_53178_32 x0 x1 h = some r ↔ ∃ n, J7_fill_53178_32_g0 (J7_fill_53178_32_fam n) x0 x1 h = some r := lim_iff (fun n => by
  obtain ih5 := J7_fill_53178_32_fm n
  exact J7_fill_53178_32_n0 ih5 x0 x1 h)
noncomputable abbrev J7_fill_53178_32_F : List PV → PH → Option Rs := FW_R32I (J7_fill_53178_32)
set_option maxRecDepth 100000 in
theorem J7_fill_53178_32_gd (l : Launch) : Gd l 0 yJ7_fill_53178 cJ7_fill_53178 4 none (J7_fill_53178_32_F)   := Gd_of (by decide +kernel) (fun z hzl as h r e => by
  obtain ⟨hst, e⟩ := gL_of e
  obtain ⟨x0, q0, e⟩ := gR_of e
  obtain ⟨x1, q1, e⟩ := gI_of e
  rw [st_2 hst q0 q1]
  obtain ⟨n, e⟩ := lim_of e
  obtain hG5 := J7_fill_53178_32_k (z := z) n
  exact ⟨show 2 ≤ 4 by decide, J7_fill_53178_32_s0 hG5 _ _ _ _ ((J7_fill_53178_32_l0 (J7_fill_53178_32_fam n) x0 x1 h).trans e)⟩)
abbrev J7_fill_53178_34_x (z : CZ) : CX := mx RJ7 cJ7_fill_53178 4 0 none "fill" z
noncomputable def J7_fill_53178_34_b0 (k5 : Kn) : Kn := (a_ic 0 (a_is 2 (a_al 0 (a_len 34 (a_is 3 k5)))))
set_option maxRecDepth 100000 in
theorem J7_fill_53178_34_s0 {z : CZ} {k5 : Kn} (hk5 : SK (J7_fill_53178_34_x z) 5 k5) : SK (J7_fill_53178_34_x z) 0 (J7_fill_53178_34_b0 k5) := (s_iconst (pc := 0) dJ7_fill_53178_0 c_ic_0 (s_istoren (pc := 1) dJ7_fill_53178_1 rfl (show 2 < 4 by decide) (s_aloadn (pc := 2) dJ7_fill_53178_2 rfl (s_len (pc := 3) (by decide) (by decide) rfl dJ7_fill_53178_3 (s_istoren (pc := 4) dJ7_fill_53178_4 rfl (show 3 < 4 by decide) hk5)))))
noncomputable def J7_fill_53178_34_b5 (k5 : Kn) : Kn := (a_il 2 (a_il 3 (a_lt (a_al 0 (a_il 2 (a_il 1 (a_ast 34 2176 (fun a => a) (a_inc 2 1 k5))))) a_vr)))
set_option maxRecDepth 100000 in
theorem J7_fill_53178_34_s5 {z : CZ} {k5 : Kn} (hk5 : SK (J7_fill_53178_34_x z) 5 k5) : SK (J7_fill_53178_34_x z) 5 (J7_fill_53178_34_b5 k5) := (s_iloadn (pc := 5) dJ7_fill_53178_5 rfl (s_iloadn (pc := 6) dJ7_fill_53178_6 rfl (s_cmpge (pc := 7) dJ7_fill_53178_7 (by decide) (s_vr (pc := 20) rfl dJ7_fill_53178_20) (s_aloadn (pc := 10) dJ7_fill_53178_10 rfl (s_iloadn (pc := 11) dJ7_fill_53178_11 rfl (s_iloadn (pc := 12) dJ7_fill_53178_12 rfl (s_iast (pc := 13) (by decide) (by decide) rfl rfl rfl dJ7_fill_53178_13 (s_iinc (pc := 14) dJ7_fill_53178_14 c_ic_1 (show 2 < 4 by decide) (s_goto (pc := 17) dJ7_fill_53178_17 (by decide) hk5)))))))))
noncomputable def J7_fill_53178_34_u5 (g : Nat → Int32 → Int32 → Int32 → PH → Option Rs) : Kn := fun ls st h => gL 0 st (gR 34 ls 0 fun x0 => gI ls 1 fun x1 => gI ls 2 fun x2 => gI ls 3 fun x3 => g x0 x1 x2 x3 h)
noncomputable def J7_fill_53178_34_f0 (g5 : Nat → Int32 → Int32 → Int32 → PH → Option Rs) (x0 : Nat) (x1 : Int32) (h : PH) : Option Rs :=
  nn x0 fun r1 =>
  g5 x0 x1 0 (Int32.ofNat (hL h 34 r1)) h
set_option maxRecDepth 100000 in
theorem J7_fill_53178_34_l0 (g5 : Nat → Int32 → Int32 → Int32 → PH → Option Rs) (x0 : Nat) (x1 : Int32) (h : PH) : J7_fill_53178_34_b0 (J7_fill_53178_34_u5 g5) [some (.inr (34, x0)), some (.inl x1), none, none] [] h = J7_fill_53178_34_f0 g5 x0 x1 h := rfl
theorem J7_fill_53178_34_m0 {g5 G5 : Nat → Int32 → Int32 → Int32 → PH → Option Rs} (hg5 : ∀ a0 a1 a2 a3 a4, Mo (g5 a0 a1 a2 a3 a4) (G5 a0 a1 a2 a3 a4)) (x0 : Nat) (x1 : Int32) (h : PH) : Mo (J7_fill_53178_34_f0 g5 x0 x1 h) (J7_fill_53178_34_f0 G5 x0 x1 h) := (mo_nn fun r1 => (hg5 x0 x1 0 (Int32.ofNat (hL h 34 r1)) h))
noncomputable def J7_fill_53178_34_f5 (g5 : Nat → Int32 → Int32 → Int32 → PH → Option Rs) (x0 : Nat) (x1 : Int32) (x2 : Int32) (x3 : Int32) (h : PH) : Option Rs :=
  if x2 < x3 then
    nn x0 fun r2 =>
    ix x2 (hL h 34 r2) fun j3 =>
    wr (pI h 2176 r2 j3 x1) fun h4 =>
    g5 x0 x1 (x2 + 1) x3 h4
  else
    some (none, h)
set_option maxRecDepth 100000 in
theorem J7_fill_53178_34_l5 (g5 : Nat → Int32 → Int32 → Int32 → PH → Option Rs) (x0 : Nat) (x1 : Int32) (x2 : Int32) (x3 : Int32) (h : PH) : J7_fill_53178_34_b5 (J7_fill_53178_34_u5 g5) [some (.inr (34, x0)), some (.inl x1), some (.inl x2), some (.inl x3)] [] h = J7_fill_53178_34_f5 g5 x0 x1 x2 x3 h := rfl
theorem J7_fill_53178_34_m5 {g5 G5 : Nat → Int32 → Int32 → Int32 → PH → Option Rs} (hg5 : ∀ a0 a1 a2 a3 a4, Mo (g5 a0 a1 a2 a3 a4) (G5 a0 a1 a2 a3 a4)) (x0 : Nat) (x1 : Int32) (x2 : Int32) (x3 : Int32) (h : PH) : Mo (J7_fill_53178_34_f5 g5 x0 x1 x2 x3 h) (J7_fill_53178_34_f5 G5 x0 x1 x2 x3 h) := (mo_if (mo_nn fun r2 => (mo_ix fun j3 => (mo_wr fun h4 => (hg5 x0 x1 (x2 + 1) x3 h4)))) mo_rf)
theorem J7_fill_53178_34_w5 {z : CZ} {g5 : Nat → Int32 → Int32 → Int32 → PH → Option Rs} (hk5 : SK (J7_fill_53178_34_x z) 5 (J7_fill_53178_34_u5 g5)) : SK (J7_fill_53178_34_x z) 5 (J7_fill_53178_34_u5 (J7_fill_53178_34_f5 g5)) := by
  intro ls st h r e
  obtain ⟨hst, e⟩ := gL_of e
  obtain ⟨x0, q0, e⟩ := gR_of e
  obtain ⟨x1, q1, e⟩ := gI_of e
  obtain ⟨x2, q2, e⟩ := gI_of e
  obtain ⟨x3, q3, e⟩ := gI_of e
  rw [st_0 hst]
  exact WK.sub (canon := [some (.inr (34, x0)), some (.inl x1), some (.inl x2), some (.inl x3)]) rfl ⟨q0, q1, q2, q3, trivial⟩ (J7_fill_53178_34_s5 hk5 _ _ _ _ ((J7_fill_53178_34_l5 g5 x0 x1 x2 x3 h).trans e))
noncomputable def J7_fill_53178_34_g0 (G : (Nat → Int32 → Int32 → Int32 → PH → Option Rs)) (x0 : Nat) (x1 : Int32) (h : PH) : Option Rs := J7_fill_53178_34_f0 (G) x0 x1 h
noncomputable def J7_fill_53178_34_g5 (G : (Nat → Int32 → Int32 → Int32 → PH → Option Rs)) (x0 : Nat) (x1 : Int32) (x2 : Int32) (x3 : Int32) (h : PH) : Option Rs := J7_fill_53178_34_f5 (G) x0 x1 x2 x3 h
theorem J7_fill_53178_34_v5 {z : CZ} {G : (Nat → Int32 → Int32 → Int32 → PH → Option Rs)} (hG5 : SK (J7_fill_53178_34_x z) 5 (J7_fill_53178_34_u5 (G))) : SK (J7_fill_53178_34_x z) 5 (J7_fill_53178_34_u5 (J7_fill_53178_34_g5 G)) := J7_fill_53178_34_w5 hG5
noncomputable def J7_fill_53178_34_fam : Nat → (Nat → Int32 → Int32 → Int32 → PH → Option Rs)
  | 0 => fun _ _ _ _ _ => none
  | n + 1 => J7_fill_53178_34_g5 (J7_fill_53178_34_fam n)
theorem J7_fill_53178_34_k {z : CZ} : ∀ n, SK (J7_fill_53178_34_x z) 5 (J7_fill_53178_34_u5 (J7_fill_53178_34_fam n))
  | 0 => (fun ls st h r e => by
      obtain ⟨_, e⟩ := gL_of e
      obtain ⟨_, _, e⟩ := gR_of e
      obtain ⟨_, _, e⟩ := gI_of e
      obtain ⟨_, _, e⟩ := gI_of e
      obtain ⟨_, _, e⟩ := gI_of e
      cases e)
  | n + 1 => by
    obtain ih5 := J7_fill_53178_34_k n
    exact J7_fill_53178_34_v5 ih5
theorem J7_fill_53178_34_n0 {G G' : (Nat → Int32 → Int32 → Int32 → PH → Option Rs)} (hg5 : ∀ a0 a1 a2 a3 a4, Mo ((G) a0 a1 a2 a3 a4) ((G') a0 a1 a2 a3 a4)) (x0 : Nat) (x1 : Int32) (h : PH) : Mo (J7_fill_53178_34_g0 G x0 x1 h) (J7_fill_53178_34_g0 G' x0 x1 h) := J7_fill_53178_34_m0 hg5 x0 x1 h
theorem J7_fill_53178_34_n5 {G G' : (Nat → Int32 → Int32 → Int32 → PH → Option Rs)} (hg5 : ∀ a0 a1 a2 a3 a4, Mo ((G) a0 a1 a2 a3 a4) ((G') a0 a1 a2 a3 a4)) (x0 : Nat) (x1 : Int32) (x2 : Int32) (x3 : Int32) (h : PH) : Mo (J7_fill_53178_34_g5 G x0 x1 x2 x3 h) (J7_fill_53178_34_g5 G' x0 x1 x2 x3 h) := J7_fill_53178_34_m5 hg5 x0 x1 x2 x3 h
theorem J7_fill_53178_34_fm : ∀ n, (∀ a0 a1 a2 a3 a4, Mo ((J7_fill_53178_34_fam n) a0 a1 a2 a3 a4) ((J7_fill_53178_34_fam (n + 1)) a0 a1 a2 a3 a4))
  | 0 => fun _ _ _ _ _ => mo_no
  | n + 1 => by
    obtain ih5 := J7_fill_53178_34_fm n
    exact fun a0 a1 a2 a3 a4 => J7_fill_53178_34_n5 ih5 a0 a1 a2 a3 a4
noncomputable def J7_fill_53178_34 (x0 : Nat) (x1 : Int32) (h : PH) : Option Rs := lim (fun n => J7_fill_53178_34_g0 (J7_fill_53178_34_fam n) x0 x1 h)
theorem J7_fill_53178_34_iff {x0 : Nat} {x1 : Int32} {h : PH} {r : Rs} : J7_fill_53178_34 x0 x1 h = some r ↔ ∃ n, J7_fill_53178_34_g0 (J7_fill_53178_34_fam n) x0 x1 h = some r := lim_iff (fun n => by
  obtain ih5 := J7_fill_53178_34_fm n
  exact J7_fill_53178_34_n0 ih5 x0 x1 h)
noncomputable abbrev J7_fill_53178_34_F : List PV → PH → Option Rs := FW_R34I (J7_fill_53178_34)
set_option maxRecDepth 100000 in
theorem J7_fill_53178_34_gd (l : Launch) : Gd l 0 yJ7_fill_53178 cJ7_fill_53178 4 none (J7_fill_53178_34_F)   := Gd_of (by decide +kernel) (fun z hzl as h r e => by
  obtain ⟨hst, e⟩ := gL_of e
  obtain ⟨x0, q0, e⟩ := gR_of e
  obtain ⟨x1, q1, e⟩ := gI_of e
  rw [st_2 hst q0 q1]
  obtain ⟨n, e⟩ := lim_of e
  obtain hG5 := J7_fill_53178_34_k (z := z) n
  exact ⟨show 2 ≤ 4 by decide, J7_fill_53178_34_s0 hG5 _ _ _ _ ((J7_fill_53178_34_l0 (J7_fill_53178_34_fam n) x0 x1 h).trans e)⟩)
abbrev X6_firstRowOf_x (z : CZ) : CX := mx RX6 cX6_firstRowOf 3 0 (some .int) "firstRowOf" z
noncomputable def X6_firstRowOf_b0 (k2 : Kn) : Kn := (a_ic 0 (a_is 2 k2))
set_option maxRecDepth 100000 in
theorem X6_firstRowOf_s0 {z : CZ} {k2 : Kn} (hk2 : SK (X6_firstRowOf_x z) 2 k2) : SK (X6_firstRowOf_x z) 0 (X6_firstRowOf_b0 k2) := (s_iconst (pc := 0) dX6_firstRowOf_0 c_ic_0 (s_istoren (pc := 1) dX6_firstRowOf_1 rfl (show 2 < 3 by decide) hk2))
noncomputable def X6_firstRowOf_b2 (k2 : Kn) : Kn := (a_il 2 (a_al 0 (a_gI 5 324 (a_lt (a_al 0 (a_gR 5 325 27 (a_il 2 (a_ald 27 1728 (a_il 1 (a_eq (a_il 2 a_ir) (a_inc 2 1 k2))))))) (a_ic (-1) a_ir)))))
set_option maxRecDepth 100000 in
theorem X6_firstRowOf_s2 {z : CZ} {k2 : Kn} (hk2 : SK (X6_firstRowOf_x z) 2 k2) : SK (X6_firstRowOf_x z) 2 (X6_firstRowOf_b2 k2) := (s_iloadn (pc := 2) dX6_firstRowOf_2 rfl (s_aloadn (pc := 3) dX6_firstRowOf_3 rfl (s_gI (pc := 4) (f := 4) ko_5 (by decide) rfl rfl w_184 dX6_firstRowOf_4 (s_cmpge (pc := 7) dX6_firstRowOf_7 (by decide) (s_iconst (pc := 28) dX6_firstRowOf_28 c_ic_m1 (s_ir (pc := 29) rfl dX6_firstRowOf_29)) (s_aloadn (pc := 10) dX6_firstRowOf_10 rfl (s_gR (pc := 11) (f := 5) ko_5 (by decide) rfl rfl w_186 dX6_firstRowOf_11 (s_iloadn (pc := 14) dX6_firstRowOf_14 rfl (s_iald (pc := 15) (by decide) (by decide) rfl rfl rfl dX6_firstRowOf_15 (s_iloadn (pc := 16) dX6_firstRowOf_16 rfl (s_cmpne (pc := 17) dX6_firstRowOf_17 (by decide) (s_iinc (pc := 22) dX6_firstRowOf_22 c_ic_1 (show 2 < 3 by decide) (s_goto (pc := 25) dX6_firstRowOf_25 (by decide) hk2)) (s_iloadn (pc := 20) dX6_firstRowOf_20 rfl (s_ir (pc := 21) rfl dX6_firstRowOf_21))))))))))))
noncomputable def X6_firstRowOf_u2 (g : Nat → Int32 → Int32 → PH → Option Rs) : Kn := fun ls st h => gL 0 st (gT 5 ls 0 fun t => gI ls 1 fun x1 => gI ls 2 fun x2 => g t x1 x2 h)
noncomputable def X6_firstRowOf_f0 (g2 : Nat → Int32 → Int32 → PH → Option Rs) (t : Nat) (x1 : Int32) (h : PH) : Option Rs :=
  g2 t x1 0 h
set_option maxRecDepth 100000 in
theorem X6_firstRowOf_l0 (g2 : Nat → Int32 → Int32 → PH → Option Rs) (t : Nat) (x1 : Int32) (h : PH) : X6_firstRowOf_b0 (X6_firstRowOf_u2 g2) [some (.inr (5, t + 1)), some (.inl x1), none] [] h = X6_firstRowOf_f0 g2 t x1 h := rfl
theorem X6_firstRowOf_m0 {g2 G2 : Nat → Int32 → Int32 → PH → Option Rs} (hg2 : ∀ a0 a1 a2 a3, Mo (g2 a0 a1 a2 a3) (G2 a0 a1 a2 a3)) (t : Nat) (x1 : Int32) (h : PH) : Mo (X6_firstRowOf_f0 g2 t x1 h) (X6_firstRowOf_f0 G2 t x1 h) := (hg2 t x1 0 h)
noncomputable def X6_firstRowOf_f2 (g2 : Nat → Int32 → Int32 → PH → Option Rs) (t : Nat) (x1 : Int32) (x2 : Int32) (h : PH) : Option Rs :=
  if x2 < (hI h 324 t 0) then
    nn (hR h 325 t 0) fun r1 =>
    ix x2 (hL h 27 r1) fun j2 =>
    if (hI h 1728 r1 j2) = x1 then
      some (some (.inl x2), h)
    else
      g2 t x1 (x2 + 1) h
  else
    some (some (.inl (-1)), h)
set_option maxRecDepth 100000 in
theorem X6_firstRowOf_l2 (g2 : Nat → Int32 → Int32 → PH → Option Rs) (t : Nat) (x1 : Int32) (x2 : Int32) (h : PH) : X6_firstRowOf_b2 (X6_firstRowOf_u2 g2) [some (.inr (5, t + 1)), some (.inl x1), some (.inl x2)] [] h = X6_firstRowOf_f2 g2 t x1 x2 h := rfl
theorem X6_firstRowOf_m2 {g2 G2 : Nat → Int32 → Int32 → PH → Option Rs} (hg2 : ∀ a0 a1 a2 a3, Mo (g2 a0 a1 a2 a3) (G2 a0 a1 a2 a3)) (t : Nat) (x1 : Int32) (x2 : Int32) (h : PH) : Mo (X6_firstRowOf_f2 g2 t x1 x2 h) (X6_firstRowOf_f2 G2 t x1 x2 h) := (mo_if (mo_nn fun r1 => (mo_ix fun j2 => (mo_if mo_rf (hg2 t x1 (x2 + 1) h)))) mo_rf)
theorem X6_firstRowOf_w2 {z : CZ} {g2 : Nat → Int32 → Int32 → PH → Option Rs} (hk2 : SK (X6_firstRowOf_x z) 2 (X6_firstRowOf_u2 g2)) : SK (X6_firstRowOf_x z) 2 (X6_firstRowOf_u2 (X6_firstRowOf_f2 g2)) := by
  intro ls st h r e
  obtain ⟨hst, e⟩ := gL_of e
  obtain ⟨t, q0, e⟩ := gT_of e
  obtain ⟨x1, q1, e⟩ := gI_of e
  obtain ⟨x2, q2, e⟩ := gI_of e
  rw [st_0 hst]
  exact WK.sub (canon := [some (.inr (5, t + 1)), some (.inl x1), some (.inl x2)]) rfl ⟨q0, q1, q2, trivial⟩ (X6_firstRowOf_s2 hk2 _ _ _ _ ((X6_firstRowOf_l2 g2 t x1 x2 h).trans e))
noncomputable def X6_firstRowOf_g0 (G : (Nat → Int32 → Int32 → PH → Option Rs)) (t : Nat) (x1 : Int32) (h : PH) : Option Rs := X6_firstRowOf_f0 (G) t x1 h
noncomputable def X6_firstRowOf_g2 (G : (Nat → Int32 → Int32 → PH → Option Rs)) (t : Nat) (x1 : Int32) (x2 : Int32) (h : PH) : Option Rs := X6_firstRowOf_f2 (G) t x1 x2 h
theorem X6_firstRowOf_v2 {z : CZ} {G : (Nat → Int32 → Int32 → PH → Option Rs)} (hG2 : SK (X6_firstRowOf_x z) 2 (X6_firstRowOf_u2 (G))) : SK (X6_firstRowOf_x z) 2 (X6_firstRowOf_u2 (X6_firstRowOf_g2 G)) := X6_firstRowOf_w2 hG2
noncomputable def X6_firstRowOf_fam : Nat → (Nat → Int32 → Int32 → PH → Option Rs)
  | 0 => fun _ _ _ _ => none
  | n + 1 => X6_firstRowOf_g2 (X6_firstRowOf_fam n)
theorem X6_firstRowOf_k {z : CZ} : ∀ n, SK (X6_firstRowOf_x z) 2 (X6_firstRowOf_u2 (X6_firstRowOf_fam n))
  | 0 => (fun ls st h r e => by
      obtain ⟨_, e⟩ := gL_of e
      obtain ⟨_, _, e⟩ := gT_of e
      obtain ⟨_, _, e⟩ := gI_of e
      obtain ⟨_, _, e⟩ := gI_of e
      cases e)
  | n + 1 => by
    obtain ih2 := X6_firstRowOf_k n
    exact X6_firstRowOf_v2 ih2
theorem X6_firstRowOf_n0 {G G' : (Nat → Int32 → Int32 → PH → Option Rs)} (hg2 : ∀ a0 a1 a2 a3, Mo ((G) a0 a1 a2 a3) ((G') a0 a1 a2 a3)) (t : Nat) (x1 : Int32) (h : PH) : Mo (X6_firstRowOf_g0 G t x1 h) (X6_firstRowOf_g0 G' t x1 h) := X6_firstRowOf_m0 hg2 t x1 h
theorem X6_firstRowOf_n2 {G G' : (Nat → Int32 → Int32 → PH → Option Rs)} (hg2 : ∀ a0 a1 a2 a3, Mo ((G) a0 a1 a2 a3) ((G') a0 a1 a2 a3)) (t : Nat) (x1 : Int32) (x2 : Int32) (h : PH) : Mo (X6_firstRowOf_g2 G t x1 x2 h) (X6_firstRowOf_g2 G' t x1 x2 h) := X6_firstRowOf_m2 hg2 t x1 x2 h
theorem X6_firstRowOf_fm : ∀ n, (∀ a0 a1 a2 a3, Mo ((X6_firstRowOf_fam n) a0 a1 a2 a3) ((X6_firstRowOf_fam (n + 1)) a0 a1 a2 a3))
  | 0 => fun _ _ _ _ => mo_no
  | n + 1 => by
    obtain ih2 := X6_firstRowOf_fm n
    exact fun a0 a1 a2 a3 => X6_firstRowOf_n2 ih2 a0 a1 a2 a3
noncomputable def X6_firstRowOf (t : Nat) (x1 : Int32) (h : PH) : Option Rs := lim (fun n => X6_firstRowOf_g0 (X6_firstRowOf_fam n) t x1 h)
theorem X6_firstRowOf_iff {t : Nat} {x1 : Int32} {h : PH} {r : Rs} : X6_firstRowOf t x1 h = some r ↔ ∃ n, X6_firstRowOf_g0 (X6_firstRowOf_fam n) t x1 h = some r := lim_iff (fun n => by
  obtain ih2 := X6_firstRowOf_fm n
  exact X6_firstRowOf_n0 ih2 t x1 h)
noncomputable abbrev X6_firstRowOf_F : List PV → PH → Option Rs := FW_T5I (X6_firstRowOf)
set_option maxRecDepth 100000 in
theorem X6_firstRowOf_gd (l : Launch) : Gd l 0 yX6_firstRowOf cX6_firstRowOf 3 (some .int) (X6_firstRowOf_F)   := Gd_of (by decide +kernel) (fun z hzl as h r e => by
  obtain ⟨hst, e⟩ := gL_of e
  obtain ⟨t, q0, e⟩ := gT_of e
  obtain ⟨x1, q1, e⟩ := gI_of e
  rw [st_2 hst q0 q1]
  obtain ⟨n, e⟩ := lim_of e
  obtain hG2 := X6_firstRowOf_k (z := z) n
  exact ⟨show 2 ≤ 3 by decide, X6_firstRowOf_s0 hG2 _ _ _ _ ((X6_firstRowOf_l0 (X6_firstRowOf_fam n) t x1 h).trans e)⟩)
