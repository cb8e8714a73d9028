abbrev L_law_72_x (z : CZ) : CX := mx RL cL_law 4 803 (some .boolean) "law" z
noncomputable def L_law_72_b0 (L : Nat) (xs : Nat → Int32) (c_X11_init : Nat → PH → Option Rs) (c_X12_init : Nat → PH → Option Rs) (k18 : Kn) : Kn := (a_new 10 10 (a_dup (a_vV 10 0 (FW_T10 c_X11_init) (a_as 1 (a_new 11 51 (a_dup (a_vV 11 0 (FW_T11 c_X12_init) (a_as 2 (a_ic 0 (a_is 3 k18))))))))))
set_option maxRecDepth 100000 in
theorem L_law_72_s0 {L : Nat} {xs : Nat → Int32} {z : CZ} (hX : XS (L_law_72_x z) L xs) {k18 : Kn} (hk18 : SK (L_law_72_x z) 18 k18) : SK (L_law_72_x z) 0 (L_law_72_b0 L xs X11_init X12_init k18) := (s_new (pc := 0) ko_10 rfl kd_10 w_101 w_102 w_79 dL_law_0 (s_dup (pc := 3) dL_law_3 (s_vV (pc := 4) (run_init (X11_init_gd _) (show 2 < 803 by decide) cy_X11_init w_104 rfl w_103 dL_law_4) (s_astoren (pc := 7) dL_law_7 rfl (show 1 < 4 by decide) (s_new (pc := 8) ko_11 rfl kd_11 w_1289 w_1290 w_90 dL_law_8 (s_dup (pc := 11) dL_law_11 (s_vV (pc := 12) (run_init (X12_init_gd _) (show 0 < 803 by decide) cy_X12_init w_1292 rfl w_1291 dL_law_12) (s_astoren (pc := 15) dL_law_15 rfl (show 2 < 4 by decide) (s_iconst (pc := 16) dL_law_16 c_ic_0 (s_istoren (pc := 17) dL_law_17 rfl (show 3 < 4 by decide) hk18))))))))))
noncomputable def L_law_72_b18 (L : Nat) (xs : Nat → Int32) (c_X11_place : Nat → PH → Option Rs) (c_X12_place : Nat → PH → Option Rs) (c_X11_way : Nat → Int32 → Int32 → Int32 → Int32 → PH → Option Rs) (c_X12_way : Nat → Int32 → Int32 → Int32 → Int32 → PH → Option Rs) (c_X11_wayTold : Nat → Int32 → Int32 → PH → Option Rs) (c_X12_wayTold : Nat → Int32 → Int32 → PH → Option Rs) (c_X11_goal : Nat → Int32 → Int32 → PH → Option Rs) (c_X12_goal : Nat → Int32 → Int32 → PH → Option Rs) (c_X11_goalTold : Nat → Int32 → Int32 → PH → Option Rs) (c_X12_goalTold : Nat → Int32 → Int32 → PH → Option Rs) (c_X11_hours : Nat → Int32 → PH → Option Rs) (c_X12_hours : Nat → Int32 → PH → Option Rs) (c_X11_sign : Nat → Int32 → Int32 → Int32 → PH → Option Rs) (c_X12_sign : Nat → Int32 → Int32 → Int32 → PH → Option Rs) (c_X11_told : Nat → Int32 → Int32 → PH → Option Rs) (c_X12_told : Nat → Int32 → Int32 → PH → Option Rs) (c_X11_as : Nat → Int32 → Int32 → PH → Option Rs) (c_X12_as : Nat → Int32 → Int32 → PH → Option Rs) (c_X11_turns : Nat → Int32 → Int32 → PH → Option Rs) (c_X12_turns : Nat → Int32 → Int32 → PH → Option Rs) (c_X11_row : Nat → Int32 → Int32 → Int32 → PH → Option Rs) (c_X12_row : Nat → Int32 → Int32 → Int32 → PH → Option Rs) (c_X11_rowTold : Nat → Int32 → Int32 → Int32 → PH → Option Rs) (c_X12_rowTold : Nat → Int32 → Int32 → Int32 → PH → Option Rs) (c_X11_drop : Nat → Int32 → Int32 → PH → Option Rs) (c_X12_drop : Nat → Int32 → Int32 → PH → Option Rs) (c_X11_aim : Nat → Int32 → Int32 → Int32 → PH → Option Rs) (c_X12_aim : Nat → Int32 → Int32 → Int32 → PH → Option Rs) (c_X11_undo : Nat → PH → Option Rs) (c_X12_undo : Nat → PH → Option Rs) (c_X11_feed : Nat → Int32 → Int32 → Int32 → PH → Option Rs) (c_X12_feed : Nat → Int32 → Int32 → Int32 → PH → Option Rs) (c_X11_trim : Nat → Int32 → PH → Option Rs) (c_X12_trim : Nat → Int32 → PH → Option Rs) (c_X11_text : Nat → PH → Option Rs) (c_X12_text : Nat → PH → Option Rs) (c_X11_textTold : Nat → Int32 → Int32 → PH → Option Rs) (c_X12_textTold : Nat → Int32 → Int32 → PH → Option Rs) (c_X11_why : Nat → Int32 → PH → Option Rs) (c_X12_why : Nat → Int32 → PH → Option Rs) (c_X11_walk : Nat → Int32 → Int32 → Int32 → Int32 → PH → Option Rs) (c_X12_walk : Nat → Int32 → Int32 → Int32 → Int32 → PH → Option Rs) (c_X11_via : Nat → Int32 → Int32 → Int32 → Int32 → PH → Option Rs) (c_X12_via : Nat → Int32 → Int32 → Int32 → Int32 → PH → Option Rs) (c_X11_far : Nat → Int32 → Int32 → Int32 → PH → Option Rs) (c_X12_far : Nat → Int32 → Int32 → Int32 → PH → Option Rs) (c_X11_next : Nat → Int32 → Int32 → Int32 → PH → Option Rs) (c_X12_next : Nat → Int32 → Int32 → Int32 → PH → Option Rs) (c_X11_breaches : Nat → Int32 → PH → Option Rs) (c_X12_breaches : Nat → Int32 → PH → Option Rs) (c_X11_breach : Nat → Int32 → Int32 → PH → Option Rs) (c_X12_breach : Nat → Int32 → Int32 → PH → Option Rs) (c_X11_needs : Nat → Int32 → Int32 → PH → Option Rs) (c_X12_needs : Nat → Int32 → Int32 → PH → Option Rs) (c_X11_wrong : Nat → Int32 → PH → Option Rs) (c_X12_wrong : Nat → Int32 → PH → Option Rs) (c_X11_mend : Nat → Int32 → PH → Option Rs) (c_X12_mend : Nat → Int32 → PH → Option Rs) (c_X11_choose : Nat → Int32 → PH → Option Rs) (c_X12_choose : Nat → Int32 → PH → Option Rs) (c_X11_clear : Nat → PH → Option Rs) (c_X12_clear : Nat → PH → Option Rs) (c_X11_fewest : Nat → Int32 → Int32 → PH → Option Rs) (c_X12_fewest : Nat → Int32 → Int32 → PH → Option Rs) (c_X11_seed : Nat → Int32 → PH → Option Rs) (c_X12_seed : Nat → Int32 → PH → Option Rs) (c_X11_strangers : Nat → Int32 → PH → Option Rs) (c_X12_strangers : Nat → Int32 → PH → Option Rs) (c_X11_led : Nat → PH → Option Rs) (c_X12_led : Nat → PH → Option Rs) (c_X11_sheet : Nat → Int32 → Int32 → Int32 → PH → Option Rs) (c_X12_sheet : Nat → Int32 → Int32 → Int32 → PH → Option Rs) (c_X11_mark : Nat → Int32 → Int32 → Int32 → PH → Option Rs) (c_X12_mark : Nat → Int32 → Int32 → Int32 → PH → Option Rs) (c_X11_fill : Nat → Int32 → Int32 → PH → Option Rs) (c_X12_fill : Nat → Int32 → Int32 → PH → Option Rs) (c_X11_copy : Nat → Int32 → Int32 → Int32 → Int32 → Int32 → PH → Option Rs) (c_X12_copy : Nat → Int32 → Int32 → Int32 → Int32 → Int32 → PH → Option Rs) (c_X11_lay : Nat → Int32 → Int32 → Int32 → PH → Option Rs) (c_X12_lay : Nat → Int32 → Int32 → Int32 → PH → Option Rs) (c_X11_ask : Nat → Int32 → Int32 → PH → Option Rs) (c_X12_ask : Nat → Int32 → Int32 → PH → Option Rs) (c_X11_item : Nat → Int32 → Int32 → PH → Option Rs) (c_X12_item : Nat → Int32 → Int32 → PH → Option Rs) (c_X11_rest : Nat → Int32 → Int32 → PH → Option Rs) (c_X12_rest : Nat → Int32 → Int32 → PH → Option Rs) (c_X11_tell : Nat → Int32 → PH → Option Rs) (c_X12_tell : Nat → Int32 → PH → Option Rs) (c_X11_check : Nat → Int32 → PH → Option Rs) (c_X12_check : Nat → Int32 → PH → Option Rs) (c_X11_keep : Nat → PH → Option Rs) (c_X12_keep : Nat → PH → Option Rs) (c_X11_back : Nat → PH → Option Rs) (c_X12_back : Nat → PH → Option Rs) (c_X11_count : Nat → Int32 → PH → Option Rs) (c_X12_count : Nat → Int32 → PH → Option Rs) (k362 k1807 : Kn) : Kn := (a_il 3 (a_al 0 (a_scL L (a_ic 6 (a_b (fun a b => a - b) (a_gt (a_ic 1 a_zr) (a_al 0 (a_il 3 (a_scB L xs (a_ic 63 (a_b (fun a b => a &&& b) (a_sw [(0, (a_al 1 (a_vI 10 0 (FW_T10 c_X11_place) (a_al 2 (a_vI 11 0 (FW_T11 c_X12_place) (a_eq k1807 (a_ic 0 a_zr))))))), (1, (a_al 1 (a_al 0 (a_il 3 (a_ic 1 (a_b (fun a b => a + b) (a_scB L xs (a_al 0 (a_il 3 (a_ic 2 (a_b (fun a b => a + b) (a_scB L xs (a_al 0 (a_il 3 (a_ic 3 (a_b (fun a b => a + b) (a_scB L xs (a_al 0 (a_il 3 (a_ic 4 (a_b (fun a b => a + b) (a_scB L xs (a_vI 10 4 (FW_T10IIII c_X11_way) (a_al 2 (a_al 0 (a_il 3 (a_ic 1 (a_b (fun a b => a + b) (a_scB L xs (a_al 0 (a_il 3 (a_ic 2 (a_b (fun a b => a + b) (a_scB L xs (a_al 0 (a_il 3 (a_ic 3 (a_b (fun a b => a + b) (a_scB L xs (a_al 0 (a_il 3 (a_ic 4 (a_b (fun a b => a + b) (a_scB L xs (a_vI 11 4 (FW_T11IIII c_X12_way) (a_eq k1807 (a_ic 0 a_zr))))))))))))))))))))))))))))))))))))))))))))))), (2, (a_al 1 (a_al 0 (a_il 3 (a_ic 1 (a_b (fun a b => a + b) (a_scB L xs (a_al 0 (a_il 3 (a_ic 2 (a_b (fun a b => a + b) (a_scB L xs (a_vI 10 2 (FW_T10II c_X11_wayTold) (a_al 2 (a_al 0 (a_il 3 (a_ic 1 (a_b (fun a b => a + b) (a_scB L xs (a_al 0 (a_il 3 (a_ic 2 (a_b (fun a b => a + b) (a_scB L xs (a_vI 11 2 (FW_T11II c_X12_wayTold) (a_eq k1807 (a_ic 0 a_zr))))))))))))))))))))))))))), (3, (a_al 1 (a_al 0 (a_il 3 (a_ic 1 (a_b (fun a b => a + b) (a_scB L xs (a_al 0 (a_il 3 (a_ic 2 (a_b (fun a b => a + b) (a_scB L xs (a_z (a_ic 0 k362) (a_ic 1 k362)))))))))))))), (4, (a_al 1 (a_al 0 (a_il 3 (a_ic 1 (a_b (fun a b => a + b) (a_scB L xs (a_al 0 (a_il 3 (a_ic 2 (a_b (fun a b => a + b) (a_scB L xs (a_vI 10 2 (FW_T10II c_X11_goal) (a_al 2 (a_al 0 (a_il 3 (a_ic 1 (a_b (fun a b => a + b) (a_scB L xs (a_al 0 (a_il 3 (a_ic 2 (a_b (fun a b => a + b) (a_scB L xs (a_vI 11 2 (FW_T11II c_X12_goal) (a_eq k1807 (a_ic 0 a_zr))))))))))))))))))))))))))), (5, (a_al 1 (a_al 0 (a_il 3 (a_ic 1 (a_b (fun a b => a + b) (a_scB L xs (a_al 0 (a_il 3 (a_ic 2 (a_b (fun a b => a + b) (a_scB L xs (a_vI 10 2 (FW_T10II c_X11_goalTold) (a_al 2 (a_al 0 (a_il 3 (a_ic 1 (a_b (fun a b => a + b) (a_scB L xs (a_al 0 (a_il 3 (a_ic 2 (a_b (fun a b => a + b) (a_scB L xs (a_vI 11 2 (FW_T11II c_X12_goalTold) (a_eq k1807 (a_ic 0 a_zr))))))))))))))))))))))))))), (6, (a_al 1 (a_al 0 (a_il 3 (a_ic 1 (a_b (fun a b => a + b) (a_scB L xs (a_vI 10 1 (FW_T10I c_X11_hours) (a_al 2 (a_al 0 (a_il 3 (a_ic 1 (a_b (fun a b => a + b) (a_scB L xs (a_vI 11 1 (FW_T11I c_X12_hours) (a_eq k1807 (a_ic 0 a_zr))))))))))))))))), (7, (a_al 1 (a_al 0 (a_il 3 (a_ic 1 (a_b (fun a b => a + b) (a_scB L xs (a_al 0 (a_il 3 (a_ic 2 (a_b (fun a b => a + b) (a_scB L xs (a_al 0 (a_il 3 (a_ic 3 (a_b (fun a b => a + b) (a_scB L xs (a_vI 10 3 (FW_T10III c_X11_sign) (a_al 2 (a_al 0 (a_il 3 (a_ic 1 (a_b (fun a b => a + b) (a_scB L xs (a_al 0 (a_il 3 (a_ic 2 (a_b (fun a b => a + b) (a_scB L xs (a_al 0 (a_il 3 (a_ic 3 (a_b (fun a b => a + b) (a_scB L xs (a_vI 11 3 (FW_T11III c_X12_sign) (a_eq k1807 (a_ic 0 a_zr))))))))))))))))))))))))))))))))))))), (8, (a_al 1 (a_al 0 (a_il 3 (a_ic 1 (a_b (fun a b => a + b) (a_scB L xs (a_al 0 (a_il 3 (a_ic 2 (a_b (fun a b => a + b) (a_scB L xs (a_vI 10 2 (FW_T10II c_X11_told) (a_al 2 (a_al 0 (a_il 3 (a_ic 1 (a_b (fun a b => a + b) (a_scB L xs (a_al 0 (a_il 3 (a_ic 2 (a_b (fun a b => a + b) (a_scB L xs (a_vI 11 2 (FW_T11II c_X12_told) (a_eq k1807 (a_ic 0 a_zr))))))))))))))))))))))))))), (9, (a_al 1 (a_al 0 (a_il 3 (a_ic 1 (a_b (fun a b => a + b) (a_scB L xs (a_al 0 (a_il 3 (a_ic 2 (a_b (fun a b => a + b) (a_scB L xs (a_vI 10 2 (FW_T10II c_X11_as) (a_al 2 (a_al 0 (a_il 3 (a_ic 1 (a_b (fun a b => a + b) (a_scB L xs (a_al 0 (a_il 3 (a_ic 2 (a_b (fun a b => a + b) (a_scB L xs (a_vI 11 2 (FW_T11II c_X12_as) (a_eq k1807 (a_ic 0 a_zr))))))))))))))))))))))))))), (10, (a_al 1 (a_al 0 (a_il 3 (a_ic 1 (a_b (fun a b => a + b) (a_scB L xs (a_al 0 (a_il 3 (a_ic 2 (a_b (fun a b => a + b) (a_scB L xs (a_vI 10 2 (FW_T10II c_X11_turns) (a_al 2 (a_al 0 (a_il 3 (a_ic 1 (a_b (fun a b => a + b) (a_scB L xs (a_al 0 (a_il 3 (a_ic 2 (a_b (fun a b => a + b) (a_scB L xs (a_vI 11 2 (FW_T11II c_X12_turns) (a_eq k1807 (a_ic 0 a_zr))))))))))))))))))))))))))), (11, (a_al 1 (a_al 0 (a_il 3 (a_ic 1 (a_b (fun a b => a + b) (a_scB L xs (a_al 0 (a_il 3 (a_ic 2 (a_b (fun a b => a + b) (a_scB L xs (a_al 0 (a_il 3 (a_ic 3 (a_b (fun a b => a + b) (a_scB L xs (a_vI 10 3 (FW_T10III c_X11_row) (a_al 2 (a_al 0 (a_il 3 (a_ic 1 (a_b (fun a b => a + b) (a_scB L xs (a_al 0 (a_il 3 (a_ic 2 (a_b (fun a b => a + b) (a_scB L xs (a_al 0 (a_il 3 (a_ic 3 (a_b (fun a b => a + b) (a_scB L xs (a_vI 11 3 (FW_T11III c_X12_row) (a_eq k1807 (a_ic 0 a_zr))))))))))))))))))))))))))))))))))))), (12, (a_al 1 (a_al 0 (a_il 3 (a_ic 1 (a_b (fun a b => a + b) (a_scB L xs (a_al 0 (a_il 3 (a_ic 2 (a_b (fun a b => a + b) (a_scB L xs (a_al 0 (a_il 3 (a_ic 3 (a_b (fun a b => a + b) (a_scB L xs (a_vI 10 3 (FW_T10III c_X11_rowTold) (a_al 2 (a_al 0 (a_il 3 (a_ic 1 (a_b (fun a b => a + b) (a_scB L xs (a_al 0 (a_il 3 (a_ic 2 (a_b (fun a b => a + b) (a_scB L xs (a_al 0 (a_il 3 (a_ic 3 (a_b (fun a b => a + b) (a_scB L xs (a_vI 11 3 (FW_T11III c_X12_rowTold) (a_eq k1807 (a_ic 0 a_zr))))))))))))))))))))))))))))))))))))), (13, (a_al 1 (a_al 0 (a_il 3 (a_ic 1 (a_b (fun a b => a + b) (a_scB L xs (a_al 0 (a_il 3 (a_ic 2 (a_b (fun a b => a + b) (a_scB L xs (a_vI 10 2 (FW_T10II c_X11_drop) (a_al 2 (a_al 0 (a_il 3 (a_ic 1 (a_b (fun a b => a + b) (a_scB L xs (a_al 0 (a_il 3 (a_ic 2 (a_b (fun a b => a + b) (a_scB L xs (a_vI 11 2 (FW_T11II c_X12_drop) (a_eq k1807 (a_ic 0 a_zr))))))))))))))))))))))))))), (14, (a_al 1 (a_al 0 (a_il 3 (a_ic 1 (a_b (fun a b => a + b) (a_scB L xs (a_al 0 (a_il 3 (a_ic 2 (a_b (fun a b => a + b) (a_scB L xs (a_al 0 (a_il 3 (a_ic 3 (a_b (fun a b => a + b) (a_scB L xs (a_vI 10 3 (FW_T10III c_X11_aim) (a_al 2 (a_al 0 (a_il 3 (a_ic 1 (a_b (fun a b => a + b) (a_scB L xs (a_al 0 (a_il 3 (a_ic 2 (a_b (fun a b => a + b) (a_scB L xs (a_al 0 (a_il 3 (a_ic 3 (a_b (fun a b => a + b) (a_scB L xs (a_vI 11 3 (FW_T11III c_X12_aim) (a_eq k1807 (a_ic 0 a_zr))))))))))))))))))))))))))))))))))))), (15, (a_al 1 (a_vI 10 0 (FW_T10 c_X11_undo) (a_al 2 (a_vI 11 0 (FW_T11 c_X12_undo) (a_eq k1807 (a_ic 0 a_zr))))))), (16, (a_al 1 (a_al 0 (a_il 3 (a_ic 1 (a_b (fun a b => a + b) (a_scB L xs (a_al 0 (a_il 3 (a_ic 2 (a_b (fun a b => a + b) (a_scB L xs (a_al 0 (a_il 3 (a_ic 3 (a_b (fun a b => a + b) (a_scB L xs (a_vI 10 3 (FW_T10III c_X11_feed) (a_al 2 (a_al 0 (a_il 3 (a_ic 1 (a_b (fun a b => a + b) (a_scB L xs (a_al 0 (a_il 3 (a_ic 2 (a_b (fun a b => a + b) (a_scB L xs (a_al 0 (a_il 3 (a_ic 3 (a_b (fun a b => a + b) (a_scB L xs (a_vI 11 3 (FW_T11III c_X12_feed) (a_eq k1807 (a_ic 0 a_zr))))))))))))))))))))))))))))))))))))), (17, (a_al 1 (a_al 0 (a_il 3 (a_ic 1 (a_b (fun a b => a + b) (a_scB L xs (a_vI 10 1 (FW_T10I c_X11_trim) (a_al 2 (a_al 0 (a_il 3 (a_ic 1 (a_b (fun a b => a + b) (a_scB L xs (a_vI 11 1 (FW_T11I c_X12_trim) (a_eq k1807 (a_ic 0 a_zr))))))))))))))))), (18, (a_al 1 (a_vI 10 0 (FW_T10 c_X11_text) (a_al 2 (a_vI 11 0 (FW_T11 c_X12_text) (a_eq k1807 (a_ic 0 a_zr))))))), (19, (a_al 1 (a_al 0 (a_il 3 (a_ic 1 (a_b (fun a b => a + b) (a_scB L xs (a_al 0 (a_il 3 (a_ic 2 (a_b (fun a b => a + b) (a_scB L xs (a_vI 10 2 (FW_T10II c_X11_textTold) (a_al 2 (a_al 0 (a_il 3 (a_ic 1 (a_b (fun a b => a + b) (a_scB L xs (a_al 0 (a_il 3 (a_ic 2 (a_b (fun a b => a + b) (a_scB L xs (a_vI 11 2 (FW_T11II c_X12_textTold) (a_eq k1807 (a_ic 0 a_zr))))))))))))))))))))))))))), (20, (a_al 1 (a_al 0 (a_il 3 (a_ic 1 (a_b (fun a b => a + b) (a_scB L xs (a_vI 10 1 (FW_T10I c_X11_why) (a_al 2 (a_al 0 (a_il 3 (a_ic 1 (a_b (fun a b => a + b) (a_scB L xs (a_vI 11 1 (FW_T11I c_X12_why) (a_eq k1807 (a_ic 0 a_zr))))))))))))))))), (21, (a_al 1 (a_al 0 (a_il 3 (a_ic 1 (a_b (fun a b => a + b) (a_scB L xs (a_al 0 (a_il 3 (a_ic 2 (a_b (fun a b => a + b) (a_scB L xs (a_al 0 (a_il 3 (a_ic 3 (a_b (fun a b => a + b) (a_scB L xs (a_al 0 (a_il 3 (a_ic 4 (a_b (fun a b => a + b) (a_scB L xs (a_vI 10 4 (FW_T10IIII c_X11_walk) (a_al 2 (a_al 0 (a_il 3 (a_ic 1 (a_b (fun a b => a + b) (a_scB L xs (a_al 0 (a_il 3 (a_ic 2 (a_b (fun a b => a + b) (a_scB L xs (a_al 0 (a_il 3 (a_ic 3 (a_b (fun a b => a + b) (a_scB L xs (a_al 0 (a_il 3 (a_ic 4 (a_b (fun a b => a + b) (a_scB L xs (a_vI 11 4 (FW_T11IIII c_X12_walk) (a_eq k1807 (a_ic 0 a_zr))))))))))))))))))))))))))))))))))))))))))))))), (22, (a_al 1 (a_al 0 (a_il 3 (a_ic 1 (a_b (fun a b => a + b) (a_scB L xs (a_al 0 (a_il 3 (a_ic 2 (a_b (fun a b => a + b) (a_scB L xs (a_al 0 (a_il 3 (a_ic 3 (a_b (fun a b => a + b) (a_scB L xs (a_al 0 (a_il 3 (a_ic 4 (a_b (fun a b => a + b) (a_scB L xs (a_vI 10 4 (FW_T10IIII c_X11_via) (a_al 2 (a_al 0 (a_il 3 (a_ic 1 (a_b (fun a b => a + b) (a_scB L xs (a_al 0 (a_il 3 (a_ic 2 (a_b (fun a b => a + b) (a_scB L xs (a_al 0 (a_il 3 (a_ic 3 (a_b (fun a b => a + b) (a_scB L xs (a_al 0 (a_il 3 (a_ic 4 (a_b (fun a b => a + b) (a_scB L xs (a_vI 11 4 (FW_T11IIII c_X12_via) (a_eq k1807 (a_ic 0 a_zr))))))))))))))))))))))))))))))))))))))))))))))), (23, (a_al 1 (a_al 0 (a_il 3 (a_ic 1 (a_b (fun a b => a + b) (a_scB L xs (a_al 0 (a_il 3 (a_ic 2 (a_b (fun a b => a + b) (a_scB L xs (a_al 0 (a_il 3 (a_ic 3 (a_b (fun a b => a + b) (a_scB L xs (a_vI 10 3 (FW_T10III c_X11_far) (a_al 2 (a_al 0 (a_il 3 (a_ic 1 (a_b (fun a b => a + b) (a_scB L xs (a_al 0 (a_il 3 (a_ic 2 (a_b (fun a b => a + b) (a_scB L xs (a_al 0 (a_il 3 (a_ic 3 (a_b (fun a b => a + b) (a_scB L xs (a_vI 11 3 (FW_T11III c_X12_far) (a_eq k1807 (a_ic 0 a_zr))))))))))))))))))))))))))))))))))))), (24, (a_al 1 (a_al 0 (a_il 3 (a_ic 1 (a_b (fun a b => a + b) (a_scB L xs (a_al 0 (a_il 3 (a_ic 2 (a_b (fun a b => a + b) (a_scB L xs (a_al 0 (a_il 3 (a_ic 3 (a_b (fun a b => a + b) (a_scB L xs (a_vI 10 3 (FW_T10III c_X11_next) (a_al 2 (a_al 0 (a_il 3 (a_ic 1 (a_b (fun a b => a + b) (a_scB L xs (a_al 0 (a_il 3 (a_ic 2 (a_b (fun a b => a + b) (a_scB L xs (a_al 0 (a_il 3 (a_ic 3 (a_b (fun a b => a + b) (a_scB L xs (a_vI 11 3 (FW_T11III c_X12_next) (a_eq k1807 (a_ic 0 a_zr))))))))))))))))))))))))))))))))))))), (25, (a_al 1 (a_al 0 (a_il 3 (a_ic 1 (a_b (fun a b => a + b) (a_scB L xs (a_vI 10 1 (FW_T10I c_X11_breaches) (a_al 2 (a_al 0 (a_il 3 (a_ic 1 (a_b (fun a b => a + b) (a_scB L xs (a_vI 11 1 (FW_T11I c_X12_breaches) (a_eq k1807 (a_ic 0 a_zr))))))))))))))))), (26, (a_al 1 (a_al 0 (a_il 3 (a_ic 1 (a_b (fun a b => a + b) (a_scB L xs (a_al 0 (a_il 3 (a_ic 2 (a_b (fun a b => a + b) (a_scB L xs (a_vI 10 2 (FW_T10II c_X11_breach) (a_al 2 (a_al 0 (a_il 3 (a_ic 1 (a_b (fun a b => a + b) (a_scB L xs (a_al 0 (a_il 3 (a_ic 2 (a_b (fun a b => a + b) (a_scB L xs (a_vI 11 2 (FW_T11II c_X12_breach) (a_eq k1807 (a_ic 0 a_zr))))))))))))))))))))))))))), (27, (a_al 1 (a_al 0 (a_il 3 (a_ic 1 (a_b (fun a b => a + b) (a_scB L xs (a_al 0 (a_il 3 (a_ic 2 (a_b (fun a b => a + b) (a_scB L xs (a_vI 10 2 (FW_T10II c_X11_needs) (a_al 2 (a_al 0 (a_il 3 (a_ic 1 (a_b (fun a b => a + b) (a_scB L xs (a_al 0 (a_il 3 (a_ic 2 (a_b (fun a b => a + b) (a_scB L xs (a_vI 11 2 (FW_T11II c_X12_needs) (a_eq k1807 (a_ic 0 a_zr))))))))))))))))))))))))))), (28, (a_al 1 (a_al 0 (a_il 3 (a_ic 1 (a_b (fun a b => a + b) (a_scB L xs (a_vI 10 1 (FW_T10I c_X11_wrong) (a_al 2 (a_al 0 (a_il 3 (a_ic 1 (a_b (fun a b => a + b) (a_scB L xs (a_vI 11 1 (FW_T11I c_X12_wrong) (a_eq k1807 (a_ic 0 a_zr))))))))))))))))), (29, (a_al 1 (a_al 0 (a_il 3 (a_ic 1 (a_b (fun a b => a + b) (a_scB L xs (a_vI 10 1 (FW_T10I c_X11_mend) (a_al 2 (a_al 0 (a_il 3 (a_ic 1 (a_b (fun a b => a + b) (a_scB L xs (a_vI 11 1 (FW_T11I c_X12_mend) (a_eq k1807 (a_ic 0 a_zr))))))))))))))))), (30, (a_al 1 (a_al 0 (a_il 3 (a_ic 1 (a_b (fun a b => a + b) (a_scB L xs (a_vI 10 1 (FW_T10I c_X11_choose) (a_al 2 (a_al 0 (a_il 3 (a_ic 1 (a_b (fun a b => a + b) (a_scB L xs (a_vI 11 1 (FW_T11I c_X12_choose) (a_eq k1807 (a_ic 0 a_zr))))))))))))))))), (31, (a_al 1 (a_vI 10 0 (FW_T10 c_X11_clear) (a_al 2 (a_vI 11 0 (FW_T11 c_X12_clear) (a_eq k1807 (a_ic 0 a_zr))))))), (32, (a_al 1 (a_al 0 (a_il 3 (a_ic 1 (a_b (fun a b => a + b) (a_scB L xs (a_al 0 (a_il 3 (a_ic 2 (a_b (fun a b => a + b) (a_scB L xs (a_vI 10 2 (FW_T10II c_X11_fewest) (a_al 2 (a_al 0 (a_il 3 (a_ic 1 (a_b (fun a b => a + b) (a_scB L xs (a_al 0 (a_il 3 (a_ic 2 (a_b (fun a b => a + b) (a_scB L xs (a_vI 11 2 (FW_T11II c_X12_fewest) (a_eq k1807 (a_ic 0 a_zr))))))))))))))))))))))))))), (33, (a_al 1 (a_al 0 (a_il 3 (a_ic 1 (a_b (fun a b => a + b) (a_scB L xs (a_vI 10 1 (FW_T10I c_X11_seed) (a_al 2 (a_al 0 (a_il 3 (a_ic 1 (a_b (fun a b => a + b) (a_scB L xs (a_vI 11 1 (FW_T11I c_X12_seed) (a_eq k1807 (a_ic 0 a_zr))))))))))))))))), (34, (a_al 1 (a_al 0 (a_il 3 (a_ic 1 (a_b (fun a b => a + b) (a_scB L xs (a_vI 10 1 (FW_T10I c_X11_strangers) (a_al 2 (a_al 0 (a_il 3 (a_ic 1 (a_b (fun a b => a + b) (a_scB L xs (a_vI 11 1 (FW_T11I c_X12_strangers) (a_eq k1807 (a_ic 0 a_zr))))))))))))))))), (35, (a_al 1 (a_vI 10 0 (FW_T10 c_X11_led) (a_al 2 (a_vI 11 0 (FW_T11 c_X12_led) (a_eq k1807 (a_ic 0 a_zr))))))), (36, (a_al 1 (a_al 0 (a_il 3 (a_ic 1 (a_b (fun a b => a + b) (a_scB L xs (a_al 0 (a_il 3 (a_ic 2 (a_b (fun a b => a + b) (a_scB L xs (a_al 0 (a_il 3 (a_ic 3 (a_b (fun a b => a + b) (a_scB L xs (a_vI 10 3 (FW_T10III c_X11_sheet) (a_al 2 (a_al 0 (a_il 3 (a_ic 1 (a_b (fun a b => a + b) (a_scB L xs (a_al 0 (a_il 3 (a_ic 2 (a_b (fun a b => a + b) (a_scB L xs (a_al 0 (a_il 3 (a_ic 3 (a_b (fun a b => a + b) (a_scB L xs (a_vI 11 3 (FW_T11III c_X12_sheet) (a_eq k1807 (a_ic 0 a_zr))))))))))))))))))))))))))))))))))))), (37, (a_al 1 (a_al 0 (a_il 3 (a_ic 1 (a_b (fun a b => a + b) (a_scB L xs (a_al 0 (a_il 3 (a_ic 2 (a_b (fun a b => a + b) (a_scB L xs (a_al 0 (a_il 3 (a_ic 3 (a_b (fun a b => a + b) (a_scB L xs (a_vI 10 3 (FW_T10III c_X11_mark) (a_al 2 (a_al 0 (a_il 3 (a_ic 1 (a_b (fun a b => a + b) (a_scB L xs (a_al 0 (a_il 3 (a_ic 2 (a_b (fun a b => a + b) (a_scB L xs (a_al 0 (a_il 3 (a_ic 3 (a_b (fun a b => a + b) (a_scB L xs (a_vI 11 3 (FW_T11III c_X12_mark) (a_eq k1807 (a_ic 0 a_zr))))))))))))))))))))))))))))))))))))), (38, (a_al 1 (a_al 0 (a_il 3 (a_ic 1 (a_b (fun a b => a + b) (a_scB L xs (a_al 0 (a_il 3 (a_ic 2 (a_b (fun a b => a + b) (a_scB L xs (a_vI 10 2 (FW_T10II c_X11_fill) (a_al 2 (a_al 0 (a_il 3 (a_ic 1 (a_b (fun a b => a + b) (a_scB L xs (a_al 0 (a_il 3 (a_ic 2 (a_b (fun a b => a + b) (a_scB L xs (a_vI 11 2 (FW_T11II c_X12_fill) (a_eq k1807 (a_ic 0 a_zr))))))))))))))))))))))))))), (39, (a_al 1 (a_al 0 (a_il 3 (a_ic 1 (a_b (fun a b => a + b) (a_scB L xs (a_al 0 (a_il 3 (a_ic 2 (a_b (fun a b => a + b) (a_scB L xs (a_al 0 (a_il 3 (a_ic 3 (a_b (fun a b => a + b) (a_scB L xs (a_al 0 (a_il 3 (a_ic 4 (a_b (fun a b => a + b) (a_scB L xs (a_al 0 (a_il 3 (a_ic 5 (a_b (fun a b => a + b) (a_scB L xs (a_vI 10 5 (FW_T10IIIII c_X11_copy) (a_al 2 (a_al 0 (a_il 3 (a_ic 1 (a_b (fun a b => a + b) (a_scB L xs (a_al 0 (a_il 3 (a_ic 2 (a_b (fun a b => a + b) (a_scB L xs (a_al 0 (a_il 3 (a_ic 3 (a_b (fun a b => a + b) (a_scB L xs (a_al 0 (a_il 3 (a_ic 4 (a_b (fun a b => a + b) (a_scB L xs (a_al 0 (a_il 3 (a_ic 5 (a_b (fun a b => a + b) (a_scB L xs (a_vI 11 5 (FW_T11IIIII c_X12_copy) (a_eq k1807 (a_ic 0 a_zr))))))))))))))))))))))))))))))))))))))))))))))))))))))))), (40, (a_al 1 (a_al 0 (a_il 3 (a_ic 1 (a_b (fun a b => a + b) (a_scB L xs (a_al 0 (a_il 3 (a_ic 2 (a_b (fun a b => a + b) (a_scB L xs (a_al 0 (a_il 3 (a_ic 3 (a_b (fun a b => a + b) (a_scB L xs (a_vI 10 3 (FW_T10III c_X11_lay) (a_al 2 (a_al 0 (a_il 3 (a_ic 1 (a_b (fun a b => a + b) (a_scB L xs (a_al 0 (a_il 3 (a_ic 2 (a_b (fun a b => a + b) (a_scB L xs (a_al 0 (a_il 3 (a_ic 3 (a_b (fun a b => a + b) (a_scB L xs (a_vI 11 3 (FW_T11III c_X12_lay) (a_eq k1807 (a_ic 0 a_zr))))))))))))))))))))))))))))))))))))), (41, (a_al 1 (a_al 0 (a_il 3 (a_ic 1 (a_b (fun a b => a + b) (a_scB L xs (a_al 0 (a_il 3 (a_ic 2 (a_b (fun a b => a + b) (a_scB L xs (a_vI 10 2 (FW_T10II c_X11_ask) (a_al 2 (a_al 0 (a_il 3 (a_ic 1 (a_b (fun a b => a + b) (a_scB L xs (a_al 0 (a_il 3 (a_ic 2 (a_b (fun a b => a + b) (a_scB L xs (a_vI 11 2 (FW_T11II c_X12_ask) (a_eq k1807 (a_ic 0 a_zr))))))))))))))))))))))))))), (42, (a_al 1 (a_al 0 (a_il 3 (a_ic 1 (a_b (fun a b => a + b) (a_scB L xs (a_al 0 (a_il 3 (a_ic 2 (a_b (fun a b => a + b) (a_scB L xs (a_vI 10 2 (FW_T10II c_X11_item) (a_al 2 (a_al 0 (a_il 3 (a_ic 1 (a_b (fun a b => a + b) (a_scB L xs (a_al 0 (a_il 3 (a_ic 2 (a_b (fun a b => a + b) (a_scB L xs (a_vI 11 2 (FW_T11II c_X12_item) (a_eq k1807 (a_ic 0 a_zr))))))))))))))))))))))))))), (43, (a_al 1 (a_al 0 (a_il 3 (a_ic 1 (a_b (fun a b => a + b) (a_scB L xs (a_al 0 (a_il 3 (a_ic 2 (a_b (fun a b => a + b) (a_scB L xs (a_vI 10 2 (FW_T10II c_X11_rest) (a_al 2 (a_al 0 (a_il 3 (a_ic 1 (a_b (fun a b => a + b) (a_scB L xs (a_al 0 (a_il 3 (a_ic 2 (a_b (fun a b => a + b) (a_scB L xs (a_vI 11 2 (FW_T11II c_X12_rest) (a_eq k1807 (a_ic 0 a_zr))))))))))))))))))))))))))), (44, (a_al 1 (a_al 0 (a_il 3 (a_ic 1 (a_b (fun a b => a + b) (a_scB L xs (a_vI 10 1 (FW_T10I c_X11_tell) (a_al 2 (a_al 0 (a_il 3 (a_ic 1 (a_b (fun a b => a + b) (a_scB L xs (a_vI 11 1 (FW_T11I c_X12_tell) (a_eq k1807 (a_ic 0 a_zr))))))))))))))))), (45, (a_al 1 (a_al 0 (a_il 3 (a_ic 1 (a_b (fun a b => a + b) (a_scB L xs (a_vI 10 1 (FW_T10I c_X11_check) (a_al 2 (a_al 0 (a_il 3 (a_ic 1 (a_b (fun a b => a + b) (a_scB L xs (a_vI 11 1 (FW_T11I c_X12_check) (a_eq k1807 (a_ic 0 a_zr))))))))))))))))), (46, (a_al 1 (a_vI 10 0 (FW_T10 c_X11_keep) (a_al 2 (a_vI 11 0 (FW_T11 c_X12_keep) (a_eq k1807 (a_ic 0 a_zr))))))), (47, (a_al 1 (a_vI 10 0 (FW_T10 c_X11_back) (a_al 2 (a_vI 11 0 (FW_T11 c_X12_back) (a_eq k1807 (a_ic 0 a_zr))))))), (48, (a_al 1 (a_al 0 (a_il 3 (a_ic 1 (a_b (fun a b => a + b) (a_scB L xs (a_vI 10 1 (FW_T10I c_X11_count) (a_al 2 (a_al 0 (a_il 3 (a_ic 1 (a_b (fun a b => a + b) (a_scB L xs (a_vI 11 1 (FW_T11I c_X12_count) (a_eq k1807 (a_ic 0 a_zr)))))))))))))))))] k1807))))))))))))
set_option maxRecDepth 100000 in
theorem L_law_72_s18 {L : Nat} {xs : Nat → Int32} {z : CZ} (hX : XS (L_law_72_x z) L xs) {k362 k1807 : Kn} (hk362 : SK (L_law_72_x z) 362 k362) (hk1807 : SK (L_law_72_x z) 1807 k1807) : SK (L_law_72_x z) 18 (L_law_72_b18 L xs X11_place X12_place X11_way X12_way X11_wayTold X12_wayTold X11_goal X12_goal X11_goalTold X12_goalTold X11_hours X12_hours X11_sign X12_sign X11_told X12_told X11_as X12_as X11_turns X12_turns X11_row X12_row X11_rowTold X12_rowTold X11_drop X12_drop X11_aim X12_aim X11_undo X12_undo X11_feed X12_feed X11_trim X12_trim X11_text X12_text X11_textTold X12_textTold X11_why X12_why X11_walk X12_walk X11_via X12_via X11_far X12_far X11_next X12_next X11_breaches X12_breaches X11_breach X12_breach X11_needs X12_needs X11_wrong X12_wrong X11_mend X12_mend X11_choose X12_choose X11_clear X12_clear X11_fewest X12_fewest X11_seed X12_seed X11_strangers X12_strangers X11_led X12_led X11_sheet X12_sheet X11_mark X12_mark X11_fill X12_fill X11_copy X12_copy X11_lay X12_lay X11_ask X12_ask X11_item X12_item X11_rest X12_rest X11_tell X12_tell X11_check X12_check X11_keep X12_keep X11_back X12_back X11_count X12_count k362 k1807) := (s_iloadn (pc := 18) dL_law_18 rfl (s_aloadn (pc := 19) dL_law_19 rfl (s_scL hX (pc := 20) dL_law_20 (s_bipush (pc := 21) dL_law_21 c_bp_6 (s_isub (pc := 23) dL_law_23 (s_cmpgt (pc := 24) dL_law_24 (by decide) (s_iconst (pc := 1813) dL_law_1813 c_ic_1 (s_zr (pc := 1814) rfl dL_law_1814)) (s_aloadn (pc := 27) dL_law_27 rfl (s_iloadn (pc := 28) dL_law_28 rfl (s_scB hX (pc := 29) dL_law_29 (s_bipush (pc := 30) dL_law_30 c_bp_63 (s_iand (pc := 32) dL_law_32 (s_table (pc := 33) dL_law_33 (by decide) (by decide) ⟨c_ti_0, ⟨_, by decide, (s_aloadn (pc := 244) dL_law_244 rfl (s_vI (pc := 245) (run_virtual (X11_place_gd _) (show 0 < 803 by decide) cy_X11_place (by decide) rfl w_536 w_537 w_535 dL_law_245) (s_aloadn (pc := 248) dL_law_248 rfl (s_vI (pc := 249) (run_virtual (X12_place_gd _) (show 0 < 803 by decide) cy_X12_place (by decide) rfl w_1451 w_1452 w_1450 dL_law_249) (s_cmpeq (pc := 252) dL_law_252 (by decide) hk1807 (s_iconst (pc := 255) dL_law_255 c_ic_0 (s_zr (pc := 256) rfl dL_law_256)))))))⟩, ⟨c_ti_1, ⟨_, by decide, (s_aloadn (pc := 257) dL_law_257 rfl (s_aloadn (pc := 258) dL_law_258 rfl (s_iloadn (pc := 259) dL_law_259 rfl (s_iconst (pc := 260) dL_law_260 c_ic_1 (s_iadd (pc := 261) dL_law_261 (s_scB hX (pc := 262) dL_law_262 (s_aloadn (pc := 263) dL_law_263 rfl (s_iloadn (pc := 264) dL_law_264 rfl (s_iconst (pc := 265) dL_law_265 c_ic_2 (s_iadd (pc := 266) dL_law_266 (s_scB hX (pc := 267) dL_law_267 (s_aloadn (pc := 268) dL_law_268 rfl (s_iloadn (pc := 269) dL_law_269 rfl (s_iconst (pc := 270) dL_law_270 c_ic_3 (s_iadd (pc := 271) dL_law_271 (s_scB hX (pc := 272) dL_law_272 (s_aloadn (pc := 273) dL_law_273 rfl (s_iloadn (pc := 274) dL_law_274 rfl (s_iconst (pc := 275) dL_law_275 c_ic_4 (s_iadd (pc := 276) dL_law_276 (s_scB hX (pc := 277) dL_law_277 (s_vI (pc := 278) (run_virtual (X11_way_gd _) (show 2 < 803 by decide) cy_X11_way (by decide) rfl w_541 w_542 w_540 dL_law_278) (s_aloadn (pc := 281) dL_law_281 rfl (s_aloadn (pc := 282) dL_law_282 rfl (s_iloadn (pc := 283) dL_law_283 rfl (s_iconst (pc := 284) dL_law_284 c_ic_1 (s_iadd (pc := 285) dL_law_285 (s_scB hX (pc := 286) dL_law_286 (s_aloadn (pc := 287) dL_law_287 rfl (s_iloadn (pc := 288) dL_law_288 rfl (s_iconst (pc := 289) dL_law_289 c_ic_2 (s_iadd (pc := 290) dL_law_290 (s_scB hX (pc := 291) dL_law_291 (s_aloadn (pc := 292) dL_law_292 rfl (s_iloadn (pc := 293) dL_law_293 rfl (s_iconst (pc := 294) dL_law_294 c_ic_3 (s_iadd (pc := 295) dL_law_295 (s_scB hX (pc := 296) dL_law_296 (s_aloadn (pc := 297) dL_law_297 rfl (s_iloadn (pc := 298) dL_law_298 rfl (s_iconst (pc := 299) dL_law_299 c_ic_4 (s_iadd (pc := 300) dL_law_300 (s_scB hX (pc := 301) dL_law_301 (s_vI (pc := 302) (run_virtual (X12_way_gd _) (show 2 < 803 by decide) cy_X12_way (by decide) rfl w_1456 w_1457 w_1455 dL_law_302) (s_cmpeq (pc := 305) dL_law_305 (by decide) hk1807 (s_iconst (pc := 308) dL_law_308 c_ic_0 (s_zr (pc := 309) rfl dL_law_309)))))))))))))))))))))))))))))))))))))))))))))))⟩, ⟨c_ti_2, ⟨_, by decide, (s_aloadn (pc := 310) dL_law_310 rfl (s_aloadn (pc := 311) dL_law_311 rfl (s_iloadn (pc := 312) dL_law_312 rfl (s_iconst (pc := 313) dL_law_313 c_ic_1 (s_iadd (pc := 314) dL_law_314 (s_scB hX (pc := 315) dL_law_315 (s_aloadn (pc := 316) dL_law_316 rfl (s_iloadn (pc := 317) dL_law_317 rfl (s_iconst (pc := 318) dL_law_318 c_ic_2 (s_iadd (pc := 319) dL_law_319 (s_scB hX (pc := 320) dL_law_320 (s_vI (pc := 321) (run_virtual (X11_wayTold_gd _) (show 3 < 803 by decide) cy_X11_wayTold (by decide) rfl w_570 w_571 w_569 dL_law_321) (s_aloadn (pc := 324) dL_law_324 rfl (s_aloadn (pc := 325) dL_law_325 rfl (s_iloadn (pc := 326) dL_law_326 rfl (s_iconst (pc := 327) dL_law_327 c_ic_1 (s_iadd (pc := 328) dL_law_328 (s_scB hX (pc := 329) dL_law_329 (s_aloadn (pc := 330) dL_law_330 rfl (s_iloadn (pc := 331) dL_law_331 rfl (s_iconst (pc := 332) dL_law_332 c_ic_2 (s_iadd (pc := 333) dL_law_333 (s_scB hX (pc := 334) dL_law_334 (s_vI (pc := 335) (run_virtual (X12_wayTold_gd _) (show 3 < 803 by decide) cy_X12_wayTold (by decide) rfl w_1473 w_1474 w_1472 dL_law_335) (s_cmpeq (pc := 338) dL_law_338 (by decide) hk1807 (s_iconst (pc := 341) dL_law_341 c_ic_0 (s_zr (pc := 342) rfl dL_law_342)))))))))))))))))))))))))))⟩, ⟨c_ti_3, ⟨_, by decide, (s_aloadn (pc := 343) dL_law_343 rfl (s_aloadn (pc := 344) dL_law_344 rfl (s_iloadn (pc := 345) dL_law_345 rfl (s_iconst (pc := 346) dL_law_346 c_ic_1 (s_iadd (pc := 347) dL_law_347 (s_scB hX (pc := 348) dL_law_348 (s_aloadn (pc := 349) dL_law_349 rfl (s_iloadn (pc := 350) dL_law_350 rfl (s_iconst (pc := 351) dL_law_351 c_ic_2 (s_iadd (pc := 352) dL_law_352 (s_scB hX (pc := 353) dL_law_353 (s_ifeq (pc := 354) dL_law_354 (by decide) (s_iconst (pc := 361) dL_law_361 c_ic_0 hk362) (s_iconst (pc := 357) dL_law_357 c_ic_1 (s_goto (pc := 358) dL_law_358 (by decide) hk362))))))))))))))⟩, ⟨c_ti_4, ⟨_, by decide, (s_aloadn (pc := 392) dL_law_392 rfl (s_aloadn (pc := 393) dL_law_393 rfl (s_iloadn (pc := 394) dL_law_394 rfl (s_iconst (pc := 395) dL_law_395 c_ic_1 (s_iadd (pc := 396) dL_law_396 (s_scB hX (pc := 397) dL_law_397 (s_aloadn (pc := 398) dL_law_398 rfl (s_iloadn (pc := 399) dL_law_399 rfl (s_iconst (pc := 400) dL_law_400 c_ic_2 (s_iadd (pc := 401) dL_law_401 (s_scB hX (pc := 402) dL_law_402 (s_vI (pc := 403) (run_virtual (X11_goal_gd _) (show 2 < 803 by decide) cy_X11_goal (by decide) rfl w_597 w_598 w_596 dL_law_403) (s_aloadn (pc := 406) dL_law_406 rfl (s_aloadn (pc := 407) dL_law_407 rfl (s_iloadn (pc := 408) dL_law_408 rfl (s_iconst (pc := 409) dL_law_409 c_ic_1 (s_iadd (pc := 410) dL_law_410 (s_scB hX (pc := 411) dL_law_411 (s_aloadn (pc := 412) dL_law_412 rfl (s_iloadn (pc := 413) dL_law_413 rfl (s_iconst (pc := 414) dL_law_414 c_ic_2 (s_iadd (pc := 415) dL_law_415 (s_scB hX (pc := 416) dL_law_416 (s_vI (pc := 417) (run_virtual (X12_goal_gd _) (show 2 < 803 by decide) cy_X12_goal (by decide) rfl w_1496 w_1497 w_1495 dL_law_417) (s_cmpeq (pc := 420) dL_law_420 (by decide) hk1807 (s_iconst (pc := 423) dL_law_423 c_ic_0 (s_zr (pc := 424) rfl dL_law_424)))))))))))))))))))))))))))⟩, ⟨c_ti_5, ⟨_, by decide, (s_aloadn (pc := 425) dL_law_425 rfl (s_aloadn (pc := 426) dL_law_426 rfl (s_iloadn (pc := 427) dL_law_427 rfl (s_iconst (pc := 428) dL_law_428 c_ic_1 (s_iadd (pc := 429) dL_law_429 (s_scB hX (pc := 430) dL_law_430 (s_aloadn (pc := 431) dL_law_431 rfl (s_iloadn (pc := 432) dL_law_432 rfl (s_iconst (pc := 433) dL_law_433 c_ic_2 (s_iadd (pc := 434) dL_law_434 (s_scB hX (pc := 435) dL_law_435 (s_vI (pc := 436) (run_virtual (X11_goalTold_gd _) (show 2 < 803 by decide) cy_X11_goalTold (by decide) rfl w_601 w_602 w_600 dL_law_436) (s_aloadn (pc := 439) dL_law_439 rfl (s_aloadn (pc := 440) dL_law_440 rfl (s_iloadn (pc := 441) dL_law_441 rfl (s_iconst (pc := 442) dL_law_442 c_ic_1 (s_iadd (pc := 443) dL_law_443 (s_scB hX (pc := 444) dL_law_444 (s_aloadn (pc := 445) dL_law_445 rfl (s_iloadn (pc := 446) dL_law_446 rfl (s_iconst (pc := 447) dL_law_447 c_ic_2 (s_iadd (pc := 448) dL_law_448 (s_scB hX (pc := 449) dL_law_449 (s_vI (pc := 450) (run_virtual (X12_goalTold_gd _) (show 2 < 803 by decide) cy_X12_goalTold (by decide) rfl w_1500 w_1501 w_1499 dL_law_450) (s_cmpeq (pc := 453) dL_law_453 (by decide) hk1807 (s_iconst (pc := 456) dL_law_456 c_ic_0 (s_zr (pc := 457) rfl dL_law_457)))))))))))))))))))))))))))⟩, ⟨c_ti_6, ⟨_, by decide, (s_aloadn (pc := 458) dL_law_458 rfl (s_aloadn (pc := 459) dL_law_459 rfl (s_iloadn (pc := 460) dL_law_460 rfl (s_iconst (pc := 461) dL_law_461 c_ic_1 (s_iadd (pc := 462) dL_law_462 (s_scB hX (pc := 463) dL_law_463 (s_vI (pc := 464) (run_virtual (X11_hours_gd _) (show 0 < 803 by decide) cy_X11_hours (by decide) rfl w_613 w_614 w_612 dL_law_464) (s_aloadn (pc := 467) dL_law_467 rfl (s_aloadn (pc := 468) dL_law_468 rfl (s_iloadn (pc := 469) dL_law_469 rfl (s_iconst (pc := 470) dL_law_470 c_ic_1 (s_iadd (pc := 471) dL_law_471 (s_scB hX (pc := 472) dL_law_472 (s_vI (pc := 473) (run_virtual (X12_hours_gd _) (show 1 < 803 by decide) cy_X12_hours (by decide) rfl w_1517 w_1518 w_1516 dL_law_473) (s_cmpeq (pc := 476) dL_law_476 (by decide) hk1807 (s_iconst (pc := 479) dL_law_479 c_ic_0 (s_zr (pc := 480) rfl dL_law_480)))))))))))))))))⟩, ⟨c_ti_7, ⟨_, by decide, (s_aloadn (pc := 481) dL_law_481 rfl (s_aloadn (pc := 482) dL_law_482 rfl (s_iloadn (pc := 483) dL_law_483 rfl (s_iconst (pc := 484) dL_law_484 c_ic_1 (s_iadd (pc := 485) dL_law_485 (s_scB hX (pc := 486) dL_law_486 (s_aloadn (pc := 487) dL_law_487 rfl (s_iloadn (pc := 488) dL_law_488 rfl (s_iconst (pc := 489) dL_law_489 c_ic_2 (s_iadd (pc := 490) dL_law_490 (s_scB hX (pc := 491) dL_law_491 (s_aloadn (pc := 492) dL_law_492 rfl (s_iloadn (pc := 493) dL_law_493 rfl (s_iconst (pc := 494) dL_law_494 c_ic_3 (s_iadd (pc := 495) dL_law_495 (s_scB hX (pc := 496) dL_law_496 (s_vI (pc := 497) (run_virtual (X11_sign_gd _) (show 2 < 803 by decide) cy_X11_sign (by decide) rfl w_617 w_618 w_616 dL_law_497) (s_aloadn (pc := 500) dL_law_500 rfl (s_aloadn (pc := 501) dL_law_501 rfl (s_iloadn (pc := 502) dL_law_502 rfl (s_iconst (pc := 503) dL_law_503 c_ic_1 (s_iadd (pc := 504) dL_law_504 (s_scB hX (pc := 505) dL_law_505 (s_aloadn (pc := 506) dL_law_506 rfl (s_iloadn (pc := 507) dL_law_507 rfl (s_iconst (pc := 508) dL_law_508 c_ic_2 (s_iadd (pc := 509) dL_law_509 (s_scB hX (pc := 510) dL_law_510 (s_aloadn (pc := 511) dL_law_511 rfl (s_iloadn (pc := 512) dL_law_512 rfl (s_iconst (pc := 513) dL_law_513 c_ic_3 (s_iadd (pc := 514) dL_law_514 (s_scB hX (pc := 515) dL_law_515 (s_vI (pc := 516) (run_virtual (X12_sign_gd _) (show 2 < 803 by decide) cy_X12_sign (by decide) rfl w_1521 w_1522 w_1520 dL_law_516) (s_cmpeq (pc := 519) dL_law_519 (by decide) hk1807 (s_iconst (pc := 522) dL_law_522 c_ic_0 (s_zr (pc := 523) rfl dL_law_523)))))))))))))))))))))))))))))))))))))⟩, ⟨c_ti_8, ⟨_, by decide, (s_aloadn (pc := 524) dL_law_524 rfl (s_aloadn (pc := 525) dL_law_525 rfl (s_iloadn (pc := 526) dL_law_526 rfl (s_iconst (pc := 527) dL_law_527 c_ic_1 (s_iadd (pc := 528) dL_law_528 (s_scB hX (pc := 529) dL_law_529 (s_aloadn (pc := 530) dL_law_530 rfl (s_iloadn (pc := 531) dL_law_531 rfl (s_iconst (pc := 532) dL_law_532 c_ic_2 (s_iadd (pc := 533) dL_law_533 (s_scB hX (pc := 534) dL_law_534 (s_vI (pc := 535) (run_virtual (X11_told_gd _) (show 32 < 803 by decide) cy_X11_told (by decide) rfl w_629 w_630 w_628 dL_law_535) (s_aloadn (pc := 538) dL_law_538 rfl (s_aloadn (pc := 539) dL_law_539 rfl (s_iloadn (pc := 540) dL_law_540 rfl (s_iconst (pc := 541) dL_law_541 c_ic_1 (s_iadd (pc := 542) dL_law_542 (s_scB hX (pc := 543) dL_law_543 (s_aloadn (pc := 544) dL_law_544 rfl (s_iloadn (pc := 545) dL_law_545 rfl (s_iconst (pc := 546) dL_law_546 c_ic_2 (s_iadd (pc := 547) dL_law_547 (s_scB hX (pc := 548) dL_law_548 (s_vI (pc := 549) (run_virtual (X12_told_gd _) (show 3 < 803 by decide) cy_X12_told (by decide) rfl w_1525 w_1526 w_1524 dL_law_549) (s_cmpeq (pc := 552) dL_law_552 (by decide) hk1807 (s_iconst (pc := 555) dL_law_555 c_ic_0 (s_zr (pc := 556) rfl dL_law_556)))))))))))))))))))))))))))⟩, ⟨c_ti_9, ⟨_, by decide, (s_aloadn (pc := 557) dL_law_557 rfl (s_aloadn (pc := 558) dL_law_558 rfl (s_iloadn (pc := 559) dL_law_559 rfl (s_iconst (pc := 560) dL_law_560 c_ic_1 (s_iadd (pc := 561) dL_law_561 (s_scB hX (pc := 562) dL_law_562 (s_aloadn (pc := 563) dL_law_563 rfl (s_iloadn (pc := 564) dL_law_564 rfl (s_iconst (pc := 565) dL_law_565 c_ic_2 (s_iadd (pc := 566) dL_law_566 (s_scB hX (pc := 567) dL_law_567 (s_vI (pc := 568) (run_virtual (X11_as_gd _) (show 2 < 803 by decide) cy_X11_as (by decide) rfl w_658 w_659 w_657 dL_law_568) (s_aloadn (pc := 571) dL_law_571 rfl (s_aloadn (pc := 572) dL_law_572 rfl (s_iloadn (pc := 573) dL_law_573 rfl (s_iconst (pc := 574) dL_law_574 c_ic_1 (s_iadd (pc := 575) dL_law_575 (s_scB hX (pc := 576) dL_law_576 (s_aloadn (pc := 577) dL_law_577 rfl (s_iloadn (pc := 578) dL_law_578 rfl (s_iconst (pc := 579) dL_law_579 c_ic_2 (s_iadd (pc := 580) dL_law_580 (s_scB hX (pc := 581) dL_law_581 (s_vI (pc := 582) (run_virtual (X12_as_gd _) (show 2 < 803 by decide) cy_X12_as (by decide) rfl w_1558 w_1559 w_1557 dL_law_582) (s_cmpeq (pc := 585) dL_law_585 (by decide) hk1807 (s_iconst (pc := 588) dL_law_588 c_ic_0 (s_zr (pc := 589) rfl dL_law_589)))))))))))))))))))))))))))⟩, ⟨c_ti_10, ⟨_, by decide, (s_aloadn (pc := 590) dL_law_590 rfl (s_aloadn (pc := 591) dL_law_591 rfl (s_iloadn (pc := 592) dL_law_592 rfl (s_iconst (pc := 593) dL_law_593 c_ic_1 (s_iadd (pc := 594) dL_law_594 (s_scB hX (pc := 595) dL_law_595 (s_aloadn (pc := 596) dL_law_596 rfl (s_iloadn (pc := 597) dL_law_597 rfl (s_iconst (pc := 598) dL_law_598 c_ic_2 (s_iadd (pc := 599) dL_law_599 (s_scB hX (pc := 600) dL_law_600 (s_vI (pc := 601) (run_virtual (X11_turns_gd _) (show 2 < 803 by decide) cy_X11_turns (by decide) rfl w_669 w_670 w_668 dL_law_601) (s_aloadn (pc := 604) dL_law_604 rfl (s_aloadn (pc := 605) dL_law_605 rfl (s_iloadn (pc := 606) dL_law_606 rfl (s_iconst (pc := 607) dL_law_607 c_ic_1 (s_iadd (pc := 608) dL_law_608 (s_scB hX (pc := 609) dL_law_609 (s_aloadn (pc := 610) dL_law_610 rfl (s_iloadn (pc := 611) dL_law_611 rfl (s_iconst (pc := 612) dL_law_612 c_ic_2 (s_iadd (pc := 613) dL_law_613 (s_scB hX (pc := 614) dL_law_614 (s_vI (pc := 615) (run_virtual (X12_turns_gd _) (show 2 < 803 by decide) cy_X12_turns (by decide) rfl w_1566 w_1567 w_1565 dL_law_615) (s_cmpeq (pc := 618) dL_law_618 (by decide) hk1807 (s_iconst (pc := 621) dL_law_621 c_ic_0 (s_zr (pc := 622) rfl dL_law_622)))))))))))))))))))))))))))⟩, ⟨c_ti_11, ⟨_, by decide, (s_aloadn (pc := 623) dL_law_623 rfl (s_aloadn (pc := 624) dL_law_624 rfl (s_iloadn (pc := 625) dL_law_625 rfl (s_iconst (pc := 626) dL_law_626 c_ic_1 (s_iadd (pc := 627) dL_law_627 (s_scB hX (pc := 628) dL_law_628 (s_aloadn (pc := 629) dL_law_629 rfl (s_iloadn (pc := 630) dL_law_630 rfl (s_iconst (pc := 631) dL_law_631 c_ic_2 (s_iadd (pc := 632) dL_law_632 (s_scB hX (pc := 633) dL_law_633 (s_aloadn (pc := 634) dL_law_634 rfl (s_iloadn (pc := 635) dL_law_635 rfl (s_iconst (pc := 636) dL_law_636 c_ic_3 (s_iadd (pc := 637) dL_law_637 (s_scB hX (pc := 638) dL_law_638 (s_vI (pc := 639) (run_virtual (X11_row_gd _) (show 31 < 803 by decide) cy_X11_row (by decide) rfl w_673 w_674 w_672 dL_law_639) (s_aloadn (pc := 642) dL_law_642 rfl (s_aloadn (pc := 643) dL_law_643 rfl (s_iloadn (pc := 644) dL_law_644 rfl (s_iconst (pc := 645) dL_law_645 c_ic_1 (s_iadd (pc := 646) dL_law_646 (s_scB hX (pc := 647) dL_law_647 (s_aloadn (pc := 648) dL_law_648 rfl (s_iloadn (pc := 649) dL_law_649 rfl (s_iconst (pc := 650) dL_law_650 c_ic_2 (s_iadd (pc := 651) dL_law_651 (s_scB hX (pc := 652) dL_law_652 (s_aloadn (pc := 653) dL_law_653 rfl (s_iloadn (pc := 654) dL_law_654 rfl (s_iconst (pc := 655) dL_law_655 c_ic_3 (s_iadd (pc := 656) dL_law_656 (s_scB hX (pc := 657) dL_law_657 (s_vI (pc := 658) (run_virtual (X12_row_gd _) (show 2 < 803 by decide) cy_X12_row (by decide) rfl w_1574 w_1575 w_1573 dL_law_658) (s_cmpeq (pc := 661) dL_law_661 (by decide) hk1807 (s_iconst (pc := 664) dL_law_664 c_ic_0 (s_zr (pc := 665) rfl dL_law_665)))))))))))))))))))))))))))))))))))))⟩, ⟨c_ti_12, ⟨_, by decide, (s_aloadn (pc := 666) dL_law_666 rfl (s_aloadn (pc := 667) dL_law_667 rfl (s_iloadn (pc := 668) dL_law_668 rfl (s_iconst (pc := 669) dL_law_669 c_ic_1 (s_iadd (pc := 670) dL_law_670 (s_scB hX (pc := 671) dL_law_671 (s_aloadn (pc := 672) dL_law_672 rfl (s_iloadn (pc := 673) dL_law_673 rfl (s_iconst (pc := 674) dL_law_674 c_ic_2 (s_iadd (pc := 675) dL_law_675 (s_scB hX (pc := 676) dL_law_676 (s_aloadn (pc := 677) dL_law_677 rfl (s_iloadn (pc := 678) dL_law_678 rfl (s_iconst (pc := 679) dL_law_679 c_ic_3 (s_iadd (pc := 680) dL_law_680 (s_scB hX (pc := 681) dL_law_681 (s_vI (pc := 682) (run_virtual (X11_rowTold_gd _) (show 2 < 803 by decide) cy_X11_rowTold (by decide) rfl w_688 w_689 w_687 dL_law_682) (s_aloadn (pc := 685) dL_law_685 rfl (s_aloadn (pc := 686) dL_law_686 rfl (s_iloadn (pc := 687) dL_law_687 rfl (s_iconst (pc := 688) dL_law_688 c_ic_1 (s_iadd (pc := 689) dL_law_689 (s_scB hX (pc := 690) dL_law_690 (s_aloadn (pc := 691) dL_law_691 rfl (s_iloadn (pc := 692) dL_law_692 rfl (s_iconst (pc := 693) dL_law_693 c_ic_2 (s_iadd (pc := 694) dL_law_694 (s_scB hX (pc := 695) dL_law_695 (s_aloadn (pc := 696) dL_law_696 rfl (s_iloadn (pc := 697) dL_law_697 rfl (s_iconst (pc := 698) dL_law_698 c_ic_3 (s_iadd (pc := 699) dL_law_699 (s_scB hX (pc := 700) dL_law_700 (s_vI (pc := 701) (run_virtual (X12_rowTold_gd _) (show 2 < 803 by decide) cy_X12_rowTold (by decide) rfl w_1586 w_1587 w_1585 dL_law_701) (s_cmpeq (pc := 704) dL_law_704 (by decide) hk1807 (s_iconst (pc := 707) dL_law_707 c_ic_0 (s_zr (pc := 708) rfl dL_law_708)))))))))))))))))))))))))))))))))))))⟩, ⟨c_ti_13, ⟨_, by decide, (s_aloadn (pc := 709) dL_law_709 rfl (s_aloadn (pc := 710) dL_law_710 rfl (s_iloadn (pc := 711) dL_law_711 rfl (s_iconst (pc := 712) dL_law_712 c_ic_1 (s_iadd (pc := 713) dL_law_713 (s_scB hX (pc := 714) dL_law_714 (s_aloadn (pc := 715) dL_law_715 rfl (s_iloadn (pc := 716) dL_law_716 rfl (s_iconst (pc := 717) dL_law_717 c_ic_2 (s_iadd (pc := 718) dL_law_718 (s_scB hX (pc := 719) dL_law_719 (s_vI (pc := 720) (run_virtual (X11_drop_gd _) (show 3 < 803 by decide) cy_X11_drop (by decide) rfl w_692 w_693 w_691 dL_law_720) (s_aloadn (pc := 723) dL_law_723 rfl (s_aloadn (pc := 724) dL_law_724 rfl (s_iloadn (pc := 725) dL_law_725 rfl (s_iconst (pc := 726) dL_law_726 c_ic_1 (s_iadd (pc := 727) dL_law_727 (s_scB hX (pc := 728) dL_law_728 (s_aloadn (pc := 729) dL_law_729 rfl (s_iloadn (pc := 730) dL_law_730 rfl (s_iconst (pc := 731) dL_law_731 c_ic_2 (s_iadd (pc := 732) dL_law_732 (s_scB hX (pc := 733) dL_law_733 (s_vI (pc := 734) (run_virtual (X12_drop_gd _) (show 2 < 803 by decide) cy_X12_drop (by decide) rfl w_1598 w_1599 w_1597 dL_law_734) (s_cmpeq (pc := 737) dL_law_737 (by decide) hk1807 (s_iconst (pc := 740) dL_law_740 c_ic_0 (s_zr (pc := 741) rfl dL_law_741)))))))))))))))))))))))))))⟩, ⟨c_ti_14, ⟨_, by decide, (s_aloadn (pc := 742) dL_law_742 rfl (s_aloadn (pc := 743) dL_law_743 rfl (s_iloadn (pc := 744) dL_law_744 rfl (s_iconst (pc := 745) dL_law_745 c_ic_1 (s_iadd (pc := 746) dL_law_746 (s_scB hX (pc := 747) dL_law_747 (s_aloadn (pc := 748) dL_law_748 rfl (s_iloadn (pc := 749) dL_law_749 rfl (s_iconst (pc := 750) dL_law_750 c_ic_2 (s_iadd (pc := 751) dL_law_751 (s_scB hX (pc := 752) dL_law_752 (s_aloadn (pc := 753) dL_law_753 rfl (s_iloadn (pc := 754) dL_law_754 rfl (s_iconst (pc := 755) dL_law_755 c_ic_3 (s_iadd (pc := 756) dL_law_756 (s_scB hX (pc := 757) dL_law_757 (s_vI (pc := 758) (run_virtual (X11_aim_gd _) (show 3 < 803 by decide) cy_X11_aim (by decide) rfl w_705 w_706 w_704 dL_law_758) (s_aloadn (pc := 761) dL_law_761 rfl (s_aloadn (pc := 762) dL_law_762 rfl (s_iloadn (pc := 763) dL_law_763 rfl (s_iconst (pc := 764) dL_law_764 c_ic_1 (s_iadd (pc := 765) dL_law_765 (s_scB hX (pc := 766) dL_law_766 (s_aloadn (pc := 767) dL_law_767 rfl (s_iloadn (pc := 768) dL_law_768 rfl (s_iconst (pc := 769) dL_law_769 c_ic_2 (s_iadd (pc := 770) dL_law_770 (s_scB hX (pc := 771) dL_law_771 (s_aloadn (pc := 772) dL_law_772 rfl (s_iloadn (pc := 773) dL_law_773 rfl (s_iconst (pc := 774) dL_law_774 c_ic_3 (s_iadd (pc := 775) dL_law_775 (s_scB hX (pc := 776) dL_law_776 (s_vI (pc := 777) (run_virtual (X12_aim_gd _) (show 2 < 803 by decide) cy_X12_aim (by decide) rfl w_1602 w_1603 w_1601 dL_law_777) (s_cmpeq (pc := 780) dL_law_780 (by decide) hk1807 (s_iconst (pc := 783) dL_law_783 c_ic_0 (s_zr (pc := 784) rfl dL_law_784)))))))))))))))))))))))))))))))))))))⟩, ⟨c_ti_15, ⟨_, by decide, (s_aloadn (pc := 785) dL_law_785 rfl (s_vI (pc := 786) (run_virtual (X11_undo_gd _) (show 2 < 803 by decide) cy_X11_undo (by decide) rfl w_709 w_710 w_708 dL_law_786) (s_aloadn (pc := 789) dL_law_789 rfl (s_vI (pc := 790) (run_virtual (X12_undo_gd _) (show 0 < 803 by decide) cy_X12_undo (by decide) rfl w_1570 w_1571 w_1569 dL_law_790) (s_cmpeq (pc := 793) dL_law_793 (by decide) hk1807 (s_iconst (pc := 796) dL_law_796 c_ic_0 (s_zr (pc := 797) rfl dL_law_797)))))))⟩, ⟨c_ti_16, ⟨_, by decide, (s_aloadn (pc := 798) dL_law_798 rfl (s_aloadn (pc := 799) dL_law_799 rfl (s_iloadn (pc := 800) dL_law_800 rfl (s_iconst (pc := 801) dL_law_801 c_ic_1 (s_iadd (pc := 802) dL_law_802 (s_scB hX (pc := 803) dL_law_803 (s_aloadn (pc := 804) dL_law_804 rfl (s_iloadn (pc := 805) dL_law_805 rfl (s_iconst (pc := 806) dL_law_806 c_ic_2 (s_iadd (pc := 807) dL_law_807 (s_scB hX (pc := 808) dL_law_808 (s_aloadn (pc := 809) dL_law_809 rfl (s_iloadn (pc := 810) dL_law_810 rfl (s_iconst (pc := 811) dL_law_811 c_ic_3 (s_iadd (pc := 812) dL_law_812 (s_scB hX (pc := 813) dL_law_813 (s_vI (pc := 814) (run_virtual (X11_feed_gd _) (show 1 < 803 by decide) cy_X11_feed (by decide) rfl w_718 w_719 w_717 dL_law_814) (s_aloadn (pc := 817) dL_law_817 rfl (s_aloadn (pc := 818) dL_law_818 rfl (s_iloadn (pc := 819) dL_law_819 rfl (s_iconst (pc := 820) dL_law_820 c_ic_1 (s_iadd (pc := 821) dL_law_821 (s_scB hX (pc := 822) dL_law_822 (s_aloadn (pc := 823) dL_law_823 rfl (s_iloadn (pc := 824) dL_law_824 rfl (s_iconst (pc := 825) dL_law_825 c_ic_2 (s_iadd (pc := 826) dL_law_826 (s_scB hX (pc := 827) dL_law_827 (s_aloadn (pc := 828) dL_law_828 rfl (s_iloadn (pc := 829) dL_law_829 rfl (s_iconst (pc := 830) dL_law_830 c_ic_3 (s_iadd (pc := 831) dL_law_831 (s_scB hX (pc := 832) dL_law_832 (s_vI (pc := 833) (run_virtual (X12_feed_gd _) (show 0 < 803 by decide) cy_X12_feed (by decide) rfl w_1606 w_1607 w_1605 dL_law_833) (s_cmpeq (pc := 836) dL_law_836 (by decide) hk1807 (s_iconst (pc := 839) dL_law_839 c_ic_0 (s_zr (pc := 840) rfl dL_law_840)))))))))))))))))))))))))))))))))))))⟩, ⟨c_ti_17, ⟨_, by decide, (s_aloadn (pc := 841) dL_law_841 rfl (s_aloadn (pc := 842) dL_law_842 rfl (s_iloadn (pc := 843) dL_law_843 rfl (s_iconst (pc := 844) dL_law_844 c_ic_1 (s_iadd (pc := 845) dL_law_845 (s_scB hX (pc := 846) dL_law_846 (s_vI (pc := 847) (run_virtual (X11_trim_gd _) (show 0 < 803 by decide) cy_X11_trim (by decide) rfl w_726 w_727 w_725 dL_law_847) (s_aloadn (pc := 850) dL_law_850 rfl (s_aloadn (pc := 851) dL_law_851 rfl (s_iloadn (pc := 852) dL_law_852 rfl (s_iconst (pc := 853) dL_law_853 c_ic_1 (s_iadd (pc := 854) dL_law_854 (s_scB hX (pc := 855) dL_law_855 (s_vI (pc := 856) (run_virtual (X12_trim_gd _) (show 1 < 803 by decide) cy_X12_trim (by decide) rfl w_1610 w_1611 w_1609 dL_law_856) (s_cmpeq (pc := 859) dL_law_859 (by decide) hk1807 (s_iconst (pc := 862) dL_law_862 c_ic_0 (s_zr (pc := 863) rfl dL_law_863)))))))))))))))))⟩, ⟨c_ti_18, ⟨_, by decide, (s_aloadn (pc := 864) dL_law_864 rfl (s_vI (pc := 865) (run_virtual (X11_text_gd _) (show 802 < 803 by decide) cy_X11_text (by decide) rfl w_730 w_731 w_729 dL_law_865) (s_aloadn (pc := 868) dL_law_868 rfl (s_vI (pc := 869) (run_virtual (X12_text_gd _) (show 4 < 803 by decide) cy_X12_text (by decide) rfl w_1614 w_1615 w_1613 dL_law_869) (s_cmpeq (pc := 872) dL_law_872 (by decide) hk1807 (s_iconst (pc := 875) dL_law_875 c_ic_0 (s_zr (pc := 876) rfl dL_law_876)))))))⟩, ⟨c_ti_19, ⟨_, by decide, (s_aloadn (pc := 877) dL_law_877 rfl (s_aloadn (pc := 878) dL_law_878 rfl (s_iloadn (pc := 879) dL_law_879 rfl (s_iconst (pc := 880) dL_law_880 c_ic_1 (s_iadd (pc := 881) dL_law_881 (s_scB hX (pc := 882) dL_law_882 (s_aloadn (pc := 883) dL_law_883 rfl (s_iloadn (pc := 884) dL_law_884 rfl (s_iconst (pc := 885) dL_law_885 c_ic_2 (s_iadd (pc := 886) dL_law_886 (s_scB hX (pc := 887) dL_law_887 (s_vI (pc := 888) (run_virtual (X11_textTold_gd _) (show 1 < 803 by decide) cy_X11_textTold (by decide) rfl w_940 w_941 w_939 dL_law_888) (s_aloadn (pc := 891) dL_law_891 rfl (s_aloadn (pc := 892) dL_law_892 rfl (s_iloadn (pc := 893) dL_law_893 rfl (s_iconst (pc := 894) dL_law_894 c_ic_1 (s_iadd (pc := 895) dL_law_895 (s_scB hX (pc := 896) dL_law_896 (s_aloadn (pc := 897) dL_law_897 rfl (s_iloadn (pc := 898) dL_law_898 rfl (s_iconst (pc := 899) dL_law_899 c_ic_2 (s_iadd (pc := 900) dL_law_900 (s_scB hX (pc := 901) dL_law_901 (s_vI (pc := 902) (run_virtual (X12_textTold_gd _) (show 1 < 803 by decide) cy_X12_textTold (by decide) rfl w_1661 w_1662 w_1660 dL_law_902) (s_cmpeq (pc := 905) dL_law_905 (by decide) hk1807 (s_iconst (pc := 908) dL_law_908 c_ic_0 (s_zr (pc := 909) rfl dL_law_909)))))))))))))))))))))))))))⟩, ⟨c_ti_20, ⟨_, by decide, (s_aloadn (pc := 910) dL_law_910 rfl (s_aloadn (pc := 911) dL_law_911 rfl (s_iloadn (pc := 912) dL_law_912 rfl (s_iconst (pc := 913) dL_law_913 c_ic_1 (s_iadd (pc := 914) dL_law_914 (s_scB hX (pc := 915) dL_law_915 (s_vI (pc := 916) (run_virtual (X11_why_gd _) (show 1 < 803 by decide) cy_X11_why (by decide) rfl w_944 w_945 w_943 dL_law_916) (s_aloadn (pc := 919) dL_law_919 rfl (s_aloadn (pc := 920) dL_law_920 rfl (s_iloadn (pc := 921) dL_law_921 rfl (s_iconst (pc := 922) dL_law_922 c_ic_1 (s_iadd (pc := 923) dL_law_923 (s_scB hX (pc := 924) dL_law_924 (s_vI (pc := 925) (run_virtual (X12_why_gd _) (show 1 < 803 by decide) cy_X12_why (by decide) rfl w_1665 w_1666 w_1664 dL_law_925) (s_cmpeq (pc := 928) dL_law_928 (by decide) hk1807 (s_iconst (pc := 931) dL_law_931 c_ic_0 (s_zr (pc := 932) rfl dL_law_932)))))))))))))))))⟩, ⟨c_ti_21, ⟨_, by decide, (s_aloadn (pc := 933) dL_law_933 rfl (s_aloadn (pc := 934) dL_law_934 rfl (s_iloadn (pc := 935) dL_law_935 rfl (s_iconst (pc := 936) dL_law_936 c_ic_1 (s_iadd (pc := 937) dL_law_937 (s_scB hX (pc := 938) dL_law_938 (s_aloadn (pc := 939) dL_law_939 rfl (s_iloadn (pc := 940) dL_law_940 rfl (s_iconst (pc := 941) dL_law_941 c_ic_2 (s_iadd (pc := 942) dL_law_942 (s_scB hX (pc := 943) dL_law_943 (s_aloadn (pc := 944) dL_law_944 rfl (s_iloadn (pc := 945) dL_law_945 rfl (s_iconst (pc := 946) dL_law_946 c_ic_3 (s_iadd (pc := 947) dL_law_947 (s_scB hX (pc := 948) dL_law_948 (s_aloadn (pc := 949) dL_law_949 rfl (s_iloadn (pc := 950) dL_law_950 rfl (s_iconst (pc := 951) dL_law_951 c_ic_4 (s_iadd (pc := 952) dL_law_952 (s_scB hX (pc := 953) dL_law_953 (s_vI (pc := 954) (run_virtual (X11_walk_gd _) (show 34 < 803 by decide) cy_X11_walk (by decide) rfl w_948 w_949 w_947 dL_law_954) (s_aloadn (pc := 957) dL_law_957 rfl (s_aloadn (pc := 958) dL_law_958 rfl (s_iloadn (pc := 959) dL_law_959 rfl (s_iconst (pc := 960) dL_law_960 c_ic_1 (s_iadd (pc := 961) dL_law_961 (s_scB hX (pc := 962) dL_law_962 (s_aloadn (pc := 963) dL_law_963 rfl (s_iloadn (pc := 964) dL_law_964 rfl (s_iconst (pc := 965) dL_law_965 c_ic_2 (s_iadd (pc := 966) dL_law_966 (s_scB hX (pc := 967) dL_law_967 (s_aloadn (pc := 968) dL_law_968 rfl (s_iloadn (pc := 969) dL_law_969 rfl (s_iconst (pc := 970) dL_law_970 c_ic_3 (s_iadd (pc := 971) dL_law_971 (s_scB hX (pc := 972) dL_law_972 (s_aloadn (pc := 973) dL_law_973 rfl (s_iloadn (pc := 974) dL_law_974 rfl (s_iconst (pc := 975) dL_law_975 c_ic_4 (s_iadd (pc := 976) dL_law_976 (s_scB hX (pc := 977) dL_law_977 (s_vI (pc := 978) (run_virtual (X12_walk_gd _) (show 6 < 803 by decide) cy_X12_walk (by decide) rfl w_1701 w_1702 w_1700 dL_law_978) (s_cmpeq (pc := 981) dL_law_981 (by decide) hk1807 (s_iconst (pc := 984) dL_law_984 c_ic_0 (s_zr (pc := 985) rfl dL_law_985)))))))))))))))))))))))))))))))))))))))))))))))⟩, ⟨c_ti_22, ⟨_, by decide, (s_aloadn (pc := 986) dL_law_986 rfl (s_aloadn (pc := 987) dL_law_987 rfl (s_iloadn (pc := 988) dL_law_988 rfl (s_iconst (pc := 989) dL_law_989 c_ic_1 (s_iadd (pc := 990) dL_law_990 (s_scB hX (pc := 991) dL_law_991 (s_aloadn (pc := 992) dL_law_992 rfl (s_iloadn (pc := 993) dL_law_993 rfl (s_iconst (pc := 994) dL_law_994 c_ic_2 (s_iadd (pc := 995) dL_law_995 (s_scB hX (pc := 996) dL_law_996 (s_aloadn (pc := 997) dL_law_997 rfl (s_iloadn (pc := 998) dL_law_998 rfl (s_iconst (pc := 999) dL_law_999 c_ic_3 (s_iadd (pc := 1000) dL_law_1000 (s_scB hX (pc := 1001) dL_law_1001 (s_aloadn (pc := 1002) dL_law_1002 rfl (s_iloadn (pc := 1003) dL_law_1003 rfl (s_iconst (pc := 1004) dL_law_1004 c_ic_4 (s_iadd (pc := 1005) dL_law_1005 (s_scB hX (pc := 1006) dL_law_1006 (s_vI (pc := 1007) (run_virtual (X11_via_gd _) (show 34 < 803 by decide) cy_X11_via (by decide) rfl w_1011 w_1012 w_1010 dL_law_1007) (s_aloadn (pc := 1010) dL_law_1010 rfl (s_aloadn (pc := 1011) dL_law_1011 rfl (s_iloadn (pc := 1012) dL_law_1012 rfl (s_iconst (pc := 1013) dL_law_1013 c_ic_1 (s_iadd (pc := 1014) dL_law_1014 (s_scB hX (pc := 1015) dL_law_1015 (s_aloadn (pc := 1016) dL_law_1016 rfl (s_iloadn (pc := 1017) dL_law_1017 rfl (s_iconst (pc := 1018) dL_law_1018 c_ic_2 (s_iadd (pc := 1019) dL_law_1019 (s_scB hX (pc := 1020) dL_law_1020 (s_aloadn (pc := 1021) dL_law_1021 rfl (s_iloadn (pc := 1022) dL_law_1022 rfl (s_iconst (pc := 1023) dL_law_1023 c_ic_3 (s_iadd (pc := 1024) dL_law_1024 (s_scB hX (pc := 1025) dL_law_1025 (s_aloadn (pc := 1026) dL_law_1026 rfl (s_iloadn (pc := 1027) dL_law_1027 rfl (s_iconst (pc := 1028) dL_law_1028 c_ic_4 (s_iadd (pc := 1029) dL_law_1029 (s_scB hX (pc := 1030) dL_law_1030 (s_vI (pc := 1031) (run_virtual (X12_via_gd _) (show 6 < 803 by decide) cy_X12_via (by decide) rfl w_1725 w_1726 w_1724 dL_law_1031) (s_cmpeq (pc := 1034) dL_law_1034 (by decide) hk1807 (s_iconst (pc := 1037) dL_law_1037 c_ic_0 (s_zr (pc := 1038) rfl dL_law_1038)))))))))))))))))))))))))))))))))))))))))))))))⟩, ⟨c_ti_23, ⟨_, by decide, (s_aloadn (pc := 1039) dL_law_1039 rfl (s_aloadn (pc := 1040) dL_law_1040 rfl (s_iloadn (pc := 1041) dL_law_1041 rfl (s_iconst (pc := 1042) dL_law_1042 c_ic_1 (s_iadd (pc := 1043) dL_law_1043 (s_scB hX (pc := 1044) dL_law_1044 (s_aloadn (pc := 1045) dL_law_1045 rfl (s_iloadn (pc := 1046) dL_law_1046 rfl (s_iconst (pc := 1047) dL_law_1047 c_ic_2 (s_iadd (pc := 1048) dL_law_1048 (s_scB hX (pc := 1049) dL_law_1049 (s_aloadn (pc := 1050) dL_law_1050 rfl (s_iloadn (pc := 1051) dL_law_1051 rfl (s_iconst (pc := 1052) dL_law_1052 c_ic_3 (s_iadd (pc := 1053) dL_law_1053 (s_scB hX (pc := 1054) dL_law_1054 (s_vI (pc := 1055) (run_virtual (X11_far_gd _) (show 5 < 803 by decide) cy_X11_far (by decide) rfl w_1015 w_1016 w_1014 dL_law_1055) (s_aloadn (pc := 1058) dL_law_1058 rfl (s_aloadn (pc := 1059) dL_law_1059 rfl (s_iloadn (pc := 1060) dL_law_1060 rfl (s_iconst (pc := 1061) dL_law_1061 c_ic_1 (s_iadd (pc := 1062) dL_law_1062 (s_scB hX (pc := 1063) dL_law_1063 (s_aloadn (pc := 1064) dL_law_1064 rfl (s_iloadn (pc := 1065) dL_law_1065 rfl (s_iconst (pc := 1066) dL_law_1066 c_ic_2 (s_iadd (pc := 1067) dL_law_1067 (s_scB hX (pc := 1068) dL_law_1068 (s_aloadn (pc := 1069) dL_law_1069 rfl (s_iloadn (pc := 1070) dL_law_1070 rfl (s_iconst (pc := 1071) dL_law_1071 c_ic_3 (s_iadd (pc := 1072) dL_law_1072 (s_scB hX (pc := 1073) dL_law_1073 (s_vI (pc := 1074) (run_virtual (X12_far_gd _) (show 4 < 803 by decide) cy_X12_far (by decide) rfl w_1669 w_1670 w_1668 dL_law_1074) (s_cmpeq (pc := 1077) dL_law_1077 (by decide) hk1807 (s_iconst (pc := 1080) dL_law_1080 c_ic_0 (s_zr (pc := 1081) rfl dL_law_1081)))))))))))))))))))))))))))))))))))))⟩, ⟨c_ti_24, ⟨_, by decide, (s_aloadn (pc := 1082) dL_law_1082 rfl (s_aloadn (pc := 1083) dL_law_1083 rfl (s_iloadn (pc := 1084) dL_law_1084 rfl (s_iconst (pc := 1085) dL_law_1085 c_ic_1 (s_iadd (pc := 1086) dL_law_1086 (s_scB hX (pc := 1087) dL_law_1087 (s_aloadn (pc := 1088) dL_law_1088 rfl (s_iloadn (pc := 1089) dL_law_1089 rfl (s_iconst (pc := 1090) dL_law_1090 c_ic_2 (s_iadd (pc := 1091) dL_law_1091 (s_scB hX (pc := 1092) dL_law_1092 (s_aloadn (pc := 1093) dL_law_1093 rfl (s_iloadn (pc := 1094) dL_law_1094 rfl (s_iconst (pc := 1095) dL_law_1095 c_ic_3 (s_iadd (pc := 1096) dL_law_1096 (s_scB hX (pc := 1097) dL_law_1097 (s_vI (pc := 1098) (run_virtual (X11_next_gd _) (show 5 < 803 by decide) cy_X11_next (by decide) rfl w_1042 w_1043 w_1041 dL_law_1098) (s_aloadn (pc := 1101) dL_law_1101 rfl (s_aloadn (pc := 1102) dL_law_1102 rfl (s_iloadn (pc := 1103) dL_law_1103 rfl (s_iconst (pc := 1104) dL_law_1104 c_ic_1 (s_iadd (pc := 1105) dL_law_1105 (s_scB hX (pc := 1106) dL_law_1106 (s_aloadn (pc := 1107) dL_law_1107 rfl (s_iloadn (pc := 1108) dL_law_1108 rfl (s_iconst (pc := 1109) dL_law_1109 c_ic_2 (s_iadd (pc := 1110) dL_law_1110 (s_scB hX (pc := 1111) dL_law_1111 (s_aloadn (pc := 1112) dL_law_1112 rfl (s_iloadn (pc := 1113) dL_law_1113 rfl (s_iconst (pc := 1114) dL_law_1114 c_ic_3 (s_iadd (pc := 1115) dL_law_1115 (s_scB hX (pc := 1116) dL_law_1116 (s_vI (pc := 1117) (run_virtual (X12_next_gd _) (show 4 < 803 by decide) cy_X12_next (by decide) rfl w_1685 w_1686 w_1684 dL_law_1117) (s_cmpeq (pc := 1120) dL_law_1120 (by decide) hk1807 (s_iconst (pc := 1123) dL_law_1123 c_ic_0 (s_zr (pc := 1124) rfl dL_law_1124)))))))))))))))))))))))))))))))))))))⟩, ⟨c_ti_25, ⟨_, by decide, (s_aloadn (pc := 1125) dL_law_1125 rfl (s_aloadn (pc := 1126) dL_law_1126 rfl (s_iloadn (pc := 1127) dL_law_1127 rfl (s_iconst (pc := 1128) dL_law_1128 c_ic_1 (s_iadd (pc := 1129) dL_law_1129 (s_scB hX (pc := 1130) dL_law_1130 (s_vI (pc := 1131) (run_virtual (X11_breaches_gd _) (show 32 < 803 by decide) cy_X11_breaches (by decide) rfl w_1057 w_1058 w_1056 dL_law_1131) (s_aloadn (pc := 1134) dL_law_1134 rfl (s_aloadn (pc := 1135) dL_law_1135 rfl (s_iloadn (pc := 1136) dL_law_1136 rfl (s_iconst (pc := 1137) dL_law_1137 c_ic_1 (s_iadd (pc := 1138) dL_law_1138 (s_scB hX (pc := 1139) dL_law_1139 (s_vI (pc := 1140) (run_virtual (X12_breaches_gd _) (show 5 < 803 by decide) cy_X12_breaches (by decide) rfl w_1729 w_1730 w_1728 dL_law_1140) (s_cmpeq (pc := 1143) dL_law_1143 (by decide) hk1807 (s_iconst (pc := 1146) dL_law_1146 c_ic_0 (s_zr (pc := 1147) rfl dL_law_1147)))))))))))))))))⟩, ⟨c_ti_26, ⟨_, by decide, (s_aloadn (pc := 1148) dL_law_1148 rfl (s_aloadn (pc := 1149) dL_law_1149 rfl (s_iloadn (pc := 1150) dL_law_1150 rfl (s_iconst (pc := 1151) dL_law_1151 c_ic_1 (s_iadd (pc := 1152) dL_law_1152 (s_scB hX (pc := 1153) dL_law_1153 (s_aloadn (pc := 1154) dL_law_1154 rfl (s_iloadn (pc := 1155) dL_law_1155 rfl (s_iconst (pc := 1156) dL_law_1156 c_ic_2 (s_iadd (pc := 1157) dL_law_1157 (s_scB hX (pc := 1158) dL_law_1158 (s_vI (pc := 1159) (run_virtual (X11_breach_gd _) (show 32 < 803 by decide) cy_X11_breach (by decide) rfl w_1093 w_1094 w_1092 dL_law_1159) (s_aloadn (pc := 1162) dL_law_1162 rfl (s_aloadn (pc := 1163) dL_law_1163 rfl (s_iloadn (pc := 1164) dL_law_1164 rfl (s_iconst (pc := 1165) dL_law_1165 c_ic_1 (s_iadd (pc := 1166) dL_law_1166 (s_scB hX (pc := 1167) dL_law_1167 (s_aloadn (pc := 1168) dL_law_1168 rfl (s_iloadn (pc := 1169) dL_law_1169 rfl (s_iconst (pc := 1170) dL_law_1170 c_ic_2 (s_iadd (pc := 1171) dL_law_1171 (s_scB hX (pc := 1172) dL_law_1172 (s_vI (pc := 1173) (run_virtual (X12_breach_gd _) (show 5 < 803 by decide) cy_X12_breach (by decide) rfl w_1753 w_1754 w_1752 dL_law_1173) (s_cmpeq (pc := 1176) dL_law_1176 (by decide) hk1807 (s_iconst (pc := 1179) dL_law_1179 c_ic_0 (s_zr (pc := 1180) rfl dL_law_1180)))))))))))))))))))))))))))⟩, ⟨c_ti_27, ⟨_, by decide, (s_aloadn (pc := 1181) dL_law_1181 rfl (s_aloadn (pc := 1182) dL_law_1182 rfl (s_iloadn (pc := 1183) dL_law_1183 rfl (s_iconst (pc := 1184) dL_law_1184 c_ic_1 (s_iadd (pc := 1185) dL_law_1185 (s_scB hX (pc := 1186) dL_law_1186 (s_aloadn (pc := 1187) dL_law_1187 rfl (s_iloadn (pc := 1188) dL_law_1188 rfl (s_iconst (pc := 1189) dL_law_1189 c_ic_2 (s_iadd (pc := 1190) dL_law_1190 (s_scB hX (pc := 1191) dL_law_1191 (s_vI (pc := 1192) (run_virtual (X11_needs_gd _) (show 5 < 803 by decide) cy_X11_needs (by decide) rfl w_1097 w_1098 w_1096 dL_law_1192) (s_aloadn (pc := 1195) dL_law_1195 rfl (s_aloadn (pc := 1196) dL_law_1196 rfl (s_iloadn (pc := 1197) dL_law_1197 rfl (s_iconst (pc := 1198) dL_law_1198 c_ic_1 (s_iadd (pc := 1199) dL_law_1199 (s_scB hX (pc := 1200) dL_law_1200 (s_aloadn (pc := 1201) dL_law_1201 rfl (s_iloadn (pc := 1202) dL_law_1202 rfl (s_iconst (pc := 1203) dL_law_1203 c_ic_2 (s_iadd (pc := 1204) dL_law_1204 (s_scB hX (pc := 1205) dL_law_1205 (s_vI (pc := 1206) (run_virtual (X12_needs_gd _) (show 4 < 803 by decide) cy_X12_needs (by decide) rfl w_1757 w_1758 w_1756 dL_law_1206) (s_cmpeq (pc := 1209) dL_law_1209 (by decide) hk1807 (s_iconst (pc := 1212) dL_law_1212 c_ic_0 (s_zr (pc := 1213) rfl dL_law_1213)))))))))))))))))))))))))))⟩, ⟨c_ti_28, ⟨_, by decide, (s_aloadn (pc := 1214) dL_law_1214 rfl (s_aloadn (pc := 1215) dL_law_1215 rfl (s_iloadn (pc := 1216) dL_law_1216 rfl (s_iconst (pc := 1217) dL_law_1217 c_ic_1 (s_iadd (pc := 1218) dL_law_1218 (s_scB hX (pc := 1219) dL_law_1219 (s_vI (pc := 1220) (run_virtual (X11_wrong_gd _) (show 6 < 803 by decide) cy_X11_wrong (by decide) rfl w_1112 w_1113 w_1111 dL_law_1220) (s_aloadn (pc := 1223) dL_law_1223 rfl (s_aloadn (pc := 1224) dL_law_1224 rfl (s_iloadn (pc := 1225) dL_law_1225 rfl (s_iconst (pc := 1226) dL_law_1226 c_ic_1 (s_iadd (pc := 1227) dL_law_1227 (s_scB hX (pc := 1228) dL_law_1228 (s_vI (pc := 1229) (run_virtual (X12_wrong_gd _) (show 5 < 803 by decide) cy_X12_wrong (by decide) rfl w_1761 w_1762 w_1760 dL_law_1229) (s_cmpeq (pc := 1232) dL_law_1232 (by decide) hk1807 (s_iconst (pc := 1235) dL_law_1235 c_ic_0 (s_zr (pc := 1236) rfl dL_law_1236)))))))))))))))))⟩, ⟨c_ti_29, ⟨_, by decide, (s_aloadn (pc := 1237) dL_law_1237 rfl (s_aloadn (pc := 1238) dL_law_1238 rfl (s_iloadn (pc := 1239) dL_law_1239 rfl (s_iconst (pc := 1240) dL_law_1240 c_ic_1 (s_iadd (pc := 1241) dL_law_1241 (s_scB hX (pc := 1242) dL_law_1242 (s_vI (pc := 1243) (run_virtual (X11_mend_gd _) (show 6 < 803 by decide) cy_X11_mend (by decide) rfl w_1129 w_1130 w_1128 dL_law_1243) (s_aloadn (pc := 1246) dL_law_1246 rfl (s_aloadn (pc := 1247) dL_law_1247 rfl (s_iloadn (pc := 1248) dL_law_1248 rfl (s_iconst (pc := 1249) dL_law_1249 c_ic_1 (s_iadd (pc := 1250) dL_law_1250 (s_scB hX (pc := 1251) dL_law_1251 (s_vI (pc := 1252) (run_virtual (X12_mend_gd _) (show 5 < 803 by decide) cy_X12_mend (by decide) rfl w_1777 w_1778 w_1776 dL_law_1252) (s_cmpeq (pc := 1255) dL_law_1255 (by decide) hk1807 (s_iconst (pc := 1258) dL_law_1258 c_ic_0 (s_zr (pc := 1259) rfl dL_law_1259)))))))))))))))))⟩, ⟨c_ti_30, ⟨_, by decide, (s_aloadn (pc := 1260) dL_law_1260 rfl (s_aloadn (pc := 1261) dL_law_1261 rfl (s_iloadn (pc := 1262) dL_law_1262 rfl (s_iconst (pc := 1263) dL_law_1263 c_ic_1 (s_iadd (pc := 1264) dL_law_1264 (s_scB hX (pc := 1265) dL_law_1265 (s_vI (pc := 1266) (run_virtual (X11_choose_gd _) (show 2 < 803 by decide) cy_X11_choose (by decide) rfl w_1133 w_1134 w_1132 dL_law_1266) (s_aloadn (pc := 1269) dL_law_1269 rfl (s_aloadn (pc := 1270) dL_law_1270 rfl (s_iloadn (pc := 1271) dL_law_1271 rfl (s_iconst (pc := 1272) dL_law_1272 c_ic_1 (s_iadd (pc := 1273) dL_law_1273 (s_scB hX (pc := 1274) dL_law_1274 (s_vI (pc := 1275) (run_virtual (X12_choose_gd _) (show 2 < 803 by decide) cy_X12_choose (by decide) rfl w_1781 w_1782 w_1780 dL_law_1275) (s_cmpeq (pc := 1278) dL_law_1278 (by decide) hk1807 (s_iconst (pc := 1281) dL_law_1281 c_ic_0 (s_zr (pc := 1282) rfl dL_law_1282)))))))))))))))))⟩, ⟨c_ti_31, ⟨_, by decide, (s_aloadn (pc := 1283) dL_law_1283 rfl (s_vI (pc := 1284) (run_virtual (X11_clear_gd _) (show 0 < 803 by decide) cy_X11_clear (by decide) rfl w_1137 w_1138 w_1136 dL_law_1284) (s_aloadn (pc := 1287) dL_law_1287 rfl (s_vI (pc := 1288) (run_virtual (X12_clear_gd _) (show 0 < 803 by decide) cy_X12_clear (by decide) rfl w_1785 w_1786 w_1784 dL_law_1288) (s_cmpeq (pc := 1291) dL_law_1291 (by decide) hk1807 (s_iconst (pc := 1294) dL_law_1294 c_ic_0 (s_zr (pc := 1295) rfl dL_law_1295)))))))⟩, ⟨c_ti_32, ⟨_, by decide, (s_aloadn (pc := 1296) dL_law_1296 rfl (s_aloadn (pc := 1297) dL_law_1297 rfl (s_iloadn (pc := 1298) dL_law_1298 rfl (s_iconst (pc := 1299) dL_law_1299 c_ic_1 (s_iadd (pc := 1300) dL_law_1300 (s_scB hX (pc := 1301) dL_law_1301 (s_aloadn (pc := 1302) dL_law_1302 rfl (s_iloadn (pc := 1303) dL_law_1303 rfl (s_iconst (pc := 1304) dL_law_1304 c_ic_2 (s_iadd (pc := 1305) dL_law_1305 (s_scB hX (pc := 1306) dL_law_1306 (s_vI (pc := 1307) (run_virtual (X11_fewest_gd _) (show 33 < 803 by decide) cy_X11_fewest (by decide) rfl w_1141 w_1142 w_1140 dL_law_1307) (s_aloadn (pc := 1310) dL_law_1310 rfl (s_aloadn (pc := 1311) dL_law_1311 rfl (s_iloadn (pc := 1312) dL_law_1312 rfl (s_iconst (pc := 1313) dL_law_1313 c_ic_1 (s_iadd (pc := 1314) dL_law_1314 (s_scB hX (pc := 1315) dL_law_1315 (s_aloadn (pc := 1316) dL_law_1316 rfl (s_iloadn (pc := 1317) dL_law_1317 rfl (s_iconst (pc := 1318) dL_law_1318 c_ic_2 (s_iadd (pc := 1319) dL_law_1319 (s_scB hX (pc := 1320) dL_law_1320 (s_vI (pc := 1321) (run_virtual (X12_fewest_gd _) (show 7 < 803 by decide) cy_X12_fewest (by decide) rfl w_1789 w_1790 w_1788 dL_law_1321) (s_cmpeq (pc := 1324) dL_law_1324 (by decide) hk1807 (s_iconst (pc := 1327) dL_law_1327 c_ic_0 (s_zr (pc := 1328) rfl dL_law_1328)))))))))))))))))))))))))))⟩, ⟨c_ti_33, ⟨_, by decide, (s_aloadn (pc := 1329) dL_law_1329 rfl (s_aloadn (pc := 1330) dL_law_1330 rfl (s_iloadn (pc := 1331) dL_law_1331 rfl (s_iconst (pc := 1332) dL_law_1332 c_ic_1 (s_iadd (pc := 1333) dL_law_1333 (s_scB hX (pc := 1334) dL_law_1334 (s_vI (pc := 1335) (run_virtual (X11_seed_gd _) (show 0 < 803 by decide) cy_X11_seed (by decide) rfl w_1157 w_1158 w_1156 dL_law_1335) (s_aloadn (pc := 1338) dL_law_1338 rfl (s_aloadn (pc := 1339) dL_law_1339 rfl (s_iloadn (pc := 1340) dL_law_1340 rfl (s_iconst (pc := 1341) dL_law_1341 c_ic_1 (s_iadd (pc := 1342) dL_law_1342 (s_scB hX (pc := 1343) dL_law_1343 (s_vI (pc := 1344) (run_virtual (X12_seed_gd _) (show 0 < 803 by decide) cy_X12_seed (by decide) rfl w_1800 w_1801 w_1799 dL_law_1344) (s_cmpeq (pc := 1347) dL_law_1347 (by decide) hk1807 (s_iconst (pc := 1350) dL_law_1350 c_ic_0 (s_zr (pc := 1351) rfl dL_law_1351)))))))))))))))))⟩, ⟨c_ti_34, ⟨_, by decide, (s_aloadn (pc := 1352) dL_law_1352 rfl (s_aloadn (pc := 1353) dL_law_1353 rfl (s_iloadn (pc := 1354) dL_law_1354 rfl (s_iconst (pc := 1355) dL_law_1355 c_ic_1 (s_iadd (pc := 1356) dL_law_1356 (s_scB hX (pc := 1357) dL_law_1357 (s_vI (pc := 1358) (run_virtual (X11_strangers_gd _) (show 34 < 803 by decide) cy_X11_strangers (by decide) rfl w_1161 w_1162 w_1160 dL_law_1358) (s_aloadn (pc := 1361) dL_law_1361 rfl (s_aloadn (pc := 1362) dL_law_1362 rfl (s_iloadn (pc := 1363) dL_law_1363 rfl (s_iconst (pc := 1364) dL_law_1364 c_ic_1 (s_iadd (pc := 1365) dL_law_1365 (s_scB hX (pc := 1366) dL_law_1366 (s_vI (pc := 1367) (run_virtual (X12_strangers_gd _) (show 7 < 803 by decide) cy_X12_strangers (by decide) rfl w_1804 w_1805 w_1803 dL_law_1367) (s_cmpeq (pc := 1370) dL_law_1370 (by decide) hk1807 (s_iconst (pc := 1373) dL_law_1373 c_ic_0 (s_zr (pc := 1374) rfl dL_law_1374)))))))))))))))))⟩, ⟨c_ti_35, ⟨_, by decide, (s_aloadn (pc := 1375) dL_law_1375 rfl (s_vI (pc := 1376) (run_virtual (X11_led_gd _) (show 0 < 803 by decide) cy_X11_led (by decide) rfl w_1183 w_1184 w_1182 dL_law_1376) (s_aloadn (pc := 1379) dL_law_1379 rfl (s_vI (pc := 1380) (run_virtual (X12_led_gd _) (show 1 < 803 by decide) cy_X12_led (by decide) rfl w_1817 w_1818 w_1816 dL_law_1380) (s_cmpeq (pc := 1383) dL_law_1383 (by decide) hk1807 (s_iconst (pc := 1386) dL_law_1386 c_ic_0 (s_zr (pc := 1387) rfl dL_law_1387)))))))⟩, ⟨c_ti_36, ⟨_, by decide, (s_aloadn (pc := 1388) dL_law_1388 rfl (s_aloadn (pc := 1389) dL_law_1389 rfl (s_iloadn (pc := 1390) dL_law_1390 rfl (s_iconst (pc := 1391) dL_law_1391 c_ic_1 (s_iadd (pc := 1392) dL_law_1392 (s_scB hX (pc := 1393) dL_law_1393 (s_aloadn (pc := 1394) dL_law_1394 rfl (s_iloadn (pc := 1395) dL_law_1395 rfl (s_iconst (pc := 1396) dL_law_1396 c_ic_2 (s_iadd (pc := 1397) dL_law_1397 (s_scB hX (pc := 1398) dL_law_1398 (s_aloadn (pc := 1399) dL_law_1399 rfl (s_iloadn (pc := 1400) dL_law_1400 rfl (s_iconst (pc := 1401) dL_law_1401 c_ic_3 (s_iadd (pc := 1402) dL_law_1402 (s_scB hX (pc := 1403) dL_law_1403 (s_vI (pc := 1404) (run_virtual (X11_sheet_gd _) (show 2 < 803 by decide) cy_X11_sheet (by decide) rfl w_1187 w_1188 w_1186 dL_law_1404) (s_aloadn (pc := 1407) dL_law_1407 rfl (s_aloadn (pc := 1408) dL_law_1408 rfl (s_iloadn (pc := 1409) dL_law_1409 rfl (s_iconst (pc := 1410) dL_law_1410 c_ic_1 (s_iadd (pc := 1411) dL_law_1411 (s_scB hX (pc := 1412) dL_law_1412 (s_aloadn (pc := 1413) dL_law_1413 rfl (s_iloadn (pc := 1414) dL_law_1414 rfl (s_iconst (pc := 1415) dL_law_1415 c_ic_2 (s_iadd (pc := 1416) dL_law_1416 (s_scB hX (pc := 1417) dL_law_1417 (s_aloadn (pc := 1418) dL_law_1418 rfl (s_iloadn (pc := 1419) dL_law_1419 rfl (s_iconst (pc := 1420) dL_law_1420 c_ic_3 (s_iadd (pc := 1421) dL_law_1421 (s_scB hX (pc := 1422) dL_law_1422 (s_vI (pc := 1423) (run_virtual (X12_sheet_gd _) (show 2 < 803 by decide) cy_X12_sheet (by decide) rfl w_1821 w_1822 w_1820 dL_law_1423) (s_cmpeq (pc := 1426) dL_law_1426 (by decide) hk1807 (s_iconst (pc := 1429) dL_law_1429 c_ic_0 (s_zr (pc := 1430) rfl dL_law_1430)))))))))))))))))))))))))))))))))))))⟩, ⟨c_ti_37, ⟨_, by decide, (s_aloadn (pc := 1431) dL_law_1431 rfl (s_aloadn (pc := 1432) dL_law_1432 rfl (s_iloadn (pc := 1433) dL_law_1433 rfl (s_iconst (pc := 1434) dL_law_1434 c_ic_1 (s_iadd (pc := 1435) dL_law_1435 (s_scB hX (pc := 1436) dL_law_1436 (s_aloadn (pc := 1437) dL_law_1437 rfl (s_iloadn (pc := 1438) dL_law_1438 rfl (s_iconst (pc := 1439) dL_law_1439 c_ic_2 (s_iadd (pc := 1440) dL_law_1440 (s_scB hX (pc := 1441) dL_law_1441 (s_aloadn (pc := 1442) dL_law_1442 rfl (s_iloadn (pc := 1443) dL_law_1443 rfl (s_iconst (pc := 1444) dL_law_1444 c_ic_3 (s_iadd (pc := 1445) dL_law_1445 (s_scB hX (pc := 1446) dL_law_1446 (s_vI (pc := 1447) (run_virtual (X11_mark_gd _) (show 1 < 803 by decide) cy_X11_mark (by decide) rfl w_1199 w_1200 w_1198 dL_law_1447) (s_aloadn (pc := 1450) dL_law_1450 rfl (s_aloadn (pc := 1451) dL_law_1451 rfl (s_iloadn (pc := 1452) dL_law_1452 rfl (s_iconst (pc := 1453) dL_law_1453 c_ic_1 (s_iadd (pc := 1454) dL_law_1454 (s_scB hX (pc := 1455) dL_law_1455 (s_aloadn (pc := 1456) dL_law_1456 rfl (s_iloadn (pc := 1457) dL_law_1457 rfl (s_iconst (pc := 1458) dL_law_1458 c_ic_2 (s_iadd (pc := 1459) dL_law_1459 (s_scB hX (pc := 1460) dL_law_1460 (s_aloadn (pc := 1461) dL_law_1461 rfl (s_iloadn (pc := 1462) dL_law_1462 rfl (s_iconst (pc := 1463) dL_law_1463 c_ic_3 (s_iadd (pc := 1464) dL_law_1464 (s_scB hX (pc := 1465) dL_law_1465 (s_vI (pc := 1466) (run_virtual (X12_mark_gd _) (show 2 < 803 by decide) cy_X12_mark (by decide) rfl w_1829 w_1830 w_1828 dL_law_1466) (s_cmpeq (pc := 1469) dL_law_1469 (by decide) hk1807 (s_iconst (pc := 1472) dL_law_1472 c_ic_0 (s_zr (pc := 1473) rfl dL_law_1473)))))))))))))))))))))))))))))))))))))⟩, ⟨c_ti_38, ⟨_, by decide, (s_aloadn (pc := 1474) dL_law_1474 rfl (s_aloadn (pc := 1475) dL_law_1475 rfl (s_iloadn (pc := 1476) dL_law_1476 rfl (s_iconst (pc := 1477) dL_law_1477 c_ic_1 (s_iadd (pc := 1478) dL_law_1478 (s_scB hX (pc := 1479) dL_law_1479 (s_aloadn (pc := 1480) dL_law_1480 rfl (s_iloadn (pc := 1481) dL_law_1481 rfl (s_iconst (pc := 1482) dL_law_1482 c_ic_2 (s_iadd (pc := 1483) dL_law_1483 (s_scB hX (pc := 1484) dL_law_1484 (s_vI (pc := 1485) (run_virtual (X11_fill_gd _) (show 32 < 803 by decide) cy_X11_fill (by decide) rfl w_1209 w_1210 w_1208 dL_law_1485) (s_aloadn (pc := 1488) dL_law_1488 rfl (s_aloadn (pc := 1489) dL_law_1489 rfl (s_iloadn (pc := 1490) dL_law_1490 rfl (s_iconst (pc := 1491) dL_law_1491 c_ic_1 (s_iadd (pc := 1492) dL_law_1492 (s_scB hX (pc := 1493) dL_law_1493 (s_aloadn (pc := 1494) dL_law_1494 rfl (s_iloadn (pc := 1495) dL_law_1495 rfl (s_iconst (pc := 1496) dL_law_1496 c_ic_2 (s_iadd (pc := 1497) dL_law_1497 (s_scB hX (pc := 1498) dL_law_1498 (s_vI (pc := 1499) (run_virtual (X12_fill_gd _) (show 2 < 803 by decide) cy_X12_fill (by decide) rfl w_1835 w_1836 w_1834 dL_law_1499) (s_cmpeq (pc := 1502) dL_law_1502 (by decide) hk1807 (s_iconst (pc := 1505) dL_law_1505 c_ic_0 (s_zr (pc := 1506) rfl dL_law_1506)))))))))))))))))))))))))))⟩, ⟨c_ti_39, ⟨_, by decide, (s_aloadn (pc := 1507) dL_law_1507 rfl (s_aloadn (pc := 1508) dL_law_1508 rfl (s_iloadn (pc := 1509) dL_law_1509 rfl (s_iconst (pc := 1510) dL_law_1510 c_ic_1 (s_iadd (pc := 1511) dL_law_1511 (s_scB hX (pc := 1512) dL_law_1512 (s_aloadn (pc := 1513) dL_law_1513 rfl (s_iloadn (pc := 1514) dL_law_1514 rfl (s_iconst (pc := 1515) dL_law_1515 c_ic_2 (s_iadd (pc := 1516) dL_law_1516 (s_scB hX (pc := 1517) dL_law_1517 (s_aloadn (pc := 1518) dL_law_1518 rfl (s_iloadn (pc := 1519) dL_law_1519 rfl (s_iconst (pc := 1520) dL_law_1520 c_ic_3 (s_iadd (pc := 1521) dL_law_1521 (s_scB hX (pc := 1522) dL_law_1522 (s_aloadn (pc := 1523) dL_law_1523 rfl (s_iloadn (pc := 1524) dL_law_1524 rfl (s_iconst (pc := 1525) dL_law_1525 c_ic_4 (s_iadd (pc := 1526) dL_law_1526 (s_scB hX (pc := 1527) dL_law_1527 (s_aloadn (pc := 1528) dL_law_1528 rfl (s_iloadn (pc := 1529) dL_law_1529 rfl (s_iconst (pc := 1530) dL_law_1530 c_ic_5 (s_iadd (pc := 1531) dL_law_1531 (s_scB hX (pc := 1532) dL_law_1532 (s_vI (pc := 1533) (run_virtual (X11_copy_gd _) (show 1 < 803 by decide) cy_X11_copy (by decide) rfl w_1218 w_1219 w_1217 dL_law_1533) (s_aloadn (pc := 1536) dL_law_1536 rfl (s_aloadn (pc := 1537) dL_law_1537 rfl (s_iloadn (pc := 1538) dL_law_1538 rfl (s_iconst (pc := 1539) dL_law_1539 c_ic_1 (s_iadd (pc := 1540) dL_law_1540 (s_scB hX (pc := 1541) dL_law_1541 (s_aloadn (pc := 1542) dL_law_1542 rfl (s_iloadn (pc := 1543) dL_law_1543 rfl (s_iconst (pc := 1544) dL_law_1544 c_ic_2 (s_iadd (pc := 1545) dL_law_1545 (s_scB hX (pc := 1546) dL_law_1546 (s_aloadn (pc := 1547) dL_law_1547 rfl (s_iloadn (pc := 1548) dL_law_1548 rfl (s_iconst (pc := 1549) dL_law_1549 c_ic_3 (s_iadd (pc := 1550) dL_law_1550 (s_scB hX (pc := 1551) dL_law_1551 (s_aloadn (pc := 1552) dL_law_1552 rfl (s_iloadn (pc := 1553) dL_law_1553 rfl (s_iconst (pc := 1554) dL_law_1554 c_ic_4 (s_iadd (pc := 1555) dL_law_1555 (s_scB hX (pc := 1556) dL_law_1556 (s_aloadn (pc := 1557) dL_law_1557 rfl (s_iloadn (pc := 1558) dL_law_1558 rfl (s_iconst (pc := 1559) dL_law_1559 c_ic_5 (s_iadd (pc := 1560) dL_law_1560 (s_scB hX (pc := 1561) dL_law_1561 (s_vI (pc := 1562) (run_virtual (X12_copy_gd _) (show 2 < 803 by decide) cy_X12_copy (by decide) rfl w_1839 w_1840 w_1838 dL_law_1562) (s_cmpeq (pc := 1565) dL_law_1565 (by decide) hk1807 (s_iconst (pc := 1568) dL_law_1568 c_ic_0 (s_zr (pc := 1569) rfl dL_law_1569)))))))))))))))))))))))))))))))))))))))))))))))))))))))))⟩, ⟨c_ti_40, ⟨_, by decide, (s_aloadn (pc := 1570) dL_law_1570 rfl (s_aloadn (pc := 1571) dL_law_1571 rfl (s_iloadn (pc := 1572) dL_law_1572 rfl (s_iconst (pc := 1573) dL_law_1573 c_ic_1 (s_iadd (pc := 1574) dL_law_1574 (s_scB hX (pc := 1575) dL_law_1575 (s_aloadn (pc := 1576) dL_law_1576 rfl (s_iloadn (pc := 1577) dL_law_1577 rfl (s_iconst (pc := 1578) dL_law_1578 c_ic_2 (s_iadd (pc := 1579) dL_law_1579 (s_scB hX (pc := 1580) dL_law_1580 (s_aloadn (pc := 1581) dL_law_1581 rfl (s_iloadn (pc := 1582) dL_law_1582 rfl (s_iconst (pc := 1583) dL_law_1583 c_ic_3 (s_iadd (pc := 1584) dL_law_1584 (s_scB hX (pc := 1585) dL_law_1585 (s_vI (pc := 1586) (run_virtual (X11_lay_gd _) (show 2 < 803 by decide) cy_X11_lay (by decide) rfl w_1227 w_1228 w_1226 dL_law_1586) (s_aloadn (pc := 1589) dL_law_1589 rfl (s_aloadn (pc := 1590) dL_law_1590 rfl (s_iloadn (pc := 1591) dL_law_1591 rfl (s_iconst (pc := 1592) dL_law_1592 c_ic_1 (s_iadd (pc := 1593) dL_law_1593 (s_scB hX (pc := 1594) dL_law_1594 (s_aloadn (pc := 1595) dL_law_1595 rfl (s_iloadn (pc := 1596) dL_law_1596 rfl (s_iconst (pc := 1597) dL_law_1597 c_ic_2 (s_iadd (pc := 1598) dL_law_1598 (s_scB hX (pc := 1599) dL_law_1599 (s_aloadn (pc := 1600) dL_law_1600 rfl (s_iloadn (pc := 1601) dL_law_1601 rfl (s_iconst (pc := 1602) dL_law_1602 c_ic_3 (s_iadd (pc := 1603) dL_law_1603 (s_scB hX (pc := 1604) dL_law_1604 (s_vI (pc := 1605) (run_virtual (X12_lay_gd _) (show 2 < 803 by decide) cy_X12_lay (by decide) rfl w_1843 w_1844 w_1842 dL_law_1605) (s_cmpeq (pc := 1608) dL_law_1608 (by decide) hk1807 (s_iconst (pc := 1611) dL_law_1611 c_ic_0 (s_zr (pc := 1612) rfl dL_law_1612)))))))))))))))))))))))))))))))))))))⟩, ⟨c_ti_41, ⟨_, by decide, (s_aloadn (pc := 1613) dL_law_1613 rfl (s_aloadn (pc := 1614) dL_law_1614 rfl (s_iloadn (pc := 1615) dL_law_1615 rfl (s_iconst (pc := 1616) dL_law_1616 c_ic_1 (s_iadd (pc := 1617) dL_law_1617 (s_scB hX (pc := 1618) dL_law_1618 (s_aloadn (pc := 1619) dL_law_1619 rfl (s_iloadn (pc := 1620) dL_law_1620 rfl (s_iconst (pc := 1621) dL_law_1621 c_ic_2 (s_iadd (pc := 1622) dL_law_1622 (s_scB hX (pc := 1623) dL_law_1623 (s_vI (pc := 1624) (run_virtual (X11_ask_gd _) (show 31 < 803 by decide) cy_X11_ask (by decide) rfl w_1236 w_1237 w_1235 dL_law_1624) (s_aloadn (pc := 1627) dL_law_1627 rfl (s_aloadn (pc := 1628) dL_law_1628 rfl (s_iloadn (pc := 1629) dL_law_1629 rfl (s_iconst (pc := 1630) dL_law_1630 c_ic_1 (s_iadd (pc := 1631) dL_law_1631 (s_scB hX (pc := 1632) dL_law_1632 (s_aloadn (pc := 1633) dL_law_1633 rfl (s_iloadn (pc := 1634) dL_law_1634 rfl (s_iconst (pc := 1635) dL_law_1635 c_ic_2 (s_iadd (pc := 1636) dL_law_1636 (s_scB hX (pc := 1637) dL_law_1637 (s_vI (pc := 1638) (run_virtual (X12_ask_gd _) (show 2 < 803 by decide) cy_X12_ask (by decide) rfl w_1850 w_1851 w_1849 dL_law_1638) (s_cmpeq (pc := 1641) dL_law_1641 (by decide) hk1807 (s_iconst (pc := 1644) dL_law_1644 c_ic_0 (s_zr (pc := 1645) rfl dL_law_1645)))))))))))))))))))))))))))⟩, ⟨c_ti_42, ⟨_, by decide, (s_aloadn (pc := 1646) dL_law_1646 rfl (s_aloadn (pc := 1647) dL_law_1647 rfl (s_iloadn (pc := 1648) dL_law_1648 rfl (s_iconst (pc := 1649) dL_law_1649 c_ic_1 (s_iadd (pc := 1650) dL_law_1650 (s_scB hX (pc := 1651) dL_law_1651 (s_aloadn (pc := 1652) dL_law_1652 rfl (s_iloadn (pc := 1653) dL_law_1653 rfl (s_iconst (pc := 1654) dL_law_1654 c_ic_2 (s_iadd (pc := 1655) dL_law_1655 (s_scB hX (pc := 1656) dL_law_1656 (s_vI (pc := 1657) (run_virtual (X11_item_gd _) (show 1 < 803 by decide) cy_X11_item (by decide) rfl w_1240 w_1241 w_1239 dL_law_1657) (s_aloadn (pc := 1660) dL_law_1660 rfl (s_aloadn (pc := 1661) dL_law_1661 rfl (s_iloadn (pc := 1662) dL_law_1662 rfl (s_iconst (pc := 1663) dL_law_1663 c_ic_1 (s_iadd (pc := 1664) dL_law_1664 (s_scB hX (pc := 1665) dL_law_1665 (s_aloadn (pc := 1666) dL_law_1666 rfl (s_iloadn (pc := 1667) dL_law_1667 rfl (s_iconst (pc := 1668) dL_law_1668 c_ic_2 (s_iadd (pc := 1669) dL_law_1669 (s_scB hX (pc := 1670) dL_law_1670 (s_vI (pc := 1671) (run_virtual (X12_item_gd _) (show 2 < 803 by decide) cy_X12_item (by decide) rfl w_1854 w_1855 w_1853 dL_law_1671) (s_cmpeq (pc := 1674) dL_law_1674 (by decide) hk1807 (s_iconst (pc := 1677) dL_law_1677 c_ic_0 (s_zr (pc := 1678) rfl dL_law_1678)))))))))))))))))))))))))))⟩, ⟨c_ti_43, ⟨_, by decide, (s_aloadn (pc := 1679) dL_law_1679 rfl (s_aloadn (pc := 1680) dL_law_1680 rfl (s_iloadn (pc := 1681) dL_law_1681 rfl (s_iconst (pc := 1682) dL_law_1682 c_ic_1 (s_iadd (pc := 1683) dL_law_1683 (s_scB hX (pc := 1684) dL_law_1684 (s_aloadn (pc := 1685) dL_law_1685 rfl (s_iloadn (pc := 1686) dL_law_1686 rfl (s_iconst (pc := 1687) dL_law_1687 c_ic_2 (s_iadd (pc := 1688) dL_law_1688 (s_scB hX (pc := 1689) dL_law_1689 (s_vI (pc := 1690) (run_virtual (X11_rest_gd _) (show 1 < 803 by decide) cy_X11_rest (by decide) rfl w_1244 w_1245 w_1243 dL_law_1690) (s_aloadn (pc := 1693) dL_law_1693 rfl (s_aloadn (pc := 1694) dL_law_1694 rfl (s_iloadn (pc := 1695) dL_law_1695 rfl (s_iconst (pc := 1696) dL_law_1696 c_ic_1 (s_iadd (pc := 1697) dL_law_1697 (s_scB hX (pc := 1698) dL_law_1698 (s_aloadn (pc := 1699) dL_law_1699 rfl (s_iloadn (pc := 1700) dL_law_1700 rfl (s_iconst (pc := 1701) dL_law_1701 c_ic_2 (s_iadd (pc := 1702) dL_law_1702 (s_scB hX (pc := 1703) dL_law_1703 (s_vI (pc := 1704) (run_virtual (X12_rest_gd _) (show 2 < 803 by decide) cy_X12_rest (by decide) rfl w_1858 w_1859 w_1857 dL_law_1704) (s_cmpeq (pc := 1707) dL_law_1707 (by decide) hk1807 (s_iconst (pc := 1710) dL_law_1710 c_ic_0 (s_zr (pc := 1711) rfl dL_law_1711)))))))))))))))))))))))))))⟩, ⟨c_ti_44, ⟨_, by decide, (s_aloadn (pc := 1712) dL_law_1712 rfl (s_aloadn (pc := 1713) dL_law_1713 rfl (s_iloadn (pc := 1714) dL_law_1714 rfl (s_iconst (pc := 1715) dL_law_1715 c_ic_1 (s_iadd (pc := 1716) dL_law_1716 (s_scB hX (pc := 1717) dL_law_1717 (s_vI (pc := 1718) (run_virtual (X11_tell_gd _) (show 0 < 803 by decide) cy_X11_tell (by decide) rfl w_1248 w_1249 w_1247 dL_law_1718) (s_aloadn (pc := 1721) dL_law_1721 rfl (s_aloadn (pc := 1722) dL_law_1722 rfl (s_iloadn (pc := 1723) dL_law_1723 rfl (s_iconst (pc := 1724) dL_law_1724 c_ic_1 (s_iadd (pc := 1725) dL_law_1725 (s_scB hX (pc := 1726) dL_law_1726 (s_vI (pc := 1727) (run_virtual (X12_tell_gd _) (show 0 < 803 by decide) cy_X12_tell (by decide) rfl w_1862 w_1863 w_1861 dL_law_1727) (s_cmpeq (pc := 1730) dL_law_1730 (by decide) hk1807 (s_iconst (pc := 1733) dL_law_1733 c_ic_0 (s_zr (pc := 1734) rfl dL_law_1734)))))))))))))))))⟩, ⟨c_ti_45, ⟨_, by decide, (s_aloadn (pc := 1735) dL_law_1735 rfl (s_aloadn (pc := 1736) dL_law_1736 rfl (s_iloadn (pc := 1737) dL_law_1737 rfl (s_iconst (pc := 1738) dL_law_1738 c_ic_1 (s_iadd (pc := 1739) dL_law_1739 (s_scB hX (pc := 1740) dL_law_1740 (s_vI (pc := 1741) (run_virtual (X11_check_gd _) (show 34 < 803 by decide) cy_X11_check (by decide) rfl w_1252 w_1253 w_1251 dL_law_1741) (s_aloadn (pc := 1744) dL_law_1744 rfl (s_aloadn (pc := 1745) dL_law_1745 rfl (s_iloadn (pc := 1746) dL_law_1746 rfl (s_iconst (pc := 1747) dL_law_1747 c_ic_1 (s_iadd (pc := 1748) dL_law_1748 (s_scB hX (pc := 1749) dL_law_1749 (s_vI (pc := 1750) (run_virtual (X12_check_gd _) (show 7 < 803 by decide) cy_X12_check (by decide) rfl w_1866 w_1867 w_1865 dL_law_1750) (s_cmpeq (pc := 1753) dL_law_1753 (by decide) hk1807 (s_iconst (pc := 1756) dL_law_1756 c_ic_0 (s_zr (pc := 1757) rfl dL_law_1757)))))))))))))))))⟩, ⟨c_ti_46, ⟨_, by decide, (s_aloadn (pc := 1758) dL_law_1758 rfl (s_vI (pc := 1759) (run_virtual (X11_keep_gd _) (show 2 < 803 by decide) cy_X11_keep (by decide) rfl w_1260 w_1261 w_1259 dL_law_1759) (s_aloadn (pc := 1762) dL_law_1762 rfl (s_vI (pc := 1763) (run_virtual (X12_keep_gd _) (show 1 < 803 by decide) cy_X12_keep (by decide) rfl w_1873 w_1874 w_1872 dL_law_1763) (s_cmpeq (pc := 1766) dL_law_1766 (by decide) hk1807 (s_iconst (pc := 1769) dL_law_1769 c_ic_0 (s_zr (pc := 1770) rfl dL_law_1770)))))))⟩, ⟨c_ti_47, ⟨_, by decide, (s_aloadn (pc := 1771) dL_law_1771 rfl (s_vI (pc := 1772) (run_virtual (X11_back_gd _) (show 2 < 803 by decide) cy_X11_back (by decide) rfl w_1278 w_1279 w_1277 dL_law_1772) (s_aloadn (pc := 1775) dL_law_1775 rfl (s_vI (pc := 1776) (run_virtual (X12_back_gd _) (show 1 < 803 by decide) cy_X12_back (by decide) rfl w_1877 w_1878 w_1876 dL_law_1776) (s_cmpeq (pc := 1779) dL_law_1779 (by decide) hk1807 (s_iconst (pc := 1782) dL_law_1782 c_ic_0 (s_zr (pc := 1783) rfl dL_law_1783)))))))⟩, ⟨c_ti_48, ⟨_, by decide, (s_aloadn (pc := 1784) dL_law_1784 rfl (s_aloadn (pc := 1785) dL_law_1785 rfl (s_iloadn (pc := 1786) dL_law_1786 rfl (s_iconst (pc := 1787) dL_law_1787 c_ic_1 (s_iadd (pc := 1788) dL_law_1788 (s_scB hX (pc := 1789) dL_law_1789 (s_vI (pc := 1790) (run_virtual (X11_count_gd _) (show 1 < 803 by decide) cy_X11_count (by decide) rfl w_1282 w_1283 w_1281 dL_law_1790) (s_aloadn (pc := 1793) dL_law_1793 rfl (s_aloadn (pc := 1794) dL_law_1794 rfl (s_iloadn (pc := 1795) dL_law_1795 rfl (s_iconst (pc := 1796) dL_law_1796 c_ic_1 (s_iadd (pc := 1797) dL_law_1797 (s_scB hX (pc := 1798) dL_law_1798 (s_vI (pc := 1799) (run_virtual (X12_count_gd _) (show 3 < 803 by decide) cy_X12_count (by decide) rfl w_1881 w_1882 w_1880 dL_law_1799) (s_cmpeq (pc := 1802) dL_law_1802 (by decide) hk1807 (s_iconst (pc := 1805) dL_law_1805 c_ic_0 (s_zr (pc := 1806) rfl dL_law_1806)))))))))))))))))⟩, trivial⟩⟩⟩⟩⟩⟩⟩⟩⟩⟩⟩⟩⟩⟩⟩⟩⟩⟩⟩⟩⟩⟩⟩⟩⟩⟩⟩⟩⟩⟩⟩⟩⟩⟩⟩⟩⟩⟩⟩⟩⟩⟩⟩⟩⟩⟩⟩⟩⟩ hk1807))))))))))))
noncomputable def L_law_72_b362 (L : Nat) (xs : Nat → Int32) (c_X11_shut : Nat → Int32 → Int32 → PH → Option Rs) (k384 : Kn) : Kn := (a_vI 10 2 (FW_T10II c_X11_shut) (a_al 2 (a_al 0 (a_il 3 (a_ic 1 (a_b (fun a b => a + b) (a_scB L xs (a_al 0 (a_il 3 (a_ic 2 (a_b (fun a b => a + b) (a_scB L xs (a_z (a_ic 0 k384) (a_ic 1 k384))))))))))))))
set_option maxRecDepth 100000 in
theorem L_law_72_s362 {L : Nat} {xs : Nat → Int32} {z : CZ} (hX : XS (L_law_72_x z) L xs) {k384 : Kn} (hk384 : SK (L_law_72_x z) 384 k384) : SK (L_law_72_x z) 362 (L_law_72_b362 L xs X11_shut k384) := (s_vI (pc := 362) (run_virtual (X11_shut_gd _) (show 1 < 803 by decide) cy_X11_shut (by decide) rfl w_593 w_594 w_592 dL_law_362) (s_aloadn (pc := 365) dL_law_365 rfl (s_aloadn (pc := 366) dL_law_366 rfl (s_iloadn (pc := 367) dL_law_367 rfl (s_iconst (pc := 368) dL_law_368 c_ic_1 (s_iadd (pc := 369) dL_law_369 (s_scB hX (pc := 370) dL_law_370 (s_aloadn (pc := 371) dL_law_371 rfl (s_iloadn (pc := 372) dL_law_372 rfl (s_iconst (pc := 373) dL_law_373 c_ic_2 (s_iadd (pc := 374) dL_law_374 (s_scB hX (pc := 375) dL_law_375 (s_ifeq (pc := 376) dL_law_376 (by decide) (s_iconst (pc := 383) dL_law_383 c_ic_0 hk384) (s_iconst (pc := 379) dL_law_379 c_ic_1 (s_goto (pc := 380) dL_law_380 (by decide) hk384)))))))))))))))
noncomputable def L_law_72_b384 (L : Nat) (xs : Nat → Int32) (c_X12_shut : Nat → Int32 → Int32 → PH → Option Rs) (k1807 : Kn) : Kn := (a_vI 11 2 (FW_T11II c_X12_shut) (a_eq k1807 (a_ic 0 a_zr)))
set_option maxRecDepth 100000 in
theorem L_law_72_s384 {L : Nat} {xs : Nat → Int32} {z : CZ} (hX : XS (L_law_72_x z) L xs) {k1807 : Kn} (hk1807 : SK (L_law_72_x z) 1807 k1807) : SK (L_law_72_x z) 384 (L_law_72_b384 L xs X12_shut k1807) := (s_vI (pc := 384) (run_virtual (X12_shut_gd _) (show 1 < 803 by decide) cy_X12_shut (by decide) rfl w_1492 w_1493 w_1491 dL_law_384) (s_cmpeq (pc := 387) dL_law_387 (by decide) hk1807 (s_iconst (pc := 390) dL_law_390 c_ic_0 (s_zr (pc := 391) rfl dL_law_391))))
noncomputable def L_law_72_b1807 (L : Nat) (xs : Nat → Int32) (k18 : Kn) : Kn := (a_inc 3 6 k18)
set_option maxRecDepth 100000 in
theorem L_law_72_s1807 {L : Nat} {xs : Nat → Int32} {z : CZ} (hX : XS (L_law_72_x z) L xs) {k18 : Kn} (hk18 : SK (L_law_72_x z) 18 k18) : SK (L_law_72_x z) 1807 (L_law_72_b1807 L xs k18) := (s_iinc (pc := 1807) dL_law_1807 c_ic_6 (show 3 < 4 by decide) (s_goto (pc := 1810) dL_law_1810 (by decide) hk18))
noncomputable def L_law_72_u18 (g : Nat → Nat → Nat → Int32 → PH → Option Rs) : Kn := fun ls st h => gL 0 st (gR 72 ls 0 fun x0 => gR 10 ls 1 fun x1 => gR 11 ls 2 fun x2 => gI ls 3 fun x3 => g x0 x1 x2 x3 h)
noncomputable def L_law_72_u362 (g : Nat → Nat → Nat → Int32 → Int32 → Int32 → Nat → PH → Option Rs) : Kn := fun ls st h => gL 3 st (gR 72 ls 0 fun x0 => gR 10 ls 1 fun x1 => gR 11 ls 2 fun x2 => gI ls 3 fun x3 => gI (st.map some) 0 fun s0 => gI (st.map some) 1 fun s1 => gR 10 (st.map some) 2 fun s2 => g x0 x1 x2 x3 s0 s1 s2 h)
noncomputable def L_law_72_u384 (g : Nat → Nat → Nat → Int32 → Int32 → Int32 → Nat → Int32 → PH → Option Rs) : Kn := fun ls st h => gL 4 st (gR 72 ls 0 fun x0 => gR 10 ls 1 fun x1 => gR 11 ls 2 fun x2 => gI ls 3 fun x3 => gI (st.map some) 0 fun s0 => gI (st.map some) 1 fun s1 => gR 11 (st.map some) 2 fun s2 => gI (st.map some) 3 fun s3 => g x0 x1 x2 x3 s0 s1 s2 s3 h)
noncomputable def L_law_72_u1807 (g : Nat → Nat → Nat → Int32 → PH → Option Rs) : Kn := fun ls st h => gL 0 st (gR 72 ls 0 fun x0 => gR 10 ls 1 fun x1 => gR 11 ls 2 fun x2 => gI ls 3 fun x3 => g x0 x1 x2 x3 h)
noncomputable def L_law_72_f0 (L : Nat) (xs : Nat → Int32) (c_X11_init : Nat → PH → Option Rs) (c_X12_init : Nat → PH → Option Rs) (g18 : Nat → Nat → Nat → Int32 → PH → Option Rs) (x0 : Nat) (h : PH) : Option Rs :=
  wr (nw h 10 0 10) fun h1 =>
  nn (hN h 10 + 1) fun r2 =>
  cV (c_X11_init r2 h1) fun h3 =>
  wr (nw h3 11 0 51) fun h4 =>
  nn (hN h3 11 + 1) fun r5 =>
  cV (c_X12_init r5 h4) fun h6 =>
  g18 x0 (hN h 10 + 1) (hN h3 11 + 1) 0 h6
set_option maxRecDepth 100000 in
theorem L_law_72_l0 (L : Nat) (xs : Nat → Int32) (c_X11_init : Nat → PH → Option Rs) (c_X12_init : Nat → PH → Option Rs) (g18 : Nat → Nat → Nat → Int32 → PH → Option Rs) (x0 : Nat) (h : PH) : L_law_72_b0 L xs c_X11_init c_X12_init (L_law_72_u18 g18) [some (.inr (72, x0)), none, none, none] [] h = L_law_72_f0 L xs c_X11_init c_X12_init g18 x0 h := rfl
theorem L_law_72_m0 {L : Nat} {xs : Nat → Int32} {c_X11_init : Nat → PH → Option Rs} {c_X12_init : Nat → PH → Option Rs} {g18 G18 : Nat → Nat → Nat → Int32 → PH → Option Rs} (hg18 : ∀ a0 a1 a2 a3 a4, Mo (g18 a0 a1 a2 a3 a4) (G18 a0 a1 a2 a3 a4)) (x0 : Nat) (h : PH) : Mo (L_law_72_f0 L xs c_X11_init c_X12_init g18 x0 h) (L_law_72_f0 L xs c_X11_init c_X12_init G18 x0 h) := (mo_wr fun h1 => (mo_nn fun r2 => (mo_cV fun h3 => (mo_wr fun h4 => (mo_nn fun r5 => (mo_cV fun h6 => (hg18 x0 (hN h 10 + 1) (hN h3 11 + 1) 0 h6)))))))
noncomputable def L_law_72_f18 (L : Nat) (xs : Nat → Int32) (c_X11_place : Nat → PH → Option Rs) (c_X12_place : Nat → PH → Option Rs) (c_X11_way : Nat → Int32 → Int32 → Int32 → Int32 → PH → Option Rs) (c_X12_way : Nat → Int32 → Int32 → Int32 → Int32 → PH → Option Rs) (c_X11_wayTold : Nat → Int32 → Int32 → PH → Option Rs) (c_X12_wayTold : Nat → Int32 → Int32 → PH → Option Rs) (c_X11_goal : Nat → Int32 → Int32 → PH → Option Rs) (c_X12_goal : Nat → Int32 → Int32 → PH → Option Rs) (c_X11_goalTold : Nat → Int32 → Int32 → PH → Option Rs) (c_X12_goalTold : Nat → Int32 → Int32 → PH → Option Rs) (c_X11_hours : Nat → Int32 → PH → Option Rs) (c_X12_hours : Nat → Int32 → PH → Option Rs) (c_X11_sign : Nat → Int32 → Int32 → Int32 → PH → Option Rs) (c_X12_sign : Nat → Int32 → Int32 → Int32 → PH → Option Rs) (c_X11_told : Nat → Int32 → Int32 → PH → Option Rs) (c_X12_told : Nat → Int32 → Int32 → PH → Option Rs) (c_X11_as : Nat → Int32 → Int32 → PH → Option Rs) (c_X12_as : Nat → Int32 → Int32 → PH → Option Rs) (c_X11_turns : Nat → Int32 → Int32 → PH → Option Rs) (c_X12_turns : Nat → Int32 → Int32 → PH → Option Rs) (c_X11_row : Nat → Int32 → Int32 → Int32 → PH → Option Rs) (c_X12_row : Nat → Int32 → Int32 → Int32 → PH → Option Rs) (c_X11_rowTold : Nat → Int32 → Int32 → Int32 → PH → Option Rs) (c_X12_rowTold : Nat → Int32 → Int32 → Int32 → PH → Option Rs) (c_X11_drop : Nat → Int32 → Int32 → PH → Option Rs) (c_X12_drop : Nat → Int32 → Int32 → PH → Option Rs) (c_X11_aim : Nat → Int32 → Int32 → Int32 → PH → Option Rs) (c_X12_aim : Nat → Int32 → Int32 → Int32 → PH → Option Rs) (c_X11_undo : Nat → PH → Option Rs) (c_X12_undo : Nat → PH → Option Rs) (c_X11_feed : Nat → Int32 → Int32 → Int32 → PH → Option Rs) (c_X12_feed : Nat → Int32 → Int32 → Int32 → PH → Option Rs) (c_X11_trim : Nat → Int32 → PH → Option Rs) (c_X12_trim : Nat → Int32 → PH → Option Rs) (c_X11_text : Nat → PH → Option Rs) (c_X12_text : Nat → PH → Option Rs) (c_X11_textTold : Nat → Int32 → Int32 → PH → Option Rs) (c_X12_textTold : Nat → Int32 → Int32 → PH → Option Rs) (c_X11_why : Nat → Int32 → PH → Option Rs) (c_X12_why : Nat → Int32 → PH → Option Rs) (c_X11_walk : Nat → Int32 → Int32 → Int32 → Int32 → PH → Option Rs) (c_X12_walk : Nat → Int32 → Int32 → Int32 → Int32 → PH → Option Rs) (c_X11_via : Nat → Int32 → Int32 → Int32 → Int32 → PH → Option Rs) (c_X12_via : Nat → Int32 → Int32 → Int32 → Int32 → PH → Option Rs) (c_X11_far : Nat → Int32 → Int32 → Int32 → PH → Option Rs) (c_X12_far : Nat → Int32 → Int32 → Int32 → PH → Option Rs) (c_X11_next : Nat → Int32 → Int32 → Int32 → PH → Option Rs) (c_X12_next : Nat → Int32 → Int32 → Int32 → PH → Option Rs) (c_X11_breaches : Nat → Int32 → PH → Option Rs) (c_X12_breaches : Nat → Int32 → PH → Option Rs) (c_X11_breach : Nat → Int32 → Int32 → PH → Option Rs) (c_X12_breach : Nat → Int32 → Int32 → PH → Option Rs) (c_X11_needs : Nat → Int32 → Int32 → PH → Option Rs) (c_X12_needs : Nat → Int32 → Int32 → PH → Option Rs) (c_X11_wrong : Nat → Int32 → PH → Option Rs) (c_X12_wrong : Nat → Int32 → PH → Option Rs) (c_X11_mend : Nat → Int32 → PH → Option Rs) (c_X12_mend : Nat → Int32 → PH → Option Rs) (c_X11_choose : Nat → Int32 → PH → Option Rs) (c_X12_choose : Nat → Int32 → PH → Option Rs) (c_X11_clear : Nat → PH → Option Rs) (c_X12_clear : Nat → PH → Option Rs) (c_X11_fewest : Nat → Int32 → Int32 → PH → Option Rs) (c_X12_fewest : Nat → Int32 → Int32 → PH → Option Rs) (c_X11_seed : Nat → Int32 → PH → Option Rs) (c_X12_seed : Nat → Int32 → PH → Option Rs) (c_X11_strangers : Nat → Int32 → PH → Option Rs) (c_X12_strangers : Nat → Int32 → PH → Option Rs) (c_X11_led : Nat → PH → Option Rs) (c_X12_led : Nat → PH → Option Rs) (c_X11_sheet : Nat → Int32 → Int32 → Int32 → PH → Option Rs) (c_X12_sheet : Nat → Int32 → Int32 → Int32 → PH → Option Rs) (c_X11_mark : Nat → Int32 → Int32 → Int32 → PH → Option Rs) (c_X12_mark : Nat → Int32 → Int32 → Int32 → PH → Option Rs) (c_X11_fill : Nat → Int32 → Int32 → PH → Option Rs) (c_X12_fill : Nat → Int32 → Int32 → PH → Option Rs) (c_X11_copy : Nat → Int32 → Int32 → Int32 → Int32 → Int32 → PH → Option Rs) (c_X12_copy : Nat → Int32 → Int32 → Int32 → Int32 → Int32 → PH → Option Rs) (c_X11_lay : Nat → Int32 → Int32 → Int32 → PH → Option Rs) (c_X12_lay : Nat → Int32 → Int32 → Int32 → PH → Option Rs) (c_X11_ask : Nat → Int32 → Int32 → PH → Option Rs) (c_X12_ask : Nat → Int32 → Int32 → PH → Option Rs) (c_X11_item : Nat → Int32 → Int32 → PH → Option Rs) (c_X12_item : Nat → Int32 → Int32 → PH → Option Rs) (c_X11_rest : Nat → Int32 → Int32 → PH → Option Rs) (c_X12_rest : Nat → Int32 → Int32 → PH → Option Rs) (c_X11_tell : Nat → Int32 → PH → Option Rs) (c_X12_tell : Nat → Int32 → PH → Option Rs) (c_X11_check : Nat → Int32 → PH → Option Rs) (c_X12_check : Nat → Int32 → PH → Option Rs) (c_X11_keep : Nat → PH → Option Rs) (c_X12_keep : Nat → PH → Option Rs) (c_X11_back : Nat → PH → Option Rs) (c_X12_back : Nat → PH → Option Rs) (c_X11_count : Nat → Int32 → PH → Option Rs) (c_X12_count : Nat → Int32 → PH → Option Rs) (g362 : Nat → Nat → Nat → Int32 → Int32 → Int32 → Nat → PH → Option Rs) (g1807 : Nat → Nat → Nat → Int32 → PH → Option Rs) (x0 : Nat) (x1 : Nat) (x2 : Nat) (x3 : Int32) (h : PH) : Option Rs :=
  nn x0 fun r7 =>
  sc0 r7 <|
  if ((Int32.ofNat L) - 6) < x3 then
    bz 1 <|
    some (some (.inl 1), h)
  else
    nn x0 fun r8 =>
    sc0 r8 <|
    ix x3 L fun j9 =>
    wi ((xs j9) &&& 63) fun v10 =>
    if v10 = 0 then
      nn x1 fun r11 =>
      cI (c_X11_place r11 h) fun v13 h12 =>
      nn x2 fun r14 =>
      cI (c_X12_place r14 h12) fun v16 h15 =>
      if v13 = v16 then
        g1807 x0 x1 x2 x3 h15
      else
        bz 0 <|
        some (some (.inl 0), h15)
    else
    if v10 = 1 then
      nn x0 fun r17 =>
      sc0 r17 <|
      ix (x3 + 1) L fun j18 =>
      nn x0 fun r19 =>
      sc0 r19 <|
      ix (x3 + 2) L fun j20 =>
      nn x0 fun r21 =>
      sc0 r21 <|
      ix (x3 + 3) L fun j22 =>
      nn x0 fun r23 =>
      sc0 r23 <|
      ix (x3 + 4) L fun j24 =>
      nn x1 fun r25 =>
      cI (c_X11_way r25 (xs j18) (xs j20) (xs j22) (xs j24) h) fun v27 h26 =>
      nn x0 fun r28 =>
      sc0 r28 <|
      ix (x3 + 1) L fun j29 =>
      nn x0 fun r30 =>
      sc0 r30 <|
      ix (x3 + 2) L fun j31 =>
      nn x0 fun r32 =>
      sc0 r32 <|
      ix (x3 + 3) L fun j33 =>
      nn x0 fun r34 =>
      sc0 r34 <|
      ix (x3 + 4) L fun j35 =>
      nn x2 fun r36 =>
      cI (c_X12_way r36 (xs j29) (xs j31) (xs j33) (xs j35) h26) fun v38 h37 =>
      if v27 = v38 then
        g1807 x0 x1 x2 x3 h37
      else
        bz 0 <|
        some (some (.inl 0), h37)
    else
    if v10 = 2 then
      nn x0 fun r39 =>
      sc0 r39 <|
      ix (x3 + 1) L fun j40 =>
      nn x0 fun r41 =>
      sc0 r41 <|
      ix (x3 + 2) L fun j42 =>
      nn x1 fun r43 =>
      cI (c_X11_wayTold r43 (xs j40) (xs j42) h) fun v45 h44 =>
      nn x0 fun r46 =>
      sc0 r46 <|
      ix (x3 + 1) L fun j47 =>
      nn x0 fun r48 =>
      sc0 r48 <|
      ix (x3 + 2) L fun j49 =>
      nn x2 fun r50 =>
      cI (c_X12_wayTold r50 (xs j47) (xs j49) h44) fun v52 h51 =>
      if v45 = v52 then
        g1807 x0 x1 x2 x3 h51
      else
        bz 0 <|
        some (some (.inl 0), h51)
    else
    if v10 = 3 then
      nn x0 fun r53 =>
      sc0 r53 <|
      ix (x3 + 1) L fun j54 =>
      nn x0 fun r55 =>
      sc0 r55 <|
      ix (x3 + 2) L fun j56 =>
      if (xs j56) = 0 then
        g362 x0 x1 x2 x3 0 (xs j54) x1 h
      else
        g362 x0 x1 x2 x3 1 (xs j54) x1 h
    else
    if v10 = 4 then
      nn x0 fun r57 =>
      sc0 r57 <|
      ix (x3 + 1) L fun j58 =>
      nn x0 fun r59 =>
      sc0 r59 <|
      ix (x3 + 2) L fun j60 =>
      nn x1 fun r61 =>
      cI (c_X11_goal r61 (xs j58) (xs j60) h) fun v63 h62 =>
      nn x0 fun r64 =>
      sc0 r64 <|
      ix (x3 + 1) L fun j65 =>
      nn x0 fun r66 =>
      sc0 r66 <|
      ix (x3 + 2) L fun j67 =>
      nn x2 fun r68 =>
      cI (c_X12_goal r68 (xs j65) (xs j67) h62) fun v70 h69 =>
      if v63 = v70 then
        g1807 x0 x1 x2 x3 h69
      else
        bz 0 <|
        some (some (.inl 0), h69)
    else
    if v10 = 5 then
      nn x0 fun r71 =>
      sc0 r71 <|
      ix (x3 + 1) L fun j72 =>
      nn x0 fun r73 =>
      sc0 r73 <|
      ix (x3 + 2) L fun j74 =>
      nn x1 fun r75 =>
      cI (c_X11_goalTold r75 (xs j72) (xs j74) h) fun v77 h76 =>
      nn x0 fun r78 =>
      sc0 r78 <|
      ix (x3 + 1) L fun j79 =>
      nn x0 fun r80 =>
      sc0 r80 <|
      ix (x3 + 2) L fun j81 =>
      nn x2 fun r82 =>
      cI (c_X12_goalTold r82 (xs j79) (xs j81) h76) fun v84 h83 =>
      if v77 = v84 then
        g1807 x0 x1 x2 x3 h83
      else
        bz 0 <|
        some (some (.inl 0), h83)
    else
    if v10 = 6 then
      nn x0 fun r85 =>
      sc0 r85 <|
      ix (x3 + 1) L fun j86 =>
      nn x1 fun r87 =>
      cI (c_X11_hours r87 (xs j86) h) fun v89 h88 =>
      nn x0 fun r90 =>
      sc0 r90 <|
      ix (x3 + 1) L fun j91 =>
      nn x2 fun r92 =>
      cI (c_X12_hours r92 (xs j91) h88) fun v94 h93 =>
      if v89 = v94 then
        g1807 x0 x1 x2 x3 h93
      else
        bz 0 <|
        some (some (.inl 0), h93)
    else
    if v10 = 7 then
      nn x0 fun r95 =>
      sc0 r95 <|
      ix (x3 + 1) L fun j96 =>
      nn x0 fun r97 =>
      sc0 r97 <|
      ix (x3 + 2) L fun j98 =>
      nn x0 fun r99 =>
      sc0 r99 <|
      ix (x3 + 3) L fun j100 =>
      nn x1 fun r101 =>
      cI (c_X11_sign r101 (xs j96) (xs j98) (xs j100) h) fun v103 h102 =>
      nn x0 fun r104 =>
      sc0 r104 <|
      ix (x3 + 1) L fun j105 =>
      nn x0 fun r106 =>
      sc0 r106 <|
      ix (x3 + 2) L fun j107 =>
      nn x0 fun r108 =>
      sc0 r108 <|
      ix (x3 + 3) L fun j109 =>
      nn x2 fun r110 =>
      cI (c_X12_sign r110 (xs j105) (xs j107) (xs j109) h102) fun v112 h111 =>
      if v103 = v112 then
        g1807 x0 x1 x2 x3 h111
      else
        bz 0 <|
        some (some (.inl 0), h111)
    else
    if v10 = 8 then
      nn x0 fun r113 =>
      sc0 r113 <|
      ix (x3 + 1) L fun j114 =>
      nn x0 fun r115 =>
      sc0 r115 <|
      ix (x3 + 2) L fun j116 =>
      nn x1 fun r117 =>
      cI (c_X11_told r117 (xs j114) (xs j116) h) fun v119 h118 =>
      nn x0 fun r120 =>
      sc0 r120 <|
      ix (x3 + 1) L fun j121 =>
      nn x0 fun r122 =>
      sc0 r122 <|
      ix (x3 + 2) L fun j123 =>
      nn x2 fun r124 =>
      cI (c_X12_told r124 (xs j121) (xs j123) h118) fun v126 h125 =>
      if v119 = v126 then
        g1807 x0 x1 x2 x3 h125
      else
        bz 0 <|
        some (some (.inl 0), h125)
    else
    if v10 = 9 then
      nn x0 fun r127 =>
      sc0 r127 <|
      ix (x3 + 1) L fun j128 =>
      nn x0 fun r129 =>
      sc0 r129 <|
      ix (x3 + 2) L fun j130 =>
      nn x1 fun r131 =>
      cI (c_X11_as r131 (xs j128) (xs j130) h) fun v133 h132 =>
      nn x0 fun r134 =>
      sc0 r134 <|
      ix (x3 + 1) L fun j135 =>
      nn x0 fun r136 =>
      sc0 r136 <|
      ix (x3 + 2) L fun j137 =>
      nn x2 fun r138 =>
      cI (c_X12_as r138 (xs j135) (xs j137) h132) fun v140 h139 =>
      if v133 = v140 then
        g1807 x0 x1 x2 x3 h139
      else
        bz 0 <|
        some (some (.inl 0), h139)
    else
    if v10 = 10 then
      nn x0 fun r141 =>
      sc0 r141 <|
      ix (x3 + 1) L fun j142 =>
      nn x0 fun r143 =>
      sc0 r143 <|
      ix (x3 + 2) L fun j144 =>
      nn x1 fun r145 =>
      cI (c_X11_turns r145 (xs j142) (xs j144) h) fun v147 h146 =>
      nn x0 fun r148 =>
      sc0 r148 <|
      ix (x3 + 1) L fun j149 =>
      nn x0 fun r150 =>
      sc0 r150 <|
      ix (x3 + 2) L fun j151 =>
      nn x2 fun r152 =>
      cI (c_X12_turns r152 (xs j149) (xs j151) h146) fun v154 h153 =>
      if v147 = v154 then
        g1807 x0 x1 x2 x3 h153
      else
        bz 0 <|
        some (some (.inl 0), h153)
    else
    if v10 = 11 then
      nn x0 fun r155 =>
      sc0 r155 <|
      ix (x3 + 1) L fun j156 =>
      nn x0 fun r157 =>
      sc0 r157 <|
      ix (x3 + 2) L fun j158 =>
      nn x0 fun r159 =>
      sc0 r159 <|
      ix (x3 + 3) L fun j160 =>
      nn x1 fun r161 =>
      cI (c_X11_row r161 (xs j156) (xs j158) (xs j160) h) fun v163 h162 =>
      nn x0 fun r164 =>
      sc0 r164 <|
      ix (x3 + 1) L fun j165 =>
      nn x0 fun r166 =>
      sc0 r166 <|
      ix (x3 + 2) L fun j167 =>
      nn x0 fun r168 =>
      sc0 r168 <|
      ix (x3 + 3) L fun j169 =>
      nn x2 fun r170 =>
      cI (c_X12_row r170 (xs j165) (xs j167) (xs j169) h162) fun v172 h171 =>
      if v163 = v172 then
        g1807 x0 x1 x2 x3 h171
      else
        bz 0 <|
        some (some (.inl 0), h171)
    else
    if v10 = 12 then
      nn x0 fun r173 =>
      sc0 r173 <|
      ix (x3 + 1) L fun j174 =>
      nn x0 fun r175 =>
      sc0 r175 <|
      ix (x3 + 2) L fun j176 =>
      nn x0 fun r177 =>
      sc0 r177 <|
      ix (x3 + 3) L fun j178 =>
      nn x1 fun r179 =>
      cI (c_X11_rowTold r179 (xs j174) (xs j176) (xs j178) h) fun v181 h180 =>
      nn x0 fun r182 =>
      sc0 r182 <|
      ix (x3 + 1) L fun j183 =>
      nn x0 fun r184 =>
      sc0 r184 <|
      ix (x3 + 2) L fun j185 =>
      nn x0 fun r186 =>
      sc0 r186 <|
      ix (x3 + 3) L fun j187 =>
      nn x2 fun r188 =>
      cI (c_X12_rowTold r188 (xs j183) (xs j185) (xs j187) h180) fun v190 h189 =>
      if v181 = v190 then
        g1807 x0 x1 x2 x3 h189
      else
        bz 0 <|
        some (some (.inl 0), h189)
    else
    if v10 = 13 then
      nn x0 fun r191 =>
      sc0 r191 <|
      ix (x3 + 1) L fun j192 =>
      nn x0 fun r193 =>
      sc0 r193 <|
      ix (x3 + 2) L fun j194 =>
      nn x1 fun r195 =>
      cI (c_X11_drop r195 (xs j192) (xs j194) h) fun v197 h196 =>
      nn x0 fun r198 =>
      sc0 r198 <|
      ix (x3 + 1) L fun j199 =>
      nn x0 fun r200 =>
      sc0 r200 <|
      ix (x3 + 2) L fun j201 =>
      nn x2 fun r202 =>
      cI (c_X12_drop r202 (xs j199) (xs j201) h196) fun v204 h203 =>
      if v197 = v204 then
        g1807 x0 x1 x2 x3 h203
      else
        bz 0 <|
        some (some (.inl 0), h203)
    else
    if v10 = 14 then
      nn x0 fun r205 =>
      sc0 r205 <|
      ix (x3 + 1) L fun j206 =>
      nn x0 fun r207 =>
      sc0 r207 <|
      ix (x3 + 2) L fun j208 =>
      nn x0 fun r209 =>
      sc0 r209 <|
      ix (x3 + 3) L fun j210 =>
      nn x1 fun r211 =>
      cI (c_X11_aim r211 (xs j206) (xs j208) (xs j210) h) fun v213 h212 =>
      nn x0 fun r214 =>
      sc0 r214 <|
      ix (x3 + 1) L fun j215 =>
      nn x0 fun r216 =>
      sc0 r216 <|
      ix (x3 + 2) L fun j217 =>
      nn x0 fun r218 =>
      sc0 r218 <|
      ix (x3 + 3) L fun j219 =>
      nn x2 fun r220 =>
      cI (c_X12_aim r220 (xs j215) (xs j217) (xs j219) h212) fun v222 h221 =>
      if v213 = v222 then
        g1807 x0 x1 x2 x3 h221
      else
        bz 0 <|
        some (some (.inl 0), h221)
    else
    if v10 = 15 then
      nn x1 fun r223 =>
      cI (c_X11_undo r223 h) fun v225 h224 =>
      nn x2 fun r226 =>
      cI (c_X12_undo r226 h224) fun v228 h227 =>
      if v225 = v228 then
        g1807 x0 x1 x2 x3 h227
      else
        bz 0 <|
        some (some (.inl 0), h227)
    else
    if v10 = 16 then
      nn x0 fun r229 =>
      sc0 r229 <|
      ix (x3 + 1) L fun j230 =>
      nn x0 fun r231 =>
      sc0 r231 <|
      ix (x3 + 2) L fun j232 =>
      nn x0 fun r233 =>
      sc0 r233 <|
      ix (x3 + 3) L fun j234 =>
      nn x1 fun r235 =>
      cI (c_X11_feed r235 (xs j230) (xs j232) (xs j234) h) fun v237 h236 =>
      nn x0 fun r238 =>
      sc0 r238 <|
      ix (x3 + 1) L fun j239 =>
      nn x0 fun r240 =>
      sc0 r240 <|
      ix (x3 + 2) L fun j241 =>
      nn x0 fun r242 =>
      sc0 r242 <|
      ix (x3 + 3) L fun j243 =>
      nn x2 fun r244 =>
      cI (c_X12_feed r244 (xs j239) (xs j241) (xs j243) h236) fun v246 h245 =>
      if v237 = v246 then
        g1807 x0 x1 x2 x3 h245
      else
        bz 0 <|
        some (some (.inl 0), h245)
    else
    if v10 = 17 then
      nn x0 fun r247 =>
      sc0 r247 <|
      ix (x3 + 1) L fun j248 =>
      nn x1 fun r249 =>
      cI (c_X11_trim r249 (xs j248) h) fun v251 h250 =>
      nn x0 fun r252 =>
      sc0 r252 <|
      ix (x3 + 1) L fun j253 =>
      nn x2 fun r254 =>
      cI (c_X12_trim r254 (xs j253) h250) fun v256 h255 =>
      if v251 = v256 then
        g1807 x0 x1 x2 x3 h255
      else
        bz 0 <|
        some (some (.inl 0), h255)
    else
    if v10 = 18 then
      nn x1 fun r257 =>
      cI (c_X11_text r257 h) fun v259 h258 =>
      nn x2 fun r260 =>
      cI (c_X12_text r260 h258) fun v262 h261 =>
      if v259 = v262 then
        g1807 x0 x1 x2 x3 h261
      else
        bz 0 <|
        some (some (.inl 0), h261)
    else
    if v10 = 19 then
      nn x0 fun r263 =>
      sc0 r263 <|
      ix (x3 + 1) L fun j264 =>
      nn x0 fun r265 =>
      sc0 r265 <|
      ix (x3 + 2) L fun j266 =>
      nn x1 fun r267 =>
      cI (c_X11_textTold r267 (xs j264) (xs j266) h) fun v269 h268 =>
      nn x0 fun r270 =>
      sc0 r270 <|
      ix (x3 + 1) L fun j271 =>
      nn x0 fun r272 =>
      sc0 r272 <|
      ix (x3 + 2) L fun j273 =>
      nn x2 fun r274 =>
      cI (c_X12_textTold r274 (xs j271) (xs j273) h268) fun v276 h275 =>
      if v269 = v276 then
        g1807 x0 x1 x2 x3 h275
      else
        bz 0 <|
        some (some (.inl 0), h275)
    else
    if v10 = 20 then
      nn x0 fun r277 =>
      sc0 r277 <|
      ix (x3 + 1) L fun j278 =>
      nn x1 fun r279 =>
      cI (c_X11_why r279 (xs j278) h) fun v281 h280 =>
      nn x0 fun r282 =>
      sc0 r282 <|
      ix (x3 + 1) L fun j283 =>
      nn x2 fun r284 =>
      cI (c_X12_why r284 (xs j283) h280) fun v286 h285 =>
      if v281 = v286 then
        g1807 x0 x1 x2 x3 h285
      else
        bz 0 <|
        some (some (.inl 0), h285)
    else
    if v10 = 21 then
      nn x0 fun r287 =>
      sc0 r287 <|
      ix (x3 + 1) L fun j288 =>
      nn x0 fun r289 =>
      sc0 r289 <|
      ix (x3 + 2) L fun j290 =>
      nn x0 fun r291 =>
      sc0 r291 <|
      ix (x3 + 3) L fun j292 =>
      nn x0 fun r293 =>
      sc0 r293 <|
      ix (x3 + 4) L fun j294 =>
      nn x1 fun r295 =>
      cI (c_X11_walk r295 (xs j288) (xs j290) (xs j292) (xs j294) h) fun v297 h296 =>
      nn x0 fun r298 =>
      sc0 r298 <|
      ix (x3 + 1) L fun j299 =>
      nn x0 fun r300 =>
      sc0 r300 <|
      ix (x3 + 2) L fun j301 =>
      nn x0 fun r302 =>
      sc0 r302 <|
      ix (x3 + 3) L fun j303 =>
      nn x0 fun r304 =>
      sc0 r304 <|
      ix (x3 + 4) L fun j305 =>
      nn x2 fun r306 =>
      cI (c_X12_walk r306 (xs j299) (xs j301) (xs j303) (xs j305) h296) fun v308 h307 =>
      if v297 = v308 then
        g1807 x0 x1 x2 x3 h307
      else
        bz 0 <|
        some (some (.inl 0), h307)
    else
    if v10 = 22 then
      nn x0 fun r309 =>
      sc0 r309 <|
      ix (x3 + 1) L fun j310 =>
      nn x0 fun r311 =>
      sc0 r311 <|
      ix (x3 + 2) L fun j312 =>
      nn x0 fun r313 =>
      sc0 r313 <|
      ix (x3 + 3) L fun j314 =>
      nn x0 fun r315 =>
      sc0 r315 <|
      ix (x3 + 4) L fun j316 =>
      nn x1 fun r317 =>
      cI (c_X11_via r317 (xs j310) (xs j312) (xs j314) (xs j316) h) fun v319 h318 =>
      nn x0 fun r320 =>
      sc0 r320 <|
      ix (x3 + 1) L fun j321 =>
      nn x0 fun r322 =>
      sc0 r322 <|
      ix (x3 + 2) L fun j323 =>
      nn x0 fun r324 =>
      sc0 r324 <|
      ix (x3 + 3) L fun j325 =>
      nn x0 fun r326 =>
      sc0 r326 <|
      ix (x3 + 4) L fun j327 =>
      nn x2 fun r328 =>
      cI (c_X12_via r328 (xs j321) (xs j323) (xs j325) (xs j327) h318) fun v330 h329 =>
      if v319 = v330 then
        g1807 x0 x1 x2 x3 h329
      else
        bz 0 <|
        some (some (.inl 0), h329)
    else
    if v10 = 23 then
      nn x0 fun r331 =>
      sc0 r331 <|
      ix (x3 + 1) L fun j332 =>
      nn x0 fun r333 =>
      sc0 r333 <|
      ix (x3 + 2) L fun j334 =>
      nn x0 fun r335 =>
      sc0 r335 <|
      ix (x3 + 3) L fun j336 =>
      nn x1 fun r337 =>
      cI (c_X11_far r337 (xs j332) (xs j334) (xs j336) h) fun v339 h338 =>
      nn x0 fun r340 =>
      sc0 r340 <|
      ix (x3 + 1) L fun j341 =>
      nn x0 fun r342 =>
      sc0 r342 <|
      ix (x3 + 2) L fun j343 =>
      nn x0 fun r344 =>
      sc0 r344 <|
      ix (x3 + 3) L fun j345 =>
      nn x2 fun r346 =>
      cI (c_X12_far r346 (xs j341) (xs j343) (xs j345) h338) fun v348 h347 =>
      if v339 = v348 then
        g1807 x0 x1 x2 x3 h347
      else
        bz 0 <|
        some (some (.inl 0), h347)
    else
    if v10 = 24 then
      nn x0 fun r349 =>
      sc0 r349 <|
      ix (x3 + 1) L fun j350 =>
      nn x0 fun r351 =>
      sc0 r351 <|
      ix (x3 + 2) L fun j352 =>
      nn x0 fun r353 =>
      sc0 r353 <|
      ix (x3 + 3) L fun j354 =>
      nn x1 fun r355 =>
      cI (c_X11_next r355 (xs j350) (xs j352) (xs j354) h) fun v357 h356 =>
      nn x0 fun r358 =>
      sc0 r358 <|
      ix (x3 + 1) L fun j359 =>
      nn x0 fun r360 =>
      sc0 r360 <|
      ix (x3 + 2) L fun j361 =>
      nn x0 fun r362 =>
      sc0 r362 <|
      ix (x3 + 3) L fun j363 =>
      nn x2 fun r364 =>
      cI (c_X12_next r364 (xs j359) (xs j361) (xs j363) h356) fun v366 h365 =>
      if v357 = v366 then
        g1807 x0 x1 x2 x3 h365
      else
        bz 0 <|
        some (some (.inl 0), h365)
    else
    if v10 = 25 then
      nn x0 fun r367 =>
      sc0 r367 <|
      ix (x3 + 1) L fun j368 =>
      nn x1 fun r369 =>
      cI (c_X11_breaches r369 (xs j368) h) fun v371 h370 =>
      nn x0 fun r372 =>
      sc0 r372 <|
      ix (x3 + 1) L fun j373 =>
      nn x2 fun r374 =>
      cI (c_X12_breaches r374 (xs j373) h370) fun v376 h375 =>
      if v371 = v376 then
        g1807 x0 x1 x2 x3 h375
      else
        bz 0 <|
        some (some (.inl 0), h375)
    else
    if v10 = 26 then
      nn x0 fun r377 =>
      sc0 r377 <|
      ix (x3 + 1) L fun j378 =>
      nn x0 fun r379 =>
      sc0 r379 <|
      ix (x3 + 2) L fun j380 =>
      nn x1 fun r381 =>
      cI (c_X11_breach r381 (xs j378) (xs j380) h) fun v383 h382 =>
      nn x0 fun r384 =>
      sc0 r384 <|
      ix (x3 + 1) L fun j385 =>
      nn x0 fun r386 =>
      sc0 r386 <|
      ix (x3 + 2) L fun j387 =>
      nn x2 fun r388 =>
      cI (c_X12_breach r388 (xs j385) (xs j387) h382) fun v390 h389 =>
      if v383 = v390 then
        g1807 x0 x1 x2 x3 h389
      else
        bz 0 <|
        some (some (.inl 0), h389)
    else
    if v10 = 27 then
      nn x0 fun r391 =>
      sc0 r391 <|
      ix (x3 + 1) L fun j392 =>
      nn x0 fun r393 =>
      sc0 r393 <|
      ix (x3 + 2) L fun j394 =>
      nn x1 fun r395 =>
      cI (c_X11_needs r395 (xs j392) (xs j394) h) fun v397 h396 =>
      nn x0 fun r398 =>
      sc0 r398 <|
      ix (x3 + 1) L fun j399 =>
      nn x0 fun r400 =>
      sc0 r400 <|
      ix (x3 + 2) L fun j401 =>
      nn x2 fun r402 =>
      cI (c_X12_needs r402 (xs j399) (xs j401) h396) fun v404 h403 =>
      if v397 = v404 then
        g1807 x0 x1 x2 x3 h403
      else
        bz 0 <|
        some (some (.inl 0), h403)
    else
    if v10 = 28 then
      nn x0 fun r405 =>
      sc0 r405 <|
      ix (x3 + 1) L fun j406 =>
      nn x1 fun r407 =>
      cI (c_X11_wrong r407 (xs j406) h) fun v409 h408 =>
      nn x0 fun r410 =>
      sc0 r410 <|
      ix (x3 + 1) L fun j411 =>
      nn x2 fun r412 =>
      cI (c_X12_wrong r412 (xs j411) h408) fun v414 h413 =>
      if v409 = v414 then
        g1807 x0 x1 x2 x3 h413
      else
        bz 0 <|
        some (some (.inl 0), h413)
    else
    if v10 = 29 then
      nn x0 fun r415 =>
      sc0 r415 <|
      ix (x3 + 1) L fun j416 =>
      nn x1 fun r417 =>
      cI (c_X11_mend r417 (xs j416) h) fun v419 h418 =>
      nn x0 fun r420 =>
      sc0 r420 <|
      ix (x3 + 1) L fun j421 =>
      nn x2 fun r422 =>
      cI (c_X12_mend r422 (xs j421) h418) fun v424 h423 =>
      if v419 = v424 then
        g1807 x0 x1 x2 x3 h423
      else
        bz 0 <|
        some (some (.inl 0), h423)
    else
    if v10 = 30 then
      nn x0 fun r425 =>
      sc0 r425 <|
      ix (x3 + 1) L fun j426 =>
      nn x1 fun r427 =>
      cI (c_X11_choose r427 (xs j426) h) fun v429 h428 =>
      nn x0 fun r430 =>
      sc0 r430 <|
      ix (x3 + 1) L fun j431 =>
      nn x2 fun r432 =>
      cI (c_X12_choose r432 (xs j431) h428) fun v434 h433 =>
      if v429 = v434 then
        g1807 x0 x1 x2 x3 h433
      else
        bz 0 <|
        some (some (.inl 0), h433)
    else
    if v10 = 31 then
      nn x1 fun r435 =>
      cI (c_X11_clear r435 h) fun v437 h436 =>
      nn x2 fun r438 =>
      cI (c_X12_clear r438 h436) fun v440 h439 =>
      if v437 = v440 then
        g1807 x0 x1 x2 x3 h439
      else
        bz 0 <|
        some (some (.inl 0), h439)
    else
    if v10 = 32 then
      nn x0 fun r441 =>
      sc0 r441 <|
      ix (x3 + 1) L fun j442 =>
      nn x0 fun r443 =>
      sc0 r443 <|
      ix (x3 + 2) L fun j444 =>
      nn x1 fun r445 =>
      cI (c_X11_fewest r445 (xs j442) (xs j444) h) fun v447 h446 =>
      nn x0 fun r448 =>
      sc0 r448 <|
      ix (x3 + 1) L fun j449 =>
      nn x0 fun r450 =>
      sc0 r450 <|
      ix (x3 + 2) L fun j451 =>
      nn x2 fun r452 =>
      cI (c_X12_fewest r452 (xs j449) (xs j451) h446) fun v454 h453 =>
      if v447 = v454 then
        g1807 x0 x1 x2 x3 h453
      else
        bz 0 <|
        some (some (.inl 0), h453)
    else
    if v10 = 33 then
      nn x0 fun r455 =>
      sc0 r455 <|
      ix (x3 + 1) L fun j456 =>
      nn x1 fun r457 =>
      cI (c_X11_seed r457 (xs j456) h) fun v459 h458 =>
      nn x0 fun r460 =>
      sc0 r460 <|
      ix (x3 + 1) L fun j461 =>
      nn x2 fun r462 =>
      cI (c_X12_seed r462 (xs j461) h458) fun v464 h463 =>
      if v459 = v464 then
        g1807 x0 x1 x2 x3 h463
      else
        bz 0 <|
        some (some (.inl 0), h463)
    else
    if v10 = 34 then
      nn x0 fun r465 =>
      sc0 r465 <|
      ix (x3 + 1) L fun j466 =>
      nn x1 fun r467 =>
      cI (c_X11_strangers r467 (xs j466) h) fun v469 h468 =>
      nn x0 fun r470 =>
      sc0 r470 <|
      ix (x3 + 1) L fun j471 =>
      nn x2 fun r472 =>
      cI (c_X12_strangers r472 (xs j471) h468) fun v474 h473 =>
      if v469 = v474 then
        g1807 x0 x1 x2 x3 h473
      else
        bz 0 <|
        some (some (.inl 0), h473)
    else
    if v10 = 35 then
      nn x1 fun r475 =>
      cI (c_X11_led r475 h) fun v477 h476 =>
      nn x2 fun r478 =>
      cI (c_X12_led r478 h476) fun v480 h479 =>
      if v477 = v480 then
        g1807 x0 x1 x2 x3 h479
      else
        bz 0 <|
        some (some (.inl 0), h479)
    else
    if v10 = 36 then
      nn x0 fun r481 =>
      sc0 r481 <|
      ix (x3 + 1) L fun j482 =>
      nn x0 fun r483 =>
      sc0 r483 <|
      ix (x3 + 2) L fun j484 =>
      nn x0 fun r485 =>
      sc0 r485 <|
      ix (x3 + 3) L fun j486 =>
      nn x1 fun r487 =>
      cI (c_X11_sheet r487 (xs j482) (xs j484) (xs j486) h) fun v489 h488 =>
      nn x0 fun r490 =>
      sc0 r490 <|
      ix (x3 + 1) L fun j491 =>
      nn x0 fun r492 =>
      sc0 r492 <|
      ix (x3 + 2) L fun j493 =>
      nn x0 fun r494 =>
      sc0 r494 <|
      ix (x3 + 3) L fun j495 =>
      nn x2 fun r496 =>
      cI (c_X12_sheet r496 (xs j491) (xs j493) (xs j495) h488) fun v498 h497 =>
      if v489 = v498 then
        g1807 x0 x1 x2 x3 h497
      else
        bz 0 <|
        some (some (.inl 0), h497)
    else
    if v10 = 37 then
      nn x0 fun r499 =>
      sc0 r499 <|
      ix (x3 + 1) L fun j500 =>
      nn x0 fun r501 =>
      sc0 r501 <|
      ix (x3 + 2) L fun j502 =>
      nn x0 fun r503 =>
      sc0 r503 <|
      ix (x3 + 3) L fun j504 =>
      nn x1 fun r505 =>
      cI (c_X11_mark r505 (xs j500) (xs j502) (xs j504) h) fun v507 h506 =>
      nn x0 fun r508 =>
      sc0 r508 <|
      ix (x3 + 1) L fun j509 =>
      nn x0 fun r510 =>
      sc0 r510 <|
      ix (x3 + 2) L fun j511 =>
      nn x0 fun r512 =>
      sc0 r512 <|
      ix (x3 + 3) L fun j513 =>
      nn x2 fun r514 =>
      cI (c_X12_mark r514 (xs j509) (xs j511) (xs j513) h506) fun v516 h515 =>
      if v507 = v516 then
        g1807 x0 x1 x2 x3 h515
      else
        bz 0 <|
        some (some (.inl 0), h515)
    else
    if v10 = 38 then
      nn x0 fun r517 =>
      sc0 r517 <|
      ix (x3 + 1) L fun j518 =>
      nn x0 fun r519 =>
      sc0 r519 <|
      ix (x3 + 2) L fun j520 =>
      nn x1 fun r521 =>
      cI (c_X11_fill r521 (xs j518) (xs j520) h) fun v523 h522 =>
      nn x0 fun r524 =>
      sc0 r524 <|
      ix (x3 + 1) L fun j525 =>
      nn x0 fun r526 =>
      sc0 r526 <|
      ix (x3 + 2) L fun j527 =>
      nn x2 fun r528 =>
      cI (c_X12_fill r528 (xs j525) (xs j527) h522) fun v530 h529 =>
      if v523 = v530 then
        g1807 x0 x1 x2 x3 h529
      else
        bz 0 <|
        some (some (.inl 0), h529)
    else
    if v10 = 39 then
      nn x0 fun r531 =>
      sc0 r531 <|
      ix (x3 + 1) L fun j532 =>
      nn x0 fun r533 =>
      sc0 r533 <|
      ix (x3 + 2) L fun j534 =>
      nn x0 fun r535 =>
      sc0 r535 <|
      ix (x3 + 3) L fun j536 =>
      nn x0 fun r537 =>
      sc0 r537 <|
      ix (x3 + 4) L fun j538 =>
      nn x0 fun r539 =>
      sc0 r539 <|
      ix (x3 + 5) L fun j540 =>
      nn x1 fun r541 =>
      cI (c_X11_copy r541 (xs j532) (xs j534) (xs j536) (xs j538) (xs j540) h) fun v543 h542 =>
      nn x0 fun r544 =>
      sc0 r544 <|
      ix (x3 + 1) L fun j545 =>
      nn x0 fun r546 =>
      sc0 r546 <|
      ix (x3 + 2) L fun j547 =>
      nn x0 fun r548 =>
      sc0 r548 <|
      ix (x3 + 3) L fun j549 =>
      nn x0 fun r550 =>
      sc0 r550 <|
      ix (x3 + 4) L fun j551 =>
      nn x0 fun r552 =>
      sc0 r552 <|
      ix (x3 + 5) L fun j553 =>
      nn x2 fun r554 =>
      cI (c_X12_copy r554 (xs j545) (xs j547) (xs j549) (xs j551) (xs j553) h542) fun v556 h555 =>
      if v543 = v556 then
        g1807 x0 x1 x2 x3 h555
      else
        bz 0 <|
        some (some (.inl 0), h555)
    else
    if v10 = 40 then
      nn x0 fun r557 =>
      sc0 r557 <|
      ix (x3 + 1) L fun j558 =>
      nn x0 fun r559 =>
      sc0 r559 <|
      ix (x3 + 2) L fun j560 =>
      nn x0 fun r561 =>
      sc0 r561 <|
      ix (x3 + 3) L fun j562 =>
      nn x1 fun r563 =>
      cI (c_X11_lay r563 (xs j558) (xs j560) (xs j562) h) fun v565 h564 =>
      nn x0 fun r566 =>
      sc0 r566 <|
      ix (x3 + 1) L fun j567 =>
      nn x0 fun r568 =>
      sc0 r568 <|
      ix (x3 + 2) L fun j569 =>
      nn x0 fun r570 =>
      sc0 r570 <|
      ix (x3 + 3) L fun j571 =>
      nn x2 fun r572 =>
      cI (c_X12_lay r572 (xs j567) (xs j569) (xs j571) h564) fun v574 h573 =>
      if v565 = v574 then
        g1807 x0 x1 x2 x3 h573
      else
        bz 0 <|
        some (some (.inl 0), h573)
    else
    if v10 = 41 then
      nn x0 fun r575 =>
      sc0 r575 <|
      ix (x3 + 1) L fun j576 =>
      nn x0 fun r577 =>
      sc0 r577 <|
      ix (x3 + 2) L fun j578 =>
      nn x1 fun r579 =>
      cI (c_X11_ask r579 (xs j576) (xs j578) h) fun v581 h580 =>
      nn x0 fun r582 =>
      sc0 r582 <|
      ix (x3 + 1) L fun j583 =>
      nn x0 fun r584 =>
      sc0 r584 <|
      ix (x3 + 2) L fun j585 =>
      nn x2 fun r586 =>
      cI (c_X12_ask r586 (xs j583) (xs j585) h580) fun v588 h587 =>
      if v581 = v588 then
        g1807 x0 x1 x2 x3 h587
      else
        bz 0 <|
        some (some (.inl 0), h587)
    else
    if v10 = 42 then
      nn x0 fun r589 =>
      sc0 r589 <|
      ix (x3 + 1) L fun j590 =>
      nn x0 fun r591 =>
      sc0 r591 <|
      ix (x3 + 2) L fun j592 =>
      nn x1 fun r593 =>
      cI (c_X11_item r593 (xs j590) (xs j592) h) fun v595 h594 =>
      nn x0 fun r596 =>
      sc0 r596 <|
      ix (x3 + 1) L fun j597 =>
      nn x0 fun r598 =>
      sc0 r598 <|
      ix (x3 + 2) L fun j599 =>
      nn x2 fun r600 =>
      cI (c_X12_item r600 (xs j597) (xs j599) h594) fun v602 h601 =>
      if v595 = v602 then
        g1807 x0 x1 x2 x3 h601
      else
        bz 0 <|
        some (some (.inl 0), h601)
    else
    if v10 = 43 then
      nn x0 fun r603 =>
      sc0 r603 <|
      ix (x3 + 1) L fun j604 =>
      nn x0 fun r605 =>
      sc0 r605 <|
      ix (x3 + 2) L fun j606 =>
      nn x1 fun r607 =>
      cI (c_X11_rest r607 (xs j604) (xs j606) h) fun v609 h608 =>
      nn x0 fun r610 =>
      sc0 r610 <|
      ix (x3 + 1) L fun j611 =>
      nn x0 fun r612 =>
      sc0 r612 <|
      ix (x3 + 2) L fun j613 =>
      nn x2 fun r614 =>
      cI (c_X12_rest r614 (xs j611) (xs j613) h608) fun v616 h615 =>
      if v609 = v616 then
        g1807 x0 x1 x2 x3 h615
      else
        bz 0 <|
        some (some (.inl 0), h615)
    else
    if v10 = 44 then
      nn x0 fun r617 =>
      sc0 r617 <|
      ix (x3 + 1) L fun j618 =>
      nn x1 fun r619 =>
      cI (c_X11_tell r619 (xs j618) h) fun v621 h620 =>
      nn x0 fun r622 =>
      sc0 r622 <|
      ix (x3 + 1) L fun j623 =>
      nn x2 fun r624 =>
      cI (c_X12_tell r624 (xs j623) h620) fun v626 h625 =>
      if v621 = v626 then
        g1807 x0 x1 x2 x3 h625
      else
        bz 0 <|
        some (some (.inl 0), h625)
    else
    if v10 = 45 then
      nn x0 fun r627 =>
      sc0 r627 <|
      ix (x3 + 1) L fun j628 =>
      nn x1 fun r629 =>
      cI (c_X11_check r629 (xs j628) h) fun v631 h630 =>
      nn x0 fun r632 =>
      sc0 r632 <|
      ix (x3 + 1) L fun j633 =>
      nn x2 fun r634 =>
      cI (c_X12_check r634 (xs j633) h630) fun v636 h635 =>
      if v631 = v636 then
        g1807 x0 x1 x2 x3 h635
      else
        bz 0 <|
        some (some (.inl 0), h635)
    else
    if v10 = 46 then
      nn x1 fun r637 =>
      cI (c_X11_keep r637 h) fun v639 h638 =>
      nn x2 fun r640 =>
      cI (c_X12_keep r640 h638) fun v642 h641 =>
      if v639 = v642 then
        g1807 x0 x1 x2 x3 h641
      else
        bz 0 <|
        some (some (.inl 0), h641)
    else
    if v10 = 47 then
      nn x1 fun r643 =>
      cI (c_X11_back r643 h) fun v645 h644 =>
      nn x2 fun r646 =>
      cI (c_X12_back r646 h644) fun v648 h647 =>
      if v645 = v648 then
        g1807 x0 x1 x2 x3 h647
      else
        bz 0 <|
        some (some (.inl 0), h647)
    else
    if v10 = 48 then
      nn x0 fun r649 =>
      sc0 r649 <|
      ix (x3 + 1) L fun j650 =>
      nn x1 fun r651 =>
      cI (c_X11_count r651 (xs j650) h) fun v653 h652 =>
      nn x0 fun r654 =>
      sc0 r654 <|
      ix (x3 + 1) L fun j655 =>
      nn x2 fun r656 =>
      cI (c_X12_count r656 (xs j655) h652) fun v658 h657 =>
      if v653 = v658 then
        g1807 x0 x1 x2 x3 h657
      else
        bz 0 <|
        some (some (.inl 0), h657)
    else
      g1807 x0 x1 x2 x3 h
set_option maxRecDepth 100000 in
theorem L_law_72_l18 (L : Nat) (xs : Nat → Int32) (c_X11_place : Nat → PH → Option Rs) (c_X12_place : Nat → PH → Option Rs) (c_X11_way : Nat → Int32 → Int32 → Int32 → Int32 → PH → Option Rs) (c_X12_way : Nat → Int32 → Int32 → Int32 → Int32 → PH → Option Rs) (c_X11_wayTold : Nat → Int32 → Int32 → PH → Option Rs) (c_X12_wayTold : Nat → Int32 → Int32 → PH → Option Rs) (c_X11_goal : Nat → Int32 → Int32 → PH → Option Rs) (c_X12_goal : Nat → Int32 → Int32 → PH → Option Rs) (c_X11_goalTold : Nat → Int32 → Int32 → PH → Option Rs) (c_X12_goalTold : Nat → Int32 → Int32 → PH → Option Rs) (c_X11_hours : Nat → Int32 → PH → Option Rs) (c_X12_hours : Nat → Int32 → PH → Option Rs) (c_X11_sign : Nat → Int32 → Int32 → Int32 → PH → Option Rs) (c_X12_sign : Nat → Int32 → Int32 → Int32 → PH → Option Rs) (c_X11_told : Nat → Int32 → Int32 → PH → Option Rs) (c_X12_told : Nat → Int32 → Int32 → PH → Option Rs) (c_X11_as : Nat → Int32 → Int32 → PH → Option Rs) (c_X12_as : Nat → Int32 → Int32 → PH → Option Rs) (c_X11_turns : Nat → Int32 → Int32 → PH → Option Rs) (c_X12_turns : Nat → Int32 → Int32 → PH → Option Rs) (c_X11_row : Nat → Int32 → Int32 → Int32 → PH → Option Rs) (c_X12_row : Nat → Int32 → Int32 → Int32 → PH → Option Rs) (c_X11_rowTold : Nat → Int32 → Int32 → Int32 → PH → Option Rs) (c_X12_rowTold : Nat → Int32 → Int32 → Int32 → PH → Option Rs) (c_X11_drop : Nat → Int32 → Int32 → PH → Option Rs) (c_X12_drop : Nat → Int32 → Int32 → PH → Option Rs) (c_X11_aim : Nat → Int32 → Int32 → Int32 → PH → Option Rs) (c_X12_aim : Nat → Int32 → Int32 → Int32 → PH → Option Rs) (c_X11_undo : Nat → PH → Option Rs) (c_X12_undo : Nat → PH → Option Rs) (c_X11_feed : Nat → Int32 → Int32 → Int32 → PH → Option Rs) (c_X12_feed : Nat → Int32 → Int32 → Int32 → PH → Option Rs) (c_X11_trim : Nat → Int32 → PH → Option Rs) (c_X12_trim : Nat → Int32 → PH → Option Rs) (c_X11_text : Nat → PH → Option Rs) (c_X12_text : Nat → PH → Option Rs) (c_X11_textTold : Nat → Int32 → Int32 → PH → Option Rs) (c_X12_textTold : Nat → Int32 → Int32 → PH → Option Rs) (c_X11_why : Nat → Int32 → PH → Option Rs) (c_X12_why : Nat → Int32 → PH → Option Rs) (c_X11_walk : Nat → Int32 → Int32 → Int32 → Int32 → PH → Option Rs) (c_X12_walk : Nat → Int32 → Int32 → Int32 → Int32 → PH → Option Rs) (c_X11_via : Nat → Int32 → Int32 → Int32 → Int32 → PH → Option Rs) (c_X12_via : Nat → Int32 → Int32 → Int32 → Int32 → PH → Option Rs) (c_X11_far : Nat → Int32 → Int32 → Int32 → PH → Option Rs) (c_X12_far : Nat → Int32 → Int32 → Int32 → PH → Option Rs) (c_X11_next : Nat → Int32 → Int32 → Int32 → PH → Option Rs) (c_X12_next : Nat → Int32 → Int32 → Int32 → PH → Option Rs) (c_X11_breaches : Nat → Int32 → PH → Option Rs) (c_X12_breaches : Nat → Int32 → PH → Option Rs) (c_X11_breach : Nat → Int32 → Int32 → PH → Option Rs) (c_X12_breach : Nat → Int32 → Int32 → PH → Option Rs) (c_X11_needs : Nat → Int32 → Int32 → PH → Option Rs) (c_X12_needs : Nat → Int32 → Int32 → PH → Option Rs) (c_X11_wrong : Nat → Int32 → PH → Option Rs) (c_X12_wrong : Nat → Int32 → PH → Option Rs) (c_X11_mend : Nat → Int32 → PH → Option Rs) (c_X12_mend : Nat → Int32 → PH → Option Rs) (c_X11_choose : Nat → Int32 → PH → Option Rs) (c_X12_choose : Nat → Int32 → PH → Option Rs) (c_X11_clear : Nat → PH → Option Rs) (c_X12_clear : Nat → PH → Option Rs) (c_X11_fewest : Nat → Int32 → Int32 → PH → Option Rs) (c_X12_fewest : Nat → Int32 → Int32 → PH → Option Rs) (c_X11_seed : Nat → Int32 → PH → Option Rs) (c_X12_seed : Nat → Int32 → PH → Option Rs) (c_X11_strangers : Nat → Int32 → PH → Option Rs) (c_X12_strangers : Nat → Int32 → PH → Option Rs) (c_X11_led : Nat → PH → Option Rs) (c_X12_led : Nat → PH → Option Rs) (c_X11_sheet : Nat → Int32 → Int32 → Int32 → PH → Option Rs) (c_X12_sheet : Nat → Int32 → Int32 → Int32 → PH → Option Rs) (c_X11_mark : Nat → Int32 → Int32 → Int32 → PH → Option Rs) (c_X12_mark : Nat → Int32 → Int32 → Int32 → PH → Option Rs) (c_X11_fill : Nat → Int32 → Int32 → PH → Option Rs) (c_X12_fill : Nat → Int32 → Int32 → PH → Option Rs) (c_X11_copy : Nat → Int32 → Int32 → Int32 → Int32 → Int32 → PH → Option Rs) (c_X12_copy : Nat → Int32 → Int32 → Int32 → Int32 → Int32 → PH → Option Rs) (c_X11_lay : Nat → Int32 → Int32 → Int32 → PH → Option Rs) (c_X12_lay : Nat → Int32 → Int32 → Int32 → PH → Option Rs) (c_X11_ask : Nat → Int32 → Int32 → PH → Option Rs) (c_X12_ask : Nat → Int32 → Int32 → PH → Option Rs) (c_X11_item : Nat → Int32 → Int32 → PH → Option Rs) (c_X12_item : Nat → Int32 → Int32 → PH → Option Rs) (c_X11_rest : Nat → Int32 → Int32 → PH → Option Rs) (c_X12_rest : Nat → Int32 → Int32 → PH → Option Rs) (c_X11_tell : Nat → Int32 → PH → Option Rs) (c_X12_tell : Nat → Int32 → PH → Option Rs) (c_X11_check : Nat → Int32 → PH → Option Rs) (c_X12_check : Nat → Int32 → PH → Option Rs) (c_X11_keep : Nat → PH → Option Rs) (c_X12_keep : Nat → PH → Option Rs) (c_X11_back : Nat → PH → Option Rs) (c_X12_back : Nat → PH → Option Rs) (c_X11_count : Nat → Int32 → PH → Option Rs) (c_X12_count : Nat → Int32 → PH → Option Rs) (g362 : Nat → Nat → Nat → Int32 → Int32 → Int32 → Nat → PH → Option Rs) (g1807 : Nat → Nat → Nat → Int32 → PH → Option Rs) (x0 : Nat) (x1 : Nat) (x2 : Nat) (x3 : Int32) (h : PH) : L_law_72_b18 L xs c_X11_place c_X12_place c_X11_way c_X12_way c_X11_wayTold c_X12_wayTold c_X11_goal c_X12_goal c_X11_goalTold c_X12_goalTold c_X11_hours c_X12_hours c_X11_sign c_X12_sign c_X11_told c_X12_told c_X11_as c_X12_as c_X11_turns c_X12_turns c_X11_row c_X12_row c_X11_rowTold c_X12_rowTold c_X11_drop c_X12_drop c_X11_aim c_X12_aim c_X11_undo c_X12_undo c_X11_feed c_X12_feed c_X11_trim c_X12_trim c_X11_text c_X12_text c_X11_textTold c_X12_textTold c_X11_why c_X12_why c_X11_walk c_X12_walk c_X11_via c_X12_via c_X11_far c_X12_far c_X11_next c_X12_next c_X11_breaches c_X12_breaches c_X11_breach c_X12_breach c_X11_needs c_X12_needs c_X11_wrong c_X12_wrong c_X11_mend c_X12_mend c_X11_choose c_X12_choose c_X11_clear c_X12_clear c_X11_fewest c_X12_fewest c_X11_seed c_X12_seed c_X11_strangers c_X12_strangers c_X11_led c_X12_led c_X11_sheet c_X12_sheet c_X11_mark c_X12_mark c_X11_fill c_X12_fill c_X11_copy c_X12_copy c_X11_lay c_X12_lay c_X11_ask c_X12_ask c_X11_item c_X12_item c_X11_rest c_X12_rest c_X11_tell c_X12_tell c_X11_check c_X12_check c_X11_keep c_X12_keep c_X11_back c_X12_back c_X11_count c_X12_count (L_law_72_u362 g362) (L_law_72_u1807 g1807) [some (.inr (72, x0)), some (.inr (10, x1)), some (.inr (11, x2)), some (.inl x3)] [] h = L_law_72_f18 L xs c_X11_place c_X12_place c_X11_way c_X12_way c_X11_wayTold c_X12_wayTold c_X11_goal c_X12_goal c_X11_goalTold c_X12_goalTold c_X11_hours c_X12_hours c_X11_sign c_X12_sign c_X11_told c_X12_told c_X11_as c_X12_as c_X11_turns c_X12_turns c_X11_row c_X12_row c_X11_rowTold c_X12_rowTold c_X11_drop c_X12_drop c_X11_aim c_X12_aim c_X11_undo c_X12_undo c_X11_feed c_X12_feed c_X11_trim c_X12_trim c_X11_text c_X12_text c_X11_textTold c_X12_textTold c_X11_why c_X12_why c_X11_walk c_X12_walk c_X11_via c_X12_via c_X11_far c_X12_far c_X11_next c_X12_next c_X11_breaches c_X12_breaches c_X11_breach c_X12_breach c_X11_needs c_X12_needs c_X11_wrong c_X12_wrong c_X11_mend c_X12_mend c_X11_choose c_X12_choose c_X11_clear c_X12_clear c_X11_fewest c_X12_fewest c_X11_seed c_X12_seed c_X11_strangers c_X12_strangers c_X11_led c_X12_led c_X11_sheet c_X12_sheet c_X11_mark c_X12_mark c_X11_fill c_X12_fill c_X11_copy c_X12_copy c_X11_lay c_X12_lay c_X11_ask c_X12_ask c_X11_item c_X12_item c_X11_rest c_X12_rest c_X11_tell c_X12_tell c_X11_check c_X12_check c_X11_keep c_X12_keep c_X11_back c_X12_back c_X11_count c_X12_count g362 g1807 x0 x1 x2 x3 h := rfl
theorem L_law_72_m18 {L : Nat} {xs : Nat → Int32} {c_X11_place : Nat → PH → Option Rs} {c_X12_place : Nat → PH → Option Rs} {c_X11_way : Nat → Int32 → Int32 → Int32 → Int32 → PH → Option Rs} {c_X12_way : Nat → Int32 → Int32 → Int32 → Int32 → PH → Option Rs} {c_X11_wayTold : Nat → Int32 → Int32 → PH → Option Rs} {c_X12_wayTold : Nat → Int32 → Int32 → PH → Option Rs} {c_X11_goal : Nat → Int32 → Int32 → PH → Option Rs} {c_X12_goal : Nat → Int32 → Int32 → PH → Option Rs} {c_X11_goalTold : Nat → Int32 → Int32 → PH → Option Rs} {c_X12_goalTold : Nat → Int32 → Int32 → PH → Option Rs} {c_X11_hours : Nat → Int32 → PH → Option Rs} {c_X12_hours : Nat → Int32 → PH → Option Rs} {c_X11_sign : Nat → Int32 → Int32 → Int32 → PH → Option Rs} {c_X12_sign : Nat → Int32 → Int32 → Int32 → PH → Option Rs} {c_X11_told : Nat → Int32 → Int32 → PH → Option Rs} {c_X12_told : Nat → Int32 → Int32 → PH → Option Rs} {c_X11_as : Nat → Int32 → Int32 → PH → Option Rs} {c_X12_as : Nat → Int32 → Int32 → PH → Option Rs} {c_X11_turns : Nat → Int32 → Int32 → PH → Option Rs} {c_X12_turns : Nat → Int32 → Int32 → PH → Option Rs} {c_X11_row : Nat → Int32 → Int32 → Int32 → PH → Option Rs} {c_X12_row : Nat → Int32 → Int32 → Int32 → PH → Option Rs} {c_X11_rowTold : Nat → Int32 → Int32 → Int32 → PH → Option Rs} {c_X12_rowTold : Nat → Int32 → Int32 → Int32 → PH → Option Rs} {c_X11_drop : Nat → Int32 → Int32 → PH → Option Rs} {c_X12_drop : Nat → Int32 → Int32 → PH → Option Rs} {c_X11_aim : Nat → Int32 → Int32 → Int32 → PH → Option Rs} {c_X12_aim : Nat → Int32 → Int32 → Int32 → PH → Option Rs} {c_X11_undo : Nat → PH → Option Rs} {c_X12_undo : Nat → PH → Option Rs} {c_X11_feed : Nat → Int32 → Int32 → Int32 → PH → Option Rs} {c_X12_feed : Nat → Int32 → Int32 → Int32 → PH → Option Rs} {c_X11_trim : Nat → Int32 → PH → Option Rs} {c_X12_trim : Nat → Int32 → PH → Option Rs} {c_X11_text : Nat → PH → Option Rs} {c_X12_text : Nat → PH → Option Rs} {c_X11_textTold : Nat → Int32 → Int32 → PH → Option Rs} {c_X12_textTold : Nat → Int32 → Int32 → PH → Option Rs} {c_X11_why : Nat → Int32 → PH → Option Rs} {c_X12_why : Nat → Int32 → PH → Option Rs} {c_X11_walk : Nat → Int32 → Int32 → Int32 → Int32 → PH → Option Rs} {c_X12_walk : Nat → Int32 → Int32 → Int32 → Int32 → PH → Option Rs} {c_X11_via : Nat → Int32 → Int32 → Int32 → Int32 → PH → Option Rs} {c_X12_via : Nat → Int32 → Int32 → Int32 → Int32 → PH → Option Rs} {c_X11_far : Nat → Int32 → Int32 → Int32 → PH → Option Rs} {c_X12_far : Nat → Int32 → Int32 → Int32 → PH → Option Rs} {c_X11_next : Nat → Int32 → Int32 → Int32 → PH → Option Rs} {c_X12_next : Nat → Int32 → Int32 → Int32 → PH → Option Rs} {c_X11_breaches : Nat → Int32 → PH → Option Rs} {c_X12_breaches : Nat → Int32 → PH → Option Rs} {c_X11_breach : Nat → Int32 → Int32 → PH → Option Rs} {c_X12_breach : Nat → Int32 → Int32 → PH → Option Rs} {c_X11_needs : Nat → Int32 → Int32 → PH → Option Rs} {c_X12_needs : Nat → Int32 → Int32 → PH → Option Rs} {c_X11_wrong : Nat → Int32 → PH → Option Rs} {c_X12_wrong : Nat → Int32 → PH → Option Rs} {c_X11_mend : Nat → Int32 → PH → Option Rs} {c_X12_mend : Nat → Int32 → PH → Option Rs} {c_X11_choose : Nat → Int32 → PH → Option Rs} {c_X12_choose : Nat → Int32 → PH → Option Rs} {c_X11_clear : Nat → PH → Option Rs} {c_X12_clear : Nat → PH → Option Rs} {c_X11_fewest : Nat → Int32 → Int32 → PH → Option Rs} {c_X12_fewest : Nat → Int32 → Int32 → PH → Option Rs} {c_X11_seed : Nat → Int32 → PH → Option Rs} {c_X12_seed : Nat → Int32 → PH → Option Rs} {c_X11_strangers : Nat → Int32 → PH → Option Rs} {c_X12_strangers : Nat → Int32 → PH → Option Rs} {c_X11_led : Nat → PH → Option Rs} {c_X12_led : Nat → PH → Option Rs} {c_X11_sheet : Nat → Int32 → Int32 → Int32 → PH → Option Rs} {c_X12_sheet : Nat → Int32 → Int32 → Int32 → PH → Option Rs} {c_X11_mark : Nat → Int32 → Int32 → Int32 → PH → Option Rs} {c_X12_mark : Nat → Int32 → Int32 → Int32 → PH → Option Rs} {c_X11_fill : Nat → Int32 → Int32 → PH → Option Rs} {c_X12_fill : Nat → Int32 → Int32 → PH → Option Rs} {c_X11_copy : Nat → Int32 → Int32 → Int32 → Int32 → Int32 → PH → Option Rs} {c_X12_copy : Nat → Int32 → Int32 → Int32 → Int32 → Int32 → PH → Option Rs} {c_X11_lay : Nat → Int32 → Int32 → Int32 → PH → Option Rs} {c_X12_lay : Nat → Int32 → Int32 → Int32 → PH → Option Rs} {c_X11_ask : Nat → Int32 → Int32 → PH → Option Rs} {c_X12_ask : Nat → Int32 → Int32 → PH → Option Rs} {c_X11_item : Nat → Int32 → Int32 → PH → Option Rs} {c_X12_item : Nat → Int32 → Int32 → PH → Option Rs} {c_X11_rest : Nat → Int32 → Int32 → PH → Option Rs} {c_X12_rest : Nat → Int32 → Int32 → PH → Option Rs} {c_X11_tell : Nat → Int32 → PH → Option Rs} {c_X12_tell : Nat → Int32 → PH → Option Rs} {c_X11_check : Nat → Int32 → PH → Option Rs} {c_X12_check : Nat → Int32 → PH → Option Rs} {c_X11_keep : Nat → PH → Option Rs} {c_X12_keep : Nat → PH → Option Rs} {c_X11_back : Nat → PH → Option Rs} {c_X12_back : Nat → PH → Option Rs} {c_X11_count : Nat → Int32 → PH → Option Rs} {c_X12_count : Nat → Int32 → PH → Option Rs} {g362 G362 : Nat → Nat → Nat → Int32 → Int32 → Int32 → Nat → PH → Option Rs} {g1807 G1807 : Nat → Nat → Nat → Int32 → PH → Option Rs} (hg362 : ∀ a0 a1 a2 a3 a4 a5 a6 a7, Mo (g362 a0 a1 a2 a3 a4 a5 a6 a7) (G362 a0 a1 a2 a3 a4 a5 a6 a7)) (hg1807 : ∀ a0 a1 a2 a3 a4, Mo (g1807 a0 a1 a2 a3 a4) (G1807 a0 a1 a2 a3 a4)) (x0 : Nat) (x1 : Nat) (x2 : Nat) (x3 : Int32) (h : PH) : Mo (L_law_72_f18 L xs c_X11_place c_X12_place c_X11_way c_X12_way c_X11_wayTold c_X12_wayTold c_X11_goal c_X12_goal c_X11_goalTold c_X12_goalTold c_X11_hours c_X12_hours c_X11_sign c_X12_sign c_X11_told c_X12_told c_X11_as c_X12_as c_X11_turns c_X12_turns c_X11_row c_X12_row c_X11_rowTold c_X12_rowTold c_X11_drop c_X12_drop c_X11_aim c_X12_aim c_X11_undo c_X12_undo c_X11_feed c_X12_feed c_X11_trim c_X12_trim c_X11_text c_X12_text c_X11_textTold c_X12_textTold c_X11_why c_X12_why c_X11_walk c_X12_walk c_X11_via c_X12_via c_X11_far c_X12_far c_X11_next c_X12_next c_X11_breaches c_X12_breaches c_X11_breach c_X12_breach c_X11_needs c_X12_needs c_X11_wrong c_X12_wrong c_X11_mend c_X12_mend c_X11_choose c_X12_choose c_X11_clear c_X12_clear c_X11_fewest c_X12_fewest c_X11_seed c_X12_seed c_X11_strangers c_X12_strangers c_X11_led c_X12_led c_X11_sheet c_X12_sheet c_X11_mark c_X12_mark c_X11_fill c_X12_fill c_X11_copy c_X12_copy c_X11_lay c_X12_lay c_X11_ask c_X12_ask c_X11_item c_X12_item c_X11_rest c_X12_rest c_X11_tell c_X12_tell c_X11_check c_X12_check c_X11_keep c_X12_keep c_X11_back c_X12_back c_X11_count c_X12_count g362 g1807 x0 x1 x2 x3 h) (L_law_72_f18 L xs c_X11_place c_X12_place c_X11_way c_X12_way c_X11_wayTold c_X12_wayTold c_X11_goal c_X12_goal c_X11_goalTold c_X12_goalTold c_X11_hours c_X12_hours c_X11_sign c_X12_sign c_X11_told c_X12_told c_X11_as c_X12_as c_X11_turns c_X12_turns c_X11_row c_X12_row c_X11_rowTold c_X12_rowTold c_X11_drop c_X12_drop c_X11_aim c_X12_aim c_X11_undo c_X12_undo c_X11_feed c_X12_feed c_X11_trim c_X12_trim c_X11_text c_X12_text c_X11_textTold c_X12_textTold c_X11_why c_X12_why c_X11_walk c_X12_walk c_X11_via c_X12_via c_X11_far c_X12_far c_X11_next c_X12_next c_X11_breaches c_X12_breaches c_X11_breach c_X12_breach c_X11_needs c_X12_needs c_X11_wrong c_X12_wrong c_X11_mend c_X12_mend c_X11_choose c_X12_choose c_X11_clear c_X12_clear c_X11_fewest c_X12_fewest c_X11_seed c_X12_seed c_X11_strangers c_X12_strangers c_X11_led c_X12_led c_X11_sheet c_X12_sheet c_X11_mark c_X12_mark c_X11_fill c_X12_fill c_X11_copy c_X12_copy c_X11_lay c_X12_lay c_X11_ask c_X12_ask c_X11_item c_X12_item c_X11_rest c_X12_rest c_X11_tell c_X12_tell c_X11_check c_X12_check c_X11_keep c_X12_keep c_X11_back c_X12_back c_X11_count c_X12_count G362 G1807 x0 x1 x2 x3 h) := (mo_nn fun r7 => (mo_sc0 (mo_if (mo_bz mo_rf) (mo_nn fun r8 => (mo_sc0 (mo_ix fun j9 => (mo_wi fun v10 => (mo_if (mo_nn fun r11 => (mo_cI fun v13 h12 => (mo_nn fun r14 => (mo_cI fun v16 h15 => (mo_if (hg1807 x0 x1 x2 x3 h15) (mo_bz mo_rf)))))) (mo_if (mo_nn fun r17 => (mo_sc0 (mo_ix fun j18 => (mo_nn fun r19 => (mo_sc0 (mo_ix fun j20 => (mo_nn fun r21 => (mo_sc0 (mo_ix fun j22 => (mo_nn fun r23 => (mo_sc0 (mo_ix fun j24 => (mo_nn fun r25 => (mo_cI fun v27 h26 => (mo_nn fun r28 => (mo_sc0 (mo_ix fun j29 => (mo_nn fun r30 => (mo_sc0 (mo_ix fun j31 => (mo_nn fun r32 => (mo_sc0 (mo_ix fun j33 => (mo_nn fun r34 => (mo_sc0 (mo_ix fun j35 => (mo_nn fun r36 => (mo_cI fun v38 h37 => (mo_if (hg1807 x0 x1 x2 x3 h37) (mo_bz mo_rf)))))))))))))))))))))))))))))) (mo_if (mo_nn fun r39 => (mo_sc0 (mo_ix fun j40 => (mo_nn fun r41 => (mo_sc0 (mo_ix fun j42 => (mo_nn fun r43 => (mo_cI fun v45 h44 => (mo_nn fun r46 => (mo_sc0 (mo_ix fun j47 => (mo_nn fun r48 => (mo_sc0 (mo_ix fun j49 => (mo_nn fun r50 => (mo_cI fun v52 h51 => (mo_if (hg1807 x0 x1 x2 x3 h51) (mo_bz mo_rf)))))))))))))))))) (mo_if (mo_nn fun r53 => (mo_sc0 (mo_ix fun j54 => (mo_nn fun r55 => (mo_sc0 (mo_ix fun j56 => (mo_if (hg362 x0 x1 x2 x3 0 (xs j54) x1 h) (hg362 x0 x1 x2 x3 1 (xs j54) x1 h)))))))) (mo_if (mo_nn fun r57 => (mo_sc0 (mo_ix fun j58 => (mo_nn fun r59 => (mo_sc0 (mo_ix fun j60 => (mo_nn fun r61 => (mo_cI fun v63 h62 => (mo_nn fun r64 => (mo_sc0 (mo_ix fun j65 => (mo_nn fun r66 => (mo_sc0 (mo_ix fun j67 => (mo_nn fun r68 => (mo_cI fun v70 h69 => (mo_if (hg1807 x0 x1 x2 x3 h69) (mo_bz mo_rf)))))))))))))))))) (mo_if (mo_nn fun r71 => (mo_sc0 (mo_ix fun j72 => (mo_nn fun r73 => (mo_sc0 (mo_ix fun j74 => (mo_nn fun r75 => (mo_cI fun v77 h76 => (mo_nn fun r78 => (mo_sc0 (mo_ix fun j79 => (mo_nn fun r80 => (mo_sc0 (mo_ix fun j81 => (mo_nn fun r82 => (mo_cI fun v84 h83 => (mo_if (hg1807 x0 x1 x2 x3 h83) (mo_bz mo_rf)))))))))))))))))) (mo_if (mo_nn fun r85 => (mo_sc0 (mo_ix fun j86 => (mo_nn fun r87 => (mo_cI fun v89 h88 => (mo_nn fun r90 => (mo_sc0 (mo_ix fun j91 => (mo_nn fun r92 => (mo_cI fun v94 h93 => (mo_if (hg1807 x0 x1 x2 x3 h93) (mo_bz mo_rf)))))))))))) (mo_if (mo_nn fun r95 => (mo_sc0 (mo_ix fun j96 => (mo_nn fun r97 => (mo_sc0 (mo_ix fun j98 => (mo_nn fun r99 => (mo_sc0 (mo_ix fun j100 => (mo_nn fun r101 => (mo_cI fun v103 h102 => (mo_nn fun r104 => (mo_sc0 (mo_ix fun j105 => (mo_nn fun r106 => (mo_sc0 (mo_ix fun j107 => (mo_nn fun r108 => (mo_sc0 (mo_ix fun j109 => (mo_nn fun r110 => (mo_cI fun v112 h111 => (mo_if (hg1807 x0 x1 x2 x3 h111) (mo_bz mo_rf)))))))))))))))))))))))) (mo_if (mo_nn fun r113 => (mo_sc0 (mo_ix fun j114 => (mo_nn fun r115 => (mo_sc0 (mo_ix fun j116 => (mo_nn fun r117 => (mo_cI fun v119 h118 => (mo_nn fun r120 => (mo_sc0 (mo_ix fun j121 => (mo_nn fun r122 => (mo_sc0 (mo_ix fun j123 => (mo_nn fun r124 => (mo_cI fun v126 h125 => (mo_if (hg1807 x0 x1 x2 x3 h125) (mo_bz mo_rf)))))))))))))))))) (mo_if (mo_nn fun r127 => (mo_sc0 (mo_ix fun j128 => (mo_nn fun r129 => (mo_sc0 (mo_ix fun j130 => (mo_nn fun r131 => (mo_cI fun v133 h132 => (mo_nn fun r134 => (mo_sc0 (mo_ix fun j135 => (mo_nn fun r136 => (mo_sc0 (mo_ix fun j137 => (mo_nn fun r138 => (mo_cI fun v140 h139 => (mo_if (hg1807 x0 x1 x2 x3 h139) (mo_bz mo_rf)))))))))))))))))) (mo_if (mo_nn fun r141 => (mo_sc0 (mo_ix fun j142 => (mo_nn fun r143 => (mo_sc0 (mo_ix fun j144 => (mo_nn fun r145 => (mo_cI fun v147 h146 => (mo_nn fun r148 => (mo_sc0 (mo_ix fun j149 => (mo_nn fun r150 => (mo_sc0 (mo_ix fun j151 => (mo_nn fun r152 => (mo_cI fun v154 h153 => (mo_if (hg1807 x0 x1 x2 x3 h153) (mo_bz mo_rf)))))))))))))))))) (mo_if (mo_nn fun r155 => (mo_sc0 (mo_ix fun j156 => (mo_nn fun r157 => (mo_sc0 (mo_ix fun j158 => (mo_nn fun r159 => (mo_sc0 (mo_ix fun j160 => (mo_nn fun r161 => (mo_cI fun v163 h162 => (mo_nn fun r164 => (mo_sc0 (mo_ix fun j165 => (mo_nn fun r166 => (mo_sc0 (mo_ix fun j167 => (mo_nn fun r168 => (mo_sc0 (mo_ix fun j169 => (mo_nn fun r170 => (mo_cI fun v172 h171 => (mo_if (hg1807 x0 x1 x2 x3 h171) (mo_bz mo_rf)))))))))))))))))))))))) (mo_if (mo_nn fun r173 => (mo_sc0 (mo_ix fun j174 => (mo_nn fun r175 => (mo_sc0 (mo_ix fun j176 => (mo_nn fun r177 => (mo_sc0 (mo_ix fun j178 => (mo_nn fun r179 => (mo_cI fun v181 h180 => (mo_nn fun r182 => (mo_sc0 (mo_ix fun j183 => (mo_nn fun r184 => (mo_sc0 (mo_ix fun j185 => (mo_nn fun r186 => (mo_sc0 (mo_ix fun j187 => (mo_nn fun r188 => (mo_cI fun v190 h189 => (mo_if (hg1807 x0 x1 x2 x3 h189) (mo_bz mo_rf)))))))))))))))))))))))) (mo_if (mo_nn fun r191 => (mo_sc0 (mo_ix fun j192 => (mo_nn fun r193 => (mo_sc0 (mo_ix fun j194 => (mo_nn fun r195 => (mo_cI fun v197 h196 => (mo_nn fun r198 => (mo_sc0 (mo_ix fun j199 => (mo_nn fun r200 => (mo_sc0 (mo_ix fun j201 => (mo_nn fun r202 => (mo_cI fun v204 h203 => (mo_if (hg1807 x0 x1 x2 x3 h203) (mo_bz mo_rf)))))))))))))))))) (mo_if (mo_nn fun r205 => (mo_sc0 (mo_ix fun j206 => (mo_nn fun r207 => (mo_sc0 (mo_ix fun j208 => (mo_nn fun r209 => (mo_sc0 (mo_ix fun j210 => (mo_nn fun r211 => (mo_cI fun v213 h212 => (mo_nn fun r214 => (mo_sc0 (mo_ix fun j215 => (mo_nn fun r216 => (mo_sc0 (mo_ix fun j217 => (mo_nn fun r218 => (mo_sc0 (mo_ix fun j219 => (mo_nn fun r220 => (mo_cI fun v222 h221 => (mo_if (hg1807 x0 x1 x2 x3 h221) (mo_bz mo_rf)))))))))))))))))))))))) (mo_if (mo_nn fun r223 => (mo_cI fun v225 h224 => (mo_nn fun r226 => (mo_cI fun v228 h227 => (mo_if (hg1807 x0 x1 x2 x3 h227) (mo_bz mo_rf)))))) (mo_if (mo_nn fun r229 => (mo_sc0 (mo_ix fun j230 => (mo_nn fun r231 => (mo_sc0 (mo_ix fun j232 => (mo_nn fun r233 => (mo_sc0 (mo_ix fun j234 => (mo_nn fun r235 => (mo_cI fun v237 h236 => (mo_nn fun r238 => (mo_sc0 (mo_ix fun j239 => (mo_nn fun r240 => (mo_sc0 (mo_ix fun j241 => (mo_nn fun r242 => (mo_sc0 (mo_ix fun j243 => (mo_nn fun r244 => (mo_cI fun v246 h245 => (mo_if (hg1807 x0 x1 x2 x3 h245) (mo_bz mo_rf)))))))))))))))))))))))) (mo_if (mo_nn fun r247 => (mo_sc0 (mo_ix fun j248 => (mo_nn fun r249 => (mo_cI fun v251 h250 => (mo_nn fun r252 => (mo_sc0 (mo_ix fun j253 => (mo_nn fun r254 => (mo_cI fun v256 h255 => (mo_if (hg1807 x0 x1 x2 x3 h255) (mo_bz mo_rf)))))))))))) (mo_if (mo_nn fun r257 => (mo_cI fun v259 h258 => (mo_nn fun r260 => (mo_cI fun v262 h261 => (mo_if (hg1807 x0 x1 x2 x3 h261) (mo_bz mo_rf)))))) (mo_if (mo_nn fun r263 => (mo_sc0 (mo_ix fun j264 => (mo_nn fun r265 => (mo_sc0 (mo_ix fun j266 => (mo_nn fun r267 => (mo_cI fun v269 h268 => (mo_nn fun r270 => (mo_sc0 (mo_ix fun j271 => (mo_nn fun r272 => (mo_sc0 (mo_ix fun j273 => (mo_nn fun r274 => (mo_cI fun v276 h275 => (mo_if (hg1807 x0 x1 x2 x3 h275) (mo_bz mo_rf)))))))))))))))))) (mo_if (mo_nn fun r277 => (mo_sc0 (mo_ix fun j278 => (mo_nn fun r279 => (mo_cI fun v281 h280 => (mo_nn fun r282 => (mo_sc0 (mo_ix fun j283 => (mo_nn fun r284 => (mo_cI fun v286 h285 => (mo_if (hg1807 x0 x1 x2 x3 h285) (mo_bz mo_rf)))))))))))) (mo_if (mo_nn fun r287 => (mo_sc0 (mo_ix fun j288 => (mo_nn fun r289 => (mo_sc0 (mo_ix fun j290 => (mo_nn fun r291 => (mo_sc0 (mo_ix fun j292 => (mo_nn fun r293 => (mo_sc0 (mo_ix fun j294 => (mo_nn fun r295 => (mo_cI fun v297 h296 => (mo_nn fun r298 => (mo_sc0 (mo_ix fun j299 => (mo_nn fun r300 => (mo_sc0 (mo_ix fun j301 => (mo_nn fun r302 => (mo_sc0 (mo_ix fun j303 => (mo_nn fun r304 => (mo_sc0 (mo_ix fun j305 => (mo_nn fun r306 => (mo_cI fun v308 h307 => (mo_if (hg1807 x0 x1 x2 x3 h307) (mo_bz mo_rf)))))))))))))))))))))))))))))) (mo_if (mo_nn fun r309 => (mo_sc0 (mo_ix fun j310 => (mo_nn fun r311 => (mo_sc0 (mo_ix fun j312 => (mo_nn fun r313 => (mo_sc0 (mo_ix fun j314 => (mo_nn fun r315 => (mo_sc0 (mo_ix fun j316 => (mo_nn fun r317 => (mo_cI fun v319 h318 => (mo_nn fun r320 => (mo_sc0 (mo_ix fun j321 => (mo_nn fun r322 => (mo_sc0 (mo_ix fun j323 => (mo_nn fun r324 => (mo_sc0 (mo_ix fun j325 => (mo_nn fun r326 => (mo_sc0 (mo_ix fun j327 => (mo_nn fun r328 => (mo_cI fun v330 h329 => (mo_if (hg1807 x0 x1 x2 x3 h329) (mo_bz mo_rf)))))))))))))))))))))))))))))) (mo_if (mo_nn fun r331 => (mo_sc0 (mo_ix fun j332 => (mo_nn fun r333 => (mo_sc0 (mo_ix fun j334 => (mo_nn fun r335 => (mo_sc0 (mo_ix fun j336 => (mo_nn fun r337 => (mo_cI fun v339 h338 => (mo_nn fun r340 => (mo_sc0 (mo_ix fun j341 => (mo_nn fun r342 => (mo_sc0 (mo_ix fun j343 => (mo_nn fun r344 => (mo_sc0 (mo_ix fun j345 => (mo_nn fun r346 => (mo_cI fun v348 h347 => (mo_if (hg1807 x0 x1 x2 x3 h347) (mo_bz mo_rf)))))))))))))))))))))))) (mo_if (mo_nn fun r349 => (mo_sc0 (mo_ix fun j350 => (mo_nn fun r351 => (mo_sc0 (mo_ix fun j352 => (mo_nn fun r353 => (mo_sc0 (mo_ix fun j354 => (mo_nn fun r355 => (mo_cI fun v357 h356 => (mo_nn fun r358 => (mo_sc0 (mo_ix fun j359 => (mo_nn fun r360 => (mo_sc0 (mo_ix fun j361 => (mo_nn fun r362 => (mo_sc0 (mo_ix fun j363 => (mo_nn fun r364 => (mo_cI fun v366 h365 => (mo_if (hg1807 x0 x1 x2 x3 h365) (mo_bz mo_rf)))))))))))))))))))))))) (mo_if (mo_nn fun r367 => (mo_sc0 (mo_ix fun j368 => (mo_nn fun r369 => (mo_cI fun v371 h370 => (mo_nn fun r372 => (mo_sc0 (mo_ix fun j373 => (mo_nn fun r374 => (mo_cI fun v376 h375 => (mo_if (hg1807 x0 x1 x2 x3 h375) (mo_bz mo_rf)))))))))))) (mo_if (mo_nn fun r377 => (mo_sc0 (mo_ix fun j378 => (mo_nn fun r379 => (mo_sc0 (mo_ix fun j380 => (mo_nn fun r381 => (mo_cI fun v383 h382 => (mo_nn fun r384 => (mo_sc0 (mo_ix fun j385 => (mo_nn fun r386 => (mo_sc0 (mo_ix fun j387 => (mo_nn fun r388 => (mo_cI fun v390 h389 => (mo_if (hg1807 x0 x1 x2 x3 h389) (mo_bz mo_rf)))))))))))))))))) (mo_if (mo_nn fun r391 => (mo_sc0 (mo_ix fun j392 => (mo_nn fun r393 => (mo_sc0 (mo_ix fun j394 => (mo_nn fun r395 => (mo_cI fun v397 h396 => (mo_nn fun r398 => (mo_sc0 (mo_ix fun j399 => (mo_nn fun r400 => (mo_sc0 (mo_ix fun j401 => (mo_nn fun r402 => (mo_cI fun v404 h403 => (mo_if (hg1807 x0 x1 x2 x3 h403) (mo_bz mo_rf)))))))))))))))))) (mo_if (mo_nn fun r405 => (mo_sc0 (mo_ix fun j406 => (mo_nn fun r407 => (mo_cI fun v409 h408 => (mo_nn fun r410 => (mo_sc0 (mo_ix fun j411 => (mo_nn fun r412 => (mo_cI fun v414 h413 => (mo_if (hg1807 x0 x1 x2 x3 h413) (mo_bz mo_rf)))))))))))) (mo_if (mo_nn fun r415 => (mo_sc0 (mo_ix fun j416 => (mo_nn fun r417 => (mo_cI fun v419 h418 => (mo_nn fun r420 => (mo_sc0 (mo_ix fun j421 => (mo_nn fun r422 => (mo_cI fun v424 h423 => (mo_if (hg1807 x0 x1 x2 x3 h423) (mo_bz mo_rf)))))))))))) (mo_if (mo_nn fun r425 => (mo_sc0 (mo_ix fun j426 => (mo_nn fun r427 => (mo_cI fun v429 h428 => (mo_nn fun r430 => (mo_sc0 (mo_ix fun j431 => (mo_nn fun r432 => (mo_cI fun v434 h433 => (mo_if (hg1807 x0 x1 x2 x3 h433) (mo_bz mo_rf)))))))))))) (mo_if (mo_nn fun r435 => (mo_cI fun v437 h436 => (mo_nn fun r438 => (mo_cI fun v440 h439 => (mo_if (hg1807 x0 x1 x2 x3 h439) (mo_bz mo_rf)))))) (mo_if (mo_nn fun r441 => (mo_sc0 (mo_ix fun j442 => (mo_nn fun r443 => (mo_sc0 (mo_ix fun j444 => (mo_nn fun r445 => (mo_cI fun v447 h446 => (mo_nn fun r448 => (mo_sc0 (mo_ix fun j449 => (mo_nn fun r450 => (mo_sc0 (mo_ix fun j451 => (mo_nn fun r452 => (mo_cI fun v454 h453 => (mo_if (hg1807 x0 x1 x2 x3 h453) (mo_bz mo_rf)))))))))))))))))) (mo_if (mo_nn fun r455 => (mo_sc0 (mo_ix fun j456 => (mo_nn fun r457 => (mo_cI fun v459 h458 => (mo_nn fun r460 => (mo_sc0 (mo_ix fun j461 => (mo_nn fun r462 => (mo_cI fun v464 h463 => (mo_if (hg1807 x0 x1 x2 x3 h463) (mo_bz mo_rf)))))))))))) (mo_if (mo_nn fun r465 => (mo_sc0 (mo_ix fun j466 => (mo_nn fun r467 => (mo_cI fun v469 h468 => (mo_nn fun r470 => (mo_sc0 (mo_ix fun j471 => (mo_nn fun r472 => (mo_cI fun v474 h473 => (mo_if (hg1807 x0 x1 x2 x3 h473) (mo_bz mo_rf)))))))))))) (mo_if (mo_nn fun r475 => (mo_cI fun v477 h476 => (mo_nn fun r478 => (mo_cI fun v480 h479 => (mo_if (hg1807 x0 x1 x2 x3 h479) (mo_bz mo_rf)))))) (mo_if (mo_nn fun r481 => (mo_sc0 (mo_ix fun j482 => (mo_nn fun r483 => (mo_sc0 (mo_ix fun j484 => (mo_nn fun r485 => (mo_sc0 (mo_ix fun j486 => (mo_nn fun r487 => (mo_cI fun v489 h488 => (mo_nn fun r490 => (mo_sc0 (mo_ix fun j491 => (mo_nn fun r492 => (mo_sc0 (mo_ix fun j493 => (mo_nn fun r494 => (mo_sc0 (mo_ix fun j495 => (mo_nn fun r496 => (mo_cI fun v498 h497 => (mo_if (hg1807 x0 x1 x2 x3 h497) (mo_bz mo_rf)))))))))))))))))))))))) (mo_if (mo_nn fun r499 => (mo_sc0 (mo_ix fun j500 => (mo_nn fun r501 => (mo_sc0 (mo_ix fun j502 => (mo_nn fun r503 => (mo_sc0 (mo_ix fun j504 => (mo_nn fun r505 => (mo_cI fun v507 h506 => (mo_nn fun r508 => (mo_sc0 (mo_ix fun j509 => (mo_nn fun r510 => (mo_sc0 (mo_ix fun j511 => (mo_nn fun r512 => (mo_sc0 (mo_ix fun j513 => (mo_nn fun r514 => (mo_cI fun v516 h515 => (mo_if (hg1807 x0 x1 x2 x3 h515) (mo_bz mo_rf)))))))))))))))))))))))) (mo_if (mo_nn fun r517 => (mo_sc0 (mo_ix fun j518 => (mo_nn fun r519 => (mo_sc0 (mo_ix fun j520 => (mo_nn fun r521 => (mo_cI fun v523 h522 => (mo_nn fun r524 => (mo_sc0 (mo_ix fun j525 => (mo_nn fun r526 => (mo_sc0 (mo_ix fun j527 => (mo_nn fun r528 => (mo_cI fun v530 h529 => (mo_if (hg1807 x0 x1 x2 x3 h529) (mo_bz mo_rf)))))))))))))))))) (mo_if (mo_nn fun r531 => (mo_sc0 (mo_ix fun j532 => (mo_nn fun r533 => (mo_sc0 (mo_ix fun j534 => (mo_nn fun r535 => (mo_sc0 (mo_ix fun j536 => (mo_nn fun r537 => (mo_sc0 (mo_ix fun j538 => (mo_nn fun r539 => (mo_sc0 (mo_ix fun j540 => (mo_nn fun r541 => (mo_cI fun v543 h542 => (mo_nn fun r544 => (mo_sc0 (mo_ix fun j545 => (mo_nn fun r546 => (mo_sc0 (mo_ix fun j547 => (mo_nn fun r548 => (mo_sc0 (mo_ix fun j549 => (mo_nn fun r550 => (mo_sc0 (mo_ix fun j551 => (mo_nn fun r552 => (mo_sc0 (mo_ix fun j553 => (mo_nn fun r554 => (mo_cI fun v556 h555 => (mo_if (hg1807 x0 x1 x2 x3 h555) (mo_bz mo_rf)))))))))))))))))))))))))))))))))))) (mo_if (mo_nn fun r557 => (mo_sc0 (mo_ix fun j558 => (mo_nn fun r559 => (mo_sc0 (mo_ix fun j560 => (mo_nn fun r561 => (mo_sc0 (mo_ix fun j562 => (mo_nn fun r563 => (mo_cI fun v565 h564 => (mo_nn fun r566 => (mo_sc0 (mo_ix fun j567 => (mo_nn fun r568 => (mo_sc0 (mo_ix fun j569 => (mo_nn fun r570 => (mo_sc0 (mo_ix fun j571 => (mo_nn fun r572 => (mo_cI fun v574 h573 => (mo_if (hg1807 x0 x1 x2 x3 h573) (mo_bz mo_rf)))))))))))))))))))))))) (mo_if (mo_nn fun r575 => (mo_sc0 (mo_ix fun j576 => (mo_nn fun r577 => (mo_sc0 (mo_ix fun j578 => (mo_nn fun r579 => (mo_cI fun v581 h580 => (mo_nn fun r582 => (mo_sc0 (mo_ix fun j583 => (mo_nn fun r584 => (mo_sc0 (mo_ix fun j585 => (mo_nn fun r586 => (mo_cI fun v588 h587 => (mo_if (hg1807 x0 x1 x2 x3 h587) (mo_bz mo_rf)))))))))))))))))) (mo_if (mo_nn fun r589 => (mo_sc0 (mo_ix fun j590 => (mo_nn fun r591 => (mo_sc0 (mo_ix fun j592 => (mo_nn fun r593 => (mo_cI fun v595 h594 => (mo_nn fun r596 => (mo_sc0 (mo_ix fun j597 => (mo_nn fun r598 => (mo_sc0 (mo_ix fun j599 => (mo_nn fun r600 => (mo_cI fun v602 h601 => (mo_if (hg1807 x0 x1 x2 x3 h601) (mo_bz mo_rf)))))))))))))))))) (mo_if (mo_nn fun r603 => (mo_sc0 (mo_ix fun j604 => (mo_nn fun r605 => (mo_sc0 (mo_ix fun j606 => (mo_nn fun r607 => (mo_cI fun v609 h608 => (mo_nn fun r610 => (mo_sc0 (mo_ix fun j611 => (mo_nn fun r612 => (mo_sc0 (mo_ix fun j613 => (mo_nn fun r614 => (mo_cI fun v616 h615 => (mo_if (hg1807 x0 x1 x2 x3 h615) (mo_bz mo_rf)))))))))))))))))) (mo_if (mo_nn fun r617 => (mo_sc0 (mo_ix fun j618 => (mo_nn fun r619 => (mo_cI fun v621 h620 => (mo_nn fun r622 => (mo_sc0 (mo_ix fun j623 => (mo_nn fun r624 => (mo_cI fun v626 h625 => (mo_if (hg1807 x0 x1 x2 x3 h625) (mo_bz mo_rf)))))))))))) (mo_if (mo_nn fun r627 => (mo_sc0 (mo_ix fun j628 => (mo_nn fun r629 => (mo_cI fun v631 h630 => (mo_nn fun r632 => (mo_sc0 (mo_ix fun j633 => (mo_nn fun r634 => (mo_cI fun v636 h635 => (mo_if (hg1807 x0 x1 x2 x3 h635) (mo_bz mo_rf)))))))))))) (mo_if (mo_nn fun r637 => (mo_cI fun v639 h638 => (mo_nn fun r640 => (mo_cI fun v642 h641 => (mo_if (hg1807 x0 x1 x2 x3 h641) (mo_bz mo_rf)))))) (mo_if (mo_nn fun r643 => (mo_cI fun v645 h644 => (mo_nn fun r646 => (mo_cI fun v648 h647 => (mo_if (hg1807 x0 x1 x2 x3 h647) (mo_bz mo_rf)))))) (mo_if (mo_nn fun r649 => (mo_sc0 (mo_ix fun j650 => (mo_nn fun r651 => (mo_cI fun v653 h652 => (mo_nn fun r654 => (mo_sc0 (mo_ix fun j655 => (mo_nn fun r656 => (mo_cI fun v658 h657 => (mo_if (hg1807 x0 x1 x2 x3 h657) (mo_bz mo_rf)))))))))))) (hg1807 x0 x1 x2 x3 h)))))))))))))))))))))))))))))))))))))))))))))))))))))))))
theorem L_law_72_w18 {L : Nat} {xs : Nat → Int32} {z : CZ} (hX : XS (L_law_72_x z) L xs) {g362 : Nat → Nat → Nat → Int32 → Int32 → Int32 → Nat → PH → Option Rs} {g1807 : Nat → Nat → Nat → Int32 → PH → Option Rs} (hk362 : SK (L_law_72_x z) 362 (L_law_72_u362 g362)) (hk1807 : SK (L_law_72_x z) 1807 (L_law_72_u1807 g1807)) : SK (L_law_72_x z) 18 (L_law_72_u18 (L_law_72_f18 L xs X11_place X12_place X11_way X12_way X11_wayTold X12_wayTold X11_goal X12_goal X11_goalTold X12_goalTold X11_hours X12_hours X11_sign X12_sign X11_told X12_told X11_as X12_as X11_turns X12_turns X11_row X12_row X11_rowTold X12_rowTold X11_drop X12_drop X11_aim X12_aim X11_undo X12_undo X11_feed X12_feed X11_trim X12_trim X11_text X12_text X11_textTold X12_textTold X11_why X12_why X11_walk X12_walk X11_via X12_via X11_far X12_far X11_next X12_next X11_breaches X12_breaches X11_breach X12_breach X11_needs X12_needs X11_wrong X12_wrong X11_mend X12_mend X11_choose X12_choose X11_clear X12_clear X11_fewest X12_fewest X11_seed X12_seed X11_strangers X12_strangers X11_led X12_led X11_sheet X12_sheet X11_mark X12_mark X11_fill X12_fill X11_copy X12_copy X11_lay X12_lay X11_ask X12_ask X11_item X12_item X11_rest X12_rest X11_tell X12_tell X11_check X12_check X11_keep X12_keep X11_back X12_back X11_count X12_count g362 g1807)) := by
  intro ls st h r e
  obtain ⟨hst, e⟩ := gL_of e
  obtain ⟨x0, q0, e⟩ := gR_of e
  obtain ⟨x1, q1, e⟩ := gR_of e
  obtain ⟨x2, q2, e⟩ := gR_of e
  obtain ⟨x3, q3, e⟩ := gI_of e
  rw [st_0 hst]
  exact WK.sub (canon := [some (.inr (72, x0)), some (.inr (10, x1)), some (.inr (11, x2)), some (.inl x3)]) rfl ⟨q0, q1, q2, q3, trivial⟩ (L_law_72_s18 hX hk362 hk1807 _ _ _ _ ((L_law_72_l18 L xs X11_place X12_place X11_way X12_way X11_wayTold X12_wayTold X11_goal X12_goal X11_goalTold X12_goalTold X11_hours X12_hours X11_sign X12_sign X11_told X12_told X11_as X12_as X11_turns X12_turns X11_row X12_row X11_rowTold X12_rowTold X11_drop X12_drop X11_aim X12_aim X11_undo X12_undo X11_feed X12_feed X11_trim X12_trim X11_text X12_text X11_textTold X12_textTold X11_why X12_why X11_walk X12_walk X11_via X12_via X11_far X12_far X11_next X12_next X11_breaches X12_breaches X11_breach X12_breach X11_needs X12_needs X11_wrong X12_wrong X11_mend X12_mend X11_choose X12_choose X11_clear X12_clear X11_fewest X12_fewest X11_seed X12_seed X11_strangers X12_strangers X11_led X12_led X11_sheet X12_sheet X11_mark X12_mark X11_fill X12_fill X11_copy X12_copy X11_lay X12_lay X11_ask X12_ask X11_item X12_item X11_rest X12_rest X11_tell X12_tell X11_check X12_check X11_keep X12_keep X11_back X12_back X11_count X12_count g362 g1807 x0 x1 x2 x3 h).trans e))
noncomputable def L_law_72_f362 (L : Nat) (xs : Nat → Int32) (c_X11_shut : Nat → Int32 → Int32 → PH → Option Rs) (g384 : Nat → Nat → Nat → Int32 → Int32 → Int32 → Nat → Int32 → PH → Option Rs) (x0 : Nat) (x1 : Nat) (x2 : Nat) (x3 : Int32) (s0 : Int32) (s1 : Int32) (s2 : Nat) (h : PH) : Option Rs :=
  nn s2 fun r659 =>
  cI (c_X11_shut r659 s1 s0 h) fun v661 h660 =>
  nn x0 fun r662 =>
  sc0 r662 <|
  ix (x3 + 1) L fun j663 =>
  nn x0 fun r664 =>
  sc0 r664 <|
  ix (x3 + 2) L fun j665 =>
  if (xs j665) = 0 then
    g384 x0 x1 x2 x3 0 (xs j663) x2 v661 h660
  else
    g384 x0 x1 x2 x3 1 (xs j663) x2 v661 h660
set_option maxRecDepth 100000 in
theorem L_law_72_l362 (L : Nat) (xs : Nat → Int32) (c_X11_shut : Nat → Int32 → Int32 → PH → Option Rs) (g384 : Nat → Nat → Nat → Int32 → Int32 → Int32 → Nat → Int32 → PH → Option Rs) (x0 : Nat) (x1 : Nat) (x2 : Nat) (x3 : Int32) (s0 : Int32) (s1 : Int32) (s2 : Nat) (h : PH) : L_law_72_b362 L xs c_X11_shut (L_law_72_u384 g384) [some (.inr (72, x0)), some (.inr (10, x1)), some (.inr (11, x2)), some (.inl x3)] [.inl s0, .inl s1, .inr (10, s2)] h = L_law_72_f362 L xs c_X11_shut g384 x0 x1 x2 x3 s0 s1 s2 h := rfl
theorem L_law_72_m362 {L : Nat} {xs : Nat → Int32} {c_X11_shut : Nat → Int32 → Int32 → PH → Option Rs} {g384 G384 : Nat → Nat → Nat → Int32 → Int32 → Int32 → Nat → Int32 → PH → Option Rs} (hg384 : ∀ a0 a1 a2 a3 a4 a5 a6 a7 a8, Mo (g384 a0 a1 a2 a3 a4 a5 a6 a7 a8) (G384 a0 a1 a2 a3 a4 a5 a6 a7 a8)) (x0 : Nat) (x1 : Nat) (x2 : Nat) (x3 : Int32) (s0 : Int32) (s1 : Int32) (s2 : Nat) (h : PH) : Mo (L_law_72_f362 L xs c_X11_shut g384 x0 x1 x2 x3 s0 s1 s2 h) (L_law_72_f362 L xs c_X11_shut G384 x0 x1 x2 x3 s0 s1 s2 h) := (mo_nn fun r659 => (mo_cI fun v661 h660 => (mo_nn fun r662 => (mo_sc0 (mo_ix fun j663 => (mo_nn fun r664 => (mo_sc0 (mo_ix fun j665 => (mo_if (hg384 x0 x1 x2 x3 0 (xs j663) x2 v661 h660) (hg384 x0 x1 x2 x3 1 (xs j663) x2 v661 h660))))))))))
theorem L_law_72_w362 {L : Nat} {xs : Nat → Int32} {z : CZ} (hX : XS (L_law_72_x z) L xs) {g384 : Nat → Nat → Nat → Int32 → Int32 → Int32 → Nat → Int32 → PH → Option Rs} (hk384 : SK (L_law_72_x z) 384 (L_law_72_u384 g384)) : SK (L_law_72_x z) 362 (L_law_72_u362 (L_law_72_f362 L xs X11_shut g384)) := by
  intro ls st h r e
  obtain ⟨hst, e⟩ := gL_of e
  obtain ⟨x0, q0, e⟩ := gR_of e
  obtain ⟨x1, q1, e⟩ := gR_of e
  obtain ⟨x2, q2, e⟩ := gR_of e
  obtain ⟨x3, q3, e⟩ := gI_of e
  obtain ⟨s0, q4, e⟩ := gI_of e
  obtain ⟨s1, q5, e⟩ := gI_of e
  obtain ⟨s2, q6, e⟩ := gR_of e
  rw [st_3 hst q4 q5 q6]
  exact WK.sub (canon := [some (.inr (72, x0)), some (.inr (10, x1)), some (.inr (11, x2)), some (.inl x3)]) rfl ⟨q0, q1, q2, q3, trivial⟩ (L_law_72_s362 hX hk384 _ _ _ _ ((L_law_72_l362 L xs X11_shut g384 x0 x1 x2 x3 s0 s1 s2 h).trans e))
noncomputable def L_law_72_f384 (L : Nat) (xs : Nat → Int32) (c_X12_shut : Nat → Int32 → Int32 → PH → Option Rs) (g1807 : Nat → Nat → Nat → Int32 → PH → Option Rs) (x0 : Nat) (x1 : Nat) (x2 : Nat) (x3 : Int32) (s0 : Int32) (s1 : Int32) (s2 : Nat) (s3 : Int32) (h : PH) : Option Rs :=
  nn s2 fun r666 =>
  cI (c_X12_shut r666 s1 s0 h) fun v668 h667 =>
  if s3 = v668 then
    g1807 x0 x1 x2 x3 h667
  else
    bz 0 <|
    some (some (.inl 0), h667)
set_option maxRecDepth 100000 in
theorem L_law_72_l384 (L : Nat) (xs : Nat → Int32) (c_X12_shut : Nat → Int32 → Int32 → PH → Option Rs) (g1807 : Nat → Nat → Nat → Int32 → PH → Option Rs) (x0 : Nat) (x1 : Nat) (x2 : Nat) (x3 : Int32) (s0 : Int32) (s1 : Int32) (s2 : Nat) (s3 : Int32) (h : PH) : L_law_72_b384 L xs c_X12_shut (L_law_72_u1807 g1807) [some (.inr (72, x0)), some (.inr (10, x1)), some (.inr (11, x2)), some (.inl x3)] [.inl s0, .inl s1, .inr (11, s2), .inl s3] h = L_law_72_f384 L xs c_X12_shut g1807 x0 x1 x2 x3 s0 s1 s2 s3 h := rfl
theorem L_law_72_m384 {L : Nat} {xs : Nat → Int32} {c_X12_shut : Nat → Int32 → Int32 → PH → Option Rs} {g1807 G1807 : Nat → Nat → Nat → Int32 → PH → Option Rs} (hg1807 : ∀ a0 a1 a2 a3 a4, Mo (g1807 a0 a1 a2 a3 a4) (G1807 a0 a1 a2 a3 a4)) (x0 : Nat) (x1 : Nat) (x2 : Nat) (x3 : Int32) (s0 : Int32) (s1 : Int32) (s2 : Nat) (s3 : Int32) (h : PH) : Mo (L_law_72_f384 L xs c_X12_shut g1807 x0 x1 x2 x3 s0 s1 s2 s3 h) (L_law_72_f384 L xs c_X12_shut G1807 x0 x1 x2 x3 s0 s1 s2 s3 h) := (mo_nn fun r666 => (mo_cI fun v668 h667 => (mo_if (hg1807 x0 x1 x2 x3 h667) (mo_bz mo_rf))))
theorem L_law_72_w384 {L : Nat} {xs : Nat → Int32} {z : CZ} (hX : XS (L_law_72_x z) L xs) {g1807 : Nat → Nat → Nat → Int32 → PH → Option Rs} (hk1807 : SK (L_law_72_x z) 1807 (L_law_72_u1807 g1807)) : SK (L_law_72_x z) 384 (L_law_72_u384 (L_law_72_f384 L xs X12_shut g1807)) := by
  intro ls st h r e
  obtain ⟨hst, e⟩ := gL_of e
  obtain ⟨x0, q0, e⟩ := gR_of e
  obtain ⟨x1, q1, e⟩ := gR_of e
  obtain ⟨x2, q2, e⟩ := gR_of e
  obtain ⟨x3, q3, e⟩ := gI_of e
  obtain ⟨s0, q4, e⟩ := gI_of e
  obtain ⟨s1, q5, e⟩ := gI_of e
  obtain ⟨s2, q6, e⟩ := gR_of e
  obtain ⟨s3, q7, e⟩ := gI_of e
  rw [st_4 hst q4 q5 q6 q7]
  exact WK.sub (canon := [some (.inr (72, x0)), some (.inr (10, x1)), some (.inr (11, x2)), some (.inl x3)]) rfl ⟨q0, q1, q2, q3, trivial⟩ (L_law_72_s384 hX hk1807 _ _ _ _ ((L_law_72_l384 L xs X12_shut g1807 x0 x1 x2 x3 s0 s1 s2 s3 h).trans e))
noncomputable def L_law_72_f1807 (L : Nat) (xs : Nat → Int32) (g18 : Nat → Nat → Nat → Int32 → PH → Option Rs) (x0 : Nat) (x1 : Nat) (x2 : Nat) (x3 : Int32) (h : PH) : Option Rs :=
  g18 x0 x1 x2 (x3 + 6) h
set_option maxRecDepth 100000 in
theorem L_law_72_l1807 (L : Nat) (xs : Nat → Int32) (g18 : Nat → Nat → Nat → Int32 → PH → Option Rs) (x0 : Nat) (x1 : Nat) (x2 : Nat) (x3 : Int32) (h : PH) : L_law_72_b1807 L xs (L_law_72_u18 g18) [some (.inr (72, x0)), some (.inr (10, x1)), some (.inr (11, x2)), some (.inl x3)] [] h = L_law_72_f1807 L xs g18 x0 x1 x2 x3 h := rfl
theorem L_law_72_m1807 {L : Nat} {xs : Nat → Int32} {g18 G18 : Nat → Nat → Nat → Int32 → PH → Option Rs} (hg18 : ∀ a0 a1 a2 a3 a4, Mo (g18 a0 a1 a2 a3 a4) (G18 a0 a1 a2 a3 a4)) (x0 : Nat) (x1 : Nat) (x2 : Nat) (x3 : Int32) (h : PH) : Mo (L_law_72_f1807 L xs g18 x0 x1 x2 x3 h) (L_law_72_f1807 L xs G18 x0 x1 x2 x3 h) := (hg18 x0 x1 x2 (x3 + 6) h)
theorem L_law_72_w1807 {L : Nat} {xs : Nat → Int32} {z : CZ} (hX : XS (L_law_72_x z) L xs) {g18 : Nat → Nat → Nat → Int32 → PH → Option Rs} (hk18 : SK (L_law_72_x z) 18 (L_law_72_u18 g18)) : SK (L_law_72_x z) 1807 (L_law_72_u1807 (L_law_72_f1807 L xs g18)) := by
  intro ls st h r e
  obtain ⟨hst, e⟩ := gL_of e
  obtain ⟨x0, q0, e⟩ := gR_of e
  obtain ⟨x1, q1, e⟩ := gR_of e
  obtain ⟨x2, q2, e⟩ := gR_of e
  obtain ⟨x3, q3, e⟩ := gI_of e
  rw [st_0 hst]
  exact WK.sub (canon := [some (.inr (72, x0)), some (.inr (10, x1)), some (.inr (11, x2)), some (.inl x3)]) rfl ⟨q0, q1, q2, q3, trivial⟩ (L_law_72_s1807 hX hk18 _ _ _ _ ((L_law_72_l1807 L xs g18 x0 x1 x2 x3 h).trans e))
noncomputable def L_law_72_g0 (L : Nat) (xs : Nat → Int32) (G : (Nat → Nat → Nat → Int32 → PH → Option Rs)) (x0 : Nat) (h : PH) : Option Rs := L_law_72_f0 L xs X11_init X12_init (G) x0 h
noncomputable def L_law_72_g1807 (L : Nat) (xs : Nat → Int32) (G : (Nat → Nat → Nat → Int32 → PH → Option Rs)) (x0 : Nat) (x1 : Nat) (x2 : Nat) (x3 : Int32) (h : PH) : Option Rs := L_law_72_f1807 L xs (G) x0 x1 x2 x3 h
noncomputable def L_law_72_g384 (L : Nat) (xs : Nat → Int32) (G : (Nat → Nat → Nat → Int32 → PH → Option Rs)) (x0 : Nat) (x1 : Nat) (x2 : Nat) (x3 : Int32) (s0 : Int32) (s1 : Int32) (s2 : Nat) (s3 : Int32) (h : PH) : Option Rs := L_law_72_f384 L xs X12_shut (L_law_72_g1807 L xs G) x0 x1 x2 x3 s0 s1 s2 s3 h
noncomputable def L_law_72_g362 (L : Nat) (xs : Nat → Int32) (G : (Nat → Nat → Nat → Int32 → PH → Option Rs)) (x0 : Nat) (x1 : Nat) (x2 : Nat) (x3 : Int32) (s0 : Int32) (s1 : Int32) (s2 : Nat) (h : PH) : Option Rs := L_law_72_f362 L xs X11_shut (L_law_72_g384 L xs G) x0 x1 x2 x3 s0 s1 s2 h
noncomputable def L_law_72_g18 (L : Nat) (xs : Nat → Int32) (G : (Nat → Nat → Nat → Int32 → PH → Option Rs)) (x0 : Nat) (x1 : Nat) (x2 : Nat) (x3 : Int32) (h : PH) : Option Rs := L_law_72_f18 L xs X11_place X12_place X11_way X12_way X11_wayTold X12_wayTold X11_goal X12_goal X11_goalTold X12_goalTold X11_hours X12_hours X11_sign X12_sign X11_told X12_told X11_as X12_as X11_turns X12_turns X11_row X12_row X11_rowTold X12_rowTold X11_drop X12_drop X11_aim X12_aim X11_undo X12_undo X11_feed X12_feed X11_trim X12_trim X11_text X12_text X11_textTold X12_textTold X11_why X12_why X11_walk X12_walk X11_via X12_via X11_far X12_far X11_next X12_next X11_breaches X12_breaches X11_breach X12_breach X11_needs X12_needs X11_wrong X12_wrong X11_mend X12_mend X11_choose X12_choose X11_clear X12_clear X11_fewest X12_fewest X11_seed X12_seed X11_strangers X12_strangers X11_led X12_led X11_sheet X12_sheet X11_mark X12_mark X11_fill X12_fill X11_copy X12_copy X11_lay X12_lay X11_ask X12_ask X11_item X12_item X11_rest X12_rest X11_tell X12_tell X11_check X12_check X11_keep X12_keep X11_back X12_back X11_count X12_count (L_law_72_g362 L xs G) (L_law_72_g1807 L xs G) x0 x1 x2 x3 h
theorem L_law_72_v1807 {L : Nat} {xs : Nat → Int32} {z : CZ} (hX : XS (L_law_72_x z) L xs) {G : (Nat → Nat → Nat → Int32 → PH → Option Rs)} (hG18 : SK (L_law_72_x z) 18 (L_law_72_u18 (G))) : SK (L_law_72_x z) 1807 (L_law_72_u1807 (L_law_72_g1807 L xs G)) := L_law_72_w1807 hX hG18
theorem L_law_72_v384 {L : Nat} {xs : Nat → Int32} {z : CZ} (hX : XS (L_law_72_x z) L xs) {G : (Nat → Nat → Nat → Int32 → PH → Option Rs)} (hG18 : SK (L_law_72_x z) 18 (L_law_72_u18 (G))) : SK (L_law_72_x z) 384 (L_law_72_u384 (L_law_72_g384 L xs G)) := L_law_72_w384 hX (L_law_72_v1807 hX hG18)
theorem L_law_72_v362 {L : Nat} {xs : Nat → Int32} {z : CZ} (hX : XS (L_law_72_x z) L xs) {G : (Nat → Nat → Nat → Int32 → PH → Option Rs)} (hG18 : SK (L_law_72_x z) 18 (L_law_72_u18 (G))) : SK (L_law_72_x z) 362 (L_law_72_u362 (L_law_72_g362 L xs G)) := L_law_72_w362 hX (L_law_72_v384 hX hG18)
theorem L_law_72_v18 {L : Nat} {xs : Nat → Int32} {z : CZ} (hX : XS (L_law_72_x z) L xs) {G : (Nat → Nat → Nat → Int32 → PH → Option Rs)} (hG18 : SK (L_law_72_x z) 18 (L_law_72_u18 (G))) : SK (L_law_72_x z) 18 (L_law_72_u18 (L_law_72_g18 L xs G)) := L_law_72_w18 hX (L_law_72_v362 hX hG18) (L_law_72_v1807 hX hG18)
noncomputable def L_law_72_fam (L : Nat) (xs : Nat → Int32) : Nat → (Nat → Nat → Nat → Int32 → PH → Option Rs)
  | 0 => fun _ _ _ _ _ => none
  | n + 1 => L_law_72_g18 L xs (L_law_72_fam L xs n)
theorem L_law_72_k {L : Nat} {xs : Nat → Int32} {z : CZ} (hX : XS (L_law_72_x z) L xs) : ∀ n, SK (L_law_72_x z) 18 (L_law_72_u18 (L_law_72_fam L xs n))
  | 0 => (fun ls st h r e => by
      obtain ⟨_, e⟩ := gL_of e
      obtain ⟨_, _, e⟩ := gR_of e
      obtain ⟨_, _, e⟩ := gR_of e
      obtain ⟨_, _, e⟩ := gR_of e
      obtain ⟨_, _, e⟩ := gI_of e
      cases e)
  | n + 1 => by
    obtain ih18 := L_law_72_k hX n
    exact L_law_72_v18 hX ih18
theorem L_law_72_n0 {L : Nat} {xs : Nat → Int32} {G G' : (Nat → Nat → Nat → Int32 → PH → Option Rs)} (hg18 : ∀ a0 a1 a2 a3 a4, Mo ((G) a0 a1 a2 a3 a4) ((G') a0 a1 a2 a3 a4)) (x0 : Nat) (h : PH) : Mo (L_law_72_g0 L xs G x0 h) (L_law_72_g0 L xs G' x0 h) := L_law_72_m0 hg18 x0 h
theorem L_law_72_n1807 {L : Nat} {xs : Nat → Int32} {G G' : (Nat → Nat → Nat → Int32 → PH → Option Rs)} (hg18 : ∀ a0 a1 a2 a3 a4, Mo ((G) a0 a1 a2 a3 a4) ((G') a0 a1 a2 a3 a4)) (x0 : Nat) (x1 : Nat) (x2 : Nat) (x3 : Int32) (h : PH) : Mo (L_law_72_g1807 L xs G x0 x1 x2 x3 h) (L_law_72_g1807 L xs G' x0 x1 x2 x3 h) := L_law_72_m1807 hg18 x0 x1 x2 x3 h
theorem L_law_72_n384 {L : Nat} {xs : Nat → Int32} {G G' : (Nat → Nat → Nat → Int32 → PH → Option Rs)} (hg18 : ∀ a0 a1 a2 a3 a4, Mo ((G) a0 a1 a2 a3 a4) ((G') a0 a1 a2 a3 a4)) (x0 : Nat) (x1 : Nat) (x2 : Nat) (x3 : Int32) (s0 : Int32) (s1 : Int32) (s2 : Nat) (s3 : Int32) (h : PH) : Mo (L_law_72_g384 L xs G x0 x1 x2 x3 s0 s1 s2 s3 h) (L_law_72_g384 L xs G' x0 x1 x2 x3 s0 s1 s2 s3 h) := L_law_72_m384 (fun a0 a1 a2 a3 a4 => L_law_72_n1807 hg18 a0 a1 a2 a3 a4) x0 x1 x2 x3 s0 s1 s2 s3 h
theorem L_law_72_n362 {L : Nat} {xs : Nat → Int32} {G G' : (Nat → Nat → Nat → Int32 → PH → Option Rs)} (hg18 : ∀ a0 a1 a2 a3 a4, Mo ((G) a0 a1 a2 a3 a4) ((G') a0 a1 a2 a3 a4)) (x0 : Nat) (x1 : Nat) (x2 : Nat) (x3 : Int32) (s0 : Int32) (s1 : Int32) (s2 : Nat) (h : PH) : Mo (L_law_72_g362 L xs G x0 x1 x2 x3 s0 s1 s2 h) (L_law_72_g362 L xs G' x0 x1 x2 x3 s0 s1 s2 h) := L_law_72_m362 (fun a0 a1 a2 a3 a4 a5 a6 a7 a8 => L_law_72_n384 hg18 a0 a1 a2 a3 a4 a5 a6 a7 a8) x0 x1 x2 x3 s0 s1 s2 h
theorem L_law_72_n18 {L : Nat} {xs : Nat → Int32} {G G' : (Nat → Nat → Nat → Int32 → PH → Option Rs)} (hg18 : ∀ a0 a1 a2 a3 a4, Mo ((G) a0 a1 a2 a3 a4) ((G') a0 a1 a2 a3 a4)) (x0 : Nat) (x1 : Nat) (x2 : Nat) (x3 : Int32) (h : PH) : Mo (L_law_72_g18 L xs G x0 x1 x2 x3 h) (L_law_72_g18 L xs G' x0 x1 x2 x3 h) := L_law_72_m18 (fun a0 a1 a2 a3 a4 a5 a6 a7 => L_law_72_n362 hg18 a0 a1 a2 a3 a4 a5 a6 a7) (fun a0 a1 a2 a3 a4 => L_law_72_n1807 hg18 a0 a1 a2 a3 a4) x0 x1 x2 x3 h
theorem L_law_72_fm {L : Nat} {xs : Nat → Int32} : ∀ n, (∀ a0 a1 a2 a3 a4, Mo ((L_law_72_fam L xs n) a0 a1 a2 a3 a4) ((L_law_72_fam L xs (n + 1)) a0 a1 a2 a3 a4))
  | 0 => fun _ _ _ _ _ => mo_no
  | n + 1 => by
    obtain ih18 := L_law_72_fm n
    exact fun a0 a1 a2 a3 a4 => L_law_72_n18 ih18 a0 a1 a2 a3 a4
noncomputable def L_law_72 (L : Nat) (xs : Nat → Int32) (x0 : Nat) (h : PH) : Option Rs := lim (fun n => L_law_72_g0 L xs (L_law_72_fam L xs n) x0 h)
theorem L_law_72_iff {L : Nat} {xs : Nat → Int32} {x0 : Nat} {h : PH} {r : Rs} : L_law_72 L xs x0 h = some r ↔ ∃ n, L_law_72_g0 L xs (L_law_72_fam L xs n) x0 h = some r := lim_iff (fun n => by
  obtain ih18 := L_law_72_fm n
  exact L_law_72_n0 ih18 x0 h)
noncomputable abbrev L_law_72_F (L : Nat) (xs : Nat → Int32) : List PV → PH → Option Rs := FW_R72 (L_law_72 L xs)
set_option maxRecDepth 100000 in
theorem L_law_wk {z : CZ} {L : Nat} {xs : Nat → Int32} (hX : XS (L_law_72_x z) L xs) {x0 : Nat} {h : PH} {r : Rs} (e : L_law_72 L xs x0 h = some r) : WK (L_law_72_x z) r 0 [some (.inr (72, x0)), none, none, none] [] h := by
  obtain ⟨n, e⟩ := lim_of e
  obtain hG18 := L_law_72_k hX (z := z) n
  exact (L_law_72_s0 hX hG18 _ _ _ _ ((L_law_72_l0 L xs X11_init X12_init (L_law_72_fam L xs n) x0 h).trans e))
