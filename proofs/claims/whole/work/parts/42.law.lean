abbrev L_law_72_x (z : CZ) : CX := mx RL cL_law 4 803 (some .boolean) (z.1.2.2.2.2.2.2.2.1.name) z
noncomputable def L_law_72_b0 (L : Nat) (xs : Nat → Int32) (c_X11_init : Nat → PH → Option Rs) (c_X12_init : Nat → PH → Option Rs) (k18 : Kn) : Kn := (a_new 10 10 (a_dup (a_vV 10 0 (FW_T10 c_X11_init) (a_as 1 (a_new 11 51 (a_dup (a_vV 11 0 (FW_T11 c_X12_init) (a_as 2 (a_ic 0 (a_is 3 k18))))))))))
set_option maxRecDepth 100000 in
theorem L_law_72_s0 {L : Nat} {xs : Nat → Int32} {z : CZ} (hX : XS (L_law_72_x z) L xs) {k18 : Kn} (hk18 : SK (L_law_72_x z) 18 k18) : SK (L_law_72_x z) 0 (L_law_72_b0 L xs X11_init X12_init k18) := (s_new (pc := 0) ko_10 rfl kd_10 w_101 w_102 w_79 dL_law_0 (s_dup (pc := 3) dL_law_3 (s_vV (pc := 4) (run_init (X11_init_gd _) (show 2 < 803 by decide) cy_X11_init w_104 rfl w_103 dL_law_4) (s_astoren (pc := 7) dL_law_7 rfl (show 1 < 4 by decide) (s_new (pc := 8) ko_11 rfl kd_11 w_1289 w_1290 w_90 dL_law_8 (s_dup (pc := 11) dL_law_11 (s_vV (pc := 12) (run_init (X12_init_gd _) (show 0 < 803 by decide) cy_X12_init w_1292 rfl w_1291 dL_law_12) (s_astoren (pc := 15) dL_law_15 rfl (show 2 < 4 by decide) (s_iconst (pc := 16) dL_law_16 c_ic_0 (s_istoren (pc := 17) dL_law_17 rfl (show 3 < 4 by decide) hk18))))))))))
noncomputable def L_law_72_b18 (L : Nat) (xs : Nat → Int32) (k244 k257 k310 k343 k392 k425 k458 k481 k524 k557 k590 k623 k666 k709 k742 k785 k798 k841 k864 k877 k910 k933 k986 k1039 k1082 k1125 k1148 k1181 k1214 k1237 k1260 k1283 k1296 k1329 k1352 k1375 k1388 k1431 k1474 k1507 k1570 k1613 k1646 k1679 k1712 k1735 k1758 k1771 k1784 k1807 : Kn) : Kn := (a_il 3 (a_al 0 (a_scL L (a_ic 6 (a_b (fun a b => a - b) (a_gt (a_ic 1 a_zr) (a_al 0 (a_il 3 (a_scB L xs (a_ic 63 (a_b (fun a b => a &&& b) (a_sw [(0, k244), (1, k257), (2, k310), (3, k343), (4, k392), (5, k425), (6, k458), (7, k481), (8, k524), (9, k557), (10, k590), (11, k623), (12, k666), (13, k709), (14, k742), (15, k785), (16, k798), (17, k841), (18, k864), (19, k877), (20, k910), (21, k933), (22, k986), (23, k1039), (24, k1082), (25, k1125), (26, k1148), (27, k1181), (28, k1214), (29, k1237), (30, k1260), (31, k1283), (32, k1296), (33, k1329), (34, k1352), (35, k1375), (36, k1388), (37, k1431), (38, k1474), (39, k1507), (40, k1570), (41, k1613), (42, k1646), (43, k1679), (44, k1712), (45, k1735), (46, k1758), (47, k1771), (48, k1784)] k1807))))))))))))
set_option maxRecDepth 100000 in
theorem L_law_72_s18 {L : Nat} {xs : Nat → Int32} {z : CZ} (hX : XS (L_law_72_x z) L xs) {k244 k257 k310 k343 k392 k425 k458 k481 k524 k557 k590 k623 k666 k709 k742 k785 k798 k841 k864 k877 k910 k933 k986 k1039 k1082 k1125 k1148 k1181 k1214 k1237 k1260 k1283 k1296 k1329 k1352 k1375 k1388 k1431 k1474 k1507 k1570 k1613 k1646 k1679 k1712 k1735 k1758 k1771 k1784 k1807 : Kn} (hk244 : SK (L_law_72_x z) 244 k244) (hk257 : SK (L_law_72_x z) 257 k257) (hk310 : SK (L_law_72_x z) 310 k310) (hk343 : SK (L_law_72_x z) 343 k343) (hk392 : SK (L_law_72_x z) 392 k392) (hk425 : SK (L_law_72_x z) 425 k425) (hk458 : SK (L_law_72_x z) 458 k458) (hk481 : SK (L_law_72_x z) 481 k481) (hk524 : SK (L_law_72_x z) 524 k524) (hk557 : SK (L_law_72_x z) 557 k557) (hk590 : SK (L_law_72_x z) 590 k590) (hk623 : SK (L_law_72_x z) 623 k623) (hk666 : SK (L_law_72_x z) 666 k666) (hk709 : SK (L_law_72_x z) 709 k709) (hk742 : SK (L_law_72_x z) 742 k742) (hk785 : SK (L_law_72_x z) 785 k785) (hk798 : SK (L_law_72_x z) 798 k798) (hk841 : SK (L_law_72_x z) 841 k841) (hk864 : SK (L_law_72_x z) 864 k864) (hk877 : SK (L_law_72_x z) 877 k877) (hk910 : SK (L_law_72_x z) 910 k910) (hk933 : SK (L_law_72_x z) 933 k933) (hk986 : SK (L_law_72_x z) 986 k986) (hk1039 : SK (L_law_72_x z) 1039 k1039) (hk1082 : SK (L_law_72_x z) 1082 k1082) (hk1125 : SK (L_law_72_x z) 1125 k1125) (hk1148 : SK (L_law_72_x z) 1148 k1148) (hk1181 : SK (L_law_72_x z) 1181 k1181) (hk1214 : SK (L_law_72_x z) 1214 k1214) (hk1237 : SK (L_law_72_x z) 1237 k1237) (hk1260 : SK (L_law_72_x z) 1260 k1260) (hk1283 : SK (L_law_72_x z) 1283 k1283) (hk1296 : SK (L_law_72_x z) 1296 k1296) (hk1329 : SK (L_law_72_x z) 1329 k1329) (hk1352 : SK (L_law_72_x z) 1352 k1352) (hk1375 : SK (L_law_72_x z) 1375 k1375) (hk1388 : SK (L_law_72_x z) 1388 k1388) (hk1431 : SK (L_law_72_x z) 1431 k1431) (hk1474 : SK (L_law_72_x z) 1474 k1474) (hk1507 : SK (L_law_72_x z) 1507 k1507) (hk1570 : SK (L_law_72_x z) 1570 k1570) (hk1613 : SK (L_law_72_x z) 1613 k1613) (hk1646 : SK (L_law_72_x z) 1646 k1646) (hk1679 : SK (L_law_72_x z) 1679 k1679) (hk1712 : SK (L_law_72_x z) 1712 k1712) (hk1735 : SK (L_law_72_x z) 1735 k1735) (hk1758 : SK (L_law_72_x z) 1758 k1758) (hk1771 : SK (L_law_72_x z) 1771 k1771) (hk1784 : SK (L_law_72_x z) 1784 k1784) (hk1807 : SK (L_law_72_x z) 1807 k1807) : SK (L_law_72_x z) 18 (L_law_72_b18 L xs k244 k257 k310 k343 k392 k425 k458 k481 k524 k557 k590 k623 k666 k709 k742 k785 k798 k841 k864 k877 k910 k933 k986 k1039 k1082 k1125 k1148 k1181 k1214 k1237 k1260 k1283 k1296 k1329 k1352 k1375 k1388 k1431 k1474 k1507 k1570 k1613 k1646 k1679 k1712 k1735 k1758 k1771 k1784 k1807) := (s_iloadn (pc := 18) dL_law_18 rfl (s_aloadn (pc := 19) dL_law_19 rfl (s_scL hX (pc := 20) dL_law_20 (s_bipush (pc := 21) dL_law_21 c_bp_6 (s_isub (pc := 23) dL_law_23 (s_cmpgt (pc := 24) dL_law_24 (by decide) (s_iconst (pc := 1813) dL_law_1813 c_ic_1 (s_zr (pc := 1814) rfl dL_law_1814)) (s_aloadn (pc := 27) dL_law_27 rfl (s_iloadn (pc := 28) dL_law_28 rfl (s_scB hX (pc := 29) dL_law_29 (s_bipush (pc := 30) dL_law_30 c_bp_63 (s_iand (pc := 32) dL_law_32 (s_table (pc := 33) dL_law_33 (by decide) (by decide) ⟨c_ti_0, ⟨_, by decide, hk244⟩, ⟨c_ti_1, ⟨_, by decide, hk257⟩, ⟨c_ti_2, ⟨_, by decide, hk310⟩, ⟨c_ti_3, ⟨_, by decide, hk343⟩, ⟨c_ti_4, ⟨_, by decide, hk392⟩, ⟨c_ti_5, ⟨_, by decide, hk425⟩, ⟨c_ti_6, ⟨_, by decide, hk458⟩, ⟨c_ti_7, ⟨_, by decide, hk481⟩, ⟨c_ti_8, ⟨_, by decide, hk524⟩, ⟨c_ti_9, ⟨_, by decide, hk557⟩, ⟨c_ti_10, ⟨_, by decide, hk590⟩, ⟨c_ti_11, ⟨_, by decide, hk623⟩, ⟨c_ti_12, ⟨_, by decide, hk666⟩, ⟨c_ti_13, ⟨_, by decide, hk709⟩, ⟨c_ti_14, ⟨_, by decide, hk742⟩, ⟨c_ti_15, ⟨_, by decide, hk785⟩, ⟨c_ti_16, ⟨_, by decide, hk798⟩, ⟨c_ti_17, ⟨_, by decide, hk841⟩, ⟨c_ti_18, ⟨_, by decide, hk864⟩, ⟨c_ti_19, ⟨_, by decide, hk877⟩, ⟨c_ti_20, ⟨_, by decide, hk910⟩, ⟨c_ti_21, ⟨_, by decide, hk933⟩, ⟨c_ti_22, ⟨_, by decide, hk986⟩, ⟨c_ti_23, ⟨_, by decide, hk1039⟩, ⟨c_ti_24, ⟨_, by decide, hk1082⟩, ⟨c_ti_25, ⟨_, by decide, hk1125⟩, ⟨c_ti_26, ⟨_, by decide, hk1148⟩, ⟨c_ti_27, ⟨_, by decide, hk1181⟩, ⟨c_ti_28, ⟨_, by decide, hk1214⟩, ⟨c_ti_29, ⟨_, by decide, hk1237⟩, ⟨c_ti_30, ⟨_, by decide, hk1260⟩, ⟨c_ti_31, ⟨_, by decide, hk1283⟩, ⟨c_ti_32, ⟨_, by decide, hk1296⟩, ⟨c_ti_33, ⟨_, by decide, hk1329⟩, ⟨c_ti_34, ⟨_, by decide, hk1352⟩, ⟨c_ti_35, ⟨_, by decide, hk1375⟩, ⟨c_ti_36, ⟨_, by decide, hk1388⟩, ⟨c_ti_37, ⟨_, by decide, hk1431⟩, ⟨c_ti_38, ⟨_, by decide, hk1474⟩, ⟨c_ti_39, ⟨_, by decide, hk1507⟩, ⟨c_ti_40, ⟨_, by decide, hk1570⟩, ⟨c_ti_41, ⟨_, by decide, hk1613⟩, ⟨c_ti_42, ⟨_, by decide, hk1646⟩, ⟨c_ti_43, ⟨_, by decide, hk1679⟩, ⟨c_ti_44, ⟨_, by decide, hk1712⟩, ⟨c_ti_45, ⟨_, by decide, hk1735⟩, ⟨c_ti_46, ⟨_, by decide, hk1758⟩, ⟨c_ti_47, ⟨_, by decide, hk1771⟩, ⟨c_ti_48, ⟨_, by decide, hk1784⟩, trivial⟩⟩⟩⟩⟩⟩⟩⟩⟩⟩⟩⟩⟩⟩⟩⟩⟩⟩⟩⟩⟩⟩⟩⟩⟩⟩⟩⟩⟩⟩⟩⟩⟩⟩⟩⟩⟩⟩⟩⟩⟩⟩⟩⟩⟩⟩⟩⟩⟩ hk1807))))))))))))
noncomputable def L_law_72_b244 (L : Nat) (xs : Nat → Int32) (c_X11_place : Nat → PH → Option Rs) (c_X12_place : Nat → PH → Option Rs) (k1807 : Kn) : Kn := (a_al 1 (a_vI 10 0 (FW_T10 c_X11_place) (a_al 2 (a_vI 11 0 (FW_T11 c_X12_place) (a_eq k1807 (a_ic 0 a_zr))))))
set_option maxRecDepth 100000 in
theorem L_law_72_s244 {L : Nat} {xs : Nat → Int32} {z : CZ} (hX : XS (L_law_72_x z) L xs) {k1807 : Kn} (hk1807 : SK (L_law_72_x z) 1807 k1807) : SK (L_law_72_x z) 244 (L_law_72_b244 L xs X11_place X12_place k1807) := (s_aloadn (pc := 244) dL_law_244 rfl (s_vI (pc := 245) (run_virtual (X11_place_gd _) (show 0 < 803 by decide) cy_X11_place (by decide) rfl w_536 w_537 w_535 dL_law_245) (s_aloadn (pc := 248) dL_law_248 rfl (s_vI (pc := 249) (run_virtual (X12_place_gd _) (show 0 < 803 by decide) cy_X12_place (by decide) rfl w_1451 w_1452 w_1450 dL_law_249) (s_cmpeq (pc := 252) dL_law_252 (by decide) hk1807 (s_iconst (pc := 255) dL_law_255 c_ic_0 (s_zr (pc := 256) rfl dL_law_256)))))))
noncomputable def L_law_72_b257 (L : Nat) (xs : Nat → Int32) (c_X11_way : Nat → Int32 → Int32 → Int32 → Int32 → PH → Option Rs) (c_X12_way : Nat → Int32 → Int32 → Int32 → Int32 → PH → Option Rs) (k1807 : Kn) : Kn := (a_al 1 (a_al 0 (a_il 3 (a_ic 1 (a_b (fun a b => a + b) (a_scB L xs (a_al 0 (a_il 3 (a_ic 2 (a_b (fun a b => a + b) (a_scB L xs (a_al 0 (a_il 3 (a_ic 3 (a_b (fun a b => a + b) (a_scB L xs (a_al 0 (a_il 3 (a_ic 4 (a_b (fun a b => a + b) (a_scB L xs (a_vI 10 4 (FW_T10IIII c_X11_way) (a_al 2 (a_al 0 (a_il 3 (a_ic 1 (a_b (fun a b => a + b) (a_scB L xs (a_al 0 (a_il 3 (a_ic 2 (a_b (fun a b => a + b) (a_scB L xs (a_al 0 (a_il 3 (a_ic 3 (a_b (fun a b => a + b) (a_scB L xs (a_al 0 (a_il 3 (a_ic 4 (a_b (fun a b => a + b) (a_scB L xs (a_vI 11 4 (FW_T11IIII c_X12_way) (a_eq k1807 (a_ic 0 a_zr))))))))))))))))))))))))))))))))))))))))))))))
set_option maxRecDepth 100000 in
theorem L_law_72_s257 {L : Nat} {xs : Nat → Int32} {z : CZ} (hX : XS (L_law_72_x z) L xs) {k1807 : Kn} (hk1807 : SK (L_law_72_x z) 1807 k1807) : SK (L_law_72_x z) 257 (L_law_72_b257 L xs X11_way X12_way k1807) := (s_aloadn (pc := 257) dL_law_257 rfl (s_aloadn (pc := 258) dL_law_258 rfl (s_iloadn (pc := 259) dL_law_259 rfl (s_iconst (pc := 260) dL_law_260 c_ic_1 (s_iadd (pc := 261) dL_law_261 (s_scB hX (pc := 262) dL_law_262 (s_aloadn (pc := 263) dL_law_263 rfl (s_iloadn (pc := 264) dL_law_264 rfl (s_iconst (pc := 265) dL_law_265 c_ic_2 (s_iadd (pc := 266) dL_law_266 (s_scB hX (pc := 267) dL_law_267 (s_aloadn (pc := 268) dL_law_268 rfl (s_iloadn (pc := 269) dL_law_269 rfl (s_iconst (pc := 270) dL_law_270 c_ic_3 (s_iadd (pc := 271) dL_law_271 (s_scB hX (pc := 272) dL_law_272 (s_aloadn (pc := 273) dL_law_273 rfl (s_iloadn (pc := 274) dL_law_274 rfl (s_iconst (pc := 275) dL_law_275 c_ic_4 (s_iadd (pc := 276) dL_law_276 (s_scB hX (pc := 277) dL_law_277 (s_vI (pc := 278) (run_virtual (X11_way_gd _) (show 2 < 803 by decide) cy_X11_way (by decide) rfl w_541 w_542 w_540 dL_law_278) (s_aloadn (pc := 281) dL_law_281 rfl (s_aloadn (pc := 282) dL_law_282 rfl (s_iloadn (pc := 283) dL_law_283 rfl (s_iconst (pc := 284) dL_law_284 c_ic_1 (s_iadd (pc := 285) dL_law_285 (s_scB hX (pc := 286) dL_law_286 (s_aloadn (pc := 287) dL_law_287 rfl (s_iloadn (pc := 288) dL_law_288 rfl (s_iconst (pc := 289) dL_law_289 c_ic_2 (s_iadd (pc := 290) dL_law_290 (s_scB hX (pc := 291) dL_law_291 (s_aloadn (pc := 292) dL_law_292 rfl (s_iloadn (pc := 293) dL_law_293 rfl (s_iconst (pc := 294) dL_law_294 c_ic_3 (s_iadd (pc := 295) dL_law_295 (s_scB hX (pc := 296) dL_law_296 (s_aloadn (pc := 297) dL_law_297 rfl (s_iloadn (pc := 298) dL_law_298 rfl (s_iconst (pc := 299) dL_law_299 c_ic_4 (s_iadd (pc := 300) dL_law_300 (s_scB hX (pc := 301) dL_law_301 (s_vI (pc := 302) (run_virtual (X12_way_gd _) (show 2 < 803 by decide) cy_X12_way (by decide) rfl w_1456 w_1457 w_1455 dL_law_302) (s_cmpeq (pc := 305) dL_law_305 (by decide) hk1807 (s_iconst (pc := 308) dL_law_308 c_ic_0 (s_zr (pc := 309) rfl dL_law_309)))))))))))))))))))))))))))))))))))))))))))))))
noncomputable def L_law_72_b310 (L : Nat) (xs : Nat → Int32) (c_X11_wayTold : Nat → Int32 → Int32 → PH → Option Rs) (c_X12_wayTold : Nat → Int32 → Int32 → PH → Option Rs) (k1807 : Kn) : Kn := (a_al 1 (a_al 0 (a_il 3 (a_ic 1 (a_b (fun a b => a + b) (a_scB L xs (a_al 0 (a_il 3 (a_ic 2 (a_b (fun a b => a + b) (a_scB L xs (a_vI 10 2 (FW_T10II c_X11_wayTold) (a_al 2 (a_al 0 (a_il 3 (a_ic 1 (a_b (fun a b => a + b) (a_scB L xs (a_al 0 (a_il 3 (a_ic 2 (a_b (fun a b => a + b) (a_scB L xs (a_vI 11 2 (FW_T11II c_X12_wayTold) (a_eq k1807 (a_ic 0 a_zr))))))))))))))))))))))))))
set_option maxRecDepth 100000 in
theorem L_law_72_s310 {L : Nat} {xs : Nat → Int32} {z : CZ} (hX : XS (L_law_72_x z) L xs) {k1807 : Kn} (hk1807 : SK (L_law_72_x z) 1807 k1807) : SK (L_law_72_x z) 310 (L_law_72_b310 L xs X11_wayTold X12_wayTold k1807) := (s_aloadn (pc := 310) dL_law_310 rfl (s_aloadn (pc := 311) dL_law_311 rfl (s_iloadn (pc := 312) dL_law_312 rfl (s_iconst (pc := 313) dL_law_313 c_ic_1 (s_iadd (pc := 314) dL_law_314 (s_scB hX (pc := 315) dL_law_315 (s_aloadn (pc := 316) dL_law_316 rfl (s_iloadn (pc := 317) dL_law_317 rfl (s_iconst (pc := 318) dL_law_318 c_ic_2 (s_iadd (pc := 319) dL_law_319 (s_scB hX (pc := 320) dL_law_320 (s_vI (pc := 321) (run_virtual (X11_wayTold_gd _) (show 3 < 803 by decide) cy_X11_wayTold (by decide) rfl w_570 w_571 w_569 dL_law_321) (s_aloadn (pc := 324) dL_law_324 rfl (s_aloadn (pc := 325) dL_law_325 rfl (s_iloadn (pc := 326) dL_law_326 rfl (s_iconst (pc := 327) dL_law_327 c_ic_1 (s_iadd (pc := 328) dL_law_328 (s_scB hX (pc := 329) dL_law_329 (s_aloadn (pc := 330) dL_law_330 rfl (s_iloadn (pc := 331) dL_law_331 rfl (s_iconst (pc := 332) dL_law_332 c_ic_2 (s_iadd (pc := 333) dL_law_333 (s_scB hX (pc := 334) dL_law_334 (s_vI (pc := 335) (run_virtual (X12_wayTold_gd _) (show 3 < 803 by decide) cy_X12_wayTold (by decide) rfl w_1473 w_1474 w_1472 dL_law_335) (s_cmpeq (pc := 338) dL_law_338 (by decide) hk1807 (s_iconst (pc := 341) dL_law_341 c_ic_0 (s_zr (pc := 342) rfl dL_law_342)))))))))))))))))))))))))))
noncomputable def L_law_72_b343 (L : Nat) (xs : Nat → Int32) (k362 : Kn) : Kn := (a_al 1 (a_al 0 (a_il 3 (a_ic 1 (a_b (fun a b => a + b) (a_scB L xs (a_al 0 (a_il 3 (a_ic 2 (a_b (fun a b => a + b) (a_scB L xs (a_z (a_ic 0 k362) (a_ic 1 k362)))))))))))))
set_option maxRecDepth 100000 in
theorem L_law_72_s343 {L : Nat} {xs : Nat → Int32} {z : CZ} (hX : XS (L_law_72_x z) L xs) {k362 : Kn} (hk362 : SK (L_law_72_x z) 362 k362) : SK (L_law_72_x z) 343 (L_law_72_b343 L xs k362) := (s_aloadn (pc := 343) dL_law_343 rfl (s_aloadn (pc := 344) dL_law_344 rfl (s_iloadn (pc := 345) dL_law_345 rfl (s_iconst (pc := 346) dL_law_346 c_ic_1 (s_iadd (pc := 347) dL_law_347 (s_scB hX (pc := 348) dL_law_348 (s_aloadn (pc := 349) dL_law_349 rfl (s_iloadn (pc := 350) dL_law_350 rfl (s_iconst (pc := 351) dL_law_351 c_ic_2 (s_iadd (pc := 352) dL_law_352 (s_scB hX (pc := 353) dL_law_353 (s_ifeq (pc := 354) dL_law_354 (by decide) (s_iconst (pc := 361) dL_law_361 c_ic_0 hk362) (s_iconst (pc := 357) dL_law_357 c_ic_1 (s_goto (pc := 358) dL_law_358 (by decide) hk362))))))))))))))
noncomputable def L_law_72_b362 (L : Nat) (xs : Nat → Int32) (c_X11_shut : Nat → Int32 → Int32 → PH → Option Rs) (k384 : Kn) : Kn := (a_vI 10 2 (FW_T10II c_X11_shut) (a_al 2 (a_al 0 (a_il 3 (a_ic 1 (a_b (fun a b => a + b) (a_scB L xs (a_al 0 (a_il 3 (a_ic 2 (a_b (fun a b => a + b) (a_scB L xs (a_z (a_ic 0 k384) (a_ic 1 k384))))))))))))))
set_option maxRecDepth 100000 in
theorem L_law_72_s362 {L : Nat} {xs : Nat → Int32} {z : CZ} (hX : XS (L_law_72_x z) L xs) {k384 : Kn} (hk384 : SK (L_law_72_x z) 384 k384) : SK (L_law_72_x z) 362 (L_law_72_b362 L xs X11_shut k384) := (s_vI (pc := 362) (run_virtual (X11_shut_gd _) (show 1 < 803 by decide) cy_X11_shut (by decide) rfl w_593 w_594 w_592 dL_law_362) (s_aloadn (pc := 365) dL_law_365 rfl (s_aloadn (pc := 366) dL_law_366 rfl (s_iloadn (pc := 367) dL_law_367 rfl (s_iconst (pc := 368) dL_law_368 c_ic_1 (s_iadd (pc := 369) dL_law_369 (s_scB hX (pc := 370) dL_law_370 (s_aloadn (pc := 371) dL_law_371 rfl (s_iloadn (pc := 372) dL_law_372 rfl (s_iconst (pc := 373) dL_law_373 c_ic_2 (s_iadd (pc := 374) dL_law_374 (s_scB hX (pc := 375) dL_law_375 (s_ifeq (pc := 376) dL_law_376 (by decide) (s_iconst (pc := 383) dL_law_383 c_ic_0 hk384) (s_iconst (pc := 379) dL_law_379 c_ic_1 (s_goto (pc := 380) dL_law_380 (by decide) hk384)))))))))))))))
noncomputable def L_law_72_b384 (L : Nat) (xs : Nat → Int32) (c_X12_shut : Nat → Int32 → Int32 → PH → Option Rs) (k1807 : Kn) : Kn := (a_vI 11 2 (FW_T11II c_X12_shut) (a_eq k1807 (a_ic 0 a_zr)))
set_option maxRecDepth 100000 in
theorem L_law_72_s384 {L : Nat} {xs : Nat → Int32} {z : CZ} (hX : XS (L_law_72_x z) L xs) {k1807 : Kn} (hk1807 : SK (L_law_72_x z) 1807 k1807) : SK (L_law_72_x z) 384 (L_law_72_b384 L xs X12_shut k1807) := (s_vI (pc := 384) (run_virtual (X12_shut_gd _) (show 1 < 803 by decide) cy_X12_shut (by decide) rfl w_1492 w_1493 w_1491 dL_law_384) (s_cmpeq (pc := 387) dL_law_387 (by decide) hk1807 (s_iconst (pc := 390) dL_law_390 c_ic_0 (s_zr (pc := 391) rfl dL_law_391))))
noncomputable def L_law_72_b392 (L : Nat) (xs : Nat → Int32) (c_X11_goal : Nat → Int32 → Int32 → PH → Option Rs) (c_X12_goal : Nat → Int32 → Int32 → PH → Option Rs) (k1807 : Kn) : Kn := (a_al 1 (a_al 0 (a_il 3 (a_ic 1 (a_b (fun a b => a + b) (a_scB L xs (a_al 0 (a_il 3 (a_ic 2 (a_b (fun a b => a + b) (a_scB L xs (a_vI 10 2 (FW_T10II c_X11_goal) (a_al 2 (a_al 0 (a_il 3 (a_ic 1 (a_b (fun a b => a + b) (a_scB L xs (a_al 0 (a_il 3 (a_ic 2 (a_b (fun a b => a + b) (a_scB L xs (a_vI 11 2 (FW_T11II c_X12_goal) (a_eq k1807 (a_ic 0 a_zr))))))))))))))))))))))))))
set_option maxRecDepth 100000 in
theorem L_law_72_s392 {L : Nat} {xs : Nat → Int32} {z : CZ} (hX : XS (L_law_72_x z) L xs) {k1807 : Kn} (hk1807 : SK (L_law_72_x z) 1807 k1807) : SK (L_law_72_x z) 392 (L_law_72_b392 L xs X11_goal X12_goal k1807) := (s_aloadn (pc := 392) dL_law_392 rfl (s_aloadn (pc := 393) dL_law_393 rfl (s_iloadn (pc := 394) dL_law_394 rfl (s_iconst (pc := 395) dL_law_395 c_ic_1 (s_iadd (pc := 396) dL_law_396 (s_scB hX (pc := 397) dL_law_397 (s_aloadn (pc := 398) dL_law_398 rfl (s_iloadn (pc := 399) dL_law_399 rfl (s_iconst (pc := 400) dL_law_400 c_ic_2 (s_iadd (pc := 401) dL_law_401 (s_scB hX (pc := 402) dL_law_402 (s_vI (pc := 403) (run_virtual (X11_goal_gd _) (show 2 < 803 by decide) cy_X11_goal (by decide) rfl w_597 w_598 w_596 dL_law_403) (s_aloadn (pc := 406) dL_law_406 rfl (s_aloadn (pc := 407) dL_law_407 rfl (s_iloadn (pc := 408) dL_law_408 rfl (s_iconst (pc := 409) dL_law_409 c_ic_1 (s_iadd (pc := 410) dL_law_410 (s_scB hX (pc := 411) dL_law_411 (s_aloadn (pc := 412) dL_law_412 rfl (s_iloadn (pc := 413) dL_law_413 rfl (s_iconst (pc := 414) dL_law_414 c_ic_2 (s_iadd (pc := 415) dL_law_415 (s_scB hX (pc := 416) dL_law_416 (s_vI (pc := 417) (run_virtual (X12_goal_gd _) (show 2 < 803 by decide) cy_X12_goal (by decide) rfl w_1496 w_1497 w_1495 dL_law_417) (s_cmpeq (pc := 420) dL_law_420 (by decide) hk1807 (s_iconst (pc := 423) dL_law_423 c_ic_0 (s_zr (pc := 424) rfl dL_law_424)))))))))))))))))))))))))))
noncomputable def L_law_72_b425 (L : Nat) (xs : Nat → Int32) (c_X11_goalTold : Nat → Int32 → Int32 → PH → Option Rs) (c_X12_goalTold : Nat → Int32 → Int32 → PH → Option Rs) (k1807 : Kn) : Kn := (a_al 1 (a_al 0 (a_il 3 (a_ic 1 (a_b (fun a b => a + b) (a_scB L xs (a_al 0 (a_il 3 (a_ic 2 (a_b (fun a b => a + b) (a_scB L xs (a_vI 10 2 (FW_T10II c_X11_goalTold) (a_al 2 (a_al 0 (a_il 3 (a_ic 1 (a_b (fun a b => a + b) (a_scB L xs (a_al 0 (a_il 3 (a_ic 2 (a_b (fun a b => a + b) (a_scB L xs (a_vI 11 2 (FW_T11II c_X12_goalTold) (a_eq k1807 (a_ic 0 a_zr))))))))))))))))))))))))))
set_option maxRecDepth 100000 in
theorem L_law_72_s425 {L : Nat} {xs : Nat → Int32} {z : CZ} (hX : XS (L_law_72_x z) L xs) {k1807 : Kn} (hk1807 : SK (L_law_72_x z) 1807 k1807) : SK (L_law_72_x z) 425 (L_law_72_b425 L xs X11_goalTold X12_goalTold k1807) := (s_aloadn (pc := 425) dL_law_425 rfl (s_aloadn (pc := 426) dL_law_426 rfl (s_iloadn (pc := 427) dL_law_427 rfl (s_iconst (pc := 428) dL_law_428 c_ic_1 (s_iadd (pc := 429) dL_law_429 (s_scB hX (pc := 430) dL_law_430 (s_aloadn (pc := 431) dL_law_431 rfl (s_iloadn (pc := 432) dL_law_432 rfl (s_iconst (pc := 433) dL_law_433 c_ic_2 (s_iadd (pc := 434) dL_law_434 (s_scB hX (pc := 435) dL_law_435 (s_vI (pc := 436) (run_virtual (X11_goalTold_gd _) (show 2 < 803 by decide) cy_X11_goalTold (by decide) rfl w_601 w_602 w_600 dL_law_436) (s_aloadn (pc := 439) dL_law_439 rfl (s_aloadn (pc := 440) dL_law_440 rfl (s_iloadn (pc := 441) dL_law_441 rfl (s_iconst (pc := 442) dL_law_442 c_ic_1 (s_iadd (pc := 443) dL_law_443 (s_scB hX (pc := 444) dL_law_444 (s_aloadn (pc := 445) dL_law_445 rfl (s_iloadn (pc := 446) dL_law_446 rfl (s_iconst (pc := 447) dL_law_447 c_ic_2 (s_iadd (pc := 448) dL_law_448 (s_scB hX (pc := 449) dL_law_449 (s_vI (pc := 450) (run_virtual (X12_goalTold_gd _) (show 2 < 803 by decide) cy_X12_goalTold (by decide) rfl w_1500 w_1501 w_1499 dL_law_450) (s_cmpeq (pc := 453) dL_law_453 (by decide) hk1807 (s_iconst (pc := 456) dL_law_456 c_ic_0 (s_zr (pc := 457) rfl dL_law_457)))))))))))))))))))))))))))
noncomputable def L_law_72_b458 (L : Nat) (xs : Nat → Int32) (c_X11_hours : Nat → Int32 → PH → Option Rs) (c_X12_hours : Nat → Int32 → PH → Option Rs) (k1807 : Kn) : Kn := (a_al 1 (a_al 0 (a_il 3 (a_ic 1 (a_b (fun a b => a + b) (a_scB L xs (a_vI 10 1 (FW_T10I c_X11_hours) (a_al 2 (a_al 0 (a_il 3 (a_ic 1 (a_b (fun a b => a + b) (a_scB L xs (a_vI 11 1 (FW_T11I c_X12_hours) (a_eq k1807 (a_ic 0 a_zr))))))))))))))))
set_option maxRecDepth 100000 in
theorem L_law_72_s458 {L : Nat} {xs : Nat → Int32} {z : CZ} (hX : XS (L_law_72_x z) L xs) {k1807 : Kn} (hk1807 : SK (L_law_72_x z) 1807 k1807) : SK (L_law_72_x z) 458 (L_law_72_b458 L xs X11_hours X12_hours k1807) := (s_aloadn (pc := 458) dL_law_458 rfl (s_aloadn (pc := 459) dL_law_459 rfl (s_iloadn (pc := 460) dL_law_460 rfl (s_iconst (pc := 461) dL_law_461 c_ic_1 (s_iadd (pc := 462) dL_law_462 (s_scB hX (pc := 463) dL_law_463 (s_vI (pc := 464) (run_virtual (X11_hours_gd _) (show 0 < 803 by decide) cy_X11_hours (by decide) rfl w_613 w_614 w_612 dL_law_464) (s_aloadn (pc := 467) dL_law_467 rfl (s_aloadn (pc := 468) dL_law_468 rfl (s_iloadn (pc := 469) dL_law_469 rfl (s_iconst (pc := 470) dL_law_470 c_ic_1 (s_iadd (pc := 471) dL_law_471 (s_scB hX (pc := 472) dL_law_472 (s_vI (pc := 473) (run_virtual (X12_hours_gd _) (show 1 < 803 by decide) cy_X12_hours (by decide) rfl w_1517 w_1518 w_1516 dL_law_473) (s_cmpeq (pc := 476) dL_law_476 (by decide) hk1807 (s_iconst (pc := 479) dL_law_479 c_ic_0 (s_zr (pc := 480) rfl dL_law_480)))))))))))))))))
noncomputable def L_law_72_b481 (L : Nat) (xs : Nat → Int32) (c_X11_sign : Nat → Int32 → Int32 → Int32 → PH → Option Rs) (c_X12_sign : Nat → Int32 → Int32 → Int32 → PH → Option Rs) (k1807 : Kn) : Kn := (a_al 1 (a_al 0 (a_il 3 (a_ic 1 (a_b (fun a b => a + b) (a_scB L xs (a_al 0 (a_il 3 (a_ic 2 (a_b (fun a b => a + b) (a_scB L xs (a_al 0 (a_il 3 (a_ic 3 (a_b (fun a b => a + b) (a_scB L xs (a_vI 10 3 (FW_T10III c_X11_sign) (a_al 2 (a_al 0 (a_il 3 (a_ic 1 (a_b (fun a b => a + b) (a_scB L xs (a_al 0 (a_il 3 (a_ic 2 (a_b (fun a b => a + b) (a_scB L xs (a_al 0 (a_il 3 (a_ic 3 (a_b (fun a b => a + b) (a_scB L xs (a_vI 11 3 (FW_T11III c_X12_sign) (a_eq k1807 (a_ic 0 a_zr))))))))))))))))))))))))))))))))))))
set_option maxRecDepth 100000 in
theorem L_law_72_s481 {L : Nat} {xs : Nat → Int32} {z : CZ} (hX : XS (L_law_72_x z) L xs) {k1807 : Kn} (hk1807 : SK (L_law_72_x z) 1807 k1807) : SK (L_law_72_x z) 481 (L_law_72_b481 L xs X11_sign X12_sign k1807) := (s_aloadn (pc := 481) dL_law_481 rfl (s_aloadn (pc := 482) dL_law_482 rfl (s_iloadn (pc := 483) dL_law_483 rfl (s_iconst (pc := 484) dL_law_484 c_ic_1 (s_iadd (pc := 485) dL_law_485 (s_scB hX (pc := 486) dL_law_486 (s_aloadn (pc := 487) dL_law_487 rfl (s_iloadn (pc := 488) dL_law_488 rfl (s_iconst (pc := 489) dL_law_489 c_ic_2 (s_iadd (pc := 490) dL_law_490 (s_scB hX (pc := 491) dL_law_491 (s_aloadn (pc := 492) dL_law_492 rfl (s_iloadn (pc := 493) dL_law_493 rfl (s_iconst (pc := 494) dL_law_494 c_ic_3 (s_iadd (pc := 495) dL_law_495 (s_scB hX (pc := 496) dL_law_496 (s_vI (pc := 497) (run_virtual (X11_sign_gd _) (show 2 < 803 by decide) cy_X11_sign (by decide) rfl w_617 w_618 w_616 dL_law_497) (s_aloadn (pc := 500) dL_law_500 rfl (s_aloadn (pc := 501) dL_law_501 rfl (s_iloadn (pc := 502) dL_law_502 rfl (s_iconst (pc := 503) dL_law_503 c_ic_1 (s_iadd (pc := 504) dL_law_504 (s_scB hX (pc := 505) dL_law_505 (s_aloadn (pc := 506) dL_law_506 rfl (s_iloadn (pc := 507) dL_law_507 rfl (s_iconst (pc := 508) dL_law_508 c_ic_2 (s_iadd (pc := 509) dL_law_509 (s_scB hX (pc := 510) dL_law_510 (s_aloadn (pc := 511) dL_law_511 rfl (s_iloadn (pc := 512) dL_law_512 rfl (s_iconst (pc := 513) dL_law_513 c_ic_3 (s_iadd (pc := 514) dL_law_514 (s_scB hX (pc := 515) dL_law_515 (s_vI (pc := 516) (run_virtual (X12_sign_gd _) (show 2 < 803 by decide) cy_X12_sign (by decide) rfl w_1521 w_1522 w_1520 dL_law_516) (s_cmpeq (pc := 519) dL_law_519 (by decide) hk1807 (s_iconst (pc := 522) dL_law_522 c_ic_0 (s_zr (pc := 523) rfl dL_law_523)))))))))))))))))))))))))))))))))))))
noncomputable def L_law_72_b524 (L : Nat) (xs : Nat → Int32) (c_X11_told : Nat → Int32 → Int32 → PH → Option Rs) (c_X12_told : Nat → Int32 → Int32 → PH → Option Rs) (k1807 : Kn) : Kn := (a_al 1 (a_al 0 (a_il 3 (a_ic 1 (a_b (fun a b => a + b) (a_scB L xs (a_al 0 (a_il 3 (a_ic 2 (a_b (fun a b => a + b) (a_scB L xs (a_vI 10 2 (FW_T10II c_X11_told) (a_al 2 (a_al 0 (a_il 3 (a_ic 1 (a_b (fun a b => a + b) (a_scB L xs (a_al 0 (a_il 3 (a_ic 2 (a_b (fun a b => a + b) (a_scB L xs (a_vI 11 2 (FW_T11II c_X12_told) (a_eq k1807 (a_ic 0 a_zr))))))))))))))))))))))))))
set_option maxRecDepth 100000 in
theorem L_law_72_s524 {L : Nat} {xs : Nat → Int32} {z : CZ} (hX : XS (L_law_72_x z) L xs) {k1807 : Kn} (hk1807 : SK (L_law_72_x z) 1807 k1807) : SK (L_law_72_x z) 524 (L_law_72_b524 L xs X11_told X12_told k1807) := (s_aloadn (pc := 524) dL_law_524 rfl (s_aloadn (pc := 525) dL_law_525 rfl (s_iloadn (pc := 526) dL_law_526 rfl (s_iconst (pc := 527) dL_law_527 c_ic_1 (s_iadd (pc := 528) dL_law_528 (s_scB hX (pc := 529) dL_law_529 (s_aloadn (pc := 530) dL_law_530 rfl (s_iloadn (pc := 531) dL_law_531 rfl (s_iconst (pc := 532) dL_law_532 c_ic_2 (s_iadd (pc := 533) dL_law_533 (s_scB hX (pc := 534) dL_law_534 (s_vI (pc := 535) (run_virtual (X11_told_gd _) (show 32 < 803 by decide) cy_X11_told (by decide) rfl w_629 w_630 w_628 dL_law_535) (s_aloadn (pc := 538) dL_law_538 rfl (s_aloadn (pc := 539) dL_law_539 rfl (s_iloadn (pc := 540) dL_law_540 rfl (s_iconst (pc := 541) dL_law_541 c_ic_1 (s_iadd (pc := 542) dL_law_542 (s_scB hX (pc := 543) dL_law_543 (s_aloadn (pc := 544) dL_law_544 rfl (s_iloadn (pc := 545) dL_law_545 rfl (s_iconst (pc := 546) dL_law_546 c_ic_2 (s_iadd (pc := 547) dL_law_547 (s_scB hX (pc := 548) dL_law_548 (s_vI (pc := 549) (run_virtual (X12_told_gd _) (show 3 < 803 by decide) cy_X12_told (by decide) rfl w_1525 w_1526 w_1524 dL_law_549) (s_cmpeq (pc := 552) dL_law_552 (by decide) hk1807 (s_iconst (pc := 555) dL_law_555 c_ic_0 (s_zr (pc := 556) rfl dL_law_556)))))))))))))))))))))))))))
noncomputable def L_law_72_b557 (L : Nat) (xs : Nat → Int32) (c_X11_as : Nat → Int32 → Int32 → PH → Option Rs) (c_X12_as : Nat → Int32 → Int32 → PH → Option Rs) (k1807 : Kn) : Kn := (a_al 1 (a_al 0 (a_il 3 (a_ic 1 (a_b (fun a b => a + b) (a_scB L xs (a_al 0 (a_il 3 (a_ic 2 (a_b (fun a b => a + b) (a_scB L xs (a_vI 10 2 (FW_T10II c_X11_as) (a_al 2 (a_al 0 (a_il 3 (a_ic 1 (a_b (fun a b => a + b) (a_scB L xs (a_al 0 (a_il 3 (a_ic 2 (a_b (fun a b => a + b) (a_scB L xs (a_vI 11 2 (FW_T11II c_X12_as) (a_eq k1807 (a_ic 0 a_zr))))))))))))))))))))))))))
set_option maxRecDepth 100000 in
theorem L_law_72_s557 {L : Nat} {xs : Nat → Int32} {z : CZ} (hX : XS (L_law_72_x z) L xs) {k1807 : Kn} (hk1807 : SK (L_law_72_x z) 1807 k1807) : SK (L_law_72_x z) 557 (L_law_72_b557 L xs X11_as X12_as k1807) := (s_aloadn (pc := 557) dL_law_557 rfl (s_aloadn (pc := 558) dL_law_558 rfl (s_iloadn (pc := 559) dL_law_559 rfl (s_iconst (pc := 560) dL_law_560 c_ic_1 (s_iadd (pc := 561) dL_law_561 (s_scB hX (pc := 562) dL_law_562 (s_aloadn (pc := 563) dL_law_563 rfl (s_iloadn (pc := 564) dL_law_564 rfl (s_iconst (pc := 565) dL_law_565 c_ic_2 (s_iadd (pc := 566) dL_law_566 (s_scB hX (pc := 567) dL_law_567 (s_vI (pc := 568) (run_virtual (X11_as_gd _) (show 2 < 803 by decide) cy_X11_as (by decide) rfl w_658 w_659 w_657 dL_law_568) (s_aloadn (pc := 571) dL_law_571 rfl (s_aloadn (pc := 572) dL_law_572 rfl (s_iloadn (pc := 573) dL_law_573 rfl (s_iconst (pc := 574) dL_law_574 c_ic_1 (s_iadd (pc := 575) dL_law_575 (s_scB hX (pc := 576) dL_law_576 (s_aloadn (pc := 577) dL_law_577 rfl (s_iloadn (pc := 578) dL_law_578 rfl (s_iconst (pc := 579) dL_law_579 c_ic_2 (s_iadd (pc := 580) dL_law_580 (s_scB hX (pc := 581) dL_law_581 (s_vI (pc := 582) (run_virtual (X12_as_gd _) (show 2 < 803 by decide) cy_X12_as (by decide) rfl w_1558 w_1559 w_1557 dL_law_582) (s_cmpeq (pc := 585) dL_law_585 (by decide) hk1807 (s_iconst (pc := 588) dL_law_588 c_ic_0 (s_zr (pc := 589) rfl dL_law_589)))))))))))))))))))))))))))
noncomputable def L_law_72_b590 (L : Nat) (xs : Nat → Int32) (c_X11_turns : Nat → Int32 → Int32 → PH → Option Rs) (c_X12_turns : Nat → Int32 → Int32 → PH → Option Rs) (k1807 : Kn) : Kn := (a_al 1 (a_al 0 (a_il 3 (a_ic 1 (a_b (fun a b => a + b) (a_scB L xs (a_al 0 (a_il 3 (a_ic 2 (a_b (fun a b => a + b) (a_scB L xs (a_vI 10 2 (FW_T10II c_X11_turns) (a_al 2 (a_al 0 (a_il 3 (a_ic 1 (a_b (fun a b => a + b) (a_scB L xs (a_al 0 (a_il 3 (a_ic 2 (a_b (fun a b => a + b) (a_scB L xs (a_vI 11 2 (FW_T11II c_X12_turns) (a_eq k1807 (a_ic 0 a_zr))))))))))))))))))))))))))
set_option maxRecDepth 100000 in
theorem L_law_72_s590 {L : Nat} {xs : Nat → Int32} {z : CZ} (hX : XS (L_law_72_x z) L xs) {k1807 : Kn} (hk1807 : SK (L_law_72_x z) 1807 k1807) : SK (L_law_72_x z) 590 (L_law_72_b590 L xs X11_turns X12_turns k1807) := (s_aloadn (pc := 590) dL_law_590 rfl (s_aloadn (pc := 591) dL_law_591 rfl (s_iloadn (pc := 592) dL_law_592 rfl (s_iconst (pc := 593) dL_law_593 c_ic_1 (s_iadd (pc := 594) dL_law_594 (s_scB hX (pc := 595) dL_law_595 (s_aloadn (pc := 596) dL_law_596 rfl (s_iloadn (pc := 597) dL_law_597 rfl (s_iconst (pc := 598) dL_law_598 c_ic_2 (s_iadd (pc := 599) dL_law_599 (s_scB hX (pc := 600) dL_law_600 (s_vI (pc := 601) (run_virtual (X11_turns_gd _) (show 2 < 803 by decide) cy_X11_turns (by decide) rfl w_669 w_670 w_668 dL_law_601) (s_aloadn (pc := 604) dL_law_604 rfl (s_aloadn (pc := 605) dL_law_605 rfl (s_iloadn (pc := 606) dL_law_606 rfl (s_iconst (pc := 607) dL_law_607 c_ic_1 (s_iadd (pc := 608) dL_law_608 (s_scB hX (pc := 609) dL_law_609 (s_aloadn (pc := 610) dL_law_610 rfl (s_iloadn (pc := 611) dL_law_611 rfl (s_iconst (pc := 612) dL_law_612 c_ic_2 (s_iadd (pc := 613) dL_law_613 (s_scB hX (pc := 614) dL_law_614 (s_vI (pc := 615) (run_virtual (X12_turns_gd _) (show 2 < 803 by decide) cy_X12_turns (by decide) rfl w_1566 w_1567 w_1565 dL_law_615) (s_cmpeq (pc := 618) dL_law_618 (by decide) hk1807 (s_iconst (pc := 621) dL_law_621 c_ic_0 (s_zr (pc := 622) rfl dL_law_622)))))))))))))))))))))))))))
noncomputable def L_law_72_b623 (L : Nat) (xs : Nat → Int32) (c_X11_row : Nat → Int32 → Int32 → Int32 → PH → Option Rs) (c_X12_row : Nat → Int32 → Int32 → Int32 → PH → Option Rs) (k1807 : Kn) : Kn := (a_al 1 (a_al 0 (a_il 3 (a_ic 1 (a_b (fun a b => a + b) (a_scB L xs (a_al 0 (a_il 3 (a_ic 2 (a_b (fun a b => a + b) (a_scB L xs (a_al 0 (a_il 3 (a_ic 3 (a_b (fun a b => a + b) (a_scB L xs (a_vI 10 3 (FW_T10III c_X11_row) (a_al 2 (a_al 0 (a_il 3 (a_ic 1 (a_b (fun a b => a + b) (a_scB L xs (a_al 0 (a_il 3 (a_ic 2 (a_b (fun a b => a + b) (a_scB L xs (a_al 0 (a_il 3 (a_ic 3 (a_b (fun a b => a + b) (a_scB L xs (a_vI 11 3 (FW_T11III c_X12_row) (a_eq k1807 (a_ic 0 a_zr))))))))))))))))))))))))))))))))))))
set_option maxRecDepth 100000 in
theorem L_law_72_s623 {L : Nat} {xs : Nat → Int32} {z : CZ} (hX : XS (L_law_72_x z) L xs) {k1807 : Kn} (hk1807 : SK (L_law_72_x z) 1807 k1807) : SK (L_law_72_x z) 623 (L_law_72_b623 L xs X11_row X12_row k1807) := (s_aloadn (pc := 623) dL_law_623 rfl (s_aloadn (pc := 624) dL_law_624 rfl (s_iloadn (pc := 625) dL_law_625 rfl (s_iconst (pc := 626) dL_law_626 c_ic_1 (s_iadd (pc := 627) dL_law_627 (s_scB hX (pc := 628) dL_law_628 (s_aloadn (pc := 629) dL_law_629 rfl (s_iloadn (pc := 630) dL_law_630 rfl (s_iconst (pc := 631) dL_law_631 c_ic_2 (s_iadd (pc := 632) dL_law_632 (s_scB hX (pc := 633) dL_law_633 (s_aloadn (pc := 634) dL_law_634 rfl (s_iloadn (pc := 635) dL_law_635 rfl (s_iconst (pc := 636) dL_law_636 c_ic_3 (s_iadd (pc := 637) dL_law_637 (s_scB hX (pc := 638) dL_law_638 (s_vI (pc := 639) (run_virtual (X11_row_gd _) (show 31 < 803 by decide) cy_X11_row (by decide) rfl w_673 w_674 w_672 dL_law_639) (s_aloadn (pc := 642) dL_law_642 rfl (s_aloadn (pc := 643) dL_law_643 rfl (s_iloadn (pc := 644) dL_law_644 rfl (s_iconst (pc := 645) dL_law_645 c_ic_1 (s_iadd (pc := 646) dL_law_646 (s_scB hX (pc := 647) dL_law_647 (s_aloadn (pc := 648) dL_law_648 rfl (s_iloadn (pc := 649) dL_law_649 rfl (s_iconst (pc := 650) dL_law_650 c_ic_2 (s_iadd (pc := 651) dL_law_651 (s_scB hX (pc := 652) dL_law_652 (s_aloadn (pc := 653) dL_law_653 rfl (s_iloadn (pc := 654) dL_law_654 rfl (s_iconst (pc := 655) dL_law_655 c_ic_3 (s_iadd (pc := 656) dL_law_656 (s_scB hX (pc := 657) dL_law_657 (s_vI (pc := 658) (run_virtual (X12_row_gd _) (show 2 < 803 by decide) cy_X12_row (by decide) rfl w_1574 w_1575 w_1573 dL_law_658) (s_cmpeq (pc := 661) dL_law_661 (by decide) hk1807 (s_iconst (pc := 664) dL_law_664 c_ic_0 (s_zr (pc := 665) rfl dL_law_665)))))))))))))))))))))))))))))))))))))
noncomputable def L_law_72_b666 (L : Nat) (xs : Nat → Int32) (c_X11_rowTold : Nat → Int32 → Int32 → Int32 → PH → Option Rs) (c_X12_rowTold : Nat → Int32 → Int32 → Int32 → PH → Option Rs) (k1807 : Kn) : Kn := (a_al 1 (a_al 0 (a_il 3 (a_ic 1 (a_b (fun a b => a + b) (a_scB L xs (a_al 0 (a_il 3 (a_ic 2 (a_b (fun a b => a + b) (a_scB L xs (a_al 0 (a_il 3 (a_ic 3 (a_b (fun a b => a + b) (a_scB L xs (a_vI 10 3 (FW_T10III c_X11_rowTold) (a_al 2 (a_al 0 (a_il 3 (a_ic 1 (a_b (fun a b => a + b) (a_scB L xs (a_al 0 (a_il 3 (a_ic 2 (a_b (fun a b => a + b) (a_scB L xs (a_al 0 (a_il 3 (a_ic 3 (a_b (fun a b => a + b) (a_scB L xs (a_vI 11 3 (FW_T11III c_X12_rowTold) (a_eq k1807 (a_ic 0 a_zr))))))))))))))))))))))))))))))))))))
set_option maxRecDepth 100000 in
theorem L_law_72_s666 {L : Nat} {xs : Nat → Int32} {z : CZ} (hX : XS (L_law_72_x z) L xs) {k1807 : Kn} (hk1807 : SK (L_law_72_x z) 1807 k1807) : SK (L_law_72_x z) 666 (L_law_72_b666 L xs X11_rowTold X12_rowTold k1807) := (s_aloadn (pc := 666) dL_law_666 rfl (s_aloadn (pc := 667) dL_law_667 rfl (s_iloadn (pc := 668) dL_law_668 rfl (s_iconst (pc := 669) dL_law_669 c_ic_1 (s_iadd (pc := 670) dL_law_670 (s_scB hX (pc := 671) dL_law_671 (s_aloadn (pc := 672) dL_law_672 rfl (s_iloadn (pc := 673) dL_law_673 rfl (s_iconst (pc := 674) dL_law_674 c_ic_2 (s_iadd (pc := 675) dL_law_675 (s_scB hX (pc := 676) dL_law_676 (s_aloadn (pc := 677) dL_law_677 rfl (s_iloadn (pc := 678) dL_law_678 rfl (s_iconst (pc := 679) dL_law_679 c_ic_3 (s_iadd (pc := 680) dL_law_680 (s_scB hX (pc := 681) dL_law_681 (s_vI (pc := 682) (run_virtual (X11_rowTold_gd _) (show 2 < 803 by decide) cy_X11_rowTold (by decide) rfl w_688 w_689 w_687 dL_law_682) (s_aloadn (pc := 685) dL_law_685 rfl (s_aloadn (pc := 686) dL_law_686 rfl (s_iloadn (pc := 687) dL_law_687 rfl (s_iconst (pc := 688) dL_law_688 c_ic_1 (s_iadd (pc := 689) dL_law_689 (s_scB hX (pc := 690) dL_law_690 (s_aloadn (pc := 691) dL_law_691 rfl (s_iloadn (pc := 692) dL_law_692 rfl (s_iconst (pc := 693) dL_law_693 c_ic_2 (s_iadd (pc := 694) dL_law_694 (s_scB hX (pc := 695) dL_law_695 (s_aloadn (pc := 696) dL_law_696 rfl (s_iloadn (pc := 697) dL_law_697 rfl (s_iconst (pc := 698) dL_law_698 c_ic_3 (s_iadd (pc := 699) dL_law_699 (s_scB hX (pc := 700) dL_law_700 (s_vI (pc := 701) (run_virtual (X12_rowTold_gd _) (show 2 < 803 by decide) cy_X12_rowTold (by decide) rfl w_1586 w_1587 w_1585 dL_law_701) (s_cmpeq (pc := 704) dL_law_704 (by decide) hk1807 (s_iconst (pc := 707) dL_law_707 c_ic_0 (s_zr (pc := 708) rfl dL_law_708)))))))))))))))))))))))))))))))))))))
noncomputable def L_law_72_b709 (L : Nat) (xs : Nat → Int32) (c_X11_drop : Nat → Int32 → Int32 → PH → Option Rs) (c_X12_drop : Nat → Int32 → Int32 → PH → Option Rs) (k1807 : Kn) : Kn := (a_al 1 (a_al 0 (a_il 3 (a_ic 1 (a_b (fun a b => a + b) (a_scB L xs (a_al 0 (a_il 3 (a_ic 2 (a_b (fun a b => a + b) (a_scB L xs (a_vI 10 2 (FW_T10II c_X11_drop) (a_al 2 (a_al 0 (a_il 3 (a_ic 1 (a_b (fun a b => a + b) (a_scB L xs (a_al 0 (a_il 3 (a_ic 2 (a_b (fun a b => a + b) (a_scB L xs (a_vI 11 2 (FW_T11II c_X12_drop) (a_eq k1807 (a_ic 0 a_zr))))))))))))))))))))))))))
set_option maxRecDepth 100000 in
theorem L_law_72_s709 {L : Nat} {xs : Nat → Int32} {z : CZ} (hX : XS (L_law_72_x z) L xs) {k1807 : Kn} (hk1807 : SK (L_law_72_x z) 1807 k1807) : SK (L_law_72_x z) 709 (L_law_72_b709 L xs X11_drop X12_drop k1807) := (s_aloadn (pc := 709) dL_law_709 rfl (s_aloadn (pc := 710) dL_law_710 rfl (s_iloadn (pc := 711) dL_law_711 rfl (s_iconst (pc := 712) dL_law_712 c_ic_1 (s_iadd (pc := 713) dL_law_713 (s_scB hX (pc := 714) dL_law_714 (s_aloadn (pc := 715) dL_law_715 rfl (s_iloadn (pc := 716) dL_law_716 rfl (s_iconst (pc := 717) dL_law_717 c_ic_2 (s_iadd (pc := 718) dL_law_718 (s_scB hX (pc := 719) dL_law_719 (s_vI (pc := 720) (run_virtual (X11_drop_gd _) (show 3 < 803 by decide) cy_X11_drop (by decide) rfl w_692 w_693 w_691 dL_law_720) (s_aloadn (pc := 723) dL_law_723 rfl (s_aloadn (pc := 724) dL_law_724 rfl (s_iloadn (pc := 725) dL_law_725 rfl (s_iconst (pc := 726) dL_law_726 c_ic_1 (s_iadd (pc := 727) dL_law_727 (s_scB hX (pc := 728) dL_law_728 (s_aloadn (pc := 729) dL_law_729 rfl (s_iloadn (pc := 730) dL_law_730 rfl (s_iconst (pc := 731) dL_law_731 c_ic_2 (s_iadd (pc := 732) dL_law_732 (s_scB hX (pc := 733) dL_law_733 (s_vI (pc := 734) (run_virtual (X12_drop_gd _) (show 2 < 803 by decide) cy_X12_drop (by decide) rfl w_1598 w_1599 w_1597 dL_law_734) (s_cmpeq (pc := 737) dL_law_737 (by decide) hk1807 (s_iconst (pc := 740) dL_law_740 c_ic_0 (s_zr (pc := 741) rfl dL_law_741)))))))))))))))))))))))))))
noncomputable def L_law_72_b742 (L : Nat) (xs : Nat → Int32) (c_X11_aim : Nat → Int32 → Int32 → Int32 → PH → Option Rs) (c_X12_aim : Nat → Int32 → Int32 → Int32 → PH → Option Rs) (k1807 : Kn) : Kn := (a_al 1 (a_al 0 (a_il 3 (a_ic 1 (a_b (fun a b => a + b) (a_scB L xs (a_al 0 (a_il 3 (a_ic 2 (a_b (fun a b => a + b) (a_scB L xs (a_al 0 (a_il 3 (a_ic 3 (a_b (fun a b => a + b) (a_scB L xs (a_vI 10 3 (FW_T10III c_X11_aim) (a_al 2 (a_al 0 (a_il 3 (a_ic 1 (a_b (fun a b => a + b) (a_scB L xs (a_al 0 (a_il 3 (a_ic 2 (a_b (fun a b => a + b) (a_scB L xs (a_al 0 (a_il 3 (a_ic 3 (a_b (fun a b => a + b) (a_scB L xs (a_vI 11 3 (FW_T11III c_X12_aim) (a_eq k1807 (a_ic 0 a_zr))))))))))))))))))))))))))))))))))))
set_option maxRecDepth 100000 in
theorem L_law_72_s742 {L : Nat} {xs : Nat → Int32} {z : CZ} (hX : XS (L_law_72_x z) L xs) {k1807 : Kn} (hk1807 : SK (L_law_72_x z) 1807 k1807) : SK (L_law_72_x z) 742 (L_law_72_b742 L xs X11_aim X12_aim k1807) := (s_aloadn (pc := 742) dL_law_742 rfl (s_aloadn (pc := 743) dL_law_743 rfl (s_iloadn (pc := 744) dL_law_744 rfl (s_iconst (pc := 745) dL_law_745 c_ic_1 (s_iadd (pc := 746) dL_law_746 (s_scB hX (pc := 747) dL_law_747 (s_aloadn (pc := 748) dL_law_748 rfl (s_iloadn (pc := 749) dL_law_749 rfl (s_iconst (pc := 750) dL_law_750 c_ic_2 (s_iadd (pc := 751) dL_law_751 (s_scB hX (pc := 752) dL_law_752 (s_aloadn (pc := 753) dL_law_753 rfl (s_iloadn (pc := 754) dL_law_754 rfl (s_iconst (pc := 755) dL_law_755 c_ic_3 (s_iadd (pc := 756) dL_law_756 (s_scB hX (pc := 757) dL_law_757 (s_vI (pc := 758) (run_virtual (X11_aim_gd _) (show 3 < 803 by decide) cy_X11_aim (by decide) rfl w_705 w_706 w_704 dL_law_758) (s_aloadn (pc := 761) dL_law_761 rfl (s_aloadn (pc := 762) dL_law_762 rfl (s_iloadn (pc := 763) dL_law_763 rfl (s_iconst (pc := 764) dL_law_764 c_ic_1 (s_iadd (pc := 765) dL_law_765 (s_scB hX (pc := 766) dL_law_766 (s_aloadn (pc := 767) dL_law_767 rfl (s_iloadn (pc := 768) dL_law_768 rfl (s_iconst (pc := 769) dL_law_769 c_ic_2 (s_iadd (pc := 770) dL_law_770 (s_scB hX (pc := 771) dL_law_771 (s_aloadn (pc := 772) dL_law_772 rfl (s_iloadn (pc := 773) dL_law_773 rfl (s_iconst (pc := 774) dL_law_774 c_ic_3 (s_iadd (pc := 775) dL_law_775 (s_scB hX (pc := 776) dL_law_776 (s_vI (pc := 777) (run_virtual (X12_aim_gd _) (show 2 < 803 by decide) cy_X12_aim (by decide) rfl w_1602 w_1603 w_1601 dL_law_777) (s_cmpeq (pc := 780) dL_law_780 (by decide) hk1807 (s_iconst (pc := 783) dL_law_783 c_ic_0 (s_zr (pc := 784) rfl dL_law_784)))))))))))))))))))))))))))))))))))))
noncomputable def L_law_72_b785 (L : Nat) (xs : Nat → Int32) (c_X11_undo : Nat → PH → Option Rs) (c_X12_undo : Nat → PH → Option Rs) (k1807 : Kn) : Kn := (a_al 1 (a_vI 10 0 (FW_T10 c_X11_undo) (a_al 2 (a_vI 11 0 (FW_T11 c_X12_undo) (a_eq k1807 (a_ic 0 a_zr))))))
set_option maxRecDepth 100000 in
theorem L_law_72_s785 {L : Nat} {xs : Nat → Int32} {z : CZ} (hX : XS (L_law_72_x z) L xs) {k1807 : Kn} (hk1807 : SK (L_law_72_x z) 1807 k1807) : SK (L_law_72_x z) 785 (L_law_72_b785 L xs X11_undo X12_undo k1807) := (s_aloadn (pc := 785) dL_law_785 rfl (s_vI (pc := 786) (run_virtual (X11_undo_gd _) (show 2 < 803 by decide) cy_X11_undo (by decide) rfl w_709 w_710 w_708 dL_law_786) (s_aloadn (pc := 789) dL_law_789 rfl (s_vI (pc := 790) (run_virtual (X12_undo_gd _) (show 0 < 803 by decide) cy_X12_undo (by decide) rfl w_1570 w_1571 w_1569 dL_law_790) (s_cmpeq (pc := 793) dL_law_793 (by decide) hk1807 (s_iconst (pc := 796) dL_law_796 c_ic_0 (s_zr (pc := 797) rfl dL_law_797)))))))
noncomputable def L_law_72_b798 (L : Nat) (xs : Nat → Int32) (c_X11_feed : Nat → Int32 → Int32 → Int32 → PH → Option Rs) (c_X12_feed : Nat → Int32 → Int32 → Int32 → PH → Option Rs) (k1807 : Kn) : Kn := (a_al 1 (a_al 0 (a_il 3 (a_ic 1 (a_b (fun a b => a + b) (a_scB L xs (a_al 0 (a_il 3 (a_ic 2 (a_b (fun a b => a + b) (a_scB L xs (a_al 0 (a_il 3 (a_ic 3 (a_b (fun a b => a + b) (a_scB L xs (a_vI 10 3 (FW_T10III c_X11_feed) (a_al 2 (a_al 0 (a_il 3 (a_ic 1 (a_b (fun a b => a + b) (a_scB L xs (a_al 0 (a_il 3 (a_ic 2 (a_b (fun a b => a + b) (a_scB L xs (a_al 0 (a_il 3 (a_ic 3 (a_b (fun a b => a + b) (a_scB L xs (a_vI 11 3 (FW_T11III c_X12_feed) (a_eq k1807 (a_ic 0 a_zr))))))))))))))))))))))))))))))))))))
set_option maxRecDepth 100000 in
theorem L_law_72_s798 {L : Nat} {xs : Nat → Int32} {z : CZ} (hX : XS (L_law_72_x z) L xs) {k1807 : Kn} (hk1807 : SK (L_law_72_x z) 1807 k1807) : SK (L_law_72_x z) 798 (L_law_72_b798 L xs X11_feed X12_feed k1807) := (s_aloadn (pc := 798) dL_law_798 rfl (s_aloadn (pc := 799) dL_law_799 rfl (s_iloadn (pc := 800) dL_law_800 rfl (s_iconst (pc := 801) dL_law_801 c_ic_1 (s_iadd (pc := 802) dL_law_802 (s_scB hX (pc := 803) dL_law_803 (s_aloadn (pc := 804) dL_law_804 rfl (s_iloadn (pc := 805) dL_law_805 rfl (s_iconst (pc := 806) dL_law_806 c_ic_2 (s_iadd (pc := 807) dL_law_807 (s_scB hX (pc := 808) dL_law_808 (s_aloadn (pc := 809) dL_law_809 rfl (s_iloadn (pc := 810) dL_law_810 rfl (s_iconst (pc := 811) dL_law_811 c_ic_3 (s_iadd (pc := 812) dL_law_812 (s_scB hX (pc := 813) dL_law_813 (s_vI (pc := 814) (run_virtual (X11_feed_gd _) (show 1 < 803 by decide) cy_X11_feed (by decide) rfl w_718 w_719 w_717 dL_law_814) (s_aloadn (pc := 817) dL_law_817 rfl (s_aloadn (pc := 818) dL_law_818 rfl (s_iloadn (pc := 819) dL_law_819 rfl (s_iconst (pc := 820) dL_law_820 c_ic_1 (s_iadd (pc := 821) dL_law_821 (s_scB hX (pc := 822) dL_law_822 (s_aloadn (pc := 823) dL_law_823 rfl (s_iloadn (pc := 824) dL_law_824 rfl (s_iconst (pc := 825) dL_law_825 c_ic_2 (s_iadd (pc := 826) dL_law_826 (s_scB hX (pc := 827) dL_law_827 (s_aloadn (pc := 828) dL_law_828 rfl (s_iloadn (pc := 829) dL_law_829 rfl (s_iconst (pc := 830) dL_law_830 c_ic_3 (s_iadd (pc := 831) dL_law_831 (s_scB hX (pc := 832) dL_law_832 (s_vI (pc := 833) (run_virtual (X12_feed_gd _) (show 0 < 803 by decide) cy_X12_feed (by decide) rfl w_1606 w_1607 w_1605 dL_law_833) (s_cmpeq (pc := 836) dL_law_836 (by decide) hk1807 (s_iconst (pc := 839) dL_law_839 c_ic_0 (s_zr (pc := 840) rfl dL_law_840)))))))))))))))))))))))))))))))))))))
noncomputable def L_law_72_b841 (L : Nat) (xs : Nat → Int32) (c_X11_trim : Nat → Int32 → PH → Option Rs) (c_X12_trim : Nat → Int32 → PH → Option Rs) (k1807 : Kn) : Kn := (a_al 1 (a_al 0 (a_il 3 (a_ic 1 (a_b (fun a b => a + b) (a_scB L xs (a_vI 10 1 (FW_T10I c_X11_trim) (a_al 2 (a_al 0 (a_il 3 (a_ic 1 (a_b (fun a b => a + b) (a_scB L xs (a_vI 11 1 (FW_T11I c_X12_trim) (a_eq k1807 (a_ic 0 a_zr))))))))))))))))
set_option maxRecDepth 100000 in
theorem L_law_72_s841 {L : Nat} {xs : Nat → Int32} {z : CZ} (hX : XS (L_law_72_x z) L xs) {k1807 : Kn} (hk1807 : SK (L_law_72_x z) 1807 k1807) : SK (L_law_72_x z) 841 (L_law_72_b841 L xs X11_trim X12_trim k1807) := (s_aloadn (pc := 841) dL_law_841 rfl (s_aloadn (pc := 842) dL_law_842 rfl (s_iloadn (pc := 843) dL_law_843 rfl (s_iconst (pc := 844) dL_law_844 c_ic_1 (s_iadd (pc := 845) dL_law_845 (s_scB hX (pc := 846) dL_law_846 (s_vI (pc := 847) (run_virtual (X11_trim_gd _) (show 0 < 803 by decide) cy_X11_trim (by decide) rfl w_726 w_727 w_725 dL_law_847) (s_aloadn (pc := 850) dL_law_850 rfl (s_aloadn (pc := 851) dL_law_851 rfl (s_iloadn (pc := 852) dL_law_852 rfl (s_iconst (pc := 853) dL_law_853 c_ic_1 (s_iadd (pc := 854) dL_law_854 (s_scB hX (pc := 855) dL_law_855 (s_vI (pc := 856) (run_virtual (X12_trim_gd _) (show 1 < 803 by decide) cy_X12_trim (by decide) rfl w_1610 w_1611 w_1609 dL_law_856) (s_cmpeq (pc := 859) dL_law_859 (by decide) hk1807 (s_iconst (pc := 862) dL_law_862 c_ic_0 (s_zr (pc := 863) rfl dL_law_863)))))))))))))))))
noncomputable def L_law_72_b864 (L : Nat) (xs : Nat → Int32) (c_X11_text : Nat → PH → Option Rs) (c_X12_text : Nat → PH → Option Rs) (k1807 : Kn) : Kn := (a_al 1 (a_vI 10 0 (FW_T10 c_X11_text) (a_al 2 (a_vI 11 0 (FW_T11 c_X12_text) (a_eq k1807 (a_ic 0 a_zr))))))
set_option maxRecDepth 100000 in
theorem L_law_72_s864 {L : Nat} {xs : Nat → Int32} {z : CZ} (hX : XS (L_law_72_x z) L xs) {k1807 : Kn} (hk1807 : SK (L_law_72_x z) 1807 k1807) : SK (L_law_72_x z) 864 (L_law_72_b864 L xs X11_text X12_text k1807) := (s_aloadn (pc := 864) dL_law_864 rfl (s_vI (pc := 865) (run_virtual (X11_text_gd _) (show 802 < 803 by decide) cy_X11_text (by decide) rfl w_730 w_731 w_729 dL_law_865) (s_aloadn (pc := 868) dL_law_868 rfl (s_vI (pc := 869) (run_virtual (X12_text_gd _) (show 4 < 803 by decide) cy_X12_text (by decide) rfl w_1614 w_1615 w_1613 dL_law_869) (s_cmpeq (pc := 872) dL_law_872 (by decide) hk1807 (s_iconst (pc := 875) dL_law_875 c_ic_0 (s_zr (pc := 876) rfl dL_law_876)))))))
noncomputable def L_law_72_b877 (L : Nat) (xs : Nat → Int32) (c_X11_textTold : Nat → Int32 → Int32 → PH → Option Rs) (c_X12_textTold : Nat → Int32 → Int32 → PH → Option Rs) (k1807 : Kn) : Kn := (a_al 1 (a_al 0 (a_il 3 (a_ic 1 (a_b (fun a b => a + b) (a_scB L xs (a_al 0 (a_il 3 (a_ic 2 (a_b (fun a b => a + b) (a_scB L xs (a_vI 10 2 (FW_T10II c_X11_textTold) (a_al 2 (a_al 0 (a_il 3 (a_ic 1 (a_b (fun a b => a + b) (a_scB L xs (a_al 0 (a_il 3 (a_ic 2 (a_b (fun a b => a + b) (a_scB L xs (a_vI 11 2 (FW_T11II c_X12_textTold) (a_eq k1807 (a_ic 0 a_zr))))))))))))))))))))))))))
set_option maxRecDepth 100000 in
theorem L_law_72_s877 {L : Nat} {xs : Nat → Int32} {z : CZ} (hX : XS (L_law_72_x z) L xs) {k1807 : Kn} (hk1807 : SK (L_law_72_x z) 1807 k1807) : SK (L_law_72_x z) 877 (L_law_72_b877 L xs X11_textTold X12_textTold k1807) := (s_aloadn (pc := 877) dL_law_877 rfl (s_aloadn (pc := 878) dL_law_878 rfl (s_iloadn (pc := 879) dL_law_879 rfl (s_iconst (pc := 880) dL_law_880 c_ic_1 (s_iadd (pc := 881) dL_law_881 (s_scB hX (pc := 882) dL_law_882 (s_aloadn (pc := 883) dL_law_883 rfl (s_iloadn (pc := 884) dL_law_884 rfl (s_iconst (pc := 885) dL_law_885 c_ic_2 (s_iadd (pc := 886) dL_law_886 (s_scB hX (pc := 887) dL_law_887 (s_vI (pc := 888) (run_virtual (X11_textTold_gd _) (show 1 < 803 by decide) cy_X11_textTold (by decide) rfl w_940 w_941 w_939 dL_law_888) (s_aloadn (pc := 891) dL_law_891 rfl (s_aloadn (pc := 892) dL_law_892 rfl (s_iloadn (pc := 893) dL_law_893 rfl (s_iconst (pc := 894) dL_law_894 c_ic_1 (s_iadd (pc := 895) dL_law_895 (s_scB hX (pc := 896) dL_law_896 (s_aloadn (pc := 897) dL_law_897 rfl (s_iloadn (pc := 898) dL_law_898 rfl (s_iconst (pc := 899) dL_law_899 c_ic_2 (s_iadd (pc := 900) dL_law_900 (s_scB hX (pc := 901) dL_law_901 (s_vI (pc := 902) (run_virtual (X12_textTold_gd _) (show 1 < 803 by decide) cy_X12_textTold (by decide) rfl w_1661 w_1662 w_1660 dL_law_902) (s_cmpeq (pc := 905) dL_law_905 (by decide) hk1807 (s_iconst (pc := 908) dL_law_908 c_ic_0 (s_zr (pc := 909) rfl dL_law_909)))))))))))))))))))))))))))
noncomputable def L_law_72_b910 (L : Nat) (xs : Nat → Int32) (c_X11_why : Nat → Int32 → PH → Option Rs) (c_X12_why : Nat → Int32 → PH → Option Rs) (k1807 : Kn) : Kn := (a_al 1 (a_al 0 (a_il 3 (a_ic 1 (a_b (fun a b => a + b) (a_scB L xs (a_vI 10 1 (FW_T10I c_X11_why) (a_al 2 (a_al 0 (a_il 3 (a_ic 1 (a_b (fun a b => a + b) (a_scB L xs (a_vI 11 1 (FW_T11I c_X12_why) (a_eq k1807 (a_ic 0 a_zr))))))))))))))))
set_option maxRecDepth 100000 in
theorem L_law_72_s910 {L : Nat} {xs : Nat → Int32} {z : CZ} (hX : XS (L_law_72_x z) L xs) {k1807 : Kn} (hk1807 : SK (L_law_72_x z) 1807 k1807) : SK (L_law_72_x z) 910 (L_law_72_b910 L xs X11_why X12_why k1807) := (s_aloadn (pc := 910) dL_law_910 rfl (s_aloadn (pc := 911) dL_law_911 rfl (s_iloadn (pc := 912) dL_law_912 rfl (s_iconst (pc := 913) dL_law_913 c_ic_1 (s_iadd (pc := 914) dL_law_914 (s_scB hX (pc := 915) dL_law_915 (s_vI (pc := 916) (run_virtual (X11_why_gd _) (show 1 < 803 by decide) cy_X11_why (by decide) rfl w_944 w_945 w_943 dL_law_916) (s_aloadn (pc := 919) dL_law_919 rfl (s_aloadn (pc := 920) dL_law_920 rfl (s_iloadn (pc := 921) dL_law_921 rfl (s_iconst (pc := 922) dL_law_922 c_ic_1 (s_iadd (pc := 923) dL_law_923 (s_scB hX (pc := 924) dL_law_924 (s_vI (pc := 925) (run_virtual (X12_why_gd _) (show 1 < 803 by decide) cy_X12_why (by decide) rfl w_1665 w_1666 w_1664 dL_law_925) (s_cmpeq (pc := 928) dL_law_928 (by decide) hk1807 (s_iconst (pc := 931) dL_law_931 c_ic_0 (s_zr (pc := 932) rfl dL_law_932)))))))))))))))))
noncomputable def L_law_72_b933 (L : Nat) (xs : Nat → Int32) (c_X11_walk : Nat → Int32 → Int32 → Int32 → Int32 → PH → Option Rs) (c_X12_walk : Nat → Int32 → Int32 → Int32 → Int32 → PH → Option Rs) (k1807 : Kn) : Kn := (a_al 1 (a_al 0 (a_il 3 (a_ic 1 (a_b (fun a b => a + b) (a_scB L xs (a_al 0 (a_il 3 (a_ic 2 (a_b (fun a b => a + b) (a_scB L xs (a_al 0 (a_il 3 (a_ic 3 (a_b (fun a b => a + b) (a_scB L xs (a_al 0 (a_il 3 (a_ic 4 (a_b (fun a b => a + b) (a_scB L xs (a_vI 10 4 (FW_T10IIII c_X11_walk) (a_al 2 (a_al 0 (a_il 3 (a_ic 1 (a_b (fun a b => a + b) (a_scB L xs (a_al 0 (a_il 3 (a_ic 2 (a_b (fun a b => a + b) (a_scB L xs (a_al 0 (a_il 3 (a_ic 3 (a_b (fun a b => a + b) (a_scB L xs (a_al 0 (a_il 3 (a_ic 4 (a_b (fun a b => a + b) (a_scB L xs (a_vI 11 4 (FW_T11IIII c_X12_walk) (a_eq k1807 (a_ic 0 a_zr))))))))))))))))))))))))))))))))))))))))))))))
set_option maxRecDepth 100000 in
theorem L_law_72_s933 {L : Nat} {xs : Nat → Int32} {z : CZ} (hX : XS (L_law_72_x z) L xs) {k1807 : Kn} (hk1807 : SK (L_law_72_x z) 1807 k1807) : SK (L_law_72_x z) 933 (L_law_72_b933 L xs X11_walk X12_walk k1807) := (s_aloadn (pc := 933) dL_law_933 rfl (s_aloadn (pc := 934) dL_law_934 rfl (s_iloadn (pc := 935) dL_law_935 rfl (s_iconst (pc := 936) dL_law_936 c_ic_1 (s_iadd (pc := 937) dL_law_937 (s_scB hX (pc := 938) dL_law_938 (s_aloadn (pc := 939) dL_law_939 rfl (s_iloadn (pc := 940) dL_law_940 rfl (s_iconst (pc := 941) dL_law_941 c_ic_2 (s_iadd (pc := 942) dL_law_942 (s_scB hX (pc := 943) dL_law_943 (s_aloadn (pc := 944) dL_law_944 rfl (s_iloadn (pc := 945) dL_law_945 rfl (s_iconst (pc := 946) dL_law_946 c_ic_3 (s_iadd (pc := 947) dL_law_947 (s_scB hX (pc := 948) dL_law_948 (s_aloadn (pc := 949) dL_law_949 rfl (s_iloadn (pc := 950) dL_law_950 rfl (s_iconst (pc := 951) dL_law_951 c_ic_4 (s_iadd (pc := 952) dL_law_952 (s_scB hX (pc := 953) dL_law_953 (s_vI (pc := 954) (run_virtual (X11_walk_gd _) (show 34 < 803 by decide) cy_X11_walk (by decide) rfl w_948 w_949 w_947 dL_law_954) (s_aloadn (pc := 957) dL_law_957 rfl (s_aloadn (pc := 958) dL_law_958 rfl (s_iloadn (pc := 959) dL_law_959 rfl (s_iconst (pc := 960) dL_law_960 c_ic_1 (s_iadd (pc := 961) dL_law_961 (s_scB hX (pc := 962) dL_law_962 (s_aloadn (pc := 963) dL_law_963 rfl (s_iloadn (pc := 964) dL_law_964 rfl (s_iconst (pc := 965) dL_law_965 c_ic_2 (s_iadd (pc := 966) dL_law_966 (s_scB hX (pc := 967) dL_law_967 (s_aloadn (pc := 968) dL_law_968 rfl (s_iloadn (pc := 969) dL_law_969 rfl (s_iconst (pc := 970) dL_law_970 c_ic_3 (s_iadd (pc := 971) dL_law_971 (s_scB hX (pc := 972) dL_law_972 (s_aloadn (pc := 973) dL_law_973 rfl (s_iloadn (pc := 974) dL_law_974 rfl (s_iconst (pc := 975) dL_law_975 c_ic_4 (s_iadd (pc := 976) dL_law_976 (s_scB hX (pc := 977) dL_law_977 (s_vI (pc := 978) (run_virtual (X12_walk_gd _) (show 6 < 803 by decide) cy_X12_walk (by decide) rfl w_1701 w_1702 w_1700 dL_law_978) (s_cmpeq (pc := 981) dL_law_981 (by decide) hk1807 (s_iconst (pc := 984) dL_law_984 c_ic_0 (s_zr (pc := 985) rfl dL_law_985)))))))))))))))))))))))))))))))))))))))))))))))
noncomputable def L_law_72_b986 (L : Nat) (xs : Nat → Int32) (c_X11_via : Nat → Int32 → Int32 → Int32 → Int32 → PH → Option Rs) (c_X12_via : Nat → Int32 → Int32 → Int32 → Int32 → PH → Option Rs) (k1807 : Kn) : Kn := (a_al 1 (a_al 0 (a_il 3 (a_ic 1 (a_b (fun a b => a + b) (a_scB L xs (a_al 0 (a_il 3 (a_ic 2 (a_b (fun a b => a + b) (a_scB L xs (a_al 0 (a_il 3 (a_ic 3 (a_b (fun a b => a + b) (a_scB L xs (a_al 0 (a_il 3 (a_ic 4 (a_b (fun a b => a + b) (a_scB L xs (a_vI 10 4 (FW_T10IIII c_X11_via) (a_al 2 (a_al 0 (a_il 3 (a_ic 1 (a_b (fun a b => a + b) (a_scB L xs (a_al 0 (a_il 3 (a_ic 2 (a_b (fun a b => a + b) (a_scB L xs (a_al 0 (a_il 3 (a_ic 3 (a_b (fun a b => a + b) (a_scB L xs (a_al 0 (a_il 3 (a_ic 4 (a_b (fun a b => a + b) (a_scB L xs (a_vI 11 4 (FW_T11IIII c_X12_via) (a_eq k1807 (a_ic 0 a_zr))))))))))))))))))))))))))))))))))))))))))))))
set_option maxRecDepth 100000 in
theorem L_law_72_s986 {L : Nat} {xs : Nat → Int32} {z : CZ} (hX : XS (L_law_72_x z) L xs) {k1807 : Kn} (hk1807 : SK (L_law_72_x z) 1807 k1807) : SK (L_law_72_x z) 986 (L_law_72_b986 L xs X11_via X12_via k1807) := (s_aloadn (pc := 986) dL_law_986 rfl (s_aloadn (pc := 987) dL_law_987 rfl (s_iloadn (pc := 988) dL_law_988 rfl (s_iconst (pc := 989) dL_law_989 c_ic_1 (s_iadd (pc := 990) dL_law_990 (s_scB hX (pc := 991) dL_law_991 (s_aloadn (pc := 992) dL_law_992 rfl (s_iloadn (pc := 993) dL_law_993 rfl (s_iconst (pc := 994) dL_law_994 c_ic_2 (s_iadd (pc := 995) dL_law_995 (s_scB hX (pc := 996) dL_law_996 (s_aloadn (pc := 997) dL_law_997 rfl (s_iloadn (pc := 998) dL_law_998 rfl (s_iconst (pc := 999) dL_law_999 c_ic_3 (s_iadd (pc := 1000) dL_law_1000 (s_scB hX (pc := 1001) dL_law_1001 (s_aloadn (pc := 1002) dL_law_1002 rfl (s_iloadn (pc := 1003) dL_law_1003 rfl (s_iconst (pc := 1004) dL_law_1004 c_ic_4 (s_iadd (pc := 1005) dL_law_1005 (s_scB hX (pc := 1006) dL_law_1006 (s_vI (pc := 1007) (run_virtual (X11_via_gd _) (show 34 < 803 by decide) cy_X11_via (by decide) rfl w_1011 w_1012 w_1010 dL_law_1007) (s_aloadn (pc := 1010) dL_law_1010 rfl (s_aloadn (pc := 1011) dL_law_1011 rfl (s_iloadn (pc := 1012) dL_law_1012 rfl (s_iconst (pc := 1013) dL_law_1013 c_ic_1 (s_iadd (pc := 1014) dL_law_1014 (s_scB hX (pc := 1015) dL_law_1015 (s_aloadn (pc := 1016) dL_law_1016 rfl (s_iloadn (pc := 1017) dL_law_1017 rfl (s_iconst (pc := 1018) dL_law_1018 c_ic_2 (s_iadd (pc := 1019) dL_law_1019 (s_scB hX (pc := 1020) dL_law_1020 (s_aloadn (pc := 1021) dL_law_1021 rfl (s_iloadn (pc := 1022) dL_law_1022 rfl (s_iconst (pc := 1023) dL_law_1023 c_ic_3 (s_iadd (pc := 1024) dL_law_1024 (s_scB hX (pc := 1025) dL_law_1025 (s_aloadn (pc := 1026) dL_law_1026 rfl (s_iloadn (pc := 1027) dL_law_1027 rfl (s_iconst (pc := 1028) dL_law_1028 c_ic_4 (s_iadd (pc := 1029) dL_law_1029 (s_scB hX (pc := 1030) dL_law_1030 (s_vI (pc := 1031) (run_virtual (X12_via_gd _) (show 6 < 803 by decide) cy_X12_via (by decide) rfl w_1725 w_1726 w_1724 dL_law_1031) (s_cmpeq (pc := 1034) dL_law_1034 (by decide) hk1807 (s_iconst (pc := 1037) dL_law_1037 c_ic_0 (s_zr (pc := 1038) rfl dL_law_1038)))))))))))))))))))))))))))))))))))))))))))))))
noncomputable def L_law_72_b1039 (L : Nat) (xs : Nat → Int32) (c_X11_far : Nat → Int32 → Int32 → Int32 → PH → Option Rs) (c_X12_far : Nat → Int32 → Int32 → Int32 → PH → Option Rs) (k1807 : Kn) : Kn := (a_al 1 (a_al 0 (a_il 3 (a_ic 1 (a_b (fun a b => a + b) (a_scB L xs (a_al 0 (a_il 3 (a_ic 2 (a_b (fun a b => a + b) (a_scB L xs (a_al 0 (a_il 3 (a_ic 3 (a_b (fun a b => a + b) (a_scB L xs (a_vI 10 3 (FW_T10III c_X11_far) (a_al 2 (a_al 0 (a_il 3 (a_ic 1 (a_b (fun a b => a + b) (a_scB L xs (a_al 0 (a_il 3 (a_ic 2 (a_b (fun a b => a + b) (a_scB L xs (a_al 0 (a_il 3 (a_ic 3 (a_b (fun a b => a + b) (a_scB L xs (a_vI 11 3 (FW_T11III c_X12_far) (a_eq k1807 (a_ic 0 a_zr))))))))))))))))))))))))))))))))))))
set_option maxRecDepth 100000 in
theorem L_law_72_s1039 {L : Nat} {xs : Nat → Int32} {z : CZ} (hX : XS (L_law_72_x z) L xs) {k1807 : Kn} (hk1807 : SK (L_law_72_x z) 1807 k1807) : SK (L_law_72_x z) 1039 (L_law_72_b1039 L xs X11_far X12_far k1807) := (s_aloadn (pc := 1039) dL_law_1039 rfl (s_aloadn (pc := 1040) dL_law_1040 rfl (s_iloadn (pc := 1041) dL_law_1041 rfl (s_iconst (pc := 1042) dL_law_1042 c_ic_1 (s_iadd (pc := 1043) dL_law_1043 (s_scB hX (pc := 1044) dL_law_1044 (s_aloadn (pc := 1045) dL_law_1045 rfl (s_iloadn (pc := 1046) dL_law_1046 rfl (s_iconst (pc := 1047) dL_law_1047 c_ic_2 (s_iadd (pc := 1048) dL_law_1048 (s_scB hX (pc := 1049) dL_law_1049 (s_aloadn (pc := 1050) dL_law_1050 rfl (s_iloadn (pc := 1051) dL_law_1051 rfl (s_iconst (pc := 1052) dL_law_1052 c_ic_3 (s_iadd (pc := 1053) dL_law_1053 (s_scB hX (pc := 1054) dL_law_1054 (s_vI (pc := 1055) (run_virtual (X11_far_gd _) (show 5 < 803 by decide) cy_X11_far (by decide) rfl w_1015 w_1016 w_1014 dL_law_1055) (s_aloadn (pc := 1058) dL_law_1058 rfl (s_aloadn (pc := 1059) dL_law_1059 rfl (s_iloadn (pc := 1060) dL_law_1060 rfl (s_iconst (pc := 1061) dL_law_1061 c_ic_1 (s_iadd (pc := 1062) dL_law_1062 (s_scB hX (pc := 1063) dL_law_1063 (s_aloadn (pc := 1064) dL_law_1064 rfl (s_iloadn (pc := 1065) dL_law_1065 rfl (s_iconst (pc := 1066) dL_law_1066 c_ic_2 (s_iadd (pc := 1067) dL_law_1067 (s_scB hX (pc := 1068) dL_law_1068 (s_aloadn (pc := 1069) dL_law_1069 rfl (s_iloadn (pc := 1070) dL_law_1070 rfl (s_iconst (pc := 1071) dL_law_1071 c_ic_3 (s_iadd (pc := 1072) dL_law_1072 (s_scB hX (pc := 1073) dL_law_1073 (s_vI (pc := 1074) (run_virtual (X12_far_gd _) (show 4 < 803 by decide) cy_X12_far (by decide) rfl w_1669 w_1670 w_1668 dL_law_1074) (s_cmpeq (pc := 1077) dL_law_1077 (by decide) hk1807 (s_iconst (pc := 1080) dL_law_1080 c_ic_0 (s_zr (pc := 1081) rfl dL_law_1081)))))))))))))))))))))))))))))))))))))
noncomputable def L_law_72_b1082 (L : Nat) (xs : Nat → Int32) (c_X11_next : Nat → Int32 → Int32 → Int32 → PH → Option Rs) (c_X12_next : Nat → Int32 → Int32 → Int32 → PH → Option Rs) (k1807 : Kn) : Kn := (a_al 1 (a_al 0 (a_il 3 (a_ic 1 (a_b (fun a b => a + b) (a_scB L xs (a_al 0 (a_il 3 (a_ic 2 (a_b (fun a b => a + b) (a_scB L xs (a_al 0 (a_il 3 (a_ic 3 (a_b (fun a b => a + b) (a_scB L xs (a_vI 10 3 (FW_T10III c_X11_next) (a_al 2 (a_al 0 (a_il 3 (a_ic 1 (a_b (fun a b => a + b) (a_scB L xs (a_al 0 (a_il 3 (a_ic 2 (a_b (fun a b => a + b) (a_scB L xs (a_al 0 (a_il 3 (a_ic 3 (a_b (fun a b => a + b) (a_scB L xs (a_vI 11 3 (FW_T11III c_X12_next) (a_eq k1807 (a_ic 0 a_zr))))))))))))))))))))))))))))))))))))
set_option maxRecDepth 100000 in
theorem L_law_72_s1082 {L : Nat} {xs : Nat → Int32} {z : CZ} (hX : XS (L_law_72_x z) L xs) {k1807 : Kn} (hk1807 : SK (L_law_72_x z) 1807 k1807) : SK (L_law_72_x z) 1082 (L_law_72_b1082 L xs X11_next X12_next k1807) := (s_aloadn (pc := 1082) dL_law_1082 rfl (s_aloadn (pc := 1083) dL_law_1083 rfl (s_iloadn (pc := 1084) dL_law_1084 rfl (s_iconst (pc := 1085) dL_law_1085 c_ic_1 (s_iadd (pc := 1086) dL_law_1086 (s_scB hX (pc := 1087) dL_law_1087 (s_aloadn (pc := 1088) dL_law_1088 rfl (s_iloadn (pc := 1089) dL_law_1089 rfl (s_iconst (pc := 1090) dL_law_1090 c_ic_2 (s_iadd (pc := 1091) dL_law_1091 (s_scB hX (pc := 1092) dL_law_1092 (s_aloadn (pc := 1093) dL_law_1093 rfl (s_iloadn (pc := 1094) dL_law_1094 rfl (s_iconst (pc := 1095) dL_law_1095 c_ic_3 (s_iadd (pc := 1096) dL_law_1096 (s_scB hX (pc := 1097) dL_law_1097 (s_vI (pc := 1098) (run_virtual (X11_next_gd _) (show 5 < 803 by decide) cy_X11_next (by decide) rfl w_1042 w_1043 w_1041 dL_law_1098) (s_aloadn (pc := 1101) dL_law_1101 rfl (s_aloadn (pc := 1102) dL_law_1102 rfl (s_iloadn (pc := 1103) dL_law_1103 rfl (s_iconst (pc := 1104) dL_law_1104 c_ic_1 (s_iadd (pc := 1105) dL_law_1105 (s_scB hX (pc := 1106) dL_law_1106 (s_aloadn (pc := 1107) dL_law_1107 rfl (s_iloadn (pc := 1108) dL_law_1108 rfl (s_iconst (pc := 1109) dL_law_1109 c_ic_2 (s_iadd (pc := 1110) dL_law_1110 (s_scB hX (pc := 1111) dL_law_1111 (s_aloadn (pc := 1112) dL_law_1112 rfl (s_iloadn (pc := 1113) dL_law_1113 rfl (s_iconst (pc := 1114) dL_law_1114 c_ic_3 (s_iadd (pc := 1115) dL_law_1115 (s_scB hX (pc := 1116) dL_law_1116 (s_vI (pc := 1117) (run_virtual (X12_next_gd _) (show 4 < 803 by decide) cy_X12_next (by decide) rfl w_1685 w_1686 w_1684 dL_law_1117) (s_cmpeq (pc := 1120) dL_law_1120 (by decide) hk1807 (s_iconst (pc := 1123) dL_law_1123 c_ic_0 (s_zr (pc := 1124) rfl dL_law_1124)))))))))))))))))))))))))))))))))))))
noncomputable def L_law_72_b1125 (L : Nat) (xs : Nat → Int32) (c_X11_breaches : Nat → Int32 → PH → Option Rs) (c_X12_breaches : Nat → Int32 → PH → Option Rs) (k1807 : Kn) : Kn := (a_al 1 (a_al 0 (a_il 3 (a_ic 1 (a_b (fun a b => a + b) (a_scB L xs (a_vI 10 1 (FW_T10I c_X11_breaches) (a_al 2 (a_al 0 (a_il 3 (a_ic 1 (a_b (fun a b => a + b) (a_scB L xs (a_vI 11 1 (FW_T11I c_X12_breaches) (a_eq k1807 (a_ic 0 a_zr))))))))))))))))
set_option maxRecDepth 100000 in
theorem L_law_72_s1125 {L : Nat} {xs : Nat → Int32} {z : CZ} (hX : XS (L_law_72_x z) L xs) {k1807 : Kn} (hk1807 : SK (L_law_72_x z) 1807 k1807) : SK (L_law_72_x z) 1125 (L_law_72_b1125 L xs X11_breaches X12_breaches k1807) := (s_aloadn (pc := 1125) dL_law_1125 rfl (s_aloadn (pc := 1126) dL_law_1126 rfl (s_iloadn (pc := 1127) dL_law_1127 rfl (s_iconst (pc := 1128) dL_law_1128 c_ic_1 (s_iadd (pc := 1129) dL_law_1129 (s_scB hX (pc := 1130) dL_law_1130 (s_vI (pc := 1131) (run_virtual (X11_breaches_gd _) (show 32 < 803 by decide) cy_X11_breaches (by decide) rfl w_1057 w_1058 w_1056 dL_law_1131) (s_aloadn (pc := 1134) dL_law_1134 rfl (s_aloadn (pc := 1135) dL_law_1135 rfl (s_iloadn (pc := 1136) dL_law_1136 rfl (s_iconst (pc := 1137) dL_law_1137 c_ic_1 (s_iadd (pc := 1138) dL_law_1138 (s_scB hX (pc := 1139) dL_law_1139 (s_vI (pc := 1140) (run_virtual (X12_breaches_gd _) (show 5 < 803 by decide) cy_X12_breaches (by decide) rfl w_1729 w_1730 w_1728 dL_law_1140) (s_cmpeq (pc := 1143) dL_law_1143 (by decide) hk1807 (s_iconst (pc := 1146) dL_law_1146 c_ic_0 (s_zr (pc := 1147) rfl dL_law_1147)))))))))))))))))
noncomputable def L_law_72_b1148 (L : Nat) (xs : Nat → Int32) (c_X11_breach : Nat → Int32 → Int32 → PH → Option Rs) (c_X12_breach : Nat → Int32 → Int32 → PH → Option Rs) (k1807 : Kn) : Kn := (a_al 1 (a_al 0 (a_il 3 (a_ic 1 (a_b (fun a b => a + b) (a_scB L xs (a_al 0 (a_il 3 (a_ic 2 (a_b (fun a b => a + b) (a_scB L xs (a_vI 10 2 (FW_T10II c_X11_breach) (a_al 2 (a_al 0 (a_il 3 (a_ic 1 (a_b (fun a b => a + b) (a_scB L xs (a_al 0 (a_il 3 (a_ic 2 (a_b (fun a b => a + b) (a_scB L xs (a_vI 11 2 (FW_T11II c_X12_breach) (a_eq k1807 (a_ic 0 a_zr))))))))))))))))))))))))))
set_option maxRecDepth 100000 in
theorem L_law_72_s1148 {L : Nat} {xs : Nat → Int32} {z : CZ} (hX : XS (L_law_72_x z) L xs) {k1807 : Kn} (hk1807 : SK (L_law_72_x z) 1807 k1807) : SK (L_law_72_x z) 1148 (L_law_72_b1148 L xs X11_breach X12_breach k1807) := (s_aloadn (pc := 1148) dL_law_1148 rfl (s_aloadn (pc := 1149) dL_law_1149 rfl (s_iloadn (pc := 1150) dL_law_1150 rfl (s_iconst (pc := 1151) dL_law_1151 c_ic_1 (s_iadd (pc := 1152) dL_law_1152 (s_scB hX (pc := 1153) dL_law_1153 (s_aloadn (pc := 1154) dL_law_1154 rfl (s_iloadn (pc := 1155) dL_law_1155 rfl (s_iconst (pc := 1156) dL_law_1156 c_ic_2 (s_iadd (pc := 1157) dL_law_1157 (s_scB hX (pc := 1158) dL_law_1158 (s_vI (pc := 1159) (run_virtual (X11_breach_gd _) (show 32 < 803 by decide) cy_X11_breach (by decide) rfl w_1093 w_1094 w_1092 dL_law_1159) (s_aloadn (pc := 1162) dL_law_1162 rfl (s_aloadn (pc := 1163) dL_law_1163 rfl (s_iloadn (pc := 1164) dL_law_1164 rfl (s_iconst (pc := 1165) dL_law_1165 c_ic_1 (s_iadd (pc := 1166) dL_law_1166 (s_scB hX (pc := 1167) dL_law_1167 (s_aloadn (pc := 1168) dL_law_1168 rfl (s_iloadn (pc := 1169) dL_law_1169 rfl (s_iconst (pc := 1170) dL_law_1170 c_ic_2 (s_iadd (pc := 1171) dL_law_1171 (s_scB hX (pc := 1172) dL_law_1172 (s_vI (pc := 1173) (run_virtual (X12_breach_gd _) (show 5 < 803 by decide) cy_X12_breach (by decide) rfl w_1753 w_1754 w_1752 dL_law_1173) (s_cmpeq (pc := 1176) dL_law_1176 (by decide) hk1807 (s_iconst (pc := 1179) dL_law_1179 c_ic_0 (s_zr (pc := 1180) rfl dL_law_1180)))))))))))))))))))))))))))
noncomputable def L_law_72_b1181 (L : Nat) (xs : Nat → Int32) (c_X11_needs : Nat → Int32 → Int32 → PH → Option Rs) (c_X12_needs : Nat → Int32 → Int32 → PH → Option Rs) (k1807 : Kn) : Kn := (a_al 1 (a_al 0 (a_il 3 (a_ic 1 (a_b (fun a b => a + b) (a_scB L xs (a_al 0 (a_il 3 (a_ic 2 (a_b (fun a b => a + b) (a_scB L xs (a_vI 10 2 (FW_T10II c_X11_needs) (a_al 2 (a_al 0 (a_il 3 (a_ic 1 (a_b (fun a b => a + b) (a_scB L xs (a_al 0 (a_il 3 (a_ic 2 (a_b (fun a b => a + b) (a_scB L xs (a_vI 11 2 (FW_T11II c_X12_needs) (a_eq k1807 (a_ic 0 a_zr))))))))))))))))))))))))))
set_option maxRecDepth 100000 in
theorem L_law_72_s1181 {L : Nat} {xs : Nat → Int32} {z : CZ} (hX : XS (L_law_72_x z) L xs) {k1807 : Kn} (hk1807 : SK (L_law_72_x z) 1807 k1807) : SK (L_law_72_x z) 1181 (L_law_72_b1181 L xs X11_needs X12_needs k1807) := (s_aloadn (pc := 1181) dL_law_1181 rfl (s_aloadn (pc := 1182) dL_law_1182 rfl (s_iloadn (pc := 1183) dL_law_1183 rfl (s_iconst (pc := 1184) dL_law_1184 c_ic_1 (s_iadd (pc := 1185) dL_law_1185 (s_scB hX (pc := 1186) dL_law_1186 (s_aloadn (pc := 1187) dL_law_1187 rfl (s_iloadn (pc := 1188) dL_law_1188 rfl (s_iconst (pc := 1189) dL_law_1189 c_ic_2 (s_iadd (pc := 1190) dL_law_1190 (s_scB hX (pc := 1191) dL_law_1191 (s_vI (pc := 1192) (run_virtual (X11_needs_gd _) (show 5 < 803 by decide) cy_X11_needs (by decide) rfl w_1097 w_1098 w_1096 dL_law_1192) (s_aloadn (pc := 1195) dL_law_1195 rfl (s_aloadn (pc := 1196) dL_law_1196 rfl (s_iloadn (pc := 1197) dL_law_1197 rfl (s_iconst (pc := 1198) dL_law_1198 c_ic_1 (s_iadd (pc := 1199) dL_law_1199 (s_scB hX (pc := 1200) dL_law_1200 (s_aloadn (pc := 1201) dL_law_1201 rfl (s_iloadn (pc := 1202) dL_law_1202 rfl (s_iconst (pc := 1203) dL_law_1203 c_ic_2 (s_iadd (pc := 1204) dL_law_1204 (s_scB hX (pc := 1205) dL_law_1205 (s_vI (pc := 1206) (run_virtual (X12_needs_gd _) (show 4 < 803 by decide) cy_X12_needs (by decide) rfl w_1757 w_1758 w_1756 dL_law_1206) (s_cmpeq (pc := 1209) dL_law_1209 (by decide) hk1807 (s_iconst (pc := 1212) dL_law_1212 c_ic_0 (s_zr (pc := 1213) rfl dL_law_1213)))))))))))))))))))))))))))
noncomputable def L_law_72_b1214 (L : Nat) (xs : Nat → Int32) (c_X11_wrong : Nat → Int32 → PH → Option Rs) (c_X12_wrong : Nat → Int32 → PH → Option Rs) (k1807 : Kn) : Kn := (a_al 1 (a_al 0 (a_il 3 (a_ic 1 (a_b (fun a b => a + b) (a_scB L xs (a_vI 10 1 (FW_T10I c_X11_wrong) (a_al 2 (a_al 0 (a_il 3 (a_ic 1 (a_b (fun a b => a + b) (a_scB L xs (a_vI 11 1 (FW_T11I c_X12_wrong) (a_eq k1807 (a_ic 0 a_zr))))))))))))))))
set_option maxRecDepth 100000 in
theorem L_law_72_s1214 {L : Nat} {xs : Nat → Int32} {z : CZ} (hX : XS (L_law_72_x z) L xs) {k1807 : Kn} (hk1807 : SK (L_law_72_x z) 1807 k1807) : SK (L_law_72_x z) 1214 (L_law_72_b1214 L xs X11_wrong X12_wrong k1807) := (s_aloadn (pc := 1214) dL_law_1214 rfl (s_aloadn (pc := 1215) dL_law_1215 rfl (s_iloadn (pc := 1216) dL_law_1216 rfl (s_iconst (pc := 1217) dL_law_1217 c_ic_1 (s_iadd (pc := 1218) dL_law_1218 (s_scB hX (pc := 1219) dL_law_1219 (s_vI (pc := 1220) (run_virtual (X11_wrong_gd _) (show 6 < 803 by decide) cy_X11_wrong (by decide) rfl w_1112 w_1113 w_1111 dL_law_1220) (s_aloadn (pc := 1223) dL_law_1223 rfl (s_aloadn (pc := 1224) dL_law_1224 rfl (s_iloadn (pc := 1225) dL_law_1225 rfl (s_iconst (pc := 1226) dL_law_1226 c_ic_1 (s_iadd (pc := 1227) dL_law_1227 (s_scB hX (pc := 1228) dL_law_1228 (s_vI (pc := 1229) (run_virtual (X12_wrong_gd _) (show 5 < 803 by decide) cy_X12_wrong (by decide) rfl w_1761 w_1762 w_1760 dL_law_1229) (s_cmpeq (pc := 1232) dL_law_1232 (by decide) hk1807 (s_iconst (pc := 1235) dL_law_1235 c_ic_0 (s_zr (pc := 1236) rfl dL_law_1236)))))))))))))))))
noncomputable def L_law_72_b1237 (L : Nat) (xs : Nat → Int32) (c_X11_mend : Nat → Int32 → PH → Option Rs) (c_X12_mend : Nat → Int32 → PH → Option Rs) (k1807 : Kn) : Kn := (a_al 1 (a_al 0 (a_il 3 (a_ic 1 (a_b (fun a b => a + b) (a_scB L xs (a_vI 10 1 (FW_T10I c_X11_mend) (a_al 2 (a_al 0 (a_il 3 (a_ic 1 (a_b (fun a b => a + b) (a_scB L xs (a_vI 11 1 (FW_T11I c_X12_mend) (a_eq k1807 (a_ic 0 a_zr))))))))))))))))
set_option maxRecDepth 100000 in
theorem L_law_72_s1237 {L : Nat} {xs : Nat → Int32} {z : CZ} (hX : XS (L_law_72_x z) L xs) {k1807 : Kn} (hk1807 : SK (L_law_72_x z) 1807 k1807) : SK (L_law_72_x z) 1237 (L_law_72_b1237 L xs X11_mend X12_mend k1807) := (s_aloadn (pc := 1237) dL_law_1237 rfl (s_aloadn (pc := 1238) dL_law_1238 rfl (s_iloadn (pc := 1239) dL_law_1239 rfl (s_iconst (pc := 1240) dL_law_1240 c_ic_1 (s_iadd (pc := 1241) dL_law_1241 (s_scB hX (pc := 1242) dL_law_1242 (s_vI (pc := 1243) (run_virtual (X11_mend_gd _) (show 6 < 803 by decide) cy_X11_mend (by decide) rfl w_1129 w_1130 w_1128 dL_law_1243) (s_aloadn (pc := 1246) dL_law_1246 rfl (s_aloadn (pc := 1247) dL_law_1247 rfl (s_iloadn (pc := 1248) dL_law_1248 rfl (s_iconst (pc := 1249) dL_law_1249 c_ic_1 (s_iadd (pc := 1250) dL_law_1250 (s_scB hX (pc := 1251) dL_law_1251 (s_vI (pc := 1252) (run_virtual (X12_mend_gd _) (show 5 < 803 by decide) cy_X12_mend (by decide) rfl w_1777 w_1778 w_1776 dL_law_1252) (s_cmpeq (pc := 1255) dL_law_1255 (by decide) hk1807 (s_iconst (pc := 1258) dL_law_1258 c_ic_0 (s_zr (pc := 1259) rfl dL_law_1259)))))))))))))))))
noncomputable def L_law_72_b1260 (L : Nat) (xs : Nat → Int32) (c_X11_choose : Nat → Int32 → PH → Option Rs) (c_X12_choose : Nat → Int32 → PH → Option Rs) (k1807 : Kn) : Kn := (a_al 1 (a_al 0 (a_il 3 (a_ic 1 (a_b (fun a b => a + b) (a_scB L xs (a_vI 10 1 (FW_T10I c_X11_choose) (a_al 2 (a_al 0 (a_il 3 (a_ic 1 (a_b (fun a b => a + b) (a_scB L xs (a_vI 11 1 (FW_T11I c_X12_choose) (a_eq k1807 (a_ic 0 a_zr))))))))))))))))
set_option maxRecDepth 100000 in
theorem L_law_72_s1260 {L : Nat} {xs : Nat → Int32} {z : CZ} (hX : XS (L_law_72_x z) L xs) {k1807 : Kn} (hk1807 : SK (L_law_72_x z) 1807 k1807) : SK (L_law_72_x z) 1260 (L_law_72_b1260 L xs X11_choose X12_choose k1807) := (s_aloadn (pc := 1260) dL_law_1260 rfl (s_aloadn (pc := 1261) dL_law_1261 rfl (s_iloadn (pc := 1262) dL_law_1262 rfl (s_iconst (pc := 1263) dL_law_1263 c_ic_1 (s_iadd (pc := 1264) dL_law_1264 (s_scB hX (pc := 1265) dL_law_1265 (s_vI (pc := 1266) (run_virtual (X11_choose_gd _) (show 2 < 803 by decide) cy_X11_choose (by decide) rfl w_1133 w_1134 w_1132 dL_law_1266) (s_aloadn (pc := 1269) dL_law_1269 rfl (s_aloadn (pc := 1270) dL_law_1270 rfl (s_iloadn (pc := 1271) dL_law_1271 rfl (s_iconst (pc := 1272) dL_law_1272 c_ic_1 (s_iadd (pc := 1273) dL_law_1273 (s_scB hX (pc := 1274) dL_law_1274 (s_vI (pc := 1275) (run_virtual (X12_choose_gd _) (show 2 < 803 by decide) cy_X12_choose (by decide) rfl w_1781 w_1782 w_1780 dL_law_1275) (s_cmpeq (pc := 1278) dL_law_1278 (by decide) hk1807 (s_iconst (pc := 1281) dL_law_1281 c_ic_0 (s_zr (pc := 1282) rfl dL_law_1282)))))))))))))))))
noncomputable def L_law_72_b1283 (L : Nat) (xs : Nat → Int32) (c_X11_clear : Nat → PH → Option Rs) (c_X12_clear : Nat → PH → Option Rs) (k1807 : Kn) : Kn := (a_al 1 (a_vI 10 0 (FW_T10 c_X11_clear) (a_al 2 (a_vI 11 0 (FW_T11 c_X12_clear) (a_eq k1807 (a_ic 0 a_zr))))))
set_option maxRecDepth 100000 in
theorem L_law_72_s1283 {L : Nat} {xs : Nat → Int32} {z : CZ} (hX : XS (L_law_72_x z) L xs) {k1807 : Kn} (hk1807 : SK (L_law_72_x z) 1807 k1807) : SK (L_law_72_x z) 1283 (L_law_72_b1283 L xs X11_clear X12_clear k1807) := (s_aloadn (pc := 1283) dL_law_1283 rfl (s_vI (pc := 1284) (run_virtual (X11_clear_gd _) (show 0 < 803 by decide) cy_X11_clear (by decide) rfl w_1137 w_1138 w_1136 dL_law_1284) (s_aloadn (pc := 1287) dL_law_1287 rfl (s_vI (pc := 1288) (run_virtual (X12_clear_gd _) (show 0 < 803 by decide) cy_X12_clear (by decide) rfl w_1785 w_1786 w_1784 dL_law_1288) (s_cmpeq (pc := 1291) dL_law_1291 (by decide) hk1807 (s_iconst (pc := 1294) dL_law_1294 c_ic_0 (s_zr (pc := 1295) rfl dL_law_1295)))))))
noncomputable def L_law_72_b1296 (L : Nat) (xs : Nat → Int32) (c_X11_fewest : Nat → Int32 → Int32 → PH → Option Rs) (c_X12_fewest : Nat → Int32 → Int32 → PH → Option Rs) (k1807 : Kn) : Kn := (a_al 1 (a_al 0 (a_il 3 (a_ic 1 (a_b (fun a b => a + b) (a_scB L xs (a_al 0 (a_il 3 (a_ic 2 (a_b (fun a b => a + b) (a_scB L xs (a_vI 10 2 (FW_T10II c_X11_fewest) (a_al 2 (a_al 0 (a_il 3 (a_ic 1 (a_b (fun a b => a + b) (a_scB L xs (a_al 0 (a_il 3 (a_ic 2 (a_b (fun a b => a + b) (a_scB L xs (a_vI 11 2 (FW_T11II c_X12_fewest) (a_eq k1807 (a_ic 0 a_zr))))))))))))))))))))))))))
set_option maxRecDepth 100000 in
theorem L_law_72_s1296 {L : Nat} {xs : Nat → Int32} {z : CZ} (hX : XS (L_law_72_x z) L xs) {k1807 : Kn} (hk1807 : SK (L_law_72_x z) 1807 k1807) : SK (L_law_72_x z) 1296 (L_law_72_b1296 L xs X11_fewest X12_fewest k1807) := (s_aloadn (pc := 1296) dL_law_1296 rfl (s_aloadn (pc := 1297) dL_law_1297 rfl (s_iloadn (pc := 1298) dL_law_1298 rfl (s_iconst (pc := 1299) dL_law_1299 c_ic_1 (s_iadd (pc := 1300) dL_law_1300 (s_scB hX (pc := 1301) dL_law_1301 (s_aloadn (pc := 1302) dL_law_1302 rfl (s_iloadn (pc := 1303) dL_law_1303 rfl (s_iconst (pc := 1304) dL_law_1304 c_ic_2 (s_iadd (pc := 1305) dL_law_1305 (s_scB hX (pc := 1306) dL_law_1306 (s_vI (pc := 1307) (run_virtual (X11_fewest_gd _) (show 33 < 803 by decide) cy_X11_fewest (by decide) rfl w_1141 w_1142 w_1140 dL_law_1307) (s_aloadn (pc := 1310) dL_law_1310 rfl (s_aloadn (pc := 1311) dL_law_1311 rfl (s_iloadn (pc := 1312) dL_law_1312 rfl (s_iconst (pc := 1313) dL_law_1313 c_ic_1 (s_iadd (pc := 1314) dL_law_1314 (s_scB hX (pc := 1315) dL_law_1315 (s_aloadn (pc := 1316) dL_law_1316 rfl (s_iloadn (pc := 1317) dL_law_1317 rfl (s_iconst (pc := 1318) dL_law_1318 c_ic_2 (s_iadd (pc := 1319) dL_law_1319 (s_scB hX (pc := 1320) dL_law_1320 (s_vI (pc := 1321) (run_virtual (X12_fewest_gd _) (show 7 < 803 by decide) cy_X12_fewest (by decide) rfl w_1789 w_1790 w_1788 dL_law_1321) (s_cmpeq (pc := 1324) dL_law_1324 (by decide) hk1807 (s_iconst (pc := 1327) dL_law_1327 c_ic_0 (s_zr (pc := 1328) rfl dL_law_1328)))))))))))))))))))))))))))
noncomputable def L_law_72_b1329 (L : Nat) (xs : Nat → Int32) (c_X11_seed : Nat → Int32 → PH → Option Rs) (c_X12_seed : Nat → Int32 → PH → Option Rs) (k1807 : Kn) : Kn := (a_al 1 (a_al 0 (a_il 3 (a_ic 1 (a_b (fun a b => a + b) (a_scB L xs (a_vI 10 1 (FW_T10I c_X11_seed) (a_al 2 (a_al 0 (a_il 3 (a_ic 1 (a_b (fun a b => a + b) (a_scB L xs (a_vI 11 1 (FW_T11I c_X12_seed) (a_eq k1807 (a_ic 0 a_zr))))))))))))))))
set_option maxRecDepth 100000 in
theorem L_law_72_s1329 {L : Nat} {xs : Nat → Int32} {z : CZ} (hX : XS (L_law_72_x z) L xs) {k1807 : Kn} (hk1807 : SK (L_law_72_x z) 1807 k1807) : SK (L_law_72_x z) 1329 (L_law_72_b1329 L xs X11_seed X12_seed k1807) := (s_aloadn (pc := 1329) dL_law_1329 rfl (s_aloadn (pc := 1330) dL_law_1330 rfl (s_iloadn (pc := 1331) dL_law_1331 rfl (s_iconst (pc := 1332) dL_law_1332 c_ic_1 (s_iadd (pc := 1333) dL_law_1333 (s_scB hX (pc := 1334) dL_law_1334 (s_vI (pc := 1335) (run_virtual (X11_seed_gd _) (show 0 < 803 by decide) cy_X11_seed (by decide) rfl w_1157 w_1158 w_1156 dL_law_1335) (s_aloadn (pc := 1338) dL_law_1338 rfl (s_aloadn (pc := 1339) dL_law_1339 rfl (s_iloadn (pc := 1340) dL_law_1340 rfl (s_iconst (pc := 1341) dL_law_1341 c_ic_1 (s_iadd (pc := 1342) dL_law_1342 (s_scB hX (pc := 1343) dL_law_1343 (s_vI (pc := 1344) (run_virtual (X12_seed_gd _) (show 0 < 803 by decide) cy_X12_seed (by decide) rfl w_1800 w_1801 w_1799 dL_law_1344) (s_cmpeq (pc := 1347) dL_law_1347 (by decide) hk1807 (s_iconst (pc := 1350) dL_law_1350 c_ic_0 (s_zr (pc := 1351) rfl dL_law_1351)))))))))))))))))
noncomputable def L_law_72_b1352 (L : Nat) (xs : Nat → Int32) (c_X11_strangers : Nat → Int32 → PH → Option Rs) (c_X12_strangers : Nat → Int32 → PH → Option Rs) (k1807 : Kn) : Kn := (a_al 1 (a_al 0 (a_il 3 (a_ic 1 (a_b (fun a b => a + b) (a_scB L xs (a_vI 10 1 (FW_T10I c_X11_strangers) (a_al 2 (a_al 0 (a_il 3 (a_ic 1 (a_b (fun a b => a + b) (a_scB L xs (a_vI 11 1 (FW_T11I c_X12_strangers) (a_eq k1807 (a_ic 0 a_zr))))))))))))))))
set_option maxRecDepth 100000 in
theorem L_law_72_s1352 {L : Nat} {xs : Nat → Int32} {z : CZ} (hX : XS (L_law_72_x z) L xs) {k1807 : Kn} (hk1807 : SK (L_law_72_x z) 1807 k1807) : SK (L_law_72_x z) 1352 (L_law_72_b1352 L xs X11_strangers X12_strangers k1807) := (s_aloadn (pc := 1352) dL_law_1352 rfl (s_aloadn (pc := 1353) dL_law_1353 rfl (s_iloadn (pc := 1354) dL_law_1354 rfl (s_iconst (pc := 1355) dL_law_1355 c_ic_1 (s_iadd (pc := 1356) dL_law_1356 (s_scB hX (pc := 1357) dL_law_1357 (s_vI (pc := 1358) (run_virtual (X11_strangers_gd _) (show 34 < 803 by decide) cy_X11_strangers (by decide) rfl w_1161 w_1162 w_1160 dL_law_1358) (s_aloadn (pc := 1361) dL_law_1361 rfl (s_aloadn (pc := 1362) dL_law_1362 rfl (s_iloadn (pc := 1363) dL_law_1363 rfl (s_iconst (pc := 1364) dL_law_1364 c_ic_1 (s_iadd (pc := 1365) dL_law_1365 (s_scB hX (pc := 1366) dL_law_1366 (s_vI (pc := 1367) (run_virtual (X12_strangers_gd _) (show 7 < 803 by decide) cy_X12_strangers (by decide) rfl w_1804 w_1805 w_1803 dL_law_1367) (s_cmpeq (pc := 1370) dL_law_1370 (by decide) hk1807 (s_iconst (pc := 1373) dL_law_1373 c_ic_0 (s_zr (pc := 1374) rfl dL_law_1374)))))))))))))))))
noncomputable def L_law_72_b1375 (L : Nat) (xs : Nat → Int32) (c_X11_led : Nat → PH → Option Rs) (c_X12_led : Nat → PH → Option Rs) (k1807 : Kn) : Kn := (a_al 1 (a_vI 10 0 (FW_T10 c_X11_led) (a_al 2 (a_vI 11 0 (FW_T11 c_X12_led) (a_eq k1807 (a_ic 0 a_zr))))))
set_option maxRecDepth 100000 in
theorem L_law_72_s1375 {L : Nat} {xs : Nat → Int32} {z : CZ} (hX : XS (L_law_72_x z) L xs) {k1807 : Kn} (hk1807 : SK (L_law_72_x z) 1807 k1807) : SK (L_law_72_x z) 1375 (L_law_72_b1375 L xs X11_led X12_led k1807) := (s_aloadn (pc := 1375) dL_law_1375 rfl (s_vI (pc := 1376) (run_virtual (X11_led_gd _) (show 0 < 803 by decide) cy_X11_led (by decide) rfl w_1183 w_1184 w_1182 dL_law_1376) (s_aloadn (pc := 1379) dL_law_1379 rfl (s_vI (pc := 1380) (run_virtual (X12_led_gd _) (show 1 < 803 by decide) cy_X12_led (by decide) rfl w_1817 w_1818 w_1816 dL_law_1380) (s_cmpeq (pc := 1383) dL_law_1383 (by decide) hk1807 (s_iconst (pc := 1386) dL_law_1386 c_ic_0 (s_zr (pc := 1387) rfl dL_law_1387)))))))
noncomputable def L_law_72_b1388 (L : Nat) (xs : Nat → Int32) (c_X11_sheet : Nat → Int32 → Int32 → Int32 → PH → Option Rs) (c_X12_sheet : Nat → Int32 → Int32 → Int32 → PH → Option Rs) (k1807 : Kn) : Kn := (a_al 1 (a_al 0 (a_il 3 (a_ic 1 (a_b (fun a b => a + b) (a_scB L xs (a_al 0 (a_il 3 (a_ic 2 (a_b (fun a b => a + b) (a_scB L xs (a_al 0 (a_il 3 (a_ic 3 (a_b (fun a b => a + b) (a_scB L xs (a_vI 10 3 (FW_T10III c_X11_sheet) (a_al 2 (a_al 0 (a_il 3 (a_ic 1 (a_b (fun a b => a + b) (a_scB L xs (a_al 0 (a_il 3 (a_ic 2 (a_b (fun a b => a + b) (a_scB L xs (a_al 0 (a_il 3 (a_ic 3 (a_b (fun a b => a + b) (a_scB L xs (a_vI 11 3 (FW_T11III c_X12_sheet) (a_eq k1807 (a_ic 0 a_zr))))))))))))))))))))))))))))))))))))
set_option maxRecDepth 100000 in
theorem L_law_72_s1388 {L : Nat} {xs : Nat → Int32} {z : CZ} (hX : XS (L_law_72_x z) L xs) {k1807 : Kn} (hk1807 : SK (L_law_72_x z) 1807 k1807) : SK (L_law_72_x z) 1388 (L_law_72_b1388 L xs X11_sheet X12_sheet k1807) := (s_aloadn (pc := 1388) dL_law_1388 rfl (s_aloadn (pc := 1389) dL_law_1389 rfl (s_iloadn (pc := 1390) dL_law_1390 rfl (s_iconst (pc := 1391) dL_law_1391 c_ic_1 (s_iadd (pc := 1392) dL_law_1392 (s_scB hX (pc := 1393) dL_law_1393 (s_aloadn (pc := 1394) dL_law_1394 rfl (s_iloadn (pc := 1395) dL_law_1395 rfl (s_iconst (pc := 1396) dL_law_1396 c_ic_2 (s_iadd (pc := 1397) dL_law_1397 (s_scB hX (pc := 1398) dL_law_1398 (s_aloadn (pc := 1399) dL_law_1399 rfl (s_iloadn (pc := 1400) dL_law_1400 rfl (s_iconst (pc := 1401) dL_law_1401 c_ic_3 (s_iadd (pc := 1402) dL_law_1402 (s_scB hX (pc := 1403) dL_law_1403 (s_vI (pc := 1404) (run_virtual (X11_sheet_gd _) (show 2 < 803 by decide) cy_X11_sheet (by decide) rfl w_1187 w_1188 w_1186 dL_law_1404) (s_aloadn (pc := 1407) dL_law_1407 rfl (s_aloadn (pc := 1408) dL_law_1408 rfl (s_iloadn (pc := 1409) dL_law_1409 rfl (s_iconst (pc := 1410) dL_law_1410 c_ic_1 (s_iadd (pc := 1411) dL_law_1411 (s_scB hX (pc := 1412) dL_law_1412 (s_aloadn (pc := 1413) dL_law_1413 rfl (s_iloadn (pc := 1414) dL_law_1414 rfl (s_iconst (pc := 1415) dL_law_1415 c_ic_2 (s_iadd (pc := 1416) dL_law_1416 (s_scB hX (pc := 1417) dL_law_1417 (s_aloadn (pc := 1418) dL_law_1418 rfl (s_iloadn (pc := 1419) dL_law_1419 rfl (s_iconst (pc := 1420) dL_law_1420 c_ic_3 (s_iadd (pc := 1421) dL_law_1421 (s_scB hX (pc := 1422) dL_law_1422 (s_vI (pc := 1423) (run_virtual (X12_sheet_gd _) (show 2 < 803 by decide) cy_X12_sheet (by decide) rfl w_1821 w_1822 w_1820 dL_law_1423) (s_cmpeq (pc := 1426) dL_law_1426 (by decide) hk1807 (s_iconst (pc := 1429) dL_law_1429 c_ic_0 (s_zr (pc := 1430) rfl dL_law_1430)))))))))))))))))))))))))))))))))))))
noncomputable def L_law_72_b1431 (L : Nat) (xs : Nat → Int32) (c_X11_mark : Nat → Int32 → Int32 → Int32 → PH → Option Rs) (c_X12_mark : Nat → Int32 → Int32 → Int32 → PH → Option Rs) (k1807 : Kn) : Kn := (a_al 1 (a_al 0 (a_il 3 (a_ic 1 (a_b (fun a b => a + b) (a_scB L xs (a_al 0 (a_il 3 (a_ic 2 (a_b (fun a b => a + b) (a_scB L xs (a_al 0 (a_il 3 (a_ic 3 (a_b (fun a b => a + b) (a_scB L xs (a_vI 10 3 (FW_T10III c_X11_mark) (a_al 2 (a_al 0 (a_il 3 (a_ic 1 (a_b (fun a b => a + b) (a_scB L xs (a_al 0 (a_il 3 (a_ic 2 (a_b (fun a b => a + b) (a_scB L xs (a_al 0 (a_il 3 (a_ic 3 (a_b (fun a b => a + b) (a_scB L xs (a_vI 11 3 (FW_T11III c_X12_mark) (a_eq k1807 (a_ic 0 a_zr))))))))))))))))))))))))))))))))))))
set_option maxRecDepth 100000 in
theorem L_law_72_s1431 {L : Nat} {xs : Nat → Int32} {z : CZ} (hX : XS (L_law_72_x z) L xs) {k1807 : Kn} (hk1807 : SK (L_law_72_x z) 1807 k1807) : SK (L_law_72_x z) 1431 (L_law_72_b1431 L xs X11_mark X12_mark k1807) := (s_aloadn (pc := 1431) dL_law_1431 rfl (s_aloadn (pc := 1432) dL_law_1432 rfl (s_iloadn (pc := 1433) dL_law_1433 rfl (s_iconst (pc := 1434) dL_law_1434 c_ic_1 (s_iadd (pc := 1435) dL_law_1435 (s_scB hX (pc := 1436) dL_law_1436 (s_aloadn (pc := 1437) dL_law_1437 rfl (s_iloadn (pc := 1438) dL_law_1438 rfl (s_iconst (pc := 1439) dL_law_1439 c_ic_2 (s_iadd (pc := 1440) dL_law_1440 (s_scB hX (pc := 1441) dL_law_1441 (s_aloadn (pc := 1442) dL_law_1442 rfl (s_iloadn (pc := 1443) dL_law_1443 rfl (s_iconst (pc := 1444) dL_law_1444 c_ic_3 (s_iadd (pc := 1445) dL_law_1445 (s_scB hX (pc := 1446) dL_law_1446 (s_vI (pc := 1447) (run_virtual (X11_mark_gd _) (show 1 < 803 by decide) cy_X11_mark (by decide) rfl w_1199 w_1200 w_1198 dL_law_1447) (s_aloadn (pc := 1450) dL_law_1450 rfl (s_aloadn (pc := 1451) dL_law_1451 rfl (s_iloadn (pc := 1452) dL_law_1452 rfl (s_iconst (pc := 1453) dL_law_1453 c_ic_1 (s_iadd (pc := 1454) dL_law_1454 (s_scB hX (pc := 1455) dL_law_1455 (s_aloadn (pc := 1456) dL_law_1456 rfl (s_iloadn (pc := 1457) dL_law_1457 rfl (s_iconst (pc := 1458) dL_law_1458 c_ic_2 (s_iadd (pc := 1459) dL_law_1459 (s_scB hX (pc := 1460) dL_law_1460 (s_aloadn (pc := 1461) dL_law_1461 rfl (s_iloadn (pc := 1462) dL_law_1462 rfl (s_iconst (pc := 1463) dL_law_1463 c_ic_3 (s_iadd (pc := 1464) dL_law_1464 (s_scB hX (pc := 1465) dL_law_1465 (s_vI (pc := 1466) (run_virtual (X12_mark_gd _) (show 2 < 803 by decide) cy_X12_mark (by decide) rfl w_1829 w_1830 w_1828 dL_law_1466) (s_cmpeq (pc := 1469) dL_law_1469 (by decide) hk1807 (s_iconst (pc := 1472) dL_law_1472 c_ic_0 (s_zr (pc := 1473) rfl dL_law_1473)))))))))))))))))))))))))))))))))))))
noncomputable def L_law_72_b1474 (L : Nat) (xs : Nat → Int32) (c_X11_fill : Nat → Int32 → Int32 → PH → Option Rs) (c_X12_fill : Nat → Int32 → Int32 → PH → Option Rs) (k1807 : Kn) : Kn := (a_al 1 (a_al 0 (a_il 3 (a_ic 1 (a_b (fun a b => a + b) (a_scB L xs (a_al 0 (a_il 3 (a_ic 2 (a_b (fun a b => a + b) (a_scB L xs (a_vI 10 2 (FW_T10II c_X11_fill) (a_al 2 (a_al 0 (a_il 3 (a_ic 1 (a_b (fun a b => a + b) (a_scB L xs (a_al 0 (a_il 3 (a_ic 2 (a_b (fun a b => a + b) (a_scB L xs (a_vI 11 2 (FW_T11II c_X12_fill) (a_eq k1807 (a_ic 0 a_zr))))))))))))))))))))))))))
set_option maxRecDepth 100000 in
theorem L_law_72_s1474 {L : Nat} {xs : Nat → Int32} {z : CZ} (hX : XS (L_law_72_x z) L xs) {k1807 : Kn} (hk1807 : SK (L_law_72_x z) 1807 k1807) : SK (L_law_72_x z) 1474 (L_law_72_b1474 L xs X11_fill X12_fill k1807) := (s_aloadn (pc := 1474) dL_law_1474 rfl (s_aloadn (pc := 1475) dL_law_1475 rfl (s_iloadn (pc := 1476) dL_law_1476 rfl (s_iconst (pc := 1477) dL_law_1477 c_ic_1 (s_iadd (pc := 1478) dL_law_1478 (s_scB hX (pc := 1479) dL_law_1479 (s_aloadn (pc := 1480) dL_law_1480 rfl (s_iloadn (pc := 1481) dL_law_1481 rfl (s_iconst (pc := 1482) dL_law_1482 c_ic_2 (s_iadd (pc := 1483) dL_law_1483 (s_scB hX (pc := 1484) dL_law_1484 (s_vI (pc := 1485) (run_virtual (X11_fill_gd _) (show 32 < 803 by decide) cy_X11_fill (by decide) rfl w_1209 w_1210 w_1208 dL_law_1485) (s_aloadn (pc := 1488) dL_law_1488 rfl (s_aloadn (pc := 1489) dL_law_1489 rfl (s_iloadn (pc := 1490) dL_law_1490 rfl (s_iconst (pc := 1491) dL_law_1491 c_ic_1 (s_iadd (pc := 1492) dL_law_1492 (s_scB hX (pc := 1493) dL_law_1493 (s_aloadn (pc := 1494) dL_law_1494 rfl (s_iloadn (pc := 1495) dL_law_1495 rfl (s_iconst (pc := 1496) dL_law_1496 c_ic_2 (s_iadd (pc := 1497) dL_law_1497 (s_scB hX (pc := 1498) dL_law_1498 (s_vI (pc := 1499) (run_virtual (X12_fill_gd _) (show 2 < 803 by decide) cy_X12_fill (by decide) rfl w_1835 w_1836 w_1834 dL_law_1499) (s_cmpeq (pc := 1502) dL_law_1502 (by decide) hk1807 (s_iconst (pc := 1505) dL_law_1505 c_ic_0 (s_zr (pc := 1506) rfl dL_law_1506)))))))))))))))))))))))))))
noncomputable def L_law_72_b1507 (L : Nat) (xs : Nat → Int32) (c_X11_copy : Nat → Int32 → Int32 → Int32 → Int32 → Int32 → PH → Option Rs) (c_X12_copy : Nat → Int32 → Int32 → Int32 → Int32 → Int32 → PH → Option Rs) (k1807 : Kn) : Kn := (a_al 1 (a_al 0 (a_il 3 (a_ic 1 (a_b (fun a b => a + b) (a_scB L xs (a_al 0 (a_il 3 (a_ic 2 (a_b (fun a b => a + b) (a_scB L xs (a_al 0 (a_il 3 (a_ic 3 (a_b (fun a b => a + b) (a_scB L xs (a_al 0 (a_il 3 (a_ic 4 (a_b (fun a b => a + b) (a_scB L xs (a_al 0 (a_il 3 (a_ic 5 (a_b (fun a b => a + b) (a_scB L xs (a_vI 10 5 (FW_T10IIIII c_X11_copy) (a_al 2 (a_al 0 (a_il 3 (a_ic 1 (a_b (fun a b => a + b) (a_scB L xs (a_al 0 (a_il 3 (a_ic 2 (a_b (fun a b => a + b) (a_scB L xs (a_al 0 (a_il 3 (a_ic 3 (a_b (fun a b => a + b) (a_scB L xs (a_al 0 (a_il 3 (a_ic 4 (a_b (fun a b => a + b) (a_scB L xs (a_al 0 (a_il 3 (a_ic 5 (a_b (fun a b => a + b) (a_scB L xs (a_vI 11 5 (FW_T11IIIII c_X12_copy) (a_eq k1807 (a_ic 0 a_zr))))))))))))))))))))))))))))))))))))))))))))))))))))))))
set_option maxRecDepth 100000 in
theorem L_law_72_s1507 {L : Nat} {xs : Nat → Int32} {z : CZ} (hX : XS (L_law_72_x z) L xs) {k1807 : Kn} (hk1807 : SK (L_law_72_x z) 1807 k1807) : SK (L_law_72_x z) 1507 (L_law_72_b1507 L xs X11_copy X12_copy k1807) := (s_aloadn (pc := 1507) dL_law_1507 rfl (s_aloadn (pc := 1508) dL_law_1508 rfl (s_iloadn (pc := 1509) dL_law_1509 rfl (s_iconst (pc := 1510) dL_law_1510 c_ic_1 (s_iadd (pc := 1511) dL_law_1511 (s_scB hX (pc := 1512) dL_law_1512 (s_aloadn (pc := 1513) dL_law_1513 rfl (s_iloadn (pc := 1514) dL_law_1514 rfl (s_iconst (pc := 1515) dL_law_1515 c_ic_2 (s_iadd (pc := 1516) dL_law_1516 (s_scB hX (pc := 1517) dL_law_1517 (s_aloadn (pc := 1518) dL_law_1518 rfl (s_iloadn (pc := 1519) dL_law_1519 rfl (s_iconst (pc := 1520) dL_law_1520 c_ic_3 (s_iadd (pc := 1521) dL_law_1521 (s_scB hX (pc := 1522) dL_law_1522 (s_aloadn (pc := 1523) dL_law_1523 rfl (s_iloadn (pc := 1524) dL_law_1524 rfl (s_iconst (pc := 1525) dL_law_1525 c_ic_4 (s_iadd (pc := 1526) dL_law_1526 (s_scB hX (pc := 1527) dL_law_1527 (s_aloadn (pc := 1528) dL_law_1528 rfl (s_iloadn (pc := 1529) dL_law_1529 rfl (s_iconst (pc := 1530) dL_law_1530 c_ic_5 (s_iadd (pc := 1531) dL_law_1531 (s_scB hX (pc := 1532) dL_law_1532 (s_vI (pc := 1533) (run_virtual (X11_copy_gd _) (show 1 < 803 by decide) cy_X11_copy (by decide) rfl w_1218 w_1219 w_1217 dL_law_1533) (s_aloadn (pc := 1536) dL_law_1536 rfl (s_aloadn (pc := 1537) dL_law_1537 rfl (s_iloadn (pc := 1538) dL_law_1538 rfl (s_iconst (pc := 1539) dL_law_1539 c_ic_1 (s_iadd (pc := 1540) dL_law_1540 (s_scB hX (pc := 1541) dL_law_1541 (s_aloadn (pc := 1542) dL_law_1542 rfl (s_iloadn (pc := 1543) dL_law_1543 rfl (s_iconst (pc := 1544) dL_law_1544 c_ic_2 (s_iadd (pc := 1545) dL_law_1545 (s_scB hX (pc := 1546) dL_law_1546 (s_aloadn (pc := 1547) dL_law_1547 rfl (s_iloadn (pc := 1548) dL_law_1548 rfl (s_iconst (pc := 1549) dL_law_1549 c_ic_3 (s_iadd (pc := 1550) dL_law_1550 (s_scB hX (pc := 1551) dL_law_1551 (s_aloadn (pc := 1552) dL_law_1552 rfl (s_iloadn (pc := 1553) dL_law_1553 rfl (s_iconst (pc := 1554) dL_law_1554 c_ic_4 (s_iadd (pc := 1555) dL_law_1555 (s_scB hX (pc := 1556) dL_law_1556 (s_aloadn (pc := 1557) dL_law_1557 rfl (s_iloadn (pc := 1558) dL_law_1558 rfl (s_iconst (pc := 1559) dL_law_1559 c_ic_5 (s_iadd (pc := 1560) dL_law_1560 (s_scB hX (pc := 1561) dL_law_1561 (s_vI (pc := 1562) (run_virtual (X12_copy_gd _) (show 2 < 803 by decide) cy_X12_copy (by decide) rfl w_1839 w_1840 w_1838 dL_law_1562) (s_cmpeq (pc := 1565) dL_law_1565 (by decide) hk1807 (s_iconst (pc := 1568) dL_law_1568 c_ic_0 (s_zr (pc := 1569) rfl dL_law_1569)))))))))))))))))))))))))))))))))))))))))))))))))))))))))
noncomputable def L_law_72_b1570 (L : Nat) (xs : Nat → Int32) (c_X11_lay : Nat → Int32 → Int32 → Int32 → PH → Option Rs) (c_X12_lay : Nat → Int32 → Int32 → Int32 → PH → Option Rs) (k1807 : Kn) : Kn := (a_al 1 (a_al 0 (a_il 3 (a_ic 1 (a_b (fun a b => a + b) (a_scB L xs (a_al 0 (a_il 3 (a_ic 2 (a_b (fun a b => a + b) (a_scB L xs (a_al 0 (a_il 3 (a_ic 3 (a_b (fun a b => a + b) (a_scB L xs (a_vI 10 3 (FW_T10III c_X11_lay) (a_al 2 (a_al 0 (a_il 3 (a_ic 1 (a_b (fun a b => a + b) (a_scB L xs (a_al 0 (a_il 3 (a_ic 2 (a_b (fun a b => a + b) (a_scB L xs (a_al 0 (a_il 3 (a_ic 3 (a_b (fun a b => a + b) (a_scB L xs (a_vI 11 3 (FW_T11III c_X12_lay) (a_eq k1807 (a_ic 0 a_zr))))))))))))))))))))))))))))))))))))
set_option maxRecDepth 100000 in
theorem L_law_72_s1570 {L : Nat} {xs : Nat → Int32} {z : CZ} (hX : XS (L_law_72_x z) L xs) {k1807 : Kn} (hk1807 : SK (L_law_72_x z) 1807 k1807) : SK (L_law_72_x z) 1570 (L_law_72_b1570 L xs X11_lay X12_lay k1807) := (s_aloadn (pc := 1570) dL_law_1570 rfl (s_aloadn (pc := 1571) dL_law_1571 rfl (s_iloadn (pc := 1572) dL_law_1572 rfl (s_iconst (pc := 1573) dL_law_1573 c_ic_1 (s_iadd (pc := 1574) dL_law_1574 (s_scB hX (pc := 1575) dL_law_1575 (s_aloadn (pc := 1576) dL_law_1576 rfl (s_iloadn (pc := 1577) dL_law_1577 rfl (s_iconst (pc := 1578) dL_law_1578 c_ic_2 (s_iadd (pc := 1579) dL_law_1579 (s_scB hX (pc := 1580) dL_law_1580 (s_aloadn (pc := 1581) dL_law_1581 rfl (s_iloadn (pc := 1582) dL_law_1582 rfl (s_iconst (pc := 1583) dL_law_1583 c_ic_3 (s_iadd (pc := 1584) dL_law_1584 (s_scB hX (pc := 1585) dL_law_1585 (s_vI (pc := 1586) (run_virtual (X11_lay_gd _) (show 2 < 803 by decide) cy_X11_lay (by decide) rfl w_1227 w_1228 w_1226 dL_law_1586) (s_aloadn (pc := 1589) dL_law_1589 rfl (s_aloadn (pc := 1590) dL_law_1590 rfl (s_iloadn (pc := 1591) dL_law_1591 rfl (s_iconst (pc := 1592) dL_law_1592 c_ic_1 (s_iadd (pc := 1593) dL_law_1593 (s_scB hX (pc := 1594) dL_law_1594 (s_aloadn (pc := 1595) dL_law_1595 rfl (s_iloadn (pc := 1596) dL_law_1596 rfl (s_iconst (pc := 1597) dL_law_1597 c_ic_2 (s_iadd (pc := 1598) dL_law_1598 (s_scB hX (pc := 1599) dL_law_1599 (s_aloadn (pc := 1600) dL_law_1600 rfl (s_iloadn (pc := 1601) dL_law_1601 rfl (s_iconst (pc := 1602) dL_law_1602 c_ic_3 (s_iadd (pc := 1603) dL_law_1603 (s_scB hX (pc := 1604) dL_law_1604 (s_vI (pc := 1605) (run_virtual (X12_lay_gd _) (show 2 < 803 by decide) cy_X12_lay (by decide) rfl w_1843 w_1844 w_1842 dL_law_1605) (s_cmpeq (pc := 1608) dL_law_1608 (by decide) hk1807 (s_iconst (pc := 1611) dL_law_1611 c_ic_0 (s_zr (pc := 1612) rfl dL_law_1612)))))))))))))))))))))))))))))))))))))
noncomputable def L_law_72_b1613 (L : Nat) (xs : Nat → Int32) (c_X11_ask : Nat → Int32 → Int32 → PH → Option Rs) (c_X12_ask : Nat → Int32 → Int32 → PH → Option Rs) (k1807 : Kn) : Kn := (a_al 1 (a_al 0 (a_il 3 (a_ic 1 (a_b (fun a b => a + b) (a_scB L xs (a_al 0 (a_il 3 (a_ic 2 (a_b (fun a b => a + b) (a_scB L xs (a_vI 10 2 (FW_T10II c_X11_ask) (a_al 2 (a_al 0 (a_il 3 (a_ic 1 (a_b (fun a b => a + b) (a_scB L xs (a_al 0 (a_il 3 (a_ic 2 (a_b (fun a b => a + b) (a_scB L xs (a_vI 11 2 (FW_T11II c_X12_ask) (a_eq k1807 (a_ic 0 a_zr))))))))))))))))))))))))))
set_option maxRecDepth 100000 in
theorem L_law_72_s1613 {L : Nat} {xs : Nat → Int32} {z : CZ} (hX : XS (L_law_72_x z) L xs) {k1807 : Kn} (hk1807 : SK (L_law_72_x z) 1807 k1807) : SK (L_law_72_x z) 1613 (L_law_72_b1613 L xs X11_ask X12_ask k1807) := (s_aloadn (pc := 1613) dL_law_1613 rfl (s_aloadn (pc := 1614) dL_law_1614 rfl (s_iloadn (pc := 1615) dL_law_1615 rfl (s_iconst (pc := 1616) dL_law_1616 c_ic_1 (s_iadd (pc := 1617) dL_law_1617 (s_scB hX (pc := 1618) dL_law_1618 (s_aloadn (pc := 1619) dL_law_1619 rfl (s_iloadn (pc := 1620) dL_law_1620 rfl (s_iconst (pc := 1621) dL_law_1621 c_ic_2 (s_iadd (pc := 1622) dL_law_1622 (s_scB hX (pc := 1623) dL_law_1623 (s_vI (pc := 1624) (run_virtual (X11_ask_gd _) (show 31 < 803 by decide) cy_X11_ask (by decide) rfl w_1236 w_1237 w_1235 dL_law_1624) (s_aloadn (pc := 1627) dL_law_1627 rfl (s_aloadn (pc := 1628) dL_law_1628 rfl (s_iloadn (pc := 1629) dL_law_1629 rfl (s_iconst (pc := 1630) dL_law_1630 c_ic_1 (s_iadd (pc := 1631) dL_law_1631 (s_scB hX (pc := 1632) dL_law_1632 (s_aloadn (pc := 1633) dL_law_1633 rfl (s_iloadn (pc := 1634) dL_law_1634 rfl (s_iconst (pc := 1635) dL_law_1635 c_ic_2 (s_iadd (pc := 1636) dL_law_1636 (s_scB hX (pc := 1637) dL_law_1637 (s_vI (pc := 1638) (run_virtual (X12_ask_gd _) (show 2 < 803 by decide) cy_X12_ask (by decide) rfl w_1850 w_1851 w_1849 dL_law_1638) (s_cmpeq (pc := 1641) dL_law_1641 (by decide) hk1807 (s_iconst (pc := 1644) dL_law_1644 c_ic_0 (s_zr (pc := 1645) rfl dL_law_1645)))))))))))))))))))))))))))
noncomputable def L_law_72_b1646 (L : Nat) (xs : Nat → Int32) (c_X11_item : Nat → Int32 → Int32 → PH → Option Rs) (c_X12_item : Nat → Int32 → Int32 → PH → Option Rs) (k1807 : Kn) : Kn := (a_al 1 (a_al 0 (a_il 3 (a_ic 1 (a_b (fun a b => a + b) (a_scB L xs (a_al 0 (a_il 3 (a_ic 2 (a_b (fun a b => a + b) (a_scB L xs (a_vI 10 2 (FW_T10II c_X11_item) (a_al 2 (a_al 0 (a_il 3 (a_ic 1 (a_b (fun a b => a + b) (a_scB L xs (a_al 0 (a_il 3 (a_ic 2 (a_b (fun a b => a + b) (a_scB L xs (a_vI 11 2 (FW_T11II c_X12_item) (a_eq k1807 (a_ic 0 a_zr))))))))))))))))))))))))))
set_option maxRecDepth 100000 in
theorem L_law_72_s1646 {L : Nat} {xs : Nat → Int32} {z : CZ} (hX : XS (L_law_72_x z) L xs) {k1807 : Kn} (hk1807 : SK (L_law_72_x z) 1807 k1807) : SK (L_law_72_x z) 1646 (L_law_72_b1646 L xs X11_item X12_item k1807) := (s_aloadn (pc := 1646) dL_law_1646 rfl (s_aloadn (pc := 1647) dL_law_1647 rfl (s_iloadn (pc := 1648) dL_law_1648 rfl (s_iconst (pc := 1649) dL_law_1649 c_ic_1 (s_iadd (pc := 1650) dL_law_1650 (s_scB hX (pc := 1651) dL_law_1651 (s_aloadn (pc := 1652) dL_law_1652 rfl (s_iloadn (pc := 1653) dL_law_1653 rfl (s_iconst (pc := 1654) dL_law_1654 c_ic_2 (s_iadd (pc := 1655) dL_law_1655 (s_scB hX (pc := 1656) dL_law_1656 (s_vI (pc := 1657) (run_virtual (X11_item_gd _) (show 1 < 803 by decide) cy_X11_item (by decide) rfl w_1240 w_1241 w_1239 dL_law_1657) (s_aloadn (pc := 1660) dL_law_1660 rfl (s_aloadn (pc := 1661) dL_law_1661 rfl (s_iloadn (pc := 1662) dL_law_1662 rfl (s_iconst (pc := 1663) dL_law_1663 c_ic_1 (s_iadd (pc := 1664) dL_law_1664 (s_scB hX (pc := 1665) dL_law_1665 (s_aloadn (pc := 1666) dL_law_1666 rfl (s_iloadn (pc := 1667) dL_law_1667 rfl (s_iconst (pc := 1668) dL_law_1668 c_ic_2 (s_iadd (pc := 1669) dL_law_1669 (s_scB hX (pc := 1670) dL_law_1670 (s_vI (pc := 1671) (run_virtual (X12_item_gd _) (show 2 < 803 by decide) cy_X12_item (by decide) rfl w_1854 w_1855 w_1853 dL_law_1671) (s_cmpeq (pc := 1674) dL_law_1674 (by decide) hk1807 (s_iconst (pc := 1677) dL_law_1677 c_ic_0 (s_zr (pc := 1678) rfl dL_law_1678)))))))))))))))))))))))))))
noncomputable def L_law_72_b1679 (L : Nat) (xs : Nat → Int32) (c_X11_rest : Nat → Int32 → Int32 → PH → Option Rs) (c_X12_rest : Nat → Int32 → Int32 → PH → Option Rs) (k1807 : Kn) : Kn := (a_al 1 (a_al 0 (a_il 3 (a_ic 1 (a_b (fun a b => a + b) (a_scB L xs (a_al 0 (a_il 3 (a_ic 2 (a_b (fun a b => a + b) (a_scB L xs (a_vI 10 2 (FW_T10II c_X11_rest) (a_al 2 (a_al 0 (a_il 3 (a_ic 1 (a_b (fun a b => a + b) (a_scB L xs (a_al 0 (a_il 3 (a_ic 2 (a_b (fun a b => a + b) (a_scB L xs (a_vI 11 2 (FW_T11II c_X12_rest) (a_eq k1807 (a_ic 0 a_zr))))))))))))))))))))))))))
set_option maxRecDepth 100000 in
theorem L_law_72_s1679 {L : Nat} {xs : Nat → Int32} {z : CZ} (hX : XS (L_law_72_x z) L xs) {k1807 : Kn} (hk1807 : SK (L_law_72_x z) 1807 k1807) : SK (L_law_72_x z) 1679 (L_law_72_b1679 L xs X11_rest X12_rest k1807) := (s_aloadn (pc := 1679) dL_law_1679 rfl (s_aloadn (pc := 1680) dL_law_1680 rfl (s_iloadn (pc := 1681) dL_law_1681 rfl (s_iconst (pc := 1682) dL_law_1682 c_ic_1 (s_iadd (pc := 1683) dL_law_1683 (s_scB hX (pc := 1684) dL_law_1684 (s_aloadn (pc := 1685) dL_law_1685 rfl (s_iloadn (pc := 1686) dL_law_1686 rfl (s_iconst (pc := 1687) dL_law_1687 c_ic_2 (s_iadd (pc := 1688) dL_law_1688 (s_scB hX (pc := 1689) dL_law_1689 (s_vI (pc := 1690) (run_virtual (X11_rest_gd _) (show 1 < 803 by decide) cy_X11_rest (by decide) rfl w_1244 w_1245 w_1243 dL_law_1690) (s_aloadn (pc := 1693) dL_law_1693 rfl (s_aloadn (pc := 1694) dL_law_1694 rfl (s_iloadn (pc := 1695) dL_law_1695 rfl (s_iconst (pc := 1696) dL_law_1696 c_ic_1 (s_iadd (pc := 1697) dL_law_1697 (s_scB hX (pc := 1698) dL_law_1698 (s_aloadn (pc := 1699) dL_law_1699 rfl (s_iloadn (pc := 1700) dL_law_1700 rfl (s_iconst (pc := 1701) dL_law_1701 c_ic_2 (s_iadd (pc := 1702) dL_law_1702 (s_scB hX (pc := 1703) dL_law_1703 (s_vI (pc := 1704) (run_virtual (X12_rest_gd _) (show 2 < 803 by decide) cy_X12_rest (by decide) rfl w_1858 w_1859 w_1857 dL_law_1704) (s_cmpeq (pc := 1707) dL_law_1707 (by decide) hk1807 (s_iconst (pc := 1710) dL_law_1710 c_ic_0 (s_zr (pc := 1711) rfl dL_law_1711)))))))))))))))))))))))))))
noncomputable def L_law_72_b1712 (L : Nat) (xs : Nat → Int32) (c_X11_tell : Nat → Int32 → PH → Option Rs) (c_X12_tell : Nat → Int32 → PH → Option Rs) (k1807 : Kn) : Kn := (a_al 1 (a_al 0 (a_il 3 (a_ic 1 (a_b (fun a b => a + b) (a_scB L xs (a_vI 10 1 (FW_T10I c_X11_tell) (a_al 2 (a_al 0 (a_il 3 (a_ic 1 (a_b (fun a b => a + b) (a_scB L xs (a_vI 11 1 (FW_T11I c_X12_tell) (a_eq k1807 (a_ic 0 a_zr))))))))))))))))
set_option maxRecDepth 100000 in
theorem L_law_72_s1712 {L : Nat} {xs : Nat → Int32} {z : CZ} (hX : XS (L_law_72_x z) L xs) {k1807 : Kn} (hk1807 : SK (L_law_72_x z) 1807 k1807) : SK (L_law_72_x z) 1712 (L_law_72_b1712 L xs X11_tell X12_tell k1807) := (s_aloadn (pc := 1712) dL_law_1712 rfl (s_aloadn (pc := 1713) dL_law_1713 rfl (s_iloadn (pc := 1714) dL_law_1714 rfl (s_iconst (pc := 1715) dL_law_1715 c_ic_1 (s_iadd (pc := 1716) dL_law_1716 (s_scB hX (pc := 1717) dL_law_1717 (s_vI (pc := 1718) (run_virtual (X11_tell_gd _) (show 0 < 803 by decide) cy_X11_tell (by decide) rfl w_1248 w_1249 w_1247 dL_law_1718) (s_aloadn (pc := 1721) dL_law_1721 rfl (s_aloadn (pc := 1722) dL_law_1722 rfl (s_iloadn (pc := 1723) dL_law_1723 rfl (s_iconst (pc := 1724) dL_law_1724 c_ic_1 (s_iadd (pc := 1725) dL_law_1725 (s_scB hX (pc := 1726) dL_law_1726 (s_vI (pc := 1727) (run_virtual (X12_tell_gd _) (show 0 < 803 by decide) cy_X12_tell (by decide) rfl w_1862 w_1863 w_1861 dL_law_1727) (s_cmpeq (pc := 1730) dL_law_1730 (by decide) hk1807 (s_iconst (pc := 1733) dL_law_1733 c_ic_0 (s_zr (pc := 1734) rfl dL_law_1734)))))))))))))))))
noncomputable def L_law_72_b1735 (L : Nat) (xs : Nat → Int32) (c_X11_check : Nat → Int32 → PH → Option Rs) (c_X12_check : Nat → Int32 → PH → Option Rs) (k1807 : Kn) : Kn := (a_al 1 (a_al 0 (a_il 3 (a_ic 1 (a_b (fun a b => a + b) (a_scB L xs (a_vI 10 1 (FW_T10I c_X11_check) (a_al 2 (a_al 0 (a_il 3 (a_ic 1 (a_b (fun a b => a + b) (a_scB L xs (a_vI 11 1 (FW_T11I c_X12_check) (a_eq k1807 (a_ic 0 a_zr))))))))))))))))
set_option maxRecDepth 100000 in
theorem L_law_72_s1735 {L : Nat} {xs : Nat → Int32} {z : CZ} (hX : XS (L_law_72_x z) L xs) {k1807 : Kn} (hk1807 : SK (L_law_72_x z) 1807 k1807) : SK (L_law_72_x z) 1735 (L_law_72_b1735 L xs X11_check X12_check k1807) := (s_aloadn (pc := 1735) dL_law_1735 rfl (s_aloadn (pc := 1736) dL_law_1736 rfl (s_iloadn (pc := 1737) dL_law_1737 rfl (s_iconst (pc := 1738) dL_law_1738 c_ic_1 (s_iadd (pc := 1739) dL_law_1739 (s_scB hX (pc := 1740) dL_law_1740 (s_vI (pc := 1741) (run_virtual (X11_check_gd _) (show 34 < 803 by decide) cy_X11_check (by decide) rfl w_1252 w_1253 w_1251 dL_law_1741) (s_aloadn (pc := 1744) dL_law_1744 rfl (s_aloadn (pc := 1745) dL_law_1745 rfl (s_iloadn (pc := 1746) dL_law_1746 rfl (s_iconst (pc := 1747) dL_law_1747 c_ic_1 (s_iadd (pc := 1748) dL_law_1748 (s_scB hX (pc := 1749) dL_law_1749 (s_vI (pc := 1750) (run_virtual (X12_check_gd _) (show 7 < 803 by decide) cy_X12_check (by decide) rfl w_1866 w_1867 w_1865 dL_law_1750) (s_cmpeq (pc := 1753) dL_law_1753 (by decide) hk1807 (s_iconst (pc := 1756) dL_law_1756 c_ic_0 (s_zr (pc := 1757) rfl dL_law_1757)))))))))))))))))
noncomputable def L_law_72_b1758 (L : Nat) (xs : Nat → Int32) (c_X11_keep : Nat → PH → Option Rs) (c_X12_keep : Nat → PH → Option Rs) (k1807 : Kn) : Kn := (a_al 1 (a_vI 10 0 (FW_T10 c_X11_keep) (a_al 2 (a_vI 11 0 (FW_T11 c_X12_keep) (a_eq k1807 (a_ic 0 a_zr))))))
set_option maxRecDepth 100000 in
theorem L_law_72_s1758 {L : Nat} {xs : Nat → Int32} {z : CZ} (hX : XS (L_law_72_x z) L xs) {k1807 : Kn} (hk1807 : SK (L_law_72_x z) 1807 k1807) : SK (L_law_72_x z) 1758 (L_law_72_b1758 L xs X11_keep X12_keep k1807) := (s_aloadn (pc := 1758) dL_law_1758 rfl (s_vI (pc := 1759) (run_virtual (X11_keep_gd _) (show 2 < 803 by decide) cy_X11_keep (by decide) rfl w_1260 w_1261 w_1259 dL_law_1759) (s_aloadn (pc := 1762) dL_law_1762 rfl (s_vI (pc := 1763) (run_virtual (X12_keep_gd _) (show 1 < 803 by decide) cy_X12_keep (by decide) rfl w_1873 w_1874 w_1872 dL_law_1763) (s_cmpeq (pc := 1766) dL_law_1766 (by decide) hk1807 (s_iconst (pc := 1769) dL_law_1769 c_ic_0 (s_zr (pc := 1770) rfl dL_law_1770)))))))
noncomputable def L_law_72_b1771 (L : Nat) (xs : Nat → Int32) (c_X11_back : Nat → PH → Option Rs) (c_X12_back : Nat → PH → Option Rs) (k1807 : Kn) : Kn := (a_al 1 (a_vI 10 0 (FW_T10 c_X11_back) (a_al 2 (a_vI 11 0 (FW_T11 c_X12_back) (a_eq k1807 (a_ic 0 a_zr))))))
set_option maxRecDepth 100000 in
theorem L_law_72_s1771 {L : Nat} {xs : Nat → Int32} {z : CZ} (hX : XS (L_law_72_x z) L xs) {k1807 : Kn} (hk1807 : SK (L_law_72_x z) 1807 k1807) : SK (L_law_72_x z) 1771 (L_law_72_b1771 L xs X11_back X12_back k1807) := (s_aloadn (pc := 1771) dL_law_1771 rfl (s_vI (pc := 1772) (run_virtual (X11_back_gd _) (show 2 < 803 by decide) cy_X11_back (by decide) rfl w_1278 w_1279 w_1277 dL_law_1772) (s_aloadn (pc := 1775) dL_law_1775 rfl (s_vI (pc := 1776) (run_virtual (X12_back_gd _) (show 1 < 803 by decide) cy_X12_back (by decide) rfl w_1877 w_1878 w_1876 dL_law_1776) (s_cmpeq (pc := 1779) dL_law_1779 (by decide) hk1807 (s_iconst (pc := 1782) dL_law_1782 c_ic_0 (s_zr (pc := 1783) rfl dL_law_1783)))))))
noncomputable def L_law_72_b1784 (L : Nat) (xs : Nat → Int32) (c_X11_count : Nat → Int32 → PH → Option Rs) (c_X12_count : Nat → Int32 → PH → Option Rs) (k1807 : Kn) : Kn := (a_al 1 (a_al 0 (a_il 3 (a_ic 1 (a_b (fun a b => a + b) (a_scB L xs (a_vI 10 1 (FW_T10I c_X11_count) (a_al 2 (a_al 0 (a_il 3 (a_ic 1 (a_b (fun a b => a + b) (a_scB L xs (a_vI 11 1 (FW_T11I c_X12_count) (a_eq k1807 (a_ic 0 a_zr))))))))))))))))
set_option maxRecDepth 100000 in
theorem L_law_72_s1784 {L : Nat} {xs : Nat → Int32} {z : CZ} (hX : XS (L_law_72_x z) L xs) {k1807 : Kn} (hk1807 : SK (L_law_72_x z) 1807 k1807) : SK (L_law_72_x z) 1784 (L_law_72_b1784 L xs X11_count X12_count k1807) := (s_aloadn (pc := 1784) dL_law_1784 rfl (s_aloadn (pc := 1785) dL_law_1785 rfl (s_iloadn (pc := 1786) dL_law_1786 rfl (s_iconst (pc := 1787) dL_law_1787 c_ic_1 (s_iadd (pc := 1788) dL_law_1788 (s_scB hX (pc := 1789) dL_law_1789 (s_vI (pc := 1790) (run_virtual (X11_count_gd _) (show 1 < 803 by decide) cy_X11_count (by decide) rfl w_1282 w_1283 w_1281 dL_law_1790) (s_aloadn (pc := 1793) dL_law_1793 rfl (s_aloadn (pc := 1794) dL_law_1794 rfl (s_iloadn (pc := 1795) dL_law_1795 rfl (s_iconst (pc := 1796) dL_law_1796 c_ic_1 (s_iadd (pc := 1797) dL_law_1797 (s_scB hX (pc := 1798) dL_law_1798 (s_vI (pc := 1799) (run_virtual (X12_count_gd _) (show 3 < 803 by decide) cy_X12_count (by decide) rfl w_1881 w_1882 w_1880 dL_law_1799) (s_cmpeq (pc := 1802) dL_law_1802 (by decide) hk1807 (s_iconst (pc := 1805) dL_law_1805 c_ic_0 (s_zr (pc := 1806) rfl dL_law_1806)))))))))))))))))
noncomputable def L_law_72_b1807 (L : Nat) (xs : Nat → Int32) (k18 : Kn) : Kn := (a_inc 3 6 k18)
set_option maxRecDepth 100000 in
theorem L_law_72_s1807 {L : Nat} {xs : Nat → Int32} {z : CZ} (hX : XS (L_law_72_x z) L xs) {k18 : Kn} (hk18 : SK (L_law_72_x z) 18 k18) : SK (L_law_72_x z) 1807 (L_law_72_b1807 L xs k18) := (s_iinc (pc := 1807) dL_law_1807 c_ic_6 (show 3 < 4 by decide) (s_goto (pc := 1810) dL_law_1810 (by decide) hk18))
noncomputable def L_law_72_u18 (g : Nat → Nat → Nat → Int32 → PH → Option Rs) : Kn := fun ls st h => gL 0 st (gR 72 ls 0 fun x0 => gR 10 ls 1 fun x1 => gR 11 ls 2 fun x2 => gI ls 3 fun x3 => g x0 x1 x2 x3 h)
noncomputable def L_law_72_u244 (g : Nat → Nat → Nat → Int32 → PH → Option Rs) : Kn := fun ls st h => gL 0 st (gR 72 ls 0 fun x0 => gR 10 ls 1 fun x1 => gR 11 ls 2 fun x2 => gI ls 3 fun x3 => g x0 x1 x2 x3 h)
noncomputable def L_law_72_u257 (g : Nat → Nat → Nat → Int32 → PH → Option Rs) : Kn := fun ls st h => gL 0 st (gR 72 ls 0 fun x0 => gR 10 ls 1 fun x1 => gR 11 ls 2 fun x2 => gI ls 3 fun x3 => g x0 x1 x2 x3 h)
noncomputable def L_law_72_u310 (g : Nat → Nat → Nat → Int32 → PH → Option Rs) : Kn := fun ls st h => gL 0 st (gR 72 ls 0 fun x0 => gR 10 ls 1 fun x1 => gR 11 ls 2 fun x2 => gI ls 3 fun x3 => g x0 x1 x2 x3 h)
noncomputable def L_law_72_u343 (g : Nat → Nat → Nat → Int32 → PH → Option Rs) : Kn := fun ls st h => gL 0 st (gR 72 ls 0 fun x0 => gR 10 ls 1 fun x1 => gR 11 ls 2 fun x2 => gI ls 3 fun x3 => g x0 x1 x2 x3 h)
noncomputable def L_law_72_u362 (g : Nat → Nat → Nat → Int32 → Int32 → Int32 → Nat → PH → Option Rs) : Kn := fun ls st h => gL 3 st (gR 72 ls 0 fun x0 => gR 10 ls 1 fun x1 => gR 11 ls 2 fun x2 => gI ls 3 fun x3 => gI (st.map some) 0 fun s0 => gI (st.map some) 1 fun s1 => gR 10 (st.map some) 2 fun s2 => g x0 x1 x2 x3 s0 s1 s2 h)
noncomputable def L_law_72_u384 (g : Nat → Nat → Nat → Int32 → Int32 → Int32 → Nat → Int32 → PH → Option Rs) : Kn := fun ls st h => gL 4 st (gR 72 ls 0 fun x0 => gR 10 ls 1 fun x1 => gR 11 ls 2 fun x2 => gI ls 3 fun x3 => gI (st.map some) 0 fun s0 => gI (st.map some) 1 fun s1 => gR 11 (st.map some) 2 fun s2 => gI (st.map some) 3 fun s3 => g x0 x1 x2 x3 s0 s1 s2 s3 h)
noncomputable def L_law_72_u392 (g : Nat → Nat → Nat → Int32 → PH → Option Rs) : Kn := fun ls st h => gL 0 st (gR 72 ls 0 fun x0 => gR 10 ls 1 fun x1 => gR 11 ls 2 fun x2 => gI ls 3 fun x3 => g x0 x1 x2 x3 h)
noncomputable def L_law_72_u425 (g : Nat → Nat → Nat → Int32 → PH → Option Rs) : Kn := fun ls st h => gL 0 st (gR 72 ls 0 fun x0 => gR 10 ls 1 fun x1 => gR 11 ls 2 fun x2 => gI ls 3 fun x3 => g x0 x1 x2 x3 h)
noncomputable def L_law_72_u458 (g : Nat → Nat → Nat → Int32 → PH → Option Rs) : Kn := fun ls st h => gL 0 st (gR 72 ls 0 fun x0 => gR 10 ls 1 fun x1 => gR 11 ls 2 fun x2 => gI ls 3 fun x3 => g x0 x1 x2 x3 h)
noncomputable def L_law_72_u481 (g : Nat → Nat → Nat → Int32 → PH → Option Rs) : Kn := fun ls st h => gL 0 st (gR 72 ls 0 fun x0 => gR 10 ls 1 fun x1 => gR 11 ls 2 fun x2 => gI ls 3 fun x3 => g x0 x1 x2 x3 h)
noncomputable def L_law_72_u524 (g : Nat → Nat → Nat → Int32 → PH → Option Rs) : Kn := fun ls st h => gL 0 st (gR 72 ls 0 fun x0 => gR 10 ls 1 fun x1 => gR 11 ls 2 fun x2 => gI ls 3 fun x3 => g x0 x1 x2 x3 h)
noncomputable def L_law_72_u557 (g : Nat → Nat → Nat → Int32 → PH → Option Rs) : Kn := fun ls st h => gL 0 st (gR 72 ls 0 fun x0 => gR 10 ls 1 fun x1 => gR 11 ls 2 fun x2 => gI ls 3 fun x3 => g x0 x1 x2 x3 h)
noncomputable def L_law_72_u590 (g : Nat → Nat → Nat → Int32 → PH → Option Rs) : Kn := fun ls st h => gL 0 st (gR 72 ls 0 fun x0 => gR 10 ls 1 fun x1 => gR 11 ls 2 fun x2 => gI ls 3 fun x3 => g x0 x1 x2 x3 h)
noncomputable def L_law_72_u623 (g : Nat → Nat → Nat → Int32 → PH → Option Rs) : Kn := fun ls st h => gL 0 st (gR 72 ls 0 fun x0 => gR 10 ls 1 fun x1 => gR 11 ls 2 fun x2 => gI ls 3 fun x3 => g x0 x1 x2 x3 h)
noncomputable def L_law_72_u666 (g : Nat → Nat → Nat → Int32 → PH → Option Rs) : Kn := fun ls st h => gL 0 st (gR 72 ls 0 fun x0 => gR 10 ls 1 fun x1 => gR 11 ls 2 fun x2 => gI ls 3 fun x3 => g x0 x1 x2 x3 h)
noncomputable def L_law_72_u709 (g : Nat → Nat → Nat → Int32 → PH → Option Rs) : Kn := fun ls st h => gL 0 st (gR 72 ls 0 fun x0 => gR 10 ls 1 fun x1 => gR 11 ls 2 fun x2 => gI ls 3 fun x3 => g x0 x1 x2 x3 h)
noncomputable def L_law_72_u742 (g : Nat → Nat → Nat → Int32 → PH → Option Rs) : Kn := fun ls st h => gL 0 st (gR 72 ls 0 fun x0 => gR 10 ls 1 fun x1 => gR 11 ls 2 fun x2 => gI ls 3 fun x3 => g x0 x1 x2 x3 h)
noncomputable def L_law_72_u785 (g : Nat → Nat → Nat → Int32 → PH → Option Rs) : Kn := fun ls st h => gL 0 st (gR 72 ls 0 fun x0 => gR 10 ls 1 fun x1 => gR 11 ls 2 fun x2 => gI ls 3 fun x3 => g x0 x1 x2 x3 h)
noncomputable def L_law_72_u798 (g : Nat → Nat → Nat → Int32 → PH → Option Rs) : Kn := fun ls st h => gL 0 st (gR 72 ls 0 fun x0 => gR 10 ls 1 fun x1 => gR 11 ls 2 fun x2 => gI ls 3 fun x3 => g x0 x1 x2 x3 h)
noncomputable def L_law_72_u841 (g : Nat → Nat → Nat → Int32 → PH → Option Rs) : Kn := fun ls st h => gL 0 st (gR 72 ls 0 fun x0 => gR 10 ls 1 fun x1 => gR 11 ls 2 fun x2 => gI ls 3 fun x3 => g x0 x1 x2 x3 h)
noncomputable def L_law_72_u864 (g : Nat → Nat → Nat → Int32 → PH → Option Rs) : Kn := fun ls st h => gL 0 st (gR 72 ls 0 fun x0 => gR 10 ls 1 fun x1 => gR 11 ls 2 fun x2 => gI ls 3 fun x3 => g x0 x1 x2 x3 h)
noncomputable def L_law_72_u877 (g : Nat → Nat → Nat → Int32 → PH → Option Rs) : Kn := fun ls st h => gL 0 st (gR 72 ls 0 fun x0 => gR 10 ls 1 fun x1 => gR 11 ls 2 fun x2 => gI ls 3 fun x3 => g x0 x1 x2 x3 h)
noncomputable def L_law_72_u910 (g : Nat → Nat → Nat → Int32 → PH → Option Rs) : Kn := fun ls st h => gL 0 st (gR 72 ls 0 fun x0 => gR 10 ls 1 fun x1 => gR 11 ls 2 fun x2 => gI ls 3 fun x3 => g x0 x1 x2 x3 h)
noncomputable def L_law_72_u933 (g : Nat → Nat → Nat → Int32 → PH → Option Rs) : Kn := fun ls st h => gL 0 st (gR 72 ls 0 fun x0 => gR 10 ls 1 fun x1 => gR 11 ls 2 fun x2 => gI ls 3 fun x3 => g x0 x1 x2 x3 h)
noncomputable def L_law_72_u986 (g : Nat → Nat → Nat → Int32 → PH → Option Rs) : Kn := fun ls st h => gL 0 st (gR 72 ls 0 fun x0 => gR 10 ls 1 fun x1 => gR 11 ls 2 fun x2 => gI ls 3 fun x3 => g x0 x1 x2 x3 h)
noncomputable def L_law_72_u1039 (g : Nat → Nat → Nat → Int32 → PH → Option Rs) : Kn := fun ls st h => gL 0 st (gR 72 ls 0 fun x0 => gR 10 ls 1 fun x1 => gR 11 ls 2 fun x2 => gI ls 3 fun x3 => g x0 x1 x2 x3 h)
noncomputable def L_law_72_u1082 (g : Nat → Nat → Nat → Int32 → PH → Option Rs) : Kn := fun ls st h => gL 0 st (gR 72 ls 0 fun x0 => gR 10 ls 1 fun x1 => gR 11 ls 2 fun x2 => gI ls 3 fun x3 => g x0 x1 x2 x3 h)
noncomputable def L_law_72_u1125 (g : Nat → Nat → Nat → Int32 → PH → Option Rs) : Kn := fun ls st h => gL 0 st (gR 72 ls 0 fun x0 => gR 10 ls 1 fun x1 => gR 11 ls 2 fun x2 => gI ls 3 fun x3 => g x0 x1 x2 x3 h)
noncomputable def L_law_72_u1148 (g : Nat → Nat → Nat → Int32 → PH → Option Rs) : Kn := fun ls st h => gL 0 st (gR 72 ls 0 fun x0 => gR 10 ls 1 fun x1 => gR 11 ls 2 fun x2 => gI ls 3 fun x3 => g x0 x1 x2 x3 h)
noncomputable def L_law_72_u1181 (g : Nat → Nat → Nat → Int32 → PH → Option Rs) : Kn := fun ls st h => gL 0 st (gR 72 ls 0 fun x0 => gR 10 ls 1 fun x1 => gR 11 ls 2 fun x2 => gI ls 3 fun x3 => g x0 x1 x2 x3 h)
noncomputable def L_law_72_u1214 (g : Nat → Nat → Nat → Int32 → PH → Option Rs) : Kn := fun ls st h => gL 0 st (gR 72 ls 0 fun x0 => gR 10 ls 1 fun x1 => gR 11 ls 2 fun x2 => gI ls 3 fun x3 => g x0 x1 x2 x3 h)
noncomputable def L_law_72_u1237 (g : Nat → Nat → Nat → Int32 → PH → Option Rs) : Kn := fun ls st h => gL 0 st (gR 72 ls 0 fun x0 => gR 10 ls 1 fun x1 => gR 11 ls 2 fun x2 => gI ls 3 fun x3 => g x0 x1 x2 x3 h)
noncomputable def L_law_72_u1260 (g : Nat → Nat → Nat → Int32 → PH → Option Rs) : Kn := fun ls st h => gL 0 st (gR 72 ls 0 fun x0 => gR 10 ls 1 fun x1 => gR 11 ls 2 fun x2 => gI ls 3 fun x3 => g x0 x1 x2 x3 h)
noncomputable def L_law_72_u1283 (g : Nat → Nat → Nat → Int32 → PH → Option Rs) : Kn := fun ls st h => gL 0 st (gR 72 ls 0 fun x0 => gR 10 ls 1 fun x1 => gR 11 ls 2 fun x2 => gI ls 3 fun x3 => g x0 x1 x2 x3 h)
noncomputable def L_law_72_u1296 (g : Nat → Nat → Nat → Int32 → PH → Option Rs) : Kn := fun ls st h => gL 0 st (gR 72 ls 0 fun x0 => gR 10 ls 1 fun x1 => gR 11 ls 2 fun x2 => gI ls 3 fun x3 => g x0 x1 x2 x3 h)
noncomputable def L_law_72_u1329 (g : Nat → Nat → Nat → Int32 → PH → Option Rs) : Kn := fun ls st h => gL 0 st (gR 72 ls 0 fun x0 => gR 10 ls 1 fun x1 => gR 11 ls 2 fun x2 => gI ls 3 fun x3 => g x0 x1 x2 x3 h)
noncomputable def L_law_72_u1352 (g : Nat → Nat → Nat → Int32 → PH → Option Rs) : Kn := fun ls st h => gL 0 st (gR 72 ls 0 fun x0 => gR 10 ls 1 fun x1 => gR 11 ls 2 fun x2 => gI ls 3 fun x3 => g x0 x1 x2 x3 h)
noncomputable def L_law_72_u1375 (g : Nat → Nat → Nat → Int32 → PH → Option Rs) : Kn := fun ls st h => gL 0 st (gR 72 ls 0 fun x0 => gR 10 ls 1 fun x1 => gR 11 ls 2 fun x2 => gI ls 3 fun x3 => g x0 x1 x2 x3 h)
noncomputable def L_law_72_u1388 (g : Nat → Nat → Nat → Int32 → PH → Option Rs) : Kn := fun ls st h => gL 0 st (gR 72 ls 0 fun x0 => gR 10 ls 1 fun x1 => gR 11 ls 2 fun x2 => gI ls 3 fun x3 => g x0 x1 x2 x3 h)
noncomputable def L_law_72_u1431 (g : Nat → Nat → Nat → Int32 → PH → Option Rs) : Kn := fun ls st h => gL 0 st (gR 72 ls 0 fun x0 => gR 10 ls 1 fun x1 => gR 11 ls 2 fun x2 => gI ls 3 fun x3 => g x0 x1 x2 x3 h)
noncomputable def L_law_72_u1474 (g : Nat → Nat → Nat → Int32 → PH → Option Rs) : Kn := fun ls st h => gL 0 st (gR 72 ls 0 fun x0 => gR 10 ls 1 fun x1 => gR 11 ls 2 fun x2 => gI ls 3 fun x3 => g x0 x1 x2 x3 h)
noncomputable def L_law_72_u1507 (g : Nat → Nat → Nat → Int32 → PH → Option Rs) : Kn := fun ls st h => gL 0 st (gR 72 ls 0 fun x0 => gR 10 ls 1 fun x1 => gR 11 ls 2 fun x2 => gI ls 3 fun x3 => g x0 x1 x2 x3 h)
noncomputable def L_law_72_u1570 (g : Nat → Nat → Nat → Int32 → PH → Option Rs) : Kn := fun ls st h => gL 0 st (gR 72 ls 0 fun x0 => gR 10 ls 1 fun x1 => gR 11 ls 2 fun x2 => gI ls 3 fun x3 => g x0 x1 x2 x3 h)
noncomputable def L_law_72_u1613 (g : Nat → Nat → Nat → Int32 → PH → Option Rs) : Kn := fun ls st h => gL 0 st (gR 72 ls 0 fun x0 => gR 10 ls 1 fun x1 => gR 11 ls 2 fun x2 => gI ls 3 fun x3 => g x0 x1 x2 x3 h)
noncomputable def L_law_72_u1646 (g : Nat → Nat → Nat → Int32 → PH → Option Rs) : Kn := fun ls st h => gL 0 st (gR 72 ls 0 fun x0 => gR 10 ls 1 fun x1 => gR 11 ls 2 fun x2 => gI ls 3 fun x3 => g x0 x1 x2 x3 h)
noncomputable def L_law_72_u1679 (g : Nat → Nat → Nat → Int32 → PH → Option Rs) : Kn := fun ls st h => gL 0 st (gR 72 ls 0 fun x0 => gR 10 ls 1 fun x1 => gR 11 ls 2 fun x2 => gI ls 3 fun x3 => g x0 x1 x2 x3 h)
noncomputable def L_law_72_u1712 (g : Nat → Nat → Nat → Int32 → PH → Option Rs) : Kn := fun ls st h => gL 0 st (gR 72 ls 0 fun x0 => gR 10 ls 1 fun x1 => gR 11 ls 2 fun x2 => gI ls 3 fun x3 => g x0 x1 x2 x3 h)
noncomputable def L_law_72_u1735 (g : Nat → Nat → Nat → Int32 → PH → Option Rs) : Kn := fun ls st h => gL 0 st (gR 72 ls 0 fun x0 => gR 10 ls 1 fun x1 => gR 11 ls 2 fun x2 => gI ls 3 fun x3 => g x0 x1 x2 x3 h)
noncomputable def L_law_72_u1758 (g : Nat → Nat → Nat → Int32 → PH → Option Rs) : Kn := fun ls st h => gL 0 st (gR 72 ls 0 fun x0 => gR 10 ls 1 fun x1 => gR 11 ls 2 fun x2 => gI ls 3 fun x3 => g x0 x1 x2 x3 h)
noncomputable def L_law_72_u1771 (g : Nat → Nat → Nat → Int32 → PH → Option Rs) : Kn := fun ls st h => gL 0 st (gR 72 ls 0 fun x0 => gR 10 ls 1 fun x1 => gR 11 ls 2 fun x2 => gI ls 3 fun x3 => g x0 x1 x2 x3 h)
noncomputable def L_law_72_u1784 (g : Nat → Nat → Nat → Int32 → PH → Option Rs) : Kn := fun ls st h => gL 0 st (gR 72 ls 0 fun x0 => gR 10 ls 1 fun x1 => gR 11 ls 2 fun x2 => gI ls 3 fun x3 => g x0 x1 x2 x3 h)
noncomputable def L_law_72_u1807 (g : Nat → Nat → Nat → Int32 → PH → Option Rs) : Kn := fun ls st h => gL 0 st (gR 72 ls 0 fun x0 => gR 10 ls 1 fun x1 => gR 11 ls 2 fun x2 => gI ls 3 fun x3 => g x0 x1 x2 x3 h)
noncomputable def L_law_72_f0 (L : Nat) (xs : Nat → Int32) (c_X11_init : Nat → PH → Option Rs) (c_X12_init : Nat → PH → Option Rs) (g18 : Nat → Nat → Nat → Int32 → PH → Option Rs) (x0 : Nat) (h : PH) : Option Rs :=
  wr (nw h 10 0 10) fun h1 =>
  nn (hN h 10 + 1) fun r2 =>
  cV (c_X11_init r2 h1) fun h3 =>
  wr (nw h3 11 0 51) fun h4 =>
  nn (hN h3 11 + 1) fun r5 =>
  cV (c_X12_init r5 h4) fun h6 =>
  g18 x0 (hN h 10 + 1) (hN h3 11 + 1) 0 h6
set_option maxRecDepth 100000 in
theorem L_law_72_l0 (L : Nat) (xs : Nat → Int32) (c_X11_init : Nat → PH → Option Rs) (c_X12_init : Nat → PH → Option Rs) (g18 : Nat → Nat → Nat → Int32 → PH → Option Rs) (x0 : Nat) (h : PH) : L_law_72_b0 L xs c_X11_init c_X12_init (L_law_72_u18 g18) [some (.inr (72, x0)), none, none, none] [] h = L_law_72_f0 L xs c_X11_init c_X12_init g18 x0 h := rfl
theorem L_law_72_m0 {L : Nat} {xs : Nat → Int32} {c_X11_init : Nat → PH → Option Rs} {c_X12_init : Nat → PH → Option Rs} {g18 G18 : Nat → Nat → Nat → Int32 → PH → Option Rs} (hg18 : ∀ a0 a1 a2 a3 a4, Mo (g18 a0 a1 a2 a3 a4) (G18 a0 a1 a2 a3 a4)) (x0 : Nat) (h : PH) : Mo (L_law_72_f0 L xs c_X11_init c_X12_init g18 x0 h) (L_law_72_f0 L xs c_X11_init c_X12_init G18 x0 h) := (mo_wr fun h1 => (mo_nn fun r2 => (mo_cV fun h3 => (mo_wr fun h4 => (mo_nn fun r5 => (mo_cV fun h6 => (hg18 x0 (hN h 10 + 1) (hN h3 11 + 1) 0 h6)))))))
noncomputable def L_law_72_f18 (L : Nat) (xs : Nat → Int32) (g244 : Nat → Nat → Nat → Int32 → PH → Option Rs) (g257 : Nat → Nat → Nat → Int32 → PH → Option Rs) (g310 : Nat → Nat → Nat → Int32 → PH → Option Rs) (g343 : Nat → Nat → Nat → Int32 → PH → Option Rs) (g392 : Nat → Nat → Nat → Int32 → PH → Option Rs) (g425 : Nat → Nat → Nat → Int32 → PH → Option Rs) (g458 : Nat → Nat → Nat → Int32 → PH → Option Rs) (g481 : Nat → Nat → Nat → Int32 → PH → Option Rs) (g524 : Nat → Nat → Nat → Int32 → PH → Option Rs) (g557 : Nat → Nat → Nat → Int32 → PH → Option Rs) (g590 : Nat → Nat → Nat → Int32 → PH → Option Rs) (g623 : Nat → Nat → Nat → Int32 → PH → Option Rs) (g666 : Nat → Nat → Nat → Int32 → PH → Option Rs) (g709 : Nat → Nat → Nat → Int32 → PH → Option Rs) (g742 : Nat → Nat → Nat → Int32 → PH → Option Rs) (g785 : Nat → Nat → Nat → Int32 → PH → Option Rs) (g798 : Nat → Nat → Nat → Int32 → PH → Option Rs) (g841 : Nat → Nat → Nat → Int32 → PH → Option Rs) (g864 : Nat → Nat → Nat → Int32 → PH → Option Rs) (g877 : Nat → Nat → Nat → Int32 → PH → Option Rs) (g910 : Nat → Nat → Nat → Int32 → PH → Option Rs) (g933 : Nat → Nat → Nat → Int32 → PH → Option Rs) (g986 : Nat → Nat → Nat → Int32 → PH → Option Rs) (g1039 : Nat → Nat → Nat → Int32 → PH → Option Rs) (g1082 : Nat → Nat → Nat → Int32 → PH → Option Rs) (g1125 : Nat → Nat → Nat → Int32 → PH → Option Rs) (g1148 : Nat → Nat → Nat → Int32 → PH → Option Rs) (g1181 : Nat → Nat → Nat → Int32 → PH → Option Rs) (g1214 : Nat → Nat → Nat → Int32 → PH → Option Rs) (g1237 : Nat → Nat → Nat → Int32 → PH → Option Rs) (g1260 : Nat → Nat → Nat → Int32 → PH → Option Rs) (g1283 : Nat → Nat → Nat → Int32 → PH → Option Rs) (g1296 : Nat → Nat → Nat → Int32 → PH → Option Rs) (g1329 : Nat → Nat → Nat → Int32 → PH → Option Rs) (g1352 : Nat → Nat → Nat → Int32 → PH → Option Rs) (g1375 : Nat → Nat → Nat → Int32 → PH → Option Rs) (g1388 : Nat → Nat → Nat → Int32 → PH → Option Rs) (g1431 : Nat → Nat → Nat → Int32 → PH → Option Rs) (g1474 : Nat → Nat → Nat → Int32 → PH → Option Rs) (g1507 : Nat → Nat → Nat → Int32 → PH → Option Rs) (g1570 : Nat → Nat → Nat → Int32 → PH → Option Rs) (g1613 : Nat → Nat → Nat → Int32 → PH → Option Rs) (g1646 : Nat → Nat → Nat → Int32 → PH → Option Rs) (g1679 : Nat → Nat → Nat → Int32 → PH → Option Rs) (g1712 : Nat → Nat → Nat → Int32 → PH → Option Rs) (g1735 : Nat → Nat → Nat → Int32 → PH → Option Rs) (g1758 : Nat → Nat → Nat → Int32 → PH → Option Rs) (g1771 : Nat → Nat → Nat → Int32 → PH → Option Rs) (g1784 : Nat → Nat → Nat → Int32 → PH → Option Rs) (g1807 : Nat → Nat → Nat → Int32 → PH → Option Rs) (x0 : Nat) (x1 : Nat) (x2 : Nat) (x3 : Int32) (h : PH) : Option Rs :=
  nn x0 fun r7 =>
  sc0 r7 <|
  if ((Int32.ofNat L) - 6) < x3 then
    bz 1 <|
    some (some (.inl 1), h)
  else
    nn x0 fun r8 =>
    sc0 r8 <|
    ix x3 L fun j9 =>
    wi ((xs j9) &&& 63) fun v10 =>
    if v10 = 0 then
      g244 x0 x1 x2 x3 h
    else
    if v10 = 1 then
      g257 x0 x1 x2 x3 h
    else
    if v10 = 2 then
      g310 x0 x1 x2 x3 h
    else
    if v10 = 3 then
      g343 x0 x1 x2 x3 h
    else
    if v10 = 4 then
      g392 x0 x1 x2 x3 h
    else
    if v10 = 5 then
      g425 x0 x1 x2 x3 h
    else
    if v10 = 6 then
      g458 x0 x1 x2 x3 h
    else
    if v10 = 7 then
      g481 x0 x1 x2 x3 h
    else
    if v10 = 8 then
      g524 x0 x1 x2 x3 h
    else
    if v10 = 9 then
      g557 x0 x1 x2 x3 h
    else
    if v10 = 10 then
      g590 x0 x1 x2 x3 h
    else
    if v10 = 11 then
      g623 x0 x1 x2 x3 h
    else
    if v10 = 12 then
      g666 x0 x1 x2 x3 h
    else
    if v10 = 13 then
      g709 x0 x1 x2 x3 h
    else
    if v10 = 14 then
      g742 x0 x1 x2 x3 h
    else
    if v10 = 15 then
      g785 x0 x1 x2 x3 h
    else
    if v10 = 16 then
      g798 x0 x1 x2 x3 h
    else
    if v10 = 17 then
      g841 x0 x1 x2 x3 h
    else
    if v10 = 18 then
      g864 x0 x1 x2 x3 h
    else
    if v10 = 19 then
      g877 x0 x1 x2 x3 h
    else
    if v10 = 20 then
      g910 x0 x1 x2 x3 h
    else
    if v10 = 21 then
      g933 x0 x1 x2 x3 h
    else
    if v10 = 22 then
      g986 x0 x1 x2 x3 h
    else
    if v10 = 23 then
      g1039 x0 x1 x2 x3 h
    else
    if v10 = 24 then
      g1082 x0 x1 x2 x3 h
    else
    if v10 = 25 then
      g1125 x0 x1 x2 x3 h
    else
    if v10 = 26 then
      g1148 x0 x1 x2 x3 h
    else
    if v10 = 27 then
      g1181 x0 x1 x2 x3 h
    else
    if v10 = 28 then
      g1214 x0 x1 x2 x3 h
    else
    if v10 = 29 then
      g1237 x0 x1 x2 x3 h
    else
    if v10 = 30 then
      g1260 x0 x1 x2 x3 h
    else
    if v10 = 31 then
      g1283 x0 x1 x2 x3 h
    else
    if v10 = 32 then
      g1296 x0 x1 x2 x3 h
    else
    if v10 = 33 then
      g1329 x0 x1 x2 x3 h
    else
    if v10 = 34 then
      g1352 x0 x1 x2 x3 h
    else
    if v10 = 35 then
      g1375 x0 x1 x2 x3 h
    else
    if v10 = 36 then
      g1388 x0 x1 x2 x3 h
    else
    if v10 = 37 then
      g1431 x0 x1 x2 x3 h
    else
    if v10 = 38 then
      g1474 x0 x1 x2 x3 h
    else
    if v10 = 39 then
      g1507 x0 x1 x2 x3 h
    else
    if v10 = 40 then
      g1570 x0 x1 x2 x3 h
    else
    if v10 = 41 then
      g1613 x0 x1 x2 x3 h
    else
    if v10 = 42 then
      g1646 x0 x1 x2 x3 h
    else
    if v10 = 43 then
      g1679 x0 x1 x2 x3 h
    else
    if v10 = 44 then
      g1712 x0 x1 x2 x3 h
    else
    if v10 = 45 then
      g1735 x0 x1 x2 x3 h
    else
    if v10 = 46 then
      g1758 x0 x1 x2 x3 h
    else
    if v10 = 47 then
      g1771 x0 x1 x2 x3 h
    else
    if v10 = 48 then
      g1784 x0 x1 x2 x3 h
    else
      g1807 x0 x1 x2 x3 h
set_option maxRecDepth 100000 in
theorem L_law_72_l18 (L : Nat) (xs : Nat → Int32) (g244 : Nat → Nat → Nat → Int32 → PH → Option Rs) (g257 : Nat → Nat → Nat → Int32 → PH → Option Rs) (g310 : Nat → Nat → Nat → Int32 → PH → Option Rs) (g343 : Nat → Nat → Nat → Int32 → PH → Option Rs) (g392 : Nat → Nat → Nat → Int32 → PH → Option Rs) (g425 : Nat → Nat → Nat → Int32 → PH → Option Rs) (g458 : Nat → Nat → Nat → Int32 → PH → Option Rs) (g481 : Nat → Nat → Nat → Int32 → PH → Option Rs) (g524 : Nat → Nat → Nat → Int32 → PH → Option Rs) (g557 : Nat → Nat → Nat → Int32 → PH → Option Rs) (g590 : Nat → Nat → Nat → Int32 → PH → Option Rs) (g623 : Nat → Nat → Nat → Int32 → PH → Option Rs) (g666 : Nat → Nat → Nat → Int32 → PH → Option Rs) (g709 : Nat → Nat → Nat → Int32 → PH → Option Rs) (g742 : Nat → Nat → Nat → Int32 → PH → Option Rs) (g785 : Nat → Nat → Nat → Int32 → PH → Option Rs) (g798 : Nat → Nat → Nat → Int32 → PH → Option Rs) (g841 : Nat → Nat → Nat → Int32 → PH → Option Rs) (g864 : Nat → Nat → Nat → Int32 → PH → Option Rs) (g877 : Nat → Nat → Nat → Int32 → PH → Option Rs) (g910 : Nat → Nat → Nat → Int32 → PH → Option Rs) (g933 : Nat → Nat → Nat → Int32 → PH → Option Rs) (g986 : Nat → Nat → Nat → Int32 → PH → Option Rs) (g1039 : Nat → Nat → Nat → Int32 → PH → Option Rs) (g1082 : Nat → Nat → Nat → Int32 → PH → Option Rs) (g1125 : Nat → Nat → Nat → Int32 → PH → Option Rs) (g1148 : Nat → Nat → Nat → Int32 → PH → Option Rs) (g1181 : Nat → Nat → Nat → Int32 → PH → Option Rs) (g1214 : Nat → Nat → Nat → Int32 → PH → Option Rs) (g1237 : Nat → Nat → Nat → Int32 → PH → Option Rs) (g1260 : Nat → Nat → Nat → Int32 → PH → Option Rs) (g1283 : Nat → Nat → Nat → Int32 → PH → Option Rs) (g1296 : Nat → Nat → Nat → Int32 → PH → Option Rs) (g1329 : Nat → Nat → Nat → Int32 → PH → Option Rs) (g1352 : Nat → Nat → Nat → Int32 → PH → Option Rs) (g1375 : Nat → Nat → Nat → Int32 → PH → Option Rs) (g1388 : Nat → Nat → Nat → Int32 → PH → Option Rs) (g1431 : Nat → Nat → Nat → Int32 → PH → Option Rs) (g1474 : Nat → Nat → Nat → Int32 → PH → Option Rs) (g1507 : Nat → Nat → Nat → Int32 → PH → Option Rs) (g1570 : Nat → Nat → Nat → Int32 → PH → Option Rs) (g1613 : Nat → Nat → Nat → Int32 → PH → Option Rs) (g1646 : Nat → Nat → Nat → Int32 → PH → Option Rs) (g1679 : Nat → Nat → Nat → Int32 → PH → Option Rs) (g1712 : Nat → Nat → Nat → Int32 → PH → Option Rs) (g1735 : Nat → Nat → Nat → Int32 → PH → Option Rs) (g1758 : Nat → Nat → Nat → Int32 → PH → Option Rs) (g1771 : Nat → Nat → Nat → Int32 → PH → Option Rs) (g1784 : Nat → Nat → Nat → Int32 → PH → Option Rs) (g1807 : Nat → Nat → Nat → Int32 → PH → Option Rs) (x0 : Nat) (x1 : Nat) (x2 : Nat) (x3 : Int32) (h : PH) : L_law_72_b18 L xs (L_law_72_u244 g244) (L_law_72_u257 g257) (L_law_72_u310 g310) (L_law_72_u343 g343) (L_law_72_u392 g392) (L_law_72_u425 g425) (L_law_72_u458 g458) (L_law_72_u481 g481) (L_law_72_u524 g524) (L_law_72_u557 g557) (L_law_72_u590 g590) (L_law_72_u623 g623) (L_law_72_u666 g666) (L_law_72_u709 g709) (L_law_72_u742 g742) (L_law_72_u785 g785) (L_law_72_u798 g798) (L_law_72_u841 g841) (L_law_72_u864 g864) (L_law_72_u877 g877) (L_law_72_u910 g910) (L_law_72_u933 g933) (L_law_72_u986 g986) (L_law_72_u1039 g1039) (L_law_72_u1082 g1082) (L_law_72_u1125 g1125) (L_law_72_u1148 g1148) (L_law_72_u1181 g1181) (L_law_72_u1214 g1214) (L_law_72_u1237 g1237) (L_law_72_u1260 g1260) (L_law_72_u1283 g1283) (L_law_72_u1296 g1296) (L_law_72_u1329 g1329) (L_law_72_u1352 g1352) (L_law_72_u1375 g1375) (L_law_72_u1388 g1388) (L_law_72_u1431 g1431) (L_law_72_u1474 g1474) (L_law_72_u1507 g1507) (L_law_72_u1570 g1570) (L_law_72_u1613 g1613) (L_law_72_u1646 g1646) (L_law_72_u1679 g1679) (L_law_72_u1712 g1712) (L_law_72_u1735 g1735) (L_law_72_u1758 g1758) (L_law_72_u1771 g1771) (L_law_72_u1784 g1784) (L_law_72_u1807 g1807) [some (.inr (72, x0)), some (.inr (10, x1)), some (.inr (11, x2)), some (.inl x3)] [] h = L_law_72_f18 L xs g244 g257 g310 g343 g392 g425 g458 g481 g524 g557 g590 g623 g666 g709 g742 g785 g798 g841 g864 g877 g910 g933 g986 g1039 g1082 g1125 g1148 g1181 g1214 g1237 g1260 g1283 g1296 g1329 g1352 g1375 g1388 g1431 g1474 g1507 g1570 g1613 g1646 g1679 g1712 g1735 g1758 g1771 g1784 g1807 x0 x1 x2 x3 h := rfl
theorem L_law_72_m18 {L : Nat} {xs : Nat → Int32} {g244 G244 : Nat → Nat → Nat → Int32 → PH → Option Rs} {g257 G257 : Nat → Nat → Nat → Int32 → PH → Option Rs} {g310 G310 : Nat → Nat → Nat → Int32 → PH → Option Rs} {g343 G343 : Nat → Nat → Nat → Int32 → PH → Option Rs} {g392 G392 : Nat → Nat → Nat → Int32 → PH → Option Rs} {g425 G425 : Nat → Nat → Nat → Int32 → PH → Option Rs} {g458 G458 : Nat → Nat → Nat → Int32 → PH → Option Rs} {g481 G481 : Nat → Nat → Nat → Int32 → PH → Option Rs} {g524 G524 : Nat → Nat → Nat → Int32 → PH → Option Rs} {g557 G557 : Nat → Nat → Nat → Int32 → PH → Option Rs} {g590 G590 : Nat → Nat → Nat → Int32 → PH → Option Rs} {g623 G623 : Nat → Nat → Nat → Int32 → PH → Option Rs} {g666 G666 : Nat → Nat → Nat → Int32 → PH → Option Rs} {g709 G709 : Nat → Nat → Nat → Int32 → PH → Option Rs} {g742 G742 : Nat → Nat → Nat → Int32 → PH → Option Rs} {g785 G785 : Nat → Nat → Nat → Int32 → PH → Option Rs} {g798 G798 : Nat → Nat → Nat → Int32 → PH → Option Rs} {g841 G841 : Nat → Nat → Nat → Int32 → PH → Option Rs} {g864 G864 : Nat → Nat → Nat → Int32 → PH → Option Rs} {g877 G877 : Nat → Nat → Nat → Int32 → PH → Option Rs} {g910 G910 : Nat → Nat → Nat → Int32 → PH → Option Rs} {g933 G933 : Nat → Nat → Nat → Int32 → PH → Option Rs} {g986 G986 : Nat → Nat → Nat → Int32 → PH → Option Rs} {g1039 G1039 : Nat → Nat → Nat → Int32 → PH → Option Rs} {g1082 G1082 : Nat → Nat → Nat → Int32 → PH → Option Rs} {g1125 G1125 : Nat → Nat → Nat → Int32 → PH → Option Rs} {g1148 G1148 : Nat → Nat → Nat → Int32 → PH → Option Rs} {g1181 G1181 : Nat → Nat → Nat → Int32 → PH → Option Rs} {g1214 G1214 : Nat → Nat → Nat → Int32 → PH → Option Rs} {g1237 G1237 : Nat → Nat → Nat → Int32 → PH → Option Rs} {g1260 G1260 : Nat → Nat → Nat → Int32 → PH → Option Rs} {g1283 G1283 : Nat → Nat → Nat → Int32 → PH → Option Rs} {g1296 G1296 : Nat → Nat → Nat → Int32 → PH → Option Rs} {g1329 G1329 : Nat → Nat → Nat → Int32 → PH → Option Rs} {g1352 G1352 : Nat → Nat → Nat → Int32 → PH → Option Rs} {g1375 G1375 : Nat → Nat → Nat → Int32 → PH → Option Rs} {g1388 G1388 : Nat → Nat → Nat → Int32 → PH → Option Rs} {g1431 G1431 : Nat → Nat → Nat → Int32 → PH → Option Rs} {g1474 G1474 : Nat → Nat → Nat → Int32 → PH → Option Rs} {g1507 G1507 : Nat → Nat → Nat → Int32 → PH → Option Rs} {g1570 G1570 : Nat → Nat → Nat → Int32 → PH → Option Rs} {g1613 G1613 : Nat → Nat → Nat → Int32 → PH → Option Rs} {g1646 G1646 : Nat → Nat → Nat → Int32 → PH → Option Rs} {g1679 G1679 : Nat → Nat → Nat → Int32 → PH → Option Rs} {g1712 G1712 : Nat → Nat → Nat → Int32 → PH → Option Rs} {g1735 G1735 : Nat → Nat → Nat → Int32 → PH → Option Rs} {g1758 G1758 : Nat → Nat → Nat → Int32 → PH → Option Rs} {g1771 G1771 : Nat → Nat → Nat → Int32 → PH → Option Rs} {g1784 G1784 : Nat → Nat → Nat → Int32 → PH → Option Rs} {g1807 G1807 : Nat → Nat → Nat → Int32 → PH → Option Rs} (hg244 : ∀ a0 a1 a2 a3 a4, Mo (g244 a0 a1 a2 a3 a4) (G244 a0 a1 a2 a3 a4)) (hg257 : ∀ a0 a1 a2 a3 a4, Mo (g257 a0 a1 a2 a3 a4) (G257 a0 a1 a2 a3 a4)) (hg310 : ∀ a0 a1 a2 a3 a4, Mo (g310 a0 a1 a2 a3 a4) (G310 a0 a1 a2 a3 a4)) (hg343 : ∀ a0 a1 a2 a3 a4, Mo (g343 a0 a1 a2 a3 a4) (G343 a0 a1 a2 a3 a4)) (hg392 : ∀ a0 a1 a2 a3 a4, Mo (g392 a0 a1 a2 a3 a4) (G392 a0 a1 a2 a3 a4)) (hg425 : ∀ a0 a1 a2 a3 a4, Mo (g425 a0 a1 a2 a3 a4) (G425 a0 a1 a2 a3 a4)) (hg458 : ∀ a0 a1 a2 a3 a4, Mo (g458 a0 a1 a2 a3 a4) (G458 a0 a1 a2 a3 a4)) (hg481 : ∀ a0 a1 a2 a3 a4, Mo (g481 a0 a1 a2 a3 a4) (G481 a0 a1 a2 a3 a4)) (hg524 : ∀ a0 a1 a2 a3 a4, Mo (g524 a0 a1 a2 a3 a4) (G524 a0 a1 a2 a3 a4)) (hg557 : ∀ a0 a1 a2 a3 a4, Mo (g557 a0 a1 a2 a3 a4) (G557 a0 a1 a2 a3 a4)) (hg590 : ∀ a0 a1 a2 a3 a4, Mo (g590 a0 a1 a2 a3 a4) (G590 a0 a1 a2 a3 a4)) (hg623 : ∀ a0 a1 a2 a3 a4, Mo (g623 a0 a1 a2 a3 a4) (G623 a0 a1 a2 a3 a4)) (hg666 : ∀ a0 a1 a2 a3 a4, Mo (g666 a0 a1 a2 a3 a4) (G666 a0 a1 a2 a3 a4)) (hg709 : ∀ a0 a1 a2 a3 a4, Mo (g709 a0 a1 a2 a3 a4) (G709 a0 a1 a2 a3 a4)) (hg742 : ∀ a0 a1 a2 a3 a4, Mo (g742 a0 a1 a2 a3 a4) (G742 a0 a1 a2 a3 a4)) (hg785 : ∀ a0 a1 a2 a3 a4, Mo (g785 a0 a1 a2 a3 a4) (G785 a0 a1 a2 a3 a4)) (hg798 : ∀ a0 a1 a2 a3 a4, Mo (g798 a0 a1 a2 a3 a4) (G798 a0 a1 a2 a3 a4)) (hg841 : ∀ a0 a1 a2 a3 a4, Mo (g841 a0 a1 a2 a3 a4) (G841 a0 a1 a2 a3 a4)) (hg864 : ∀ a0 a1 a2 a3 a4, Mo (g864 a0 a1 a2 a3 a4) (G864 a0 a1 a2 a3 a4)) (hg877 : ∀ a0 a1 a2 a3 a4, Mo (g877 a0 a1 a2 a3 a4) (G877 a0 a1 a2 a3 a4)) (hg910 : ∀ a0 a1 a2 a3 a4, Mo (g910 a0 a1 a2 a3 a4) (G910 a0 a1 a2 a3 a4)) (hg933 : ∀ a0 a1 a2 a3 a4, Mo (g933 a0 a1 a2 a3 a4) (G933 a0 a1 a2 a3 a4)) (hg986 : ∀ a0 a1 a2 a3 a4, Mo (g986 a0 a1 a2 a3 a4) (G986 a0 a1 a2 a3 a4)) (hg1039 : ∀ a0 a1 a2 a3 a4, Mo (g1039 a0 a1 a2 a3 a4) (G1039 a0 a1 a2 a3 a4)) (hg1082 : ∀ a0 a1 a2 a3 a4, Mo (g1082 a0 a1 a2 a3 a4) (G1082 a0 a1 a2 a3 a4)) (hg1125 : ∀ a0 a1 a2 a3 a4, Mo (g1125 a0 a1 a2 a3 a4) (G1125 a0 a1 a2 a3 a4)) (hg1148 : ∀ a0 a1 a2 a3 a4, Mo (g1148 a0 a1 a2 a3 a4) (G1148 a0 a1 a2 a3 a4)) (hg1181 : ∀ a0 a1 a2 a3 a4, Mo (g1181 a0 a1 a2 a3 a4) (G1181 a0 a1 a2 a3 a4)) (hg1214 : ∀ a0 a1 a2 a3 a4, Mo (g1214 a0 a1 a2 a3 a4) (G1214 a0 a1 a2 a3 a4)) (hg1237 : ∀ a0 a1 a2 a3 a4, Mo (g1237 a0 a1 a2 a3 a4) (G1237 a0 a1 a2 a3 a4)) (hg1260 : ∀ a0 a1 a2 a3 a4, Mo (g1260 a0 a1 a2 a3 a4) (G1260 a0 a1 a2 a3 a4)) (hg1283 : ∀ a0 a1 a2 a3 a4, Mo (g1283 a0 a1 a2 a3 a4) (G1283 a0 a1 a2 a3 a4)) (hg1296 : ∀ a0 a1 a2 a3 a4, Mo (g1296 a0 a1 a2 a3 a4) (G1296 a0 a1 a2 a3 a4)) (hg1329 : ∀ a0 a1 a2 a3 a4, Mo (g1329 a0 a1 a2 a3 a4) (G1329 a0 a1 a2 a3 a4)) (hg1352 : ∀ a0 a1 a2 a3 a4, Mo (g1352 a0 a1 a2 a3 a4) (G1352 a0 a1 a2 a3 a4)) (hg1375 : ∀ a0 a1 a2 a3 a4, Mo (g1375 a0 a1 a2 a3 a4) (G1375 a0 a1 a2 a3 a4)) (hg1388 : ∀ a0 a1 a2 a3 a4, Mo (g1388 a0 a1 a2 a3 a4) (G1388 a0 a1 a2 a3 a4)) (hg1431 : ∀ a0 a1 a2 a3 a4, Mo (g1431 a0 a1 a2 a3 a4) (G1431 a0 a1 a2 a3 a4)) (hg1474 : ∀ a0 a1 a2 a3 a4, Mo (g1474 a0 a1 a2 a3 a4) (G1474 a0 a1 a2 a3 a4)) (hg1507 : ∀ a0 a1 a2 a3 a4, Mo (g1507 a0 a1 a2 a3 a4) (G1507 a0 a1 a2 a3 a4)) (hg1570 : ∀ a0 a1 a2 a3 a4, Mo (g1570 a0 a1 a2 a3 a4) (G1570 a0 a1 a2 a3 a4)) (hg1613 : ∀ a0 a1 a2 a3 a4, Mo (g1613 a0 a1 a2 a3 a4) (G1613 a0 a1 a2 a3 a4)) (hg1646 : ∀ a0 a1 a2 a3 a4, Mo (g1646 a0 a1 a2 a3 a4) (G1646 a0 a1 a2 a3 a4)) (hg1679 : ∀ a0 a1 a2 a3 a4, Mo (g1679 a0 a1 a2 a3 a4) (G1679 a0 a1 a2 a3 a4)) (hg1712 : ∀ a0 a1 a2 a3 a4, Mo (g1712 a0 a1 a2 a3 a4) (G1712 a0 a1 a2 a3 a4)) (hg1735 : ∀ a0 a1 a2 a3 a4, Mo (g1735 a0 a1 a2 a3 a4) (G1735 a0 a1 a2 a3 a4)) (hg1758 : ∀ a0 a1 a2 a3 a4, Mo (g1758 a0 a1 a2 a3 a4) (G1758 a0 a1 a2 a3 a4)) (hg1771 : ∀ a0 a1 a2 a3 a4, Mo (g1771 a0 a1 a2 a3 a4) (G1771 a0 a1 a2 a3 a4)) (hg1784 : ∀ a0 a1 a2 a3 a4, Mo (g1784 a0 a1 a2 a3 a4) (G1784 a0 a1 a2 a3 a4)) (hg1807 : ∀ a0 a1 a2 a3 a4, Mo (g1807 a0 a1 a2 a3 a4) (G1807 a0 a1 a2 a3 a4)) (x0 : Nat) (x1 : Nat) (x2 : Nat) (x3 : Int32) (h : PH) : Mo (L_law_72_f18 L xs g244 g257 g310 g343 g392 g425 g458 g481 g524 g557 g590 g623 g666 g709 g742 g785 g798 g841 g864 g877 g910 g933 g986 g1039 g1082 g1125 g1148 g1181 g1214 g1237 g1260 g1283 g1296 g1329 g1352 g1375 g1388 g1431 g1474 g1507 g1570 g1613 g1646 g1679 g1712 g1735 g1758 g1771 g1784 g1807 x0 x1 x2 x3 h) (L_law_72_f18 L xs G244 G257 G310 G343 G392 G425 G458 G481 G524 G557 G590 G623 G666 G709 G742 G785 G798 G841 G864 G877 G910 G933 G986 G1039 G1082 G1125 G1148 G1181 G1214 G1237 G1260 G1283 G1296 G1329 G1352 G1375 G1388 G1431 G1474 G1507 G1570 G1613 G1646 G1679 G1712 G1735 G1758 G1771 G1784 G1807 x0 x1 x2 x3 h) := (mo_nn fun r7 => (mo_sc0 (mo_if (mo_bz mo_rf) (mo_nn fun r8 => (mo_sc0 (mo_ix fun j9 => (mo_wi fun v10 => (mo_if (hg244 x0 x1 x2 x3 h) (mo_if (hg257 x0 x1 x2 x3 h) (mo_if (hg310 x0 x1 x2 x3 h) (mo_if (hg343 x0 x1 x2 x3 h) (mo_if (hg392 x0 x1 x2 x3 h) (mo_if (hg425 x0 x1 x2 x3 h) (mo_if (hg458 x0 x1 x2 x3 h) (mo_if (hg481 x0 x1 x2 x3 h) (mo_if (hg524 x0 x1 x2 x3 h) (mo_if (hg557 x0 x1 x2 x3 h) (mo_if (hg590 x0 x1 x2 x3 h) (mo_if (hg623 x0 x1 x2 x3 h) (mo_if (hg666 x0 x1 x2 x3 h) (mo_if (hg709 x0 x1 x2 x3 h) (mo_if (hg742 x0 x1 x2 x3 h) (mo_if (hg785 x0 x1 x2 x3 h) (mo_if (hg798 x0 x1 x2 x3 h) (mo_if (hg841 x0 x1 x2 x3 h) (mo_if (hg864 x0 x1 x2 x3 h) (mo_if (hg877 x0 x1 x2 x3 h) (mo_if (hg910 x0 x1 x2 x3 h) (mo_if (hg933 x0 x1 x2 x3 h) (mo_if (hg986 x0 x1 x2 x3 h) (mo_if (hg1039 x0 x1 x2 x3 h) (mo_if (hg1082 x0 x1 x2 x3 h) (mo_if (hg1125 x0 x1 x2 x3 h) (mo_if (hg1148 x0 x1 x2 x3 h) (mo_if (hg1181 x0 x1 x2 x3 h) (mo_if (hg1214 x0 x1 x2 x3 h) (mo_if (hg1237 x0 x1 x2 x3 h) (mo_if (hg1260 x0 x1 x2 x3 h) (mo_if (hg1283 x0 x1 x2 x3 h) (mo_if (hg1296 x0 x1 x2 x3 h) (mo_if (hg1329 x0 x1 x2 x3 h) (mo_if (hg1352 x0 x1 x2 x3 h) (mo_if (hg1375 x0 x1 x2 x3 h) (mo_if (hg1388 x0 x1 x2 x3 h) (mo_if (hg1431 x0 x1 x2 x3 h) (mo_if (hg1474 x0 x1 x2 x3 h) (mo_if (hg1507 x0 x1 x2 x3 h) (mo_if (hg1570 x0 x1 x2 x3 h) (mo_if (hg1613 x0 x1 x2 x3 h) (mo_if (hg1646 x0 x1 x2 x3 h) (mo_if (hg1679 x0 x1 x2 x3 h) (mo_if (hg1712 x0 x1 x2 x3 h) (mo_if (hg1735 x0 x1 x2 x3 h) (mo_if (hg1758 x0 x1 x2 x3 h) (mo_if (hg1771 x0 x1 x2 x3 h) (mo_if (hg1784 x0 x1 x2 x3 h) (hg1807 x0 x1 x2 x3 h)))))))))))))))))))))))))))))))))))))))))))))))))))))))))
theorem L_law_72_w18 {L : Nat} {xs : Nat → Int32} {z : CZ} (hX : XS (L_law_72_x z) L xs) {g244 : Nat → Nat → Nat → Int32 → PH → Option Rs} {g257 : Nat → Nat → Nat → Int32 → PH → Option Rs} {g310 : Nat → Nat → Nat → Int32 → PH → Option Rs} {g343 : Nat → Nat → Nat → Int32 → PH → Option Rs} {g392 : Nat → Nat → Nat → Int32 → PH → Option Rs} {g425 : Nat → Nat → Nat → Int32 → PH → Option Rs} {g458 : Nat → Nat → Nat → Int32 → PH → Option Rs} {g481 : Nat → Nat → Nat → Int32 → PH → Option Rs} {g524 : Nat → Nat → Nat → Int32 → PH → Option Rs} {g557 : Nat → Nat → Nat → Int32 → PH → Option Rs} {g590 : Nat → Nat → Nat → Int32 → PH → Option Rs} {g623 : Nat → Nat → Nat → Int32 → PH → Option Rs} {g666 : Nat → Nat → Nat → Int32 → PH → Option Rs} {g709 : Nat → Nat → Nat → Int32 → PH → Option Rs} {g742 : Nat → Nat → Nat → Int32 → PH → Option Rs} {g785 : Nat → Nat → Nat → Int32 → PH → Option Rs} {g798 : Nat → Nat → Nat → Int32 → PH → Option Rs} {g841 : Nat → Nat → Nat → Int32 → PH → Option Rs} {g864 : Nat → Nat → Nat → Int32 → PH → Option Rs} {g877 : Nat → Nat → Nat → Int32 → PH → Option Rs} {g910 : Nat → Nat → Nat → Int32 → PH → Option Rs} {g933 : Nat → Nat → Nat → Int32 → PH → Option Rs} {g986 : Nat → Nat → Nat → Int32 → PH → Option Rs} {g1039 : Nat → Nat → Nat → Int32 → PH → Option Rs} {g1082 : Nat → Nat → Nat → Int32 → PH → Option Rs} {g1125 : Nat → Nat → Nat → Int32 → PH → Option Rs} {g1148 : Nat → Nat → Nat → Int32 → PH → Option Rs} {g1181 : Nat → Nat → Nat → Int32 → PH → Option Rs} {g1214 : Nat → Nat → Nat → Int32 → PH → Option Rs} {g1237 : Nat → Nat → Nat → Int32 → PH → Option Rs} {g1260 : Nat → Nat → Nat → Int32 → PH → Option Rs} {g1283 : Nat → Nat → Nat → Int32 → PH → Option Rs} {g1296 : Nat → Nat → Nat → Int32 → PH → Option Rs} {g1329 : Nat → Nat → Nat → Int32 → PH → Option Rs} {g1352 : Nat → Nat → Nat → Int32 → PH → Option Rs} {g1375 : Nat → Nat → Nat → Int32 → PH → Option Rs} {g1388 : Nat → Nat → Nat → Int32 → PH → Option Rs} {g1431 : Nat → Nat → Nat → Int32 → PH → Option Rs} {g1474 : Nat → Nat → Nat → Int32 → PH → Option Rs} {g1507 : Nat → Nat → Nat → Int32 → PH → Option Rs} {g1570 : Nat → Nat → Nat → Int32 → PH → Option Rs} {g1613 : Nat → Nat → Nat → Int32 → PH → Option Rs} {g1646 : Nat → Nat → Nat → Int32 → PH → Option Rs} {g1679 : Nat → Nat → Nat → Int32 → PH → Option Rs} {g1712 : Nat → Nat → Nat → Int32 → PH → Option Rs} {g1735 : Nat → Nat → Nat → Int32 → PH → Option Rs} {g1758 : Nat → Nat → Nat → Int32 → PH → Option Rs} {g1771 : Nat → Nat → Nat → Int32 → PH → Option Rs} {g1784 : Nat → Nat → Nat → Int32 → PH → Option Rs} {g1807 : Nat → Nat → Nat → Int32 → PH → Option Rs} (hk244 : SK (L_law_72_x z) 244 (L_law_72_u244 g244)) (hk257 : SK (L_law_72_x z) 257 (L_law_72_u257 g257)) (hk310 : SK (L_law_72_x z) 310 (L_law_72_u310 g310)) (hk343 : SK (L_law_72_x z) 343 (L_law_72_u343 g343)) (hk392 : SK (L_law_72_x z) 392 (L_law_72_u392 g392)) (hk425 : SK (L_law_72_x z) 425 (L_law_72_u425 g425)) (hk458 : SK (L_law_72_x z) 458 (L_law_72_u458 g458)) (hk481 : SK (L_law_72_x z) 481 (L_law_72_u481 g481)) (hk524 : SK (L_law_72_x z) 524 (L_law_72_u524 g524)) (hk557 : SK (L_law_72_x z) 557 (L_law_72_u557 g557)) (hk590 : SK (L_law_72_x z) 590 (L_law_72_u590 g590)) (hk623 : SK (L_law_72_x z) 623 (L_law_72_u623 g623)) (hk666 : SK (L_law_72_x z) 666 (L_law_72_u666 g666)) (hk709 : SK (L_law_72_x z) 709 (L_law_72_u709 g709)) (hk742 : SK (L_law_72_x z) 742 (L_law_72_u742 g742)) (hk785 : SK (L_law_72_x z) 785 (L_law_72_u785 g785)) (hk798 : SK (L_law_72_x z) 798 (L_law_72_u798 g798)) (hk841 : SK (L_law_72_x z) 841 (L_law_72_u841 g841)) (hk864 : SK (L_law_72_x z) 864 (L_law_72_u864 g864)) (hk877 : SK (L_law_72_x z) 877 (L_law_72_u877 g877)) (hk910 : SK (L_law_72_x z) 910 (L_law_72_u910 g910)) (hk933 : SK (L_law_72_x z) 933 (L_law_72_u933 g933)) (hk986 : SK (L_law_72_x z) 986 (L_law_72_u986 g986)) (hk1039 : SK (L_law_72_x z) 1039 (L_law_72_u1039 g1039)) (hk1082 : SK (L_law_72_x z) 1082 (L_law_72_u1082 g1082)) (hk1125 : SK (L_law_72_x z) 1125 (L_law_72_u1125 g1125)) (hk1148 : SK (L_law_72_x z) 1148 (L_law_72_u1148 g1148)) (hk1181 : SK (L_law_72_x z) 1181 (L_law_72_u1181 g1181)) (hk1214 : SK (L_law_72_x z) 1214 (L_law_72_u1214 g1214)) (hk1237 : SK (L_law_72_x z) 1237 (L_law_72_u1237 g1237)) (hk1260 : SK (L_law_72_x z) 1260 (L_law_72_u1260 g1260)) (hk1283 : SK (L_law_72_x z) 1283 (L_law_72_u1283 g1283)) (hk1296 : SK (L_law_72_x z) 1296 (L_law_72_u1296 g1296)) (hk1329 : SK (L_law_72_x z) 1329 (L_law_72_u1329 g1329)) (hk1352 : SK (L_law_72_x z) 1352 (L_law_72_u1352 g1352)) (hk1375 : SK (L_law_72_x z) 1375 (L_law_72_u1375 g1375)) (hk1388 : SK (L_law_72_x z) 1388 (L_law_72_u1388 g1388)) (hk1431 : SK (L_law_72_x z) 1431 (L_law_72_u1431 g1431)) (hk1474 : SK (L_law_72_x z) 1474 (L_law_72_u1474 g1474)) (hk1507 : SK (L_law_72_x z) 1507 (L_law_72_u1507 g1507)) (hk1570 : SK (L_law_72_x z) 1570 (L_law_72_u1570 g1570)) (hk1613 : SK (L_law_72_x z) 1613 (L_law_72_u1613 g1613)) (hk1646 : SK (L_law_72_x z) 1646 (L_law_72_u1646 g1646)) (hk1679 : SK (L_law_72_x z) 1679 (L_law_72_u1679 g1679)) (hk1712 : SK (L_law_72_x z) 1712 (L_law_72_u1712 g1712)) (hk1735 : SK (L_law_72_x z) 1735 (L_law_72_u1735 g1735)) (hk1758 : SK (L_law_72_x z) 1758 (L_law_72_u1758 g1758)) (hk1771 : SK (L_law_72_x z) 1771 (L_law_72_u1771 g1771)) (hk1784 : SK (L_law_72_x z) 1784 (L_law_72_u1784 g1784)) (hk1807 : SK (L_law_72_x z) 1807 (L_law_72_u1807 g1807)) : SK (L_law_72_x z) 18 (L_law_72_u18 (L_law_72_f18 L xs g244 g257 g310 g343 g392 g425 g458 g481 g524 g557 g590 g623 g666 g709 g742 g785 g798 g841 g864 g877 g910 g933 g986 g1039 g1082 g1125 g1148 g1181 g1214 g1237 g1260 g1283 g1296 g1329 g1352 g1375 g1388 g1431 g1474 g1507 g1570 g1613 g1646 g1679 g1712 g1735 g1758 g1771 g1784 g1807)) := by
  intro ls st h r e
  obtain ⟨hst, e⟩ := gL_of e
  obtain ⟨x0, q0, e⟩ := gR_of e
  obtain ⟨x1, q1, e⟩ := gR_of e
  obtain ⟨x2, q2, e⟩ := gR_of e
  obtain ⟨x3, q3, e⟩ := gI_of e
  rw [st_0 hst]
  exact WK.sub (canon := [some (.inr (72, x0)), some (.inr (10, x1)), some (.inr (11, x2)), some (.inl x3)]) rfl ⟨q0, q1, q2, q3, trivial⟩ (L_law_72_s18 hX hk244 hk257 hk310 hk343 hk392 hk425 hk458 hk481 hk524 hk557 hk590 hk623 hk666 hk709 hk742 hk785 hk798 hk841 hk864 hk877 hk910 hk933 hk986 hk1039 hk1082 hk1125 hk1148 hk1181 hk1214 hk1237 hk1260 hk1283 hk1296 hk1329 hk1352 hk1375 hk1388 hk1431 hk1474 hk1507 hk1570 hk1613 hk1646 hk1679 hk1712 hk1735 hk1758 hk1771 hk1784 hk1807 _ _ _ _ ((L_law_72_l18 L xs g244 g257 g310 g343 g392 g425 g458 g481 g524 g557 g590 g623 g666 g709 g742 g785 g798 g841 g864 g877 g910 g933 g986 g1039 g1082 g1125 g1148 g1181 g1214 g1237 g1260 g1283 g1296 g1329 g1352 g1375 g1388 g1431 g1474 g1507 g1570 g1613 g1646 g1679 g1712 g1735 g1758 g1771 g1784 g1807 x0 x1 x2 x3 h).trans e))
noncomputable def L_law_72_f244 (L : Nat) (xs : Nat → Int32) (c_X11_place : Nat → PH → Option Rs) (c_X12_place : Nat → PH → Option Rs) (g1807 : Nat → Nat → Nat → Int32 → PH → Option Rs) (x0 : Nat) (x1 : Nat) (x2 : Nat) (x3 : Int32) (h : PH) : Option Rs :=
  nn x1 fun r11 =>
  cI (c_X11_place r11 h) fun v13 h12 =>
  nn x2 fun r14 =>
  cI (c_X12_place r14 h12) fun v16 h15 =>
  if v13 = v16 then
    g1807 x0 x1 x2 x3 h15
  else
    bz 0 <|
    some (some (.inl 0), h15)
set_option maxRecDepth 100000 in
theorem L_law_72_l244 (L : Nat) (xs : Nat → Int32) (c_X11_place : Nat → PH → Option Rs) (c_X12_place : Nat → PH → Option Rs) (g1807 : Nat → Nat → Nat → Int32 → PH → Option Rs) (x0 : Nat) (x1 : Nat) (x2 : Nat) (x3 : Int32) (h : PH) : L_law_72_b244 L xs c_X11_place c_X12_place (L_law_72_u1807 g1807) [some (.inr (72, x0)), some (.inr (10, x1)), some (.inr (11, x2)), some (.inl x3)] [] h = L_law_72_f244 L xs c_X11_place c_X12_place g1807 x0 x1 x2 x3 h := rfl
theorem L_law_72_m244 {L : Nat} {xs : Nat → Int32} {c_X11_place : Nat → PH → Option Rs} {c_X12_place : Nat → PH → Option Rs} {g1807 G1807 : Nat → Nat → Nat → Int32 → PH → Option Rs} (hg1807 : ∀ a0 a1 a2 a3 a4, Mo (g1807 a0 a1 a2 a3 a4) (G1807 a0 a1 a2 a3 a4)) (x0 : Nat) (x1 : Nat) (x2 : Nat) (x3 : Int32) (h : PH) : Mo (L_law_72_f244 L xs c_X11_place c_X12_place g1807 x0 x1 x2 x3 h) (L_law_72_f244 L xs c_X11_place c_X12_place G1807 x0 x1 x2 x3 h) := (mo_nn fun r11 => (mo_cI fun v13 h12 => (mo_nn fun r14 => (mo_cI fun v16 h15 => (mo_if (hg1807 x0 x1 x2 x3 h15) (mo_bz mo_rf))))))
theorem L_law_72_w244 {L : Nat} {xs : Nat → Int32} {z : CZ} (hX : XS (L_law_72_x z) L xs) {g1807 : Nat → Nat → Nat → Int32 → PH → Option Rs} (hk1807 : SK (L_law_72_x z) 1807 (L_law_72_u1807 g1807)) : SK (L_law_72_x z) 244 (L_law_72_u244 (L_law_72_f244 L xs X11_place X12_place g1807)) := by
  intro ls st h r e
  obtain ⟨hst, e⟩ := gL_of e
  obtain ⟨x0, q0, e⟩ := gR_of e
  obtain ⟨x1, q1, e⟩ := gR_of e
  obtain ⟨x2, q2, e⟩ := gR_of e
  obtain ⟨x3, q3, e⟩ := gI_of e
  rw [st_0 hst]
  exact WK.sub (canon := [some (.inr (72, x0)), some (.inr (10, x1)), some (.inr (11, x2)), some (.inl x3)]) rfl ⟨q0, q1, q2, q3, trivial⟩ (L_law_72_s244 hX hk1807 _ _ _ _ ((L_law_72_l244 L xs X11_place X12_place g1807 x0 x1 x2 x3 h).trans e))
noncomputable def L_law_72_f257 (L : Nat) (xs : Nat → Int32) (c_X11_way : Nat → Int32 → Int32 → Int32 → Int32 → PH → Option Rs) (c_X12_way : Nat → Int32 → Int32 → Int32 → Int32 → PH → Option Rs) (g1807 : Nat → Nat → Nat → Int32 → PH → Option Rs) (x0 : Nat) (x1 : Nat) (x2 : Nat) (x3 : Int32) (h : PH) : Option Rs :=
  nn x0 fun r17 =>
  sc0 r17 <|
  ix (x3 + 1) L fun j18 =>
  nn x0 fun r19 =>
  sc0 r19 <|
  ix (x3 + 2) L fun j20 =>
  nn x0 fun r21 =>
  sc0 r21 <|
  ix (x3 + 3) L fun j22 =>
  nn x0 fun r23 =>
  sc0 r23 <|
  ix (x3 + 4) L fun j24 =>
  nn x1 fun r25 =>
  cI (c_X11_way r25 (xs j18) (xs j20) (xs j22) (xs j24) h) fun v27 h26 =>
  nn x0 fun r28 =>
  sc0 r28 <|
  ix (x3 + 1) L fun j29 =>
  nn x0 fun r30 =>
  sc0 r30 <|
  ix (x3 + 2) L fun j31 =>
  nn x0 fun r32 =>
  sc0 r32 <|
  ix (x3 + 3) L fun j33 =>
  nn x0 fun r34 =>
  sc0 r34 <|
  ix (x3 + 4) L fun j35 =>
  nn x2 fun r36 =>
  cI (c_X12_way r36 (xs j29) (xs j31) (xs j33) (xs j35) h26) fun v38 h37 =>
  if v27 = v38 then
    g1807 x0 x1 x2 x3 h37
  else
    bz 0 <|
    some (some (.inl 0), h37)
set_option maxRecDepth 100000 in
theorem L_law_72_l257 (L : Nat) (xs : Nat → Int32) (c_X11_way : Nat → Int32 → Int32 → Int32 → Int32 → PH → Option Rs) (c_X12_way : Nat → Int32 → Int32 → Int32 → Int32 → PH → Option Rs) (g1807 : Nat → Nat → Nat → Int32 → PH → Option Rs) (x0 : Nat) (x1 : Nat) (x2 : Nat) (x3 : Int32) (h : PH) : L_law_72_b257 L xs c_X11_way c_X12_way (L_law_72_u1807 g1807) [some (.inr (72, x0)), some (.inr (10, x1)), some (.inr (11, x2)), some (.inl x3)] [] h = L_law_72_f257 L xs c_X11_way c_X12_way g1807 x0 x1 x2 x3 h := rfl
theorem L_law_72_m257 {L : Nat} {xs : Nat → Int32} {c_X11_way : Nat → Int32 → Int32 → Int32 → Int32 → PH → Option Rs} {c_X12_way : Nat → Int32 → Int32 → Int32 → Int32 → PH → Option Rs} {g1807 G1807 : Nat → Nat → Nat → Int32 → PH → Option Rs} (hg1807 : ∀ a0 a1 a2 a3 a4, Mo (g1807 a0 a1 a2 a3 a4) (G1807 a0 a1 a2 a3 a4)) (x0 : Nat) (x1 : Nat) (x2 : Nat) (x3 : Int32) (h : PH) : Mo (L_law_72_f257 L xs c_X11_way c_X12_way g1807 x0 x1 x2 x3 h) (L_law_72_f257 L xs c_X11_way c_X12_way G1807 x0 x1 x2 x3 h) := (mo_nn fun r17 => (mo_sc0 (mo_ix fun j18 => (mo_nn fun r19 => (mo_sc0 (mo_ix fun j20 => (mo_nn fun r21 => (mo_sc0 (mo_ix fun j22 => (mo_nn fun r23 => (mo_sc0 (mo_ix fun j24 => (mo_nn fun r25 => (mo_cI fun v27 h26 => (mo_nn fun r28 => (mo_sc0 (mo_ix fun j29 => (mo_nn fun r30 => (mo_sc0 (mo_ix fun j31 => (mo_nn fun r32 => (mo_sc0 (mo_ix fun j33 => (mo_nn fun r34 => (mo_sc0 (mo_ix fun j35 => (mo_nn fun r36 => (mo_cI fun v38 h37 => (mo_if (hg1807 x0 x1 x2 x3 h37) (mo_bz mo_rf))))))))))))))))))))))))))))))
theorem L_law_72_w257 {L : Nat} {xs : Nat → Int32} {z : CZ} (hX : XS (L_law_72_x z) L xs) {g1807 : Nat → Nat → Nat → Int32 → PH → Option Rs} (hk1807 : SK (L_law_72_x z) 1807 (L_law_72_u1807 g1807)) : SK (L_law_72_x z) 257 (L_law_72_u257 (L_law_72_f257 L xs X11_way X12_way g1807)) := by
  intro ls st h r e
  obtain ⟨hst, e⟩ := gL_of e
  obtain ⟨x0, q0, e⟩ := gR_of e
  obtain ⟨x1, q1, e⟩ := gR_of e
  obtain ⟨x2, q2, e⟩ := gR_of e
  obtain ⟨x3, q3, e⟩ := gI_of e
  rw [st_0 hst]
  exact WK.sub (canon := [some (.inr (72, x0)), some (.inr (10, x1)), some (.inr (11, x2)), some (.inl x3)]) rfl ⟨q0, q1, q2, q3, trivial⟩ (L_law_72_s257 hX hk1807 _ _ _ _ ((L_law_72_l257 L xs X11_way X12_way g1807 x0 x1 x2 x3 h).trans e))
noncomputable def L_law_72_f310 (L : Nat) (xs : Nat → Int32) (c_X11_wayTold : Nat → Int32 → Int32 → PH → Option Rs) (c_X12_wayTold : Nat → Int32 → Int32 → PH → Option Rs) (g1807 : Nat → Nat → Nat → Int32 → PH → Option Rs) (x0 : Nat) (x1 : Nat) (x2 : Nat) (x3 : Int32) (h : PH) : Option Rs :=
  nn x0 fun r39 =>
  sc0 r39 <|
  ix (x3 + 1) L fun j40 =>
  nn x0 fun r41 =>
  sc0 r41 <|
  ix (x3 + 2) L fun j42 =>
  nn x1 fun r43 =>
  cI (c_X11_wayTold r43 (xs j40) (xs j42) h) fun v45 h44 =>
  nn x0 fun r46 =>
  sc0 r46 <|
  ix (x3 + 1) L fun j47 =>
  nn x0 fun r48 =>
  sc0 r48 <|
  ix (x3 + 2) L fun j49 =>
  nn x2 fun r50 =>
  cI (c_X12_wayTold r50 (xs j47) (xs j49) h44) fun v52 h51 =>
  if v45 = v52 then
    g1807 x0 x1 x2 x3 h51
  else
    bz 0 <|
    some (some (.inl 0), h51)
set_option maxRecDepth 100000 in
theorem L_law_72_l310 (L : Nat) (xs : Nat → Int32) (c_X11_wayTold : Nat → Int32 → Int32 → PH → Option Rs) (c_X12_wayTold : Nat → Int32 → Int32 → PH → Option Rs) (g1807 : Nat → Nat → Nat → Int32 → PH → Option Rs) (x0 : Nat) (x1 : Nat) (x2 : Nat) (x3 : Int32) (h : PH) : L_law_72_b310 L xs c_X11_wayTold c_X12_wayTold (L_law_72_u1807 g1807) [some (.inr (72, x0)), some (.inr (10, x1)), some (.inr (11, x2)), some (.inl x3)] [] h = L_law_72_f310 L xs c_X11_wayTold c_X12_wayTold g1807 x0 x1 x2 x3 h := rfl
theorem L_law_72_m310 {L : Nat} {xs : Nat → Int32} {c_X11_wayTold : Nat → Int32 → Int32 → PH → Option Rs} {c_X12_wayTold : Nat → Int32 → Int32 → PH → Option Rs} {g1807 G1807 : Nat → Nat → Nat → Int32 → PH → Option Rs} (hg1807 : ∀ a0 a1 a2 a3 a4, Mo (g1807 a0 a1 a2 a3 a4) (G1807 a0 a1 a2 a3 a4)) (x0 : Nat) (x1 : Nat) (x2 : Nat) (x3 : Int32) (h : PH) : Mo (L_law_72_f310 L xs c_X11_wayTold c_X12_wayTold g1807 x0 x1 x2 x3 h) (L_law_72_f310 L xs c_X11_wayTold c_X12_wayTold G1807 x0 x1 x2 x3 h) := (mo_nn fun r39 => (mo_sc0 (mo_ix fun j40 => (mo_nn fun r41 => (mo_sc0 (mo_ix fun j42 => (mo_nn fun r43 => (mo_cI fun v45 h44 => (mo_nn fun r46 => (mo_sc0 (mo_ix fun j47 => (mo_nn fun r48 => (mo_sc0 (mo_ix fun j49 => (mo_nn fun r50 => (mo_cI fun v52 h51 => (mo_if (hg1807 x0 x1 x2 x3 h51) (mo_bz mo_rf))))))))))))))))))
theorem L_law_72_w310 {L : Nat} {xs : Nat → Int32} {z : CZ} (hX : XS (L_law_72_x z) L xs) {g1807 : Nat → Nat → Nat → Int32 → PH → Option Rs} (hk1807 : SK (L_law_72_x z) 1807 (L_law_72_u1807 g1807)) : SK (L_law_72_x z) 310 (L_law_72_u310 (L_law_72_f310 L xs X11_wayTold X12_wayTold g1807)) := by
  intro ls st h r e
  obtain ⟨hst, e⟩ := gL_of e
  obtain ⟨x0, q0, e⟩ := gR_of e
  obtain ⟨x1, q1, e⟩ := gR_of e
  obtain ⟨x2, q2, e⟩ := gR_of e
  obtain ⟨x3, q3, e⟩ := gI_of e
  rw [st_0 hst]
  exact WK.sub (canon := [some (.inr (72, x0)), some (.inr (10, x1)), some (.inr (11, x2)), some (.inl x3)]) rfl ⟨q0, q1, q2, q3, trivial⟩ (L_law_72_s310 hX hk1807 _ _ _ _ ((L_law_72_l310 L xs X11_wayTold X12_wayTold g1807 x0 x1 x2 x3 h).trans e))
noncomputable def L_law_72_f343 (L : Nat) (xs : Nat → Int32) (g362 : Nat → Nat → Nat → Int32 → Int32 → Int32 → Nat → PH → Option Rs) (x0 : Nat) (x1 : Nat) (x2 : Nat) (x3 : Int32) (h : PH) : Option Rs :=
  nn x0 fun r53 =>
  sc0 r53 <|
  ix (x3 + 1) L fun j54 =>
  nn x0 fun r55 =>
  sc0 r55 <|
  ix (x3 + 2) L fun j56 =>
  if (xs j56) = 0 then
    g362 x0 x1 x2 x3 0 (xs j54) x1 h
  else
    g362 x0 x1 x2 x3 1 (xs j54) x1 h
set_option maxRecDepth 100000 in
theorem L_law_72_l343 (L : Nat) (xs : Nat → Int32) (g362 : Nat → Nat → Nat → Int32 → Int32 → Int32 → Nat → PH → Option Rs) (x0 : Nat) (x1 : Nat) (x2 : Nat) (x3 : Int32) (h : PH) : L_law_72_b343 L xs (L_law_72_u362 g362) [some (.inr (72, x0)), some (.inr (10, x1)), some (.inr (11, x2)), some (.inl x3)] [] h = L_law_72_f343 L xs g362 x0 x1 x2 x3 h := rfl
theorem L_law_72_m343 {L : Nat} {xs : Nat → Int32} {g362 G362 : Nat → Nat → Nat → Int32 → Int32 → Int32 → Nat → PH → Option Rs} (hg362 : ∀ a0 a1 a2 a3 a4 a5 a6 a7, Mo (g362 a0 a1 a2 a3 a4 a5 a6 a7) (G362 a0 a1 a2 a3 a4 a5 a6 a7)) (x0 : Nat) (x1 : Nat) (x2 : Nat) (x3 : Int32) (h : PH) : Mo (L_law_72_f343 L xs g362 x0 x1 x2 x3 h) (L_law_72_f343 L xs G362 x0 x1 x2 x3 h) := (mo_nn fun r53 => (mo_sc0 (mo_ix fun j54 => (mo_nn fun r55 => (mo_sc0 (mo_ix fun j56 => (mo_if (hg362 x0 x1 x2 x3 0 (xs j54) x1 h) (hg362 x0 x1 x2 x3 1 (xs j54) x1 h))))))))
theorem L_law_72_w343 {L : Nat} {xs : Nat → Int32} {z : CZ} (hX : XS (L_law_72_x z) L xs) {g362 : Nat → Nat → Nat → Int32 → Int32 → Int32 → Nat → PH → Option Rs} (hk362 : SK (L_law_72_x z) 362 (L_law_72_u362 g362)) : SK (L_law_72_x z) 343 (L_law_72_u343 (L_law_72_f343 L xs g362)) := by
  intro ls st h r e
  obtain ⟨hst, e⟩ := gL_of e
  obtain ⟨x0, q0, e⟩ := gR_of e
  obtain ⟨x1, q1, e⟩ := gR_of e
  obtain ⟨x2, q2, e⟩ := gR_of e
  obtain ⟨x3, q3, e⟩ := gI_of e
  rw [st_0 hst]
  exact WK.sub (canon := [some (.inr (72, x0)), some (.inr (10, x1)), some (.inr (11, x2)), some (.inl x3)]) rfl ⟨q0, q1, q2, q3, trivial⟩ (L_law_72_s343 hX hk362 _ _ _ _ ((L_law_72_l343 L xs g362 x0 x1 x2 x3 h).trans e))
noncomputable def L_law_72_f362 (L : Nat) (xs : Nat → Int32) (c_X11_shut : Nat → Int32 → Int32 → PH → Option Rs) (g384 : Nat → Nat → Nat → Int32 → Int32 → Int32 → Nat → Int32 → PH → Option Rs) (x0 : Nat) (x1 : Nat) (x2 : Nat) (x3 : Int32) (s0 : Int32) (s1 : Int32) (s2 : Nat) (h : PH) : Option Rs :=
  nn s2 fun r57 =>
  cI (c_X11_shut r57 s1 s0 h) fun v59 h58 =>
  nn x0 fun r60 =>
  sc0 r60 <|
  ix (x3 + 1) L fun j61 =>
  nn x0 fun r62 =>
  sc0 r62 <|
  ix (x3 + 2) L fun j63 =>
  if (xs j63) = 0 then
    g384 x0 x1 x2 x3 0 (xs j61) x2 v59 h58
  else
    g384 x0 x1 x2 x3 1 (xs j61) x2 v59 h58
set_option maxRecDepth 100000 in
theorem L_law_72_l362 (L : Nat) (xs : Nat → Int32) (c_X11_shut : Nat → Int32 → Int32 → PH → Option Rs) (g384 : Nat → Nat → Nat → Int32 → Int32 → Int32 → Nat → Int32 → PH → Option Rs) (x0 : Nat) (x1 : Nat) (x2 : Nat) (x3 : Int32) (s0 : Int32) (s1 : Int32) (s2 : Nat) (h : PH) : L_law_72_b362 L xs c_X11_shut (L_law_72_u384 g384) [some (.inr (72, x0)), some (.inr (10, x1)), some (.inr (11, x2)), some (.inl x3)] [.inl s0, .inl s1, .inr (10, s2)] h = L_law_72_f362 L xs c_X11_shut g384 x0 x1 x2 x3 s0 s1 s2 h := rfl
theorem L_law_72_m362 {L : Nat} {xs : Nat → Int32} {c_X11_shut : Nat → Int32 → Int32 → PH → Option Rs} {g384 G384 : Nat → Nat → Nat → Int32 → Int32 → Int32 → Nat → Int32 → PH → Option Rs} (hg384 : ∀ a0 a1 a2 a3 a4 a5 a6 a7 a8, Mo (g384 a0 a1 a2 a3 a4 a5 a6 a7 a8) (G384 a0 a1 a2 a3 a4 a5 a6 a7 a8)) (x0 : Nat) (x1 : Nat) (x2 : Nat) (x3 : Int32) (s0 : Int32) (s1 : Int32) (s2 : Nat) (h : PH) : Mo (L_law_72_f362 L xs c_X11_shut g384 x0 x1 x2 x3 s0 s1 s2 h) (L_law_72_f362 L xs c_X11_shut G384 x0 x1 x2 x3 s0 s1 s2 h) := (mo_nn fun r57 => (mo_cI fun v59 h58 => (mo_nn fun r60 => (mo_sc0 (mo_ix fun j61 => (mo_nn fun r62 => (mo_sc0 (mo_ix fun j63 => (mo_if (hg384 x0 x1 x2 x3 0 (xs j61) x2 v59 h58) (hg384 x0 x1 x2 x3 1 (xs j61) x2 v59 h58))))))))))
theorem L_law_72_w362 {L : Nat} {xs : Nat → Int32} {z : CZ} (hX : XS (L_law_72_x z) L xs) {g384 : Nat → Nat → Nat → Int32 → Int32 → Int32 → Nat → Int32 → PH → Option Rs} (hk384 : SK (L_law_72_x z) 384 (L_law_72_u384 g384)) : SK (L_law_72_x z) 362 (L_law_72_u362 (L_law_72_f362 L xs X11_shut g384)) := by
  intro ls st h r e
  obtain ⟨hst, e⟩ := gL_of e
  obtain ⟨x0, q0, e⟩ := gR_of e
  obtain ⟨x1, q1, e⟩ := gR_of e
  obtain ⟨x2, q2, e⟩ := gR_of e
  obtain ⟨x3, q3, e⟩ := gI_of e
  obtain ⟨s0, q4, e⟩ := gI_of e
  obtain ⟨s1, q5, e⟩ := gI_of e
  obtain ⟨s2, q6, e⟩ := gR_of e
  rw [st_3 hst q4 q5 q6]
  exact WK.sub (canon := [some (.inr (72, x0)), some (.inr (10, x1)), some (.inr (11, x2)), some (.inl x3)]) rfl ⟨q0, q1, q2, q3, trivial⟩ (L_law_72_s362 hX hk384 _ _ _ _ ((L_law_72_l362 L xs X11_shut g384 x0 x1 x2 x3 s0 s1 s2 h).trans e))
noncomputable def L_law_72_f384 (L : Nat) (xs : Nat → Int32) (c_X12_shut : Nat → Int32 → Int32 → PH → Option Rs) (g1807 : Nat → Nat → Nat → Int32 → PH → Option Rs) (x0 : Nat) (x1 : Nat) (x2 : Nat) (x3 : Int32) (s0 : Int32) (s1 : Int32) (s2 : Nat) (s3 : Int32) (h : PH) : Option Rs :=
  nn s2 fun r64 =>
  cI (c_X12_shut r64 s1 s0 h) fun v66 h65 =>
  if s3 = v66 then
    g1807 x0 x1 x2 x3 h65
  else
    bz 0 <|
    some (some (.inl 0), h65)
set_option maxRecDepth 100000 in
theorem L_law_72_l384 (L : Nat) (xs : Nat → Int32) (c_X12_shut : Nat → Int32 → Int32 → PH → Option Rs) (g1807 : Nat → Nat → Nat → Int32 → PH → Option Rs) (x0 : Nat) (x1 : Nat) (x2 : Nat) (x3 : Int32) (s0 : Int32) (s1 : Int32) (s2 : Nat) (s3 : Int32) (h : PH) : L_law_72_b384 L xs c_X12_shut (L_law_72_u1807 g1807) [some (.inr (72, x0)), some (.inr (10, x1)), some (.inr (11, x2)), some (.inl x3)] [.inl s0, .inl s1, .inr (11, s2), .inl s3] h = L_law_72_f384 L xs c_X12_shut g1807 x0 x1 x2 x3 s0 s1 s2 s3 h := rfl
theorem L_law_72_m384 {L : Nat} {xs : Nat → Int32} {c_X12_shut : Nat → Int32 → Int32 → PH → Option Rs} {g1807 G1807 : Nat → Nat → Nat → Int32 → PH → Option Rs} (hg1807 : ∀ a0 a1 a2 a3 a4, Mo (g1807 a0 a1 a2 a3 a4) (G1807 a0 a1 a2 a3 a4)) (x0 : Nat) (x1 : Nat) (x2 : Nat) (x3 : Int32) (s0 : Int32) (s1 : Int32) (s2 : Nat) (s3 : Int32) (h : PH) : Mo (L_law_72_f384 L xs c_X12_shut g1807 x0 x1 x2 x3 s0 s1 s2 s3 h) (L_law_72_f384 L xs c_X12_shut G1807 x0 x1 x2 x3 s0 s1 s2 s3 h) := (mo_nn fun r64 => (mo_cI fun v66 h65 => (mo_if (hg1807 x0 x1 x2 x3 h65) (mo_bz mo_rf))))
theorem L_law_72_w384 {L : Nat} {xs : Nat → Int32} {z : CZ} (hX : XS (L_law_72_x z) L xs) {g1807 : Nat → Nat → Nat → Int32 → PH → Option Rs} (hk1807 : SK (L_law_72_x z) 1807 (L_law_72_u1807 g1807)) : SK (L_law_72_x z) 384 (L_law_72_u384 (L_law_72_f384 L xs X12_shut g1807)) := by
  intro ls st h r e
  obtain ⟨hst, e⟩ := gL_of e
  obtain ⟨x0, q0, e⟩ := gR_of e
  obtain ⟨x1, q1, e⟩ := gR_of e
  obtain ⟨x2, q2, e⟩ := gR_of e
  obtain ⟨x3, q3, e⟩ := gI_of e
  obtain ⟨s0, q4, e⟩ := gI_of e
  obtain ⟨s1, q5, e⟩ := gI_of e
  obtain ⟨s2, q6, e⟩ := gR_of e
  obtain ⟨s3, q7, e⟩ := gI_of e
  rw [st_4 hst q4 q5 q6 q7]
  exact WK.sub (canon := [some (.inr (72, x0)), some (.inr (10, x1)), some (.inr (11, x2)), some (.inl x3)]) rfl ⟨q0, q1, q2, q3, trivial⟩ (L_law_72_s384 hX hk1807 _ _ _ _ ((L_law_72_l384 L xs X12_shut g1807 x0 x1 x2 x3 s0 s1 s2 s3 h).trans e))
noncomputable def L_law_72_f392 (L : Nat) (xs : Nat → Int32) (c_X11_goal : Nat → Int32 → Int32 → PH → Option Rs) (c_X12_goal : Nat → Int32 → Int32 → PH → Option Rs) (g1807 : Nat → Nat → Nat → Int32 → PH → Option Rs) (x0 : Nat) (x1 : Nat) (x2 : Nat) (x3 : Int32) (h : PH) : Option Rs :=
  nn x0 fun r67 =>
  sc0 r67 <|
  ix (x3 + 1) L fun j68 =>
  nn x0 fun r69 =>
  sc0 r69 <|
  ix (x3 + 2) L fun j70 =>
  nn x1 fun r71 =>
  cI (c_X11_goal r71 (xs j68) (xs j70) h) fun v73 h72 =>
  nn x0 fun r74 =>
  sc0 r74 <|
  ix (x3 + 1) L fun j75 =>
  nn x0 fun r76 =>
  sc0 r76 <|
  ix (x3 + 2) L fun j77 =>
  nn x2 fun r78 =>
  cI (c_X12_goal r78 (xs j75) (xs j77) h72) fun v80 h79 =>
  if v73 = v80 then
    g1807 x0 x1 x2 x3 h79
  else
    bz 0 <|
    some (some (.inl 0), h79)
set_option maxRecDepth 100000 in
theorem L_law_72_l392 (L : Nat) (xs : Nat → Int32) (c_X11_goal : Nat → Int32 → Int32 → PH → Option Rs) (c_X12_goal : Nat → Int32 → Int32 → PH → Option Rs) (g1807 : Nat → Nat → Nat → Int32 → PH → Option Rs) (x0 : Nat) (x1 : Nat) (x2 : Nat) (x3 : Int32) (h : PH) : L_law_72_b392 L xs c_X11_goal c_X12_goal (L_law_72_u1807 g1807) [some (.inr (72, x0)), some (.inr (10, x1)), some (.inr (11, x2)), some (.inl x3)] [] h = L_law_72_f392 L xs c_X11_goal c_X12_goal g1807 x0 x1 x2 x3 h := rfl
theorem L_law_72_m392 {L : Nat} {xs : Nat → Int32} {c_X11_goal : Nat → Int32 → Int32 → PH → Option Rs} {c_X12_goal : Nat → Int32 → Int32 → PH → Option Rs} {g1807 G1807 : Nat → Nat → Nat → Int32 → PH → Option Rs} (hg1807 : ∀ a0 a1 a2 a3 a4, Mo (g1807 a0 a1 a2 a3 a4) (G1807 a0 a1 a2 a3 a4)) (x0 : Nat) (x1 : Nat) (x2 : Nat) (x3 : Int32) (h : PH) : Mo (L_law_72_f392 L xs c_X11_goal c_X12_goal g1807 x0 x1 x2 x3 h) (L_law_72_f392 L xs c_X11_goal c_X12_goal G1807 x0 x1 x2 x3 h) := (mo_nn fun r67 => (mo_sc0 (mo_ix fun j68 => (mo_nn fun r69 => (mo_sc0 (mo_ix fun j70 => (mo_nn fun r71 => (mo_cI fun v73 h72 => (mo_nn fun r74 => (mo_sc0 (mo_ix fun j75 => (mo_nn fun r76 => (mo_sc0 (mo_ix fun j77 => (mo_nn fun r78 => (mo_cI fun v80 h79 => (mo_if (hg1807 x0 x1 x2 x3 h79) (mo_bz mo_rf))))))))))))))))))
theorem L_law_72_w392 {L : Nat} {xs : Nat → Int32} {z : CZ} (hX : XS (L_law_72_x z) L xs) {g1807 : Nat → Nat → Nat → Int32 → PH → Option Rs} (hk1807 : SK (L_law_72_x z) 1807 (L_law_72_u1807 g1807)) : SK (L_law_72_x z) 392 (L_law_72_u392 (L_law_72_f392 L xs X11_goal X12_goal g1807)) := by
  intro ls st h r e
  obtain ⟨hst, e⟩ := gL_of e
  obtain ⟨x0, q0, e⟩ := gR_of e
  obtain ⟨x1, q1, e⟩ := gR_of e
  obtain ⟨x2, q2, e⟩ := gR_of e
  obtain ⟨x3, q3, e⟩ := gI_of e
  rw [st_0 hst]
  exact WK.sub (canon := [some (.inr (72, x0)), some (.inr (10, x1)), some (.inr (11, x2)), some (.inl x3)]) rfl ⟨q0, q1, q2, q3, trivial⟩ (L_law_72_s392 hX hk1807 _ _ _ _ ((L_law_72_l392 L xs X11_goal X12_goal g1807 x0 x1 x2 x3 h).trans e))
noncomputable def L_law_72_f425 (L : Nat) (xs : Nat → Int32) (c_X11_goalTold : Nat → Int32 → Int32 → PH → Option Rs) (c_X12_goalTold : Nat → Int32 → Int32 → PH → Option Rs) (g1807 : Nat → Nat → Nat → Int32 → PH → Option Rs) (x0 : Nat) (x1 : Nat) (x2 : Nat) (x3 : Int32) (h : PH) : Option Rs :=
  nn x0 fun r81 =>
  sc0 r81 <|
  ix (x3 + 1) L fun j82 =>
  nn x0 fun r83 =>
  sc0 r83 <|
  ix (x3 + 2) L fun j84 =>
  nn x1 fun r85 =>
  cI (c_X11_goalTold r85 (xs j82) (xs j84) h) fun v87 h86 =>
  nn x0 fun r88 =>
  sc0 r88 <|
  ix (x3 + 1) L fun j89 =>
  nn x0 fun r90 =>
  sc0 r90 <|
  ix (x3 + 2) L fun j91 =>
  nn x2 fun r92 =>
  cI (c_X12_goalTold r92 (xs j89) (xs j91) h86) fun v94 h93 =>
  if v87 = v94 then
    g1807 x0 x1 x2 x3 h93
  else
    bz 0 <|
    some (some (.inl 0), h93)
set_option maxRecDepth 100000 in
theorem L_law_72_l425 (L : Nat) (xs : Nat → Int32) (c_X11_goalTold : Nat → Int32 → Int32 → PH → Option Rs) (c_X12_goalTold : Nat → Int32 → Int32 → PH → Option Rs) (g1807 : Nat → Nat → Nat → Int32 → PH → Option Rs) (x0 : Nat) (x1 : Nat) (x2 : Nat) (x3 : Int32) (h : PH) : L_law_72_b425 L xs c_X11_goalTold c_X12_goalTold (L_law_72_u1807 g1807) [some (.inr (72, x0)), some (.inr (10, x1)), some (.inr (11, x2)), some (.inl x3)] [] h = L_law_72_f425 L xs c_X11_goalTold c_X12_goalTold g1807 x0 x1 x2 x3 h := rfl
theorem L_law_72_m425 {L : Nat} {xs : Nat → Int32} {c_X11_goalTold : Nat → Int32 → Int32 → PH → Option Rs} {c_X12_goalTold : Nat → Int32 → Int32 → PH → Option Rs} {g1807 G1807 : Nat → Nat → Nat → Int32 → PH → Option Rs} (hg1807 : ∀ a0 a1 a2 a3 a4, Mo (g1807 a0 a1 a2 a3 a4) (G1807 a0 a1 a2 a3 a4)) (x0 : Nat) (x1 : Nat) (x2 : Nat) (x3 : Int32) (h : PH) : Mo (L_law_72_f425 L xs c_X11_goalTold c_X12_goalTold g1807 x0 x1 x2 x3 h) (L_law_72_f425 L xs c_X11_goalTold c_X12_goalTold G1807 x0 x1 x2 x3 h) := (mo_nn fun r81 => (mo_sc0 (mo_ix fun j82 => (mo_nn fun r83 => (mo_sc0 (mo_ix fun j84 => (mo_nn fun r85 => (mo_cI fun v87 h86 => (mo_nn fun r88 => (mo_sc0 (mo_ix fun j89 => (mo_nn fun r90 => (mo_sc0 (mo_ix fun j91 => (mo_nn fun r92 => (mo_cI fun v94 h93 => (mo_if (hg1807 x0 x1 x2 x3 h93) (mo_bz mo_rf))))))))))))))))))
theorem L_law_72_w425 {L : Nat} {xs : Nat → Int32} {z : CZ} (hX : XS (L_law_72_x z) L xs) {g1807 : Nat → Nat → Nat → Int32 → PH → Option Rs} (hk1807 : SK (L_law_72_x z) 1807 (L_law_72_u1807 g1807)) : SK (L_law_72_x z) 425 (L_law_72_u425 (L_law_72_f425 L xs X11_goalTold X12_goalTold g1807)) := by
  intro ls st h r e
  obtain ⟨hst, e⟩ := gL_of e
  obtain ⟨x0, q0, e⟩ := gR_of e
  obtain ⟨x1, q1, e⟩ := gR_of e
  obtain ⟨x2, q2, e⟩ := gR_of e
  obtain ⟨x3, q3, e⟩ := gI_of e
  rw [st_0 hst]
  exact WK.sub (canon := [some (.inr (72, x0)), some (.inr (10, x1)), some (.inr (11, x2)), some (.inl x3)]) rfl ⟨q0, q1, q2, q3, trivial⟩ (L_law_72_s425 hX hk1807 _ _ _ _ ((L_law_72_l425 L xs X11_goalTold X12_goalTold g1807 x0 x1 x2 x3 h).trans e))
noncomputable def L_law_72_f458 (L : Nat) (xs : Nat → Int32) (c_X11_hours : Nat → Int32 → PH → Option Rs) (c_X12_hours : Nat → Int32 → PH → Option Rs) (g1807 : Nat → Nat → Nat → Int32 → PH → Option Rs) (x0 : Nat) (x1 : Nat) (x2 : Nat) (x3 : Int32) (h : PH) : Option Rs :=
  nn x0 fun r95 =>
  sc0 r95 <|
  ix (x3 + 1) L fun j96 =>
  nn x1 fun r97 =>
  cI (c_X11_hours r97 (xs j96) h) fun v99 h98 =>
  nn x0 fun r100 =>
  sc0 r100 <|
  ix (x3 + 1) L fun j101 =>
  nn x2 fun r102 =>
  cI (c_X12_hours r102 (xs j101) h98) fun v104 h103 =>
  if v99 = v104 then
    g1807 x0 x1 x2 x3 h103
  else
    bz 0 <|
    some (some (.inl 0), h103)
set_option maxRecDepth 100000 in
theorem L_law_72_l458 (L : Nat) (xs : Nat → Int32) (c_X11_hours : Nat → Int32 → PH → Option Rs) (c_X12_hours : Nat → Int32 → PH → Option Rs) (g1807 : Nat → Nat → Nat → Int32 → PH → Option Rs) (x0 : Nat) (x1 : Nat) (x2 : Nat) (x3 : Int32) (h : PH) : L_law_72_b458 L xs c_X11_hours c_X12_hours (L_law_72_u1807 g1807) [some (.inr (72, x0)), some (.inr (10, x1)), some (.inr (11, x2)), some (.inl x3)] [] h = L_law_72_f458 L xs c_X11_hours c_X12_hours g1807 x0 x1 x2 x3 h := rfl
theorem L_law_72_m458 {L : Nat} {xs : Nat → Int32} {c_X11_hours : Nat → Int32 → PH → Option Rs} {c_X12_hours : Nat → Int32 → PH → Option Rs} {g1807 G1807 : Nat → Nat → Nat → Int32 → PH → Option Rs} (hg1807 : ∀ a0 a1 a2 a3 a4, Mo (g1807 a0 a1 a2 a3 a4) (G1807 a0 a1 a2 a3 a4)) (x0 : Nat) (x1 : Nat) (x2 : Nat) (x3 : Int32) (h : PH) : Mo (L_law_72_f458 L xs c_X11_hours c_X12_hours g1807 x0 x1 x2 x3 h) (L_law_72_f458 L xs c_X11_hours c_X12_hours G1807 x0 x1 x2 x3 h) := (mo_nn fun r95 => (mo_sc0 (mo_ix fun j96 => (mo_nn fun r97 => (mo_cI fun v99 h98 => (mo_nn fun r100 => (mo_sc0 (mo_ix fun j101 => (mo_nn fun r102 => (mo_cI fun v104 h103 => (mo_if (hg1807 x0 x1 x2 x3 h103) (mo_bz mo_rf))))))))))))
theorem L_law_72_w458 {L : Nat} {xs : Nat → Int32} {z : CZ} (hX : XS (L_law_72_x z) L xs) {g1807 : Nat → Nat → Nat → Int32 → PH → Option Rs} (hk1807 : SK (L_law_72_x z) 1807 (L_law_72_u1807 g1807)) : SK (L_law_72_x z) 458 (L_law_72_u458 (L_law_72_f458 L xs X11_hours X12_hours g1807)) := by
  intro ls st h r e
  obtain ⟨hst, e⟩ := gL_of e
  obtain ⟨x0, q0, e⟩ := gR_of e
  obtain ⟨x1, q1, e⟩ := gR_of e
  obtain ⟨x2, q2, e⟩ := gR_of e
  obtain ⟨x3, q3, e⟩ := gI_of e
  rw [st_0 hst]
  exact WK.sub (canon := [some (.inr (72, x0)), some (.inr (10, x1)), some (.inr (11, x2)), some (.inl x3)]) rfl ⟨q0, q1, q2, q3, trivial⟩ (L_law_72_s458 hX hk1807 _ _ _ _ ((L_law_72_l458 L xs X11_hours X12_hours g1807 x0 x1 x2 x3 h).trans e))
noncomputable def L_law_72_f481 (L : Nat) (xs : Nat → Int32) (c_X11_sign : Nat → Int32 → Int32 → Int32 → PH → Option Rs) (c_X12_sign : Nat → Int32 → Int32 → Int32 → PH → Option Rs) (g1807 : Nat → Nat → Nat → Int32 → PH → Option Rs) (x0 : Nat) (x1 : Nat) (x2 : Nat) (x3 : Int32) (h : PH) : Option Rs :=
  nn x0 fun r105 =>
  sc0 r105 <|
  ix (x3 + 1) L fun j106 =>
  nn x0 fun r107 =>
  sc0 r107 <|
  ix (x3 + 2) L fun j108 =>
  nn x0 fun r109 =>
  sc0 r109 <|
  ix (x3 + 3) L fun j110 =>
  nn x1 fun r111 =>
  cI (c_X11_sign r111 (xs j106) (xs j108) (xs j110) h) fun v113 h112 =>
  nn x0 fun r114 =>
  sc0 r114 <|
  ix (x3 + 1) L fun j115 =>
  nn x0 fun r116 =>
  sc0 r116 <|
  ix (x3 + 2) L fun j117 =>
  nn x0 fun r118 =>
  sc0 r118 <|
  ix (x3 + 3) L fun j119 =>
  nn x2 fun r120 =>
  cI (c_X12_sign r120 (xs j115) (xs j117) (xs j119) h112) fun v122 h121 =>
  if v113 = v122 then
    g1807 x0 x1 x2 x3 h121
  else
    bz 0 <|
    some (some (.inl 0), h121)
set_option maxRecDepth 100000 in
theorem L_law_72_l481 (L : Nat) (xs : Nat → Int32) (c_X11_sign : Nat → Int32 → Int32 → Int32 → PH → Option Rs) (c_X12_sign : Nat → Int32 → Int32 → Int32 → PH → Option Rs) (g1807 : Nat → Nat → Nat → Int32 → PH → Option Rs) (x0 : Nat) (x1 : Nat) (x2 : Nat) (x3 : Int32) (h : PH) : L_law_72_b481 L xs c_X11_sign c_X12_sign (L_law_72_u1807 g1807) [some (.inr (72, x0)), some (.inr (10, x1)), some (.inr (11, x2)), some (.inl x3)] [] h = L_law_72_f481 L xs c_X11_sign c_X12_sign g1807 x0 x1 x2 x3 h := rfl
theorem L_law_72_m481 {L : Nat} {xs : Nat → Int32} {c_X11_sign : Nat → Int32 → Int32 → Int32 → PH → Option Rs} {c_X12_sign : Nat → Int32 → Int32 → Int32 → PH → Option Rs} {g1807 G1807 : Nat → Nat → Nat → Int32 → PH → Option Rs} (hg1807 : ∀ a0 a1 a2 a3 a4, Mo (g1807 a0 a1 a2 a3 a4) (G1807 a0 a1 a2 a3 a4)) (x0 : Nat) (x1 : Nat) (x2 : Nat) (x3 : Int32) (h : PH) : Mo (L_law_72_f481 L xs c_X11_sign c_X12_sign g1807 x0 x1 x2 x3 h) (L_law_72_f481 L xs c_X11_sign c_X12_sign G1807 x0 x1 x2 x3 h) := (mo_nn fun r105 => (mo_sc0 (mo_ix fun j106 => (mo_nn fun r107 => (mo_sc0 (mo_ix fun j108 => (mo_nn fun r109 => (mo_sc0 (mo_ix fun j110 => (mo_nn fun r111 => (mo_cI fun v113 h112 => (mo_nn fun r114 => (mo_sc0 (mo_ix fun j115 => (mo_nn fun r116 => (mo_sc0 (mo_ix fun j117 => (mo_nn fun r118 => (mo_sc0 (mo_ix fun j119 => (mo_nn fun r120 => (mo_cI fun v122 h121 => (mo_if (hg1807 x0 x1 x2 x3 h121) (mo_bz mo_rf))))))))))))))))))))))))
theorem L_law_72_w481 {L : Nat} {xs : Nat → Int32} {z : CZ} (hX : XS (L_law_72_x z) L xs) {g1807 : Nat → Nat → Nat → Int32 → PH → Option Rs} (hk1807 : SK (L_law_72_x z) 1807 (L_law_72_u1807 g1807)) : SK (L_law_72_x z) 481 (L_law_72_u481 (L_law_72_f481 L xs X11_sign X12_sign g1807)) := by
  intro ls st h r e
  obtain ⟨hst, e⟩ := gL_of e
  obtain ⟨x0, q0, e⟩ := gR_of e
  obtain ⟨x1, q1, e⟩ := gR_of e
  obtain ⟨x2, q2, e⟩ := gR_of e
  obtain ⟨x3, q3, e⟩ := gI_of e
  rw [st_0 hst]
  exact WK.sub (canon := [some (.inr (72, x0)), some (.inr (10, x1)), some (.inr (11, x2)), some (.inl x3)]) rfl ⟨q0, q1, q2, q3, trivial⟩ (L_law_72_s481 hX hk1807 _ _ _ _ ((L_law_72_l481 L xs X11_sign X12_sign g1807 x0 x1 x2 x3 h).trans e))
noncomputable def L_law_72_f524 (L : Nat) (xs : Nat → Int32) (c_X11_told : Nat → Int32 → Int32 → PH → Option Rs) (c_X12_told : Nat → Int32 → Int32 → PH → Option Rs) (g1807 : Nat → Nat → Nat → Int32 → PH → Option Rs) (x0 : Nat) (x1 : Nat) (x2 : Nat) (x3 : Int32) (h : PH) : Option Rs :=
  nn x0 fun r123 =>
  sc0 r123 <|
  ix (x3 + 1) L fun j124 =>
  nn x0 fun r125 =>
  sc0 r125 <|
  ix (x3 + 2) L fun j126 =>
  nn x1 fun r127 =>
  cI (c_X11_told r127 (xs j124) (xs j126) h) fun v129 h128 =>
  nn x0 fun r130 =>
  sc0 r130 <|
  ix (x3 + 1) L fun j131 =>
  nn x0 fun r132 =>
  sc0 r132 <|
  ix (x3 + 2) L fun j133 =>
  nn x2 fun r134 =>
  cI (c_X12_told r134 (xs j131) (xs j133) h128) fun v136 h135 =>
  if v129 = v136 then
    g1807 x0 x1 x2 x3 h135
  else
    bz 0 <|
    some (some (.inl 0), h135)
set_option maxRecDepth 100000 in
theorem L_law_72_l524 (L : Nat) (xs : Nat → Int32) (c_X11_told : Nat → Int32 → Int32 → PH → Option Rs) (c_X12_told : Nat → Int32 → Int32 → PH → Option Rs) (g1807 : Nat → Nat → Nat → Int32 → PH → Option Rs) (x0 : Nat) (x1 : Nat) (x2 : Nat) (x3 : Int32) (h : PH) : L_law_72_b524 L xs c_X11_told c_X12_told (L_law_72_u1807 g1807) [some (.inr (72, x0)), some (.inr (10, x1)), some (.inr (11, x2)), some (.inl x3)] [] h = L_law_72_f524 L xs c_X11_told c_X12_told g1807 x0 x1 x2 x3 h := rfl
theorem L_law_72_m524 {L : Nat} {xs : Nat → Int32} {c_X11_told : Nat → Int32 → Int32 → PH → Option Rs} {c_X12_told : Nat → Int32 → Int32 → PH → Option Rs} {g1807 G1807 : Nat → Nat → Nat → Int32 → PH → Option Rs} (hg1807 : ∀ a0 a1 a2 a3 a4, Mo (g1807 a0 a1 a2 a3 a4) (G1807 a0 a1 a2 a3 a4)) (x0 : Nat) (x1 : Nat) (x2 : Nat) (x3 : Int32) (h : PH) : Mo (L_law_72_f524 L xs c_X11_told c_X12_told g1807 x0 x1 x2 x3 h) (L_law_72_f524 L xs c_X11_told c_X12_told G1807 x0 x1 x2 x3 h) := (mo_nn fun r123 => (mo_sc0 (mo_ix fun j124 => (mo_nn fun r125 => (mo_sc0 (mo_ix fun j126 => (mo_nn fun r127 => (mo_cI fun v129 h128 => (mo_nn fun r130 => (mo_sc0 (mo_ix fun j131 => (mo_nn fun r132 => (mo_sc0 (mo_ix fun j133 => (mo_nn fun r134 => (mo_cI fun v136 h135 => (mo_if (hg1807 x0 x1 x2 x3 h135) (mo_bz mo_rf))))))))))))))))))
theorem L_law_72_w524 {L : Nat} {xs : Nat → Int32} {z : CZ} (hX : XS (L_law_72_x z) L xs) {g1807 : Nat → Nat → Nat → Int32 → PH → Option Rs} (hk1807 : SK (L_law_72_x z) 1807 (L_law_72_u1807 g1807)) : SK (L_law_72_x z) 524 (L_law_72_u524 (L_law_72_f524 L xs X11_told X12_told g1807)) := by
  intro ls st h r e
  obtain ⟨hst, e⟩ := gL_of e
  obtain ⟨x0, q0, e⟩ := gR_of e
  obtain ⟨x1, q1, e⟩ := gR_of e
  obtain ⟨x2, q2, e⟩ := gR_of e
  obtain ⟨x3, q3, e⟩ := gI_of e
  rw [st_0 hst]
  exact WK.sub (canon := [some (.inr (72, x0)), some (.inr (10, x1)), some (.inr (11, x2)), some (.inl x3)]) rfl ⟨q0, q1, q2, q3, trivial⟩ (L_law_72_s524 hX hk1807 _ _ _ _ ((L_law_72_l524 L xs X11_told X12_told g1807 x0 x1 x2 x3 h).trans e))
noncomputable def L_law_72_f557 (L : Nat) (xs : Nat → Int32) (c_X11_as : Nat → Int32 → Int32 → PH → Option Rs) (c_X12_as : Nat → Int32 → Int32 → PH → Option Rs) (g1807 : Nat → Nat → Nat → Int32 → PH → Option Rs) (x0 : Nat) (x1 : Nat) (x2 : Nat) (x3 : Int32) (h : PH) : Option Rs :=
  nn x0 fun r137 =>
  sc0 r137 <|
  ix (x3 + 1) L fun j138 =>
  nn x0 fun r139 =>
  sc0 r139 <|
  ix (x3 + 2) L fun j140 =>
  nn x1 fun r141 =>
  cI (c_X11_as r141 (xs j138) (xs j140) h) fun v143 h142 =>
  nn x0 fun r144 =>
  sc0 r144 <|
  ix (x3 + 1) L fun j145 =>
  nn x0 fun r146 =>
  sc0 r146 <|
  ix (x3 + 2) L fun j147 =>
  nn x2 fun r148 =>
  cI (c_X12_as r148 (xs j145) (xs j147) h142) fun v150 h149 =>
  if v143 = v150 then
    g1807 x0 x1 x2 x3 h149
  else
    bz 0 <|
    some (some (.inl 0), h149)
set_option maxRecDepth 100000 in
theorem L_law_72_l557 (L : Nat) (xs : Nat → Int32) (c_X11_as : Nat → Int32 → Int32 → PH → Option Rs) (c_X12_as : Nat → Int32 → Int32 → PH → Option Rs) (g1807 : Nat → Nat → Nat → Int32 → PH → Option Rs) (x0 : Nat) (x1 : Nat) (x2 : Nat) (x3 : Int32) (h : PH) : L_law_72_b557 L xs c_X11_as c_X12_as (L_law_72_u1807 g1807) [some (.inr (72, x0)), some (.inr (10, x1)), some (.inr (11, x2)), some (.inl x3)] [] h = L_law_72_f557 L xs c_X11_as c_X12_as g1807 x0 x1 x2 x3 h := rfl
theorem L_law_72_m557 {L : Nat} {xs : Nat → Int32} {c_X11_as : Nat → Int32 → Int32 → PH → Option Rs} {c_X12_as : Nat → Int32 → Int32 → PH → Option Rs} {g1807 G1807 : Nat → Nat → Nat → Int32 → PH → Option Rs} (hg1807 : ∀ a0 a1 a2 a3 a4, Mo (g1807 a0 a1 a2 a3 a4) (G1807 a0 a1 a2 a3 a4)) (x0 : Nat) (x1 : Nat) (x2 : Nat) (x3 : Int32) (h : PH) : Mo (L_law_72_f557 L xs c_X11_as c_X12_as g1807 x0 x1 x2 x3 h) (L_law_72_f557 L xs c_X11_as c_X12_as G1807 x0 x1 x2 x3 h) := (mo_nn fun r137 => (mo_sc0 (mo_ix fun j138 => (mo_nn fun r139 => (mo_sc0 (mo_ix fun j140 => (mo_nn fun r141 => (mo_cI fun v143 h142 => (mo_nn fun r144 => (mo_sc0 (mo_ix fun j145 => (mo_nn fun r146 => (mo_sc0 (mo_ix fun j147 => (mo_nn fun r148 => (mo_cI fun v150 h149 => (mo_if (hg1807 x0 x1 x2 x3 h149) (mo_bz mo_rf))))))))))))))))))
theorem L_law_72_w557 {L : Nat} {xs : Nat → Int32} {z : CZ} (hX : XS (L_law_72_x z) L xs) {g1807 : Nat → Nat → Nat → Int32 → PH → Option Rs} (hk1807 : SK (L_law_72_x z) 1807 (L_law_72_u1807 g1807)) : SK (L_law_72_x z) 557 (L_law_72_u557 (L_law_72_f557 L xs X11_as X12_as g1807)) := by
  intro ls st h r e
  obtain ⟨hst, e⟩ := gL_of e
  obtain ⟨x0, q0, e⟩ := gR_of e
  obtain ⟨x1, q1, e⟩ := gR_of e
  obtain ⟨x2, q2, e⟩ := gR_of e
  obtain ⟨x3, q3, e⟩ := gI_of e
  rw [st_0 hst]
  exact WK.sub (canon := [some (.inr (72, x0)), some (.inr (10, x1)), some (.inr (11, x2)), some (.inl x3)]) rfl ⟨q0, q1, q2, q3, trivial⟩ (L_law_72_s557 hX hk1807 _ _ _ _ ((L_law_72_l557 L xs X11_as X12_as g1807 x0 x1 x2 x3 h).trans e))
noncomputable def L_law_72_f590 (L : Nat) (xs : Nat → Int32) (c_X11_turns : Nat → Int32 → Int32 → PH → Option Rs) (c_X12_turns : Nat → Int32 → Int32 → PH → Option Rs) (g1807 : Nat → Nat → Nat → Int32 → PH → Option Rs) (x0 : Nat) (x1 : Nat) (x2 : Nat) (x3 : Int32) (h : PH) : Option Rs :=
  nn x0 fun r151 =>
  sc0 r151 <|
  ix (x3 + 1) L fun j152 =>
  nn x0 fun r153 =>
  sc0 r153 <|
  ix (x3 + 2) L fun j154 =>
  nn x1 fun r155 =>
  cI (c_X11_turns r155 (xs j152) (xs j154) h) fun v157 h156 =>
  nn x0 fun r158 =>
  sc0 r158 <|
  ix (x3 + 1) L fun j159 =>
  nn x0 fun r160 =>
  sc0 r160 <|
  ix (x3 + 2) L fun j161 =>
  nn x2 fun r162 =>
  cI (c_X12_turns r162 (xs j159) (xs j161) h156) fun v164 h163 =>
  if v157 = v164 then
    g1807 x0 x1 x2 x3 h163
  else
    bz 0 <|
    some (some (.inl 0), h163)
set_option maxRecDepth 100000 in
theorem L_law_72_l590 (L : Nat) (xs : Nat → Int32) (c_X11_turns : Nat → Int32 → Int32 → PH → Option Rs) (c_X12_turns : Nat → Int32 → Int32 → PH → Option Rs) (g1807 : Nat → Nat → Nat → Int32 → PH → Option Rs) (x0 : Nat) (x1 : Nat) (x2 : Nat) (x3 : Int32) (h : PH) : L_law_72_b590 L xs c_X11_turns c_X12_turns (L_law_72_u1807 g1807) [some (.inr (72, x0)), some (.inr (10, x1)), some (.inr (11, x2)), some (.inl x3)] [] h = L_law_72_f590 L xs c_X11_turns c_X12_turns g1807 x0 x1 x2 x3 h := rfl
theorem L_law_72_m590 {L : Nat} {xs : Nat → Int32} {c_X11_turns : Nat → Int32 → Int32 → PH → Option Rs} {c_X12_turns : Nat → Int32 → Int32 → PH → Option Rs} {g1807 G1807 : Nat → Nat → Nat → Int32 → PH → Option Rs} (hg1807 : ∀ a0 a1 a2 a3 a4, Mo (g1807 a0 a1 a2 a3 a4) (G1807 a0 a1 a2 a3 a4)) (x0 : Nat) (x1 : Nat) (x2 : Nat) (x3 : Int32) (h : PH) : Mo (L_law_72_f590 L xs c_X11_turns c_X12_turns g1807 x0 x1 x2 x3 h) (L_law_72_f590 L xs c_X11_turns c_X12_turns G1807 x0 x1 x2 x3 h) := (mo_nn fun r151 => (mo_sc0 (mo_ix fun j152 => (mo_nn fun r153 => (mo_sc0 (mo_ix fun j154 => (mo_nn fun r155 => (mo_cI fun v157 h156 => (mo_nn fun r158 => (mo_sc0 (mo_ix fun j159 => (mo_nn fun r160 => (mo_sc0 (mo_ix fun j161 => (mo_nn fun r162 => (mo_cI fun v164 h163 => (mo_if (hg1807 x0 x1 x2 x3 h163) (mo_bz mo_rf))))))))))))))))))
theorem L_law_72_w590 {L : Nat} {xs : Nat → Int32} {z : CZ} (hX : XS (L_law_72_x z) L xs) {g1807 : Nat → Nat → Nat → Int32 → PH → Option Rs} (hk1807 : SK (L_law_72_x z) 1807 (L_law_72_u1807 g1807)) : SK (L_law_72_x z) 590 (L_law_72_u590 (L_law_72_f590 L xs X11_turns X12_turns g1807)) := by
  intro ls st h r e
  obtain ⟨hst, e⟩ := gL_of e
  obtain ⟨x0, q0, e⟩ := gR_of e
  obtain ⟨x1, q1, e⟩ := gR_of e
  obtain ⟨x2, q2, e⟩ := gR_of e
  obtain ⟨x3, q3, e⟩ := gI_of e
  rw [st_0 hst]
  exact WK.sub (canon := [some (.inr (72, x0)), some (.inr (10, x1)), some (.inr (11, x2)), some (.inl x3)]) rfl ⟨q0, q1, q2, q3, trivial⟩ (L_law_72_s590 hX hk1807 _ _ _ _ ((L_law_72_l590 L xs X11_turns X12_turns g1807 x0 x1 x2 x3 h).trans e))
noncomputable def L_law_72_f623 (L : Nat) (xs : Nat → Int32) (c_X11_row : Nat → Int32 → Int32 → Int32 → PH → Option Rs) (c_X12_row : Nat → Int32 → Int32 → Int32 → PH → Option Rs) (g1807 : Nat → Nat → Nat → Int32 → PH → Option Rs) (x0 : Nat) (x1 : Nat) (x2 : Nat) (x3 : Int32) (h : PH) : Option Rs :=
  nn x0 fun r165 =>
  sc0 r165 <|
  ix (x3 + 1) L fun j166 =>
  nn x0 fun r167 =>
  sc0 r167 <|
  ix (x3 + 2) L fun j168 =>
  nn x0 fun r169 =>
  sc0 r169 <|
  ix (x3 + 3) L fun j170 =>
  nn x1 fun r171 =>
  cI (c_X11_row r171 (xs j166) (xs j168) (xs j170) h) fun v173 h172 =>
  nn x0 fun r174 =>
  sc0 r174 <|
  ix (x3 + 1) L fun j175 =>
  nn x0 fun r176 =>
  sc0 r176 <|
  ix (x3 + 2) L fun j177 =>
  nn x0 fun r178 =>
  sc0 r178 <|
  ix (x3 + 3) L fun j179 =>
  nn x2 fun r180 =>
  cI (c_X12_row r180 (xs j175) (xs j177) (xs j179) h172) fun v182 h181 =>
  if v173 = v182 then
    g1807 x0 x1 x2 x3 h181
  else
    bz 0 <|
    some (some (.inl 0), h181)
set_option maxRecDepth 100000 in
theorem L_law_72_l623 (L : Nat) (xs : Nat → Int32) (c_X11_row : Nat → Int32 → Int32 → Int32 → PH → Option Rs) (c_X12_row : Nat → Int32 → Int32 → Int32 → PH → Option Rs) (g1807 : Nat → Nat → Nat → Int32 → PH → Option Rs) (x0 : Nat) (x1 : Nat) (x2 : Nat) (x3 : Int32) (h : PH) : L_law_72_b623 L xs c_X11_row c_X12_row (L_law_72_u1807 g1807) [some (.inr (72, x0)), some (.inr (10, x1)), some (.inr (11, x2)), some (.inl x3)] [] h = L_law_72_f623 L xs c_X11_row c_X12_row g1807 x0 x1 x2 x3 h := rfl
theorem L_law_72_m623 {L : Nat} {xs : Nat → Int32} {c_X11_row : Nat → Int32 → Int32 → Int32 → PH → Option Rs} {c_X12_row : Nat → Int32 → Int32 → Int32 → PH → Option Rs} {g1807 G1807 : Nat → Nat → Nat → Int32 → PH → Option Rs} (hg1807 : ∀ a0 a1 a2 a3 a4, Mo (g1807 a0 a1 a2 a3 a4) (G1807 a0 a1 a2 a3 a4)) (x0 : Nat) (x1 : Nat) (x2 : Nat) (x3 : Int32) (h : PH) : Mo (L_law_72_f623 L xs c_X11_row c_X12_row g1807 x0 x1 x2 x3 h) (L_law_72_f623 L xs c_X11_row c_X12_row G1807 x0 x1 x2 x3 h) := (mo_nn fun r165 => (mo_sc0 (mo_ix fun j166 => (mo_nn fun r167 => (mo_sc0 (mo_ix fun j168 => (mo_nn fun r169 => (mo_sc0 (mo_ix fun j170 => (mo_nn fun r171 => (mo_cI fun v173 h172 => (mo_nn fun r174 => (mo_sc0 (mo_ix fun j175 => (mo_nn fun r176 => (mo_sc0 (mo_ix fun j177 => (mo_nn fun r178 => (mo_sc0 (mo_ix fun j179 => (mo_nn fun r180 => (mo_cI fun v182 h181 => (mo_if (hg1807 x0 x1 x2 x3 h181) (mo_bz mo_rf))))))))))))))))))))))))
theorem L_law_72_w623 {L : Nat} {xs : Nat → Int32} {z : CZ} (hX : XS (L_law_72_x z) L xs) {g1807 : Nat → Nat → Nat → Int32 → PH → Option Rs} (hk1807 : SK (L_law_72_x z) 1807 (L_law_72_u1807 g1807)) : SK (L_law_72_x z) 623 (L_law_72_u623 (L_law_72_f623 L xs X11_row X12_row g1807)) := by
  intro ls st h r e
  obtain ⟨hst, e⟩ := gL_of e
  obtain ⟨x0, q0, e⟩ := gR_of e
  obtain ⟨x1, q1, e⟩ := gR_of e
  obtain ⟨x2, q2, e⟩ := gR_of e
  obtain ⟨x3, q3, e⟩ := gI_of e
  rw [st_0 hst]
  exact WK.sub (canon := [some (.inr (72, x0)), some (.inr (10, x1)), some (.inr (11, x2)), some (.inl x3)]) rfl ⟨q0, q1, q2, q3, trivial⟩ (L_law_72_s623 hX hk1807 _ _ _ _ ((L_law_72_l623 L xs X11_row X12_row g1807 x0 x1 x2 x3 h).trans e))
noncomputable def L_law_72_f666 (L : Nat) (xs : Nat → Int32) (c_X11_rowTold : Nat → Int32 → Int32 → Int32 → PH → Option Rs) (c_X12_rowTold : Nat → Int32 → Int32 → Int32 → PH → Option Rs) (g1807 : Nat → Nat → Nat → Int32 → PH → Option Rs) (x0 : Nat) (x1 : Nat) (x2 : Nat) (x3 : Int32) (h : PH) : Option Rs :=
  nn x0 fun r183 =>
  sc0 r183 <|
  ix (x3 + 1) L fun j184 =>
  nn x0 fun r185 =>
  sc0 r185 <|
  ix (x3 + 2) L fun j186 =>
  nn x0 fun r187 =>
  sc0 r187 <|
  ix (x3 + 3) L fun j188 =>
  nn x1 fun r189 =>
  cI (c_X11_rowTold r189 (xs j184) (xs j186) (xs j188) h) fun v191 h190 =>
  nn x0 fun r192 =>
  sc0 r192 <|
  ix (x3 + 1) L fun j193 =>
  nn x0 fun r194 =>
  sc0 r194 <|
  ix (x3 + 2) L fun j195 =>
  nn x0 fun r196 =>
  sc0 r196 <|
  ix (x3 + 3) L fun j197 =>
  nn x2 fun r198 =>
  cI (c_X12_rowTold r198 (xs j193) (xs j195) (xs j197) h190) fun v200 h199 =>
  if v191 = v200 then
    g1807 x0 x1 x2 x3 h199
  else
    bz 0 <|
    some (some (.inl 0), h199)
set_option maxRecDepth 100000 in
theorem L_law_72_l666 (L : Nat) (xs : Nat → Int32) (c_X11_rowTold : Nat → Int32 → Int32 → Int32 → PH → Option Rs) (c_X12_rowTold : Nat → Int32 → Int32 → Int32 → PH → Option Rs) (g1807 : Nat → Nat → Nat → Int32 → PH → Option Rs) (x0 : Nat) (x1 : Nat) (x2 : Nat) (x3 : Int32) (h : PH) : L_law_72_b666 L xs c_X11_rowTold c_X12_rowTold (L_law_72_u1807 g1807) [some (.inr (72, x0)), some (.inr (10, x1)), some (.inr (11, x2)), some (.inl x3)] [] h = L_law_72_f666 L xs c_X11_rowTold c_X12_rowTold g1807 x0 x1 x2 x3 h := rfl
theorem L_law_72_m666 {L : Nat} {xs : Nat → Int32} {c_X11_rowTold : Nat → Int32 → Int32 → Int32 → PH → Option Rs} {c_X12_rowTold : Nat → Int32 → Int32 → Int32 → PH → Option Rs} {g1807 G1807 : Nat → Nat → Nat → Int32 → PH → Option Rs} (hg1807 : ∀ a0 a1 a2 a3 a4, Mo (g1807 a0 a1 a2 a3 a4) (G1807 a0 a1 a2 a3 a4)) (x0 : Nat) (x1 : Nat) (x2 : Nat) (x3 : Int32) (h : PH) : Mo (L_law_72_f666 L xs c_X11_rowTold c_X12_rowTold g1807 x0 x1 x2 x3 h) (L_law_72_f666 L xs c_X11_rowTold c_X12_rowTold G1807 x0 x1 x2 x3 h) := (mo_nn fun r183 => (mo_sc0 (mo_ix fun j184 => (mo_nn fun r185 => (mo_sc0 (mo_ix fun j186 => (mo_nn fun r187 => (mo_sc0 (mo_ix fun j188 => (mo_nn fun r189 => (mo_cI fun v191 h190 => (mo_nn fun r192 => (mo_sc0 (mo_ix fun j193 => (mo_nn fun r194 => (mo_sc0 (mo_ix fun j195 => (mo_nn fun r196 => (mo_sc0 (mo_ix fun j197 => (mo_nn fun r198 => (mo_cI fun v200 h199 => (mo_if (hg1807 x0 x1 x2 x3 h199) (mo_bz mo_rf))))))))))))))))))))))))
theorem L_law_72_w666 {L : Nat} {xs : Nat → Int32} {z : CZ} (hX : XS (L_law_72_x z) L xs) {g1807 : Nat → Nat → Nat → Int32 → PH → Option Rs} (hk1807 : SK (L_law_72_x z) 1807 (L_law_72_u1807 g1807)) : SK (L_law_72_x z) 666 (L_law_72_u666 (L_law_72_f666 L xs X11_rowTold X12_rowTold g1807)) := by
  intro ls st h r e
  obtain ⟨hst, e⟩ := gL_of e
  obtain ⟨x0, q0, e⟩ := gR_of e
  obtain ⟨x1, q1, e⟩ := gR_of e
  obtain ⟨x2, q2, e⟩ := gR_of e
  obtain ⟨x3, q3, e⟩ := gI_of e
  rw [st_0 hst]
  exact WK.sub (canon := [some (.inr (72, x0)), some (.inr (10, x1)), some (.inr (11, x2)), some (.inl x3)]) rfl ⟨q0, q1, q2, q3, trivial⟩ (L_law_72_s666 hX hk1807 _ _ _ _ ((L_law_72_l666 L xs X11_rowTold X12_rowTold g1807 x0 x1 x2 x3 h).trans e))
noncomputable def L_law_72_f709 (L : Nat) (xs : Nat → Int32) (c_X11_drop : Nat → Int32 → Int32 → PH → Option Rs) (c_X12_drop : Nat → Int32 → Int32 → PH → Option Rs) (g1807 : Nat → Nat → Nat → Int32 → PH → Option Rs) (x0 : Nat) (x1 : Nat) (x2 : Nat) (x3 : Int32) (h : PH) : Option Rs :=
  nn x0 fun r201 =>
  sc0 r201 <|
  ix (x3 + 1) L fun j202 =>
  nn x0 fun r203 =>
  sc0 r203 <|
  ix (x3 + 2) L fun j204 =>
  nn x1 fun r205 =>
  cI (c_X11_drop r205 (xs j202) (xs j204) h) fun v207 h206 =>
  nn x0 fun r208 =>
  sc0 r208 <|
  ix (x3 + 1) L fun j209 =>
  nn x0 fun r210 =>
  sc0 r210 <|
  ix (x3 + 2) L fun j211 =>
  nn x2 fun r212 =>
  cI (c_X12_drop r212 (xs j209) (xs j211) h206) fun v214 h213 =>
  if v207 = v214 then
    g1807 x0 x1 x2 x3 h213
  else
    bz 0 <|
    some (some (.inl 0), h213)
set_option maxRecDepth 100000 in
theorem L_law_72_l709 (L : Nat) (xs : Nat → Int32) (c_X11_drop : Nat → Int32 → Int32 → PH → Option Rs) (c_X12_drop : Nat → Int32 → Int32 → PH → Option Rs) (g1807 : Nat → Nat → Nat → Int32 → PH → Option Rs) (x0 : Nat) (x1 : Nat) (x2 : Nat) (x3 : Int32) (h : PH) : L_law_72_b709 L xs c_X11_drop c_X12_drop (L_law_72_u1807 g1807) [some (.inr (72, x0)), some (.inr (10, x1)), some (.inr (11, x2)), some (.inl x3)] [] h = L_law_72_f709 L xs c_X11_drop c_X12_drop g1807 x0 x1 x2 x3 h := rfl
theorem L_law_72_m709 {L : Nat} {xs : Nat → Int32} {c_X11_drop : Nat → Int32 → Int32 → PH → Option Rs} {c_X12_drop : Nat → Int32 → Int32 → PH → Option Rs} {g1807 G1807 : Nat → Nat → Nat → Int32 → PH → Option Rs} (hg1807 : ∀ a0 a1 a2 a3 a4, Mo (g1807 a0 a1 a2 a3 a4) (G1807 a0 a1 a2 a3 a4)) (x0 : Nat) (x1 : Nat) (x2 : Nat) (x3 : Int32) (h : PH) : Mo (L_law_72_f709 L xs c_X11_drop c_X12_drop g1807 x0 x1 x2 x3 h) (L_law_72_f709 L xs c_X11_drop c_X12_drop G1807 x0 x1 x2 x3 h) := (mo_nn fun r201 => (mo_sc0 (mo_ix fun j202 => (mo_nn fun r203 => (mo_sc0 (mo_ix fun j204 => (mo_nn fun r205 => (mo_cI fun v207 h206 => (mo_nn fun r208 => (mo_sc0 (mo_ix fun j209 => (mo_nn fun r210 => (mo_sc0 (mo_ix fun j211 => (mo_nn fun r212 => (mo_cI fun v214 h213 => (mo_if (hg1807 x0 x1 x2 x3 h213) (mo_bz mo_rf))))))))))))))))))
theorem L_law_72_w709 {L : Nat} {xs : Nat → Int32} {z : CZ} (hX : XS (L_law_72_x z) L xs) {g1807 : Nat → Nat → Nat → Int32 → PH → Option Rs} (hk1807 : SK (L_law_72_x z) 1807 (L_law_72_u1807 g1807)) : SK (L_law_72_x z) 709 (L_law_72_u709 (L_law_72_f709 L xs X11_drop X12_drop g1807)) := by
  intro ls st h r e
  obtain ⟨hst, e⟩ := gL_of e
  obtain ⟨x0, q0, e⟩ := gR_of e
  obtain ⟨x1, q1, e⟩ := gR_of e
  obtain ⟨x2, q2, e⟩ := gR_of e
  obtain ⟨x3, q3, e⟩ := gI_of e
  rw [st_0 hst]
  exact WK.sub (canon := [some (.inr (72, x0)), some (.inr (10, x1)), some (.inr (11, x2)), some (.inl x3)]) rfl ⟨q0, q1, q2, q3, trivial⟩ (L_law_72_s709 hX hk1807 _ _ _ _ ((L_law_72_l709 L xs X11_drop X12_drop g1807 x0 x1 x2 x3 h).trans e))
noncomputable def L_law_72_f742 (L : Nat) (xs : Nat → Int32) (c_X11_aim : Nat → Int32 → Int32 → Int32 → PH → Option Rs) (c_X12_aim : Nat → Int32 → Int32 → Int32 → PH → Option Rs) (g1807 : Nat → Nat → Nat → Int32 → PH → Option Rs) (x0 : Nat) (x1 : Nat) (x2 : Nat) (x3 : Int32) (h : PH) : Option Rs :=
  nn x0 fun r215 =>
  sc0 r215 <|
  ix (x3 + 1) L fun j216 =>
  nn x0 fun r217 =>
  sc0 r217 <|
  ix (x3 + 2) L fun j218 =>
  nn x0 fun r219 =>
  sc0 r219 <|
  ix (x3 + 3) L fun j220 =>
  nn x1 fun r221 =>
  cI (c_X11_aim r221 (xs j216) (xs j218) (xs j220) h) fun v223 h222 =>
  nn x0 fun r224 =>
  sc0 r224 <|
  ix (x3 + 1) L fun j225 =>
  nn x0 fun r226 =>
  sc0 r226 <|
  ix (x3 + 2) L fun j227 =>
  nn x0 fun r228 =>
  sc0 r228 <|
  ix (x3 + 3) L fun j229 =>
  nn x2 fun r230 =>
  cI (c_X12_aim r230 (xs j225) (xs j227) (xs j229) h222) fun v232 h231 =>
  if v223 = v232 then
    g1807 x0 x1 x2 x3 h231
  else
    bz 0 <|
    some (some (.inl 0), h231)
set_option maxRecDepth 100000 in
theorem L_law_72_l742 (L : Nat) (xs : Nat → Int32) (c_X11_aim : Nat → Int32 → Int32 → Int32 → PH → Option Rs) (c_X12_aim : Nat → Int32 → Int32 → Int32 → PH → Option Rs) (g1807 : Nat → Nat → Nat → Int32 → PH → Option Rs) (x0 : Nat) (x1 : Nat) (x2 : Nat) (x3 : Int32) (h : PH) : L_law_72_b742 L xs c_X11_aim c_X12_aim (L_law_72_u1807 g1807) [some (.inr (72, x0)), some (.inr (10, x1)), some (.inr (11, x2)), some (.inl x3)] [] h = L_law_72_f742 L xs c_X11_aim c_X12_aim g1807 x0 x1 x2 x3 h := rfl
theorem L_law_72_m742 {L : Nat} {xs : Nat → Int32} {c_X11_aim : Nat → Int32 → Int32 → Int32 → PH → Option Rs} {c_X12_aim : Nat → Int32 → Int32 → Int32 → PH → Option Rs} {g1807 G1807 : Nat → Nat → Nat → Int32 → PH → Option Rs} (hg1807 : ∀ a0 a1 a2 a3 a4, Mo (g1807 a0 a1 a2 a3 a4) (G1807 a0 a1 a2 a3 a4)) (x0 : Nat) (x1 : Nat) (x2 : Nat) (x3 : Int32) (h : PH) : Mo (L_law_72_f742 L xs c_X11_aim c_X12_aim g1807 x0 x1 x2 x3 h) (L_law_72_f742 L xs c_X11_aim c_X12_aim G1807 x0 x1 x2 x3 h) := (mo_nn fun r215 => (mo_sc0 (mo_ix fun j216 => (mo_nn fun r217 => (mo_sc0 (mo_ix fun j218 => (mo_nn fun r219 => (mo_sc0 (mo_ix fun j220 => (mo_nn fun r221 => (mo_cI fun v223 h222 => (mo_nn fun r224 => (mo_sc0 (mo_ix fun j225 => (mo_nn fun r226 => (mo_sc0 (mo_ix fun j227 => (mo_nn fun r228 => (mo_sc0 (mo_ix fun j229 => (mo_nn fun r230 => (mo_cI fun v232 h231 => (mo_if (hg1807 x0 x1 x2 x3 h231) (mo_bz mo_rf))))))))))))))))))))))))
theorem L_law_72_w742 {L : Nat} {xs : Nat → Int32} {z : CZ} (hX : XS (L_law_72_x z) L xs) {g1807 : Nat → Nat → Nat → Int32 → PH → Option Rs} (hk1807 : SK (L_law_72_x z) 1807 (L_law_72_u1807 g1807)) : SK (L_law_72_x z) 742 (L_law_72_u742 (L_law_72_f742 L xs X11_aim X12_aim g1807)) := by
  intro ls st h r e
  obtain ⟨hst, e⟩ := gL_of e
  obtain ⟨x0, q0, e⟩ := gR_of e
  obtain ⟨x1, q1, e⟩ := gR_of e
  obtain ⟨x2, q2, e⟩ := gR_of e
  obtain ⟨x3, q3, e⟩ := gI_of e
  rw [st_0 hst]
  exact WK.sub (canon := [some (.inr (72, x0)), some (.inr (10, x1)), some (.inr (11, x2)), some (.inl x3)]) rfl ⟨q0, q1, q2, q3, trivial⟩ (L_law_72_s742 hX hk1807 _ _ _ _ ((L_law_72_l742 L xs X11_aim X12_aim g1807 x0 x1 x2 x3 h).trans e))
noncomputable def L_law_72_f785 (L : Nat) (xs : Nat → Int32) (c_X11_undo : Nat → PH → Option Rs) (c_X12_undo : Nat → PH → Option Rs) (g1807 : Nat → Nat → Nat → Int32 → PH → Option Rs) (x0 : Nat) (x1 : Nat) (x2 : Nat) (x3 : Int32) (h : PH) : Option Rs :=
  nn x1 fun r233 =>
  cI (c_X11_undo r233 h) fun v235 h234 =>
  nn x2 fun r236 =>
  cI (c_X12_undo r236 h234) fun v238 h237 =>
  if v235 = v238 then
    g1807 x0 x1 x2 x3 h237
  else
    bz 0 <|
    some (some (.inl 0), h237)
set_option maxRecDepth 100000 in
theorem L_law_72_l785 (L : Nat) (xs : Nat → Int32) (c_X11_undo : Nat → PH → Option Rs) (c_X12_undo : Nat → PH → Option Rs) (g1807 : Nat → Nat → Nat → Int32 → PH → Option Rs) (x0 : Nat) (x1 : Nat) (x2 : Nat) (x3 : Int32) (h : PH) : L_law_72_b785 L xs c_X11_undo c_X12_undo (L_law_72_u1807 g1807) [some (.inr (72, x0)), some (.inr (10, x1)), some (.inr (11, x2)), some (.inl x3)] [] h = L_law_72_f785 L xs c_X11_undo c_X12_undo g1807 x0 x1 x2 x3 h := rfl
theorem L_law_72_m785 {L : Nat} {xs : Nat → Int32} {c_X11_undo : Nat → PH → Option Rs} {c_X12_undo : Nat → PH → Option Rs} {g1807 G1807 : Nat → Nat → Nat → Int32 → PH → Option Rs} (hg1807 : ∀ a0 a1 a2 a3 a4, Mo (g1807 a0 a1 a2 a3 a4) (G1807 a0 a1 a2 a3 a4)) (x0 : Nat) (x1 : Nat) (x2 : Nat) (x3 : Int32) (h : PH) : Mo (L_law_72_f785 L xs c_X11_undo c_X12_undo g1807 x0 x1 x2 x3 h) (L_law_72_f785 L xs c_X11_undo c_X12_undo G1807 x0 x1 x2 x3 h) := (mo_nn fun r233 => (mo_cI fun v235 h234 => (mo_nn fun r236 => (mo_cI fun v238 h237 => (mo_if (hg1807 x0 x1 x2 x3 h237) (mo_bz mo_rf))))))
theorem L_law_72_w785 {L : Nat} {xs : Nat → Int32} {z : CZ} (hX : XS (L_law_72_x z) L xs) {g1807 : Nat → Nat → Nat → Int32 → PH → Option Rs} (hk1807 : SK (L_law_72_x z) 1807 (L_law_72_u1807 g1807)) : SK (L_law_72_x z) 785 (L_law_72_u785 (L_law_72_f785 L xs X11_undo X12_undo g1807)) := by
  intro ls st h r e
  obtain ⟨hst, e⟩ := gL_of e
  obtain ⟨x0, q0, e⟩ := gR_of e
  obtain ⟨x1, q1, e⟩ := gR_of e
  obtain ⟨x2, q2, e⟩ := gR_of e
  obtain ⟨x3, q3, e⟩ := gI_of e
  rw [st_0 hst]
  exact WK.sub (canon := [some (.inr (72, x0)), some (.inr (10, x1)), some (.inr (11, x2)), some (.inl x3)]) rfl ⟨q0, q1, q2, q3, trivial⟩ (L_law_72_s785 hX hk1807 _ _ _ _ ((L_law_72_l785 L xs X11_undo X12_undo g1807 x0 x1 x2 x3 h).trans e))
noncomputable def L_law_72_f798 (L : Nat) (xs : Nat → Int32) (c_X11_feed : Nat → Int32 → Int32 → Int32 → PH → Option Rs) (c_X12_feed : Nat → Int32 → Int32 → Int32 → PH → Option Rs) (g1807 : Nat → Nat → Nat → Int32 → PH → Option Rs) (x0 : Nat) (x1 : Nat) (x2 : Nat) (x3 : Int32) (h : PH) : Option Rs :=
  nn x0 fun r239 =>
  sc0 r239 <|
  ix (x3 + 1) L fun j240 =>
  nn x0 fun r241 =>
  sc0 r241 <|
  ix (x3 + 2) L fun j242 =>
  nn x0 fun r243 =>
  sc0 r243 <|
  ix (x3 + 3) L fun j244 =>
  nn x1 fun r245 =>
  cI (c_X11_feed r245 (xs j240) (xs j242) (xs j244) h) fun v247 h246 =>
  nn x0 fun r248 =>
  sc0 r248 <|
  ix (x3 + 1) L fun j249 =>
  nn x0 fun r250 =>
  sc0 r250 <|
  ix (x3 + 2) L fun j251 =>
  nn x0 fun r252 =>
  sc0 r252 <|
  ix (x3 + 3) L fun j253 =>
  nn x2 fun r254 =>
  cI (c_X12_feed r254 (xs j249) (xs j251) (xs j253) h246) fun v256 h255 =>
  if v247 = v256 then
    g1807 x0 x1 x2 x3 h255
  else
    bz 0 <|
    some (some (.inl 0), h255)
set_option maxRecDepth 100000 in
theorem L_law_72_l798 (L : Nat) (xs : Nat → Int32) (c_X11_feed : Nat → Int32 → Int32 → Int32 → PH → Option Rs) (c_X12_feed : Nat → Int32 → Int32 → Int32 → PH → Option Rs) (g1807 : Nat → Nat → Nat → Int32 → PH → Option Rs) (x0 : Nat) (x1 : Nat) (x2 : Nat) (x3 : Int32) (h : PH) : L_law_72_b798 L xs c_X11_feed c_X12_feed (L_law_72_u1807 g1807) [some (.inr (72, x0)), some (.inr (10, x1)), some (.inr (11, x2)), some (.inl x3)] [] h = L_law_72_f798 L xs c_X11_feed c_X12_feed g1807 x0 x1 x2 x3 h := rfl
theorem L_law_72_m798 {L : Nat} {xs : Nat → Int32} {c_X11_feed : Nat → Int32 → Int32 → Int32 → PH → Option Rs} {c_X12_feed : Nat → Int32 → Int32 → Int32 → PH → Option Rs} {g1807 G1807 : Nat → Nat → Nat → Int32 → PH → Option Rs} (hg1807 : ∀ a0 a1 a2 a3 a4, Mo (g1807 a0 a1 a2 a3 a4) (G1807 a0 a1 a2 a3 a4)) (x0 : Nat) (x1 : Nat) (x2 : Nat) (x3 : Int32) (h : PH) : Mo (L_law_72_f798 L xs c_X11_feed c_X12_feed g1807 x0 x1 x2 x3 h) (L_law_72_f798 L xs c_X11_feed c_X12_feed G1807 x0 x1 x2 x3 h) := (mo_nn fun r239 => (mo_sc0 (mo_ix fun j240 => (mo_nn fun r241 => (mo_sc0 (mo_ix fun j242 => (mo_nn fun r243 => (mo_sc0 (mo_ix fun j244 => (mo_nn fun r245 => (mo_cI fun v247 h246 => (mo_nn fun r248 => (mo_sc0 (mo_ix fun j249 => (mo_nn fun r250 => (mo_sc0 (mo_ix fun j251 => (mo_nn fun r252 => (mo_sc0 (mo_ix fun j253 => (mo_nn fun r254 => (mo_cI fun v256 h255 => (mo_if (hg1807 x0 x1 x2 x3 h255) (mo_bz mo_rf))))))))))))))))))))))))
theorem L_law_72_w798 {L : Nat} {xs : Nat → Int32} {z : CZ} (hX : XS (L_law_72_x z) L xs) {g1807 : Nat → Nat → Nat → Int32 → PH → Option Rs} (hk1807 : SK (L_law_72_x z) 1807 (L_law_72_u1807 g1807)) : SK (L_law_72_x z) 798 (L_law_72_u798 (L_law_72_f798 L xs X11_feed X12_feed g1807)) := by
  intro ls st h r e
  obtain ⟨hst, e⟩ := gL_of e
  obtain ⟨x0, q0, e⟩ := gR_of e
  obtain ⟨x1, q1, e⟩ := gR_of e
  obtain ⟨x2, q2, e⟩ := gR_of e
  obtain ⟨x3, q3, e⟩ := gI_of e
  rw [st_0 hst]
  exact WK.sub (canon := [some (.inr (72, x0)), some (.inr (10, x1)), some (.inr (11, x2)), some (.inl x3)]) rfl ⟨q0, q1, q2, q3, trivial⟩ (L_law_72_s798 hX hk1807 _ _ _ _ ((L_law_72_l798 L xs X11_feed X12_feed g1807 x0 x1 x2 x3 h).trans e))
noncomputable def L_law_72_f841 (L : Nat) (xs : Nat → Int32) (c_X11_trim : Nat → Int32 → PH → Option Rs) (c_X12_trim : Nat → Int32 → PH → Option Rs) (g1807 : Nat → Nat → Nat → Int32 → PH → Option Rs) (x0 : Nat) (x1 : Nat) (x2 : Nat) (x3 : Int32) (h : PH) : Option Rs :=
  nn x0 fun r257 =>
  sc0 r257 <|
  ix (x3 + 1) L fun j258 =>
  nn x1 fun r259 =>
  cI (c_X11_trim r259 (xs j258) h) fun v261 h260 =>
  nn x0 fun r262 =>
  sc0 r262 <|
  ix (x3 + 1) L fun j263 =>
  nn x2 fun r264 =>
  cI (c_X12_trim r264 (xs j263) h260) fun v266 h265 =>
  if v261 = v266 then
    g1807 x0 x1 x2 x3 h265
  else
    bz 0 <|
    some (some (.inl 0), h265)
set_option maxRecDepth 100000 in
theorem L_law_72_l841 (L : Nat) (xs : Nat → Int32) (c_X11_trim : Nat → Int32 → PH → Option Rs) (c_X12_trim : Nat → Int32 → PH → Option Rs) (g1807 : Nat → Nat → Nat → Int32 → PH → Option Rs) (x0 : Nat) (x1 : Nat) (x2 : Nat) (x3 : Int32) (h : PH) : L_law_72_b841 L xs c_X11_trim c_X12_trim (L_law_72_u1807 g1807) [some (.inr (72, x0)), some (.inr (10, x1)), some (.inr (11, x2)), some (.inl x3)] [] h = L_law_72_f841 L xs c_X11_trim c_X12_trim g1807 x0 x1 x2 x3 h := rfl
theorem L_law_72_m841 {L : Nat} {xs : Nat → Int32} {c_X11_trim : Nat → Int32 → PH → Option Rs} {c_X12_trim : Nat → Int32 → PH → Option Rs} {g1807 G1807 : Nat → Nat → Nat → Int32 → PH → Option Rs} (hg1807 : ∀ a0 a1 a2 a3 a4, Mo (g1807 a0 a1 a2 a3 a4) (G1807 a0 a1 a2 a3 a4)) (x0 : Nat) (x1 : Nat) (x2 : Nat) (x3 : Int32) (h : PH) : Mo (L_law_72_f841 L xs c_X11_trim c_X12_trim g1807 x0 x1 x2 x3 h) (L_law_72_f841 L xs c_X11_trim c_X12_trim G1807 x0 x1 x2 x3 h) := (mo_nn fun r257 => (mo_sc0 (mo_ix fun j258 => (mo_nn fun r259 => (mo_cI fun v261 h260 => (mo_nn fun r262 => (mo_sc0 (mo_ix fun j263 => (mo_nn fun r264 => (mo_cI fun v266 h265 => (mo_if (hg1807 x0 x1 x2 x3 h265) (mo_bz mo_rf))))))))))))
theorem L_law_72_w841 {L : Nat} {xs : Nat → Int32} {z : CZ} (hX : XS (L_law_72_x z) L xs) {g1807 : Nat → Nat → Nat → Int32 → PH → Option Rs} (hk1807 : SK (L_law_72_x z) 1807 (L_law_72_u1807 g1807)) : SK (L_law_72_x z) 841 (L_law_72_u841 (L_law_72_f841 L xs X11_trim X12_trim g1807)) := by
  intro ls st h r e
  obtain ⟨hst, e⟩ := gL_of e
  obtain ⟨x0, q0, e⟩ := gR_of e
  obtain ⟨x1, q1, e⟩ := gR_of e
  obtain ⟨x2, q2, e⟩ := gR_of e
  obtain ⟨x3, q3, e⟩ := gI_of e
  rw [st_0 hst]
  exact WK.sub (canon := [some (.inr (72, x0)), some (.inr (10, x1)), some (.inr (11, x2)), some (.inl x3)]) rfl ⟨q0, q1, q2, q3, trivial⟩ (L_law_72_s841 hX hk1807 _ _ _ _ ((L_law_72_l841 L xs X11_trim X12_trim g1807 x0 x1 x2 x3 h).trans e))
noncomputable def L_law_72_f864 (L : Nat) (xs : Nat → Int32) (c_X11_text : Nat → PH → Option Rs) (c_X12_text : Nat → PH → Option Rs) (g1807 : Nat → Nat → Nat → Int32 → PH → Option Rs) (x0 : Nat) (x1 : Nat) (x2 : Nat) (x3 : Int32) (h : PH) : Option Rs :=
  nn x1 fun r267 =>
  cI (c_X11_text r267 h) fun v269 h268 =>
  nn x2 fun r270 =>
  cI (c_X12_text r270 h268) fun v272 h271 =>
  if v269 = v272 then
    g1807 x0 x1 x2 x3 h271
  else
    bz 0 <|
    some (some (.inl 0), h271)
set_option maxRecDepth 100000 in
theorem L_law_72_l864 (L : Nat) (xs : Nat → Int32) (c_X11_text : Nat → PH → Option Rs) (c_X12_text : Nat → PH → Option Rs) (g1807 : Nat → Nat → Nat → Int32 → PH → Option Rs) (x0 : Nat) (x1 : Nat) (x2 : Nat) (x3 : Int32) (h : PH) : L_law_72_b864 L xs c_X11_text c_X12_text (L_law_72_u1807 g1807) [some (.inr (72, x0)), some (.inr (10, x1)), some (.inr (11, x2)), some (.inl x3)] [] h = L_law_72_f864 L xs c_X11_text c_X12_text g1807 x0 x1 x2 x3 h := rfl
theorem L_law_72_m864 {L : Nat} {xs : Nat → Int32} {c_X11_text : Nat → PH → Option Rs} {c_X12_text : Nat → PH → Option Rs} {g1807 G1807 : Nat → Nat → Nat → Int32 → PH → Option Rs} (hg1807 : ∀ a0 a1 a2 a3 a4, Mo (g1807 a0 a1 a2 a3 a4) (G1807 a0 a1 a2 a3 a4)) (x0 : Nat) (x1 : Nat) (x2 : Nat) (x3 : Int32) (h : PH) : Mo (L_law_72_f864 L xs c_X11_text c_X12_text g1807 x0 x1 x2 x3 h) (L_law_72_f864 L xs c_X11_text c_X12_text G1807 x0 x1 x2 x3 h) := (mo_nn fun r267 => (mo_cI fun v269 h268 => (mo_nn fun r270 => (mo_cI fun v272 h271 => (mo_if (hg1807 x0 x1 x2 x3 h271) (mo_bz mo_rf))))))
theorem L_law_72_w864 {L : Nat} {xs : Nat → Int32} {z : CZ} (hX : XS (L_law_72_x z) L xs) {g1807 : Nat → Nat → Nat → Int32 → PH → Option Rs} (hk1807 : SK (L_law_72_x z) 1807 (L_law_72_u1807 g1807)) : SK (L_law_72_x z) 864 (L_law_72_u864 (L_law_72_f864 L xs X11_text X12_text g1807)) := by
  intro ls st h r e
  obtain ⟨hst, e⟩ := gL_of e
  obtain ⟨x0, q0, e⟩ := gR_of e
  obtain ⟨x1, q1, e⟩ := gR_of e
  obtain ⟨x2, q2, e⟩ := gR_of e
  obtain ⟨x3, q3, e⟩ := gI_of e
  rw [st_0 hst]
  exact WK.sub (canon := [some (.inr (72, x0)), some (.inr (10, x1)), some (.inr (11, x2)), some (.inl x3)]) rfl ⟨q0, q1, q2, q3, trivial⟩ (L_law_72_s864 hX hk1807 _ _ _ _ ((L_law_72_l864 L xs X11_text X12_text g1807 x0 x1 x2 x3 h).trans e))
noncomputable def L_law_72_f877 (L : Nat) (xs : Nat → Int32) (c_X11_textTold : Nat → Int32 → Int32 → PH → Option Rs) (c_X12_textTold : Nat → Int32 → Int32 → PH → Option Rs) (g1807 : Nat → Nat → Nat → Int32 → PH → Option Rs) (x0 : Nat) (x1 : Nat) (x2 : Nat) (x3 : Int32) (h : PH) : Option Rs :=
  nn x0 fun r273 =>
  sc0 r273 <|
  ix (x3 + 1) L fun j274 =>
  nn x0 fun r275 =>
  sc0 r275 <|
  ix (x3 + 2) L fun j276 =>
  nn x1 fun r277 =>
  cI (c_X11_textTold r277 (xs j274) (xs j276) h) fun v279 h278 =>
  nn x0 fun r280 =>
  sc0 r280 <|
  ix (x3 + 1) L fun j281 =>
  nn x0 fun r282 =>
  sc0 r282 <|
  ix (x3 + 2) L fun j283 =>
  nn x2 fun r284 =>
  cI (c_X12_textTold r284 (xs j281) (xs j283) h278) fun v286 h285 =>
  if v279 = v286 then
    g1807 x0 x1 x2 x3 h285
  else
    bz 0 <|
    some (some (.inl 0), h285)
set_option maxRecDepth 100000 in
theorem L_law_72_l877 (L : Nat) (xs : Nat → Int32) (c_X11_textTold : Nat → Int32 → Int32 → PH → Option Rs) (c_X12_textTold : Nat → Int32 → Int32 → PH → Option Rs) (g1807 : Nat → Nat → Nat → Int32 → PH → Option Rs) (x0 : Nat) (x1 : Nat) (x2 : Nat) (x3 : Int32) (h : PH) : L_law_72_b877 L xs c_X11_textTold c_X12_textTold (L_law_72_u1807 g1807) [some (.inr (72, x0)), some (.inr (10, x1)), some (.inr (11, x2)), some (.inl x3)] [] h = L_law_72_f877 L xs c_X11_textTold c_X12_textTold g1807 x0 x1 x2 x3 h := rfl
theorem L_law_72_m877 {L : Nat} {xs : Nat → Int32} {c_X11_textTold : Nat → Int32 → Int32 → PH → Option Rs} {c_X12_textTold : Nat → Int32 → Int32 → PH → Option Rs} {g1807 G1807 : Nat → Nat → Nat → Int32 → PH → Option Rs} (hg1807 : ∀ a0 a1 a2 a3 a4, Mo (g1807 a0 a1 a2 a3 a4) (G1807 a0 a1 a2 a3 a4)) (x0 : Nat) (x1 : Nat) (x2 : Nat) (x3 : Int32) (h : PH) : Mo (L_law_72_f877 L xs c_X11_textTold c_X12_textTold g1807 x0 x1 x2 x3 h) (L_law_72_f877 L xs c_X11_textTold c_X12_textTold G1807 x0 x1 x2 x3 h) := (mo_nn fun r273 => (mo_sc0 (mo_ix fun j274 => (mo_nn fun r275 => (mo_sc0 (mo_ix fun j276 => (mo_nn fun r277 => (mo_cI fun v279 h278 => (mo_nn fun r280 => (mo_sc0 (mo_ix fun j281 => (mo_nn fun r282 => (mo_sc0 (mo_ix fun j283 => (mo_nn fun r284 => (mo_cI fun v286 h285 => (mo_if (hg1807 x0 x1 x2 x3 h285) (mo_bz mo_rf))))))))))))))))))
theorem L_law_72_w877 {L : Nat} {xs : Nat → Int32} {z : CZ} (hX : XS (L_law_72_x z) L xs) {g1807 : Nat → Nat → Nat → Int32 → PH → Option Rs} (hk1807 : SK (L_law_72_x z) 1807 (L_law_72_u1807 g1807)) : SK (L_law_72_x z) 877 (L_law_72_u877 (L_law_72_f877 L xs X11_textTold X12_textTold g1807)) := by
  intro ls st h r e
  obtain ⟨hst, e⟩ := gL_of e
  obtain ⟨x0, q0, e⟩ := gR_of e
  obtain ⟨x1, q1, e⟩ := gR_of e
  obtain ⟨x2, q2, e⟩ := gR_of e
  obtain ⟨x3, q3, e⟩ := gI_of e
  rw [st_0 hst]
  exact WK.sub (canon := [some (.inr (72, x0)), some (.inr (10, x1)), some (.inr (11, x2)), some (.inl x3)]) rfl ⟨q0, q1, q2, q3, trivial⟩ (L_law_72_s877 hX hk1807 _ _ _ _ ((L_law_72_l877 L xs X11_textTold X12_textTold g1807 x0 x1 x2 x3 h).trans e))
noncomputable def L_law_72_f910 (L : Nat) (xs : Nat → Int32) (c_X11_why : Nat → Int32 → PH → Option Rs) (c_X12_why : Nat → Int32 → PH → Option Rs) (g1807 : Nat → Nat → Nat → Int32 → PH → Option Rs) (x0 : Nat) (x1 : Nat) (x2 : Nat) (x3 : Int32) (h : PH) : Option Rs :=
  nn x0 fun r287 =>
  sc0 r287 <|
  ix (x3 + 1) L fun j288 =>
  nn x1 fun r289 =>
  cI (c_X11_why r289 (xs j288) h) fun v291 h290 =>
  nn x0 fun r292 =>
  sc0 r292 <|
  ix (x3 + 1) L fun j293 =>
  nn x2 fun r294 =>
  cI (c_X12_why r294 (xs j293) h290) fun v296 h295 =>
  if v291 = v296 then
    g1807 x0 x1 x2 x3 h295
  else
    bz 0 <|
    some (some (.inl 0), h295)
set_option maxRecDepth 100000 in
theorem L_law_72_l910 (L : Nat) (xs : Nat → Int32) (c_X11_why : Nat → Int32 → PH → Option Rs) (c_X12_why : Nat → Int32 → PH → Option Rs) (g1807 : Nat → Nat → Nat → Int32 → PH → Option Rs) (x0 : Nat) (x1 : Nat) (x2 : Nat) (x3 : Int32) (h : PH) : L_law_72_b910 L xs c_X11_why c_X12_why (L_law_72_u1807 g1807) [some (.inr (72, x0)), some (.inr (10, x1)), some (.inr (11, x2)), some (.inl x3)] [] h = L_law_72_f910 L xs c_X11_why c_X12_why g1807 x0 x1 x2 x3 h := rfl
theorem L_law_72_m910 {L : Nat} {xs : Nat → Int32} {c_X11_why : Nat → Int32 → PH → Option Rs} {c_X12_why : Nat → Int32 → PH → Option Rs} {g1807 G1807 : Nat → Nat → Nat → Int32 → PH → Option Rs} (hg1807 : ∀ a0 a1 a2 a3 a4, Mo (g1807 a0 a1 a2 a3 a4) (G1807 a0 a1 a2 a3 a4)) (x0 : Nat) (x1 : Nat) (x2 : Nat) (x3 : Int32) (h : PH) : Mo (L_law_72_f910 L xs c_X11_why c_X12_why g1807 x0 x1 x2 x3 h) (L_law_72_f910 L xs c_X11_why c_X12_why G1807 x0 x1 x2 x3 h) := (mo_nn fun r287 => (mo_sc0 (mo_ix fun j288 => (mo_nn fun r289 => (mo_cI fun v291 h290 => (mo_nn fun r292 => (mo_sc0 (mo_ix fun j293 => (mo_nn fun r294 => (mo_cI fun v296 h295 => (mo_if (hg1807 x0 x1 x2 x3 h295) (mo_bz mo_rf))))))))))))
theorem L_law_72_w910 {L : Nat} {xs : Nat → Int32} {z : CZ} (hX : XS (L_law_72_x z) L xs) {g1807 : Nat → Nat → Nat → Int32 → PH → Option Rs} (hk1807 : SK (L_law_72_x z) 1807 (L_law_72_u1807 g1807)) : SK (L_law_72_x z) 910 (L_law_72_u910 (L_law_72_f910 L xs X11_why X12_why g1807)) := by
  intro ls st h r e
  obtain ⟨hst, e⟩ := gL_of e
  obtain ⟨x0, q0, e⟩ := gR_of e
  obtain ⟨x1, q1, e⟩ := gR_of e
  obtain ⟨x2, q2, e⟩ := gR_of e
  obtain ⟨x3, q3, e⟩ := gI_of e
  rw [st_0 hst]
  exact WK.sub (canon := [some (.inr (72, x0)), some (.inr (10, x1)), some (.inr (11, x2)), some (.inl x3)]) rfl ⟨q0, q1, q2, q3, trivial⟩ (L_law_72_s910 hX hk1807 _ _ _ _ ((L_law_72_l910 L xs X11_why X12_why g1807 x0 x1 x2 x3 h).trans e))
noncomputable def L_law_72_f933 (L : Nat) (xs : Nat → Int32) (c_X11_walk : Nat → Int32 → Int32 → Int32 → Int32 → PH → Option Rs) (c_X12_walk : Nat → Int32 → Int32 → Int32 → Int32 → PH → Option Rs) (g1807 : Nat → Nat → Nat → Int32 → PH → Option Rs) (x0 : Nat) (x1 : Nat) (x2 : Nat) (x3 : Int32) (h : PH) : Option Rs :=
  nn x0 fun r297 =>
  sc0 r297 <|
  ix (x3 + 1) L fun j298 =>
  nn x0 fun r299 =>
  sc0 r299 <|
  ix (x3 + 2) L fun j300 =>
  nn x0 fun r301 =>
  sc0 r301 <|
  ix (x3 + 3) L fun j302 =>
  nn x0 fun r303 =>
  sc0 r303 <|
  ix (x3 + 4) L fun j304 =>
  nn x1 fun r305 =>
  cI (c_X11_walk r305 (xs j298) (xs j300) (xs j302) (xs j304) h) fun v307 h306 =>
  nn x0 fun r308 =>
  sc0 r308 <|
  ix (x3 + 1) L fun j309 =>
  nn x0 fun r310 =>
  sc0 r310 <|
  ix (x3 + 2) L fun j311 =>
  nn x0 fun r312 =>
  sc0 r312 <|
  ix (x3 + 3) L fun j313 =>
  nn x0 fun r314 =>
  sc0 r314 <|
  ix (x3 + 4) L fun j315 =>
  nn x2 fun r316 =>
  cI (c_X12_walk r316 (xs j309) (xs j311) (xs j313) (xs j315) h306) fun v318 h317 =>
  if v307 = v318 then
    g1807 x0 x1 x2 x3 h317
  else
    bz 0 <|
    some (some (.inl 0), h317)
set_option maxRecDepth 100000 in
theorem L_law_72_l933 (L : Nat) (xs : Nat → Int32) (c_X11_walk : Nat → Int32 → Int32 → Int32 → Int32 → PH → Option Rs) (c_X12_walk : Nat → Int32 → Int32 → Int32 → Int32 → PH → Option Rs) (g1807 : Nat → Nat → Nat → Int32 → PH → Option Rs) (x0 : Nat) (x1 : Nat) (x2 : Nat) (x3 : Int32) (h : PH) : L_law_72_b933 L xs c_X11_walk c_X12_walk (L_law_72_u1807 g1807) [some (.inr (72, x0)), some (.inr (10, x1)), some (.inr (11, x2)), some (.inl x3)] [] h = L_law_72_f933 L xs c_X11_walk c_X12_walk g1807 x0 x1 x2 x3 h := rfl
theorem L_law_72_m933 {L : Nat} {xs : Nat → Int32} {c_X11_walk : Nat → Int32 → Int32 → Int32 → Int32 → PH → Option Rs} {c_X12_walk : Nat → Int32 → Int32 → Int32 → Int32 → PH → Option Rs} {g1807 G1807 : Nat → Nat → Nat → Int32 → PH → Option Rs} (hg1807 : ∀ a0 a1 a2 a3 a4, Mo (g1807 a0 a1 a2 a3 a4) (G1807 a0 a1 a2 a3 a4)) (x0 : Nat) (x1 : Nat) (x2 : Nat) (x3 : Int32) (h : PH) : Mo (L_law_72_f933 L xs c_X11_walk c_X12_walk g1807 x0 x1 x2 x3 h) (L_law_72_f933 L xs c_X11_walk c_X12_walk G1807 x0 x1 x2 x3 h) := (mo_nn fun r297 => (mo_sc0 (mo_ix fun j298 => (mo_nn fun r299 => (mo_sc0 (mo_ix fun j300 => (mo_nn fun r301 => (mo_sc0 (mo_ix fun j302 => (mo_nn fun r303 => (mo_sc0 (mo_ix fun j304 => (mo_nn fun r305 => (mo_cI fun v307 h306 => (mo_nn fun r308 => (mo_sc0 (mo_ix fun j309 => (mo_nn fun r310 => (mo_sc0 (mo_ix fun j311 => (mo_nn fun r312 => (mo_sc0 (mo_ix fun j313 => (mo_nn fun r314 => (mo_sc0 (mo_ix fun j315 => (mo_nn fun r316 => (mo_cI fun v318 h317 => (mo_if (hg1807 x0 x1 x2 x3 h317) (mo_bz mo_rf))))))))))))))))))))))))))))))
theorem L_law_72_w933 {L : Nat} {xs : Nat → Int32} {z : CZ} (hX : XS (L_law_72_x z) L xs) {g1807 : Nat → Nat → Nat → Int32 → PH → Option Rs} (hk1807 : SK (L_law_72_x z) 1807 (L_law_72_u1807 g1807)) : SK (L_law_72_x z) 933 (L_law_72_u933 (L_law_72_f933 L xs X11_walk X12_walk g1807)) := by
  intro ls st h r e
  obtain ⟨hst, e⟩ := gL_of e
  obtain ⟨x0, q0, e⟩ := gR_of e
  obtain ⟨x1, q1, e⟩ := gR_of e
  obtain ⟨x2, q2, e⟩ := gR_of e
  obtain ⟨x3, q3, e⟩ := gI_of e
  rw [st_0 hst]
  exact WK.sub (canon := [some (.inr (72, x0)), some (.inr (10, x1)), some (.inr (11, x2)), some (.inl x3)]) rfl ⟨q0, q1, q2, q3, trivial⟩ (L_law_72_s933 hX hk1807 _ _ _ _ ((L_law_72_l933 L xs X11_walk X12_walk g1807 x0 x1 x2 x3 h).trans e))
noncomputable def L_law_72_f986 (L : Nat) (xs : Nat → Int32) (c_X11_via : Nat → Int32 → Int32 → Int32 → Int32 → PH → Option Rs) (c_X12_via : Nat → Int32 → Int32 → Int32 → Int32 → PH → Option Rs) (g1807 : Nat → Nat → Nat → Int32 → PH → Option Rs) (x0 : Nat) (x1 : Nat) (x2 : Nat) (x3 : Int32) (h : PH) : Option Rs :=
  nn x0 fun r319 =>
  sc0 r319 <|
  ix (x3 + 1) L fun j320 =>
  nn x0 fun r321 =>
  sc0 r321 <|
  ix (x3 + 2) L fun j322 =>
  nn x0 fun r323 =>
  sc0 r323 <|
  ix (x3 + 3) L fun j324 =>
  nn x0 fun r325 =>
  sc0 r325 <|
  ix (x3 + 4) L fun j326 =>
  nn x1 fun r327 =>
  cI (c_X11_via r327 (xs j320) (xs j322) (xs j324) (xs j326) h) fun v329 h328 =>
  nn x0 fun r330 =>
  sc0 r330 <|
  ix (x3 + 1) L fun j331 =>
  nn x0 fun r332 =>
  sc0 r332 <|
  ix (x3 + 2) L fun j333 =>
  nn x0 fun r334 =>
  sc0 r334 <|
  ix (x3 + 3) L fun j335 =>
  nn x0 fun r336 =>
  sc0 r336 <|
  ix (x3 + 4) L fun j337 =>
  nn x2 fun r338 =>
  cI (c_X12_via r338 (xs j331) (xs j333) (xs j335) (xs j337) h328) fun v340 h339 =>
  if v329 = v340 then
    g1807 x0 x1 x2 x3 h339
  else
    bz 0 <|
    some (some (.inl 0), h339)
set_option maxRecDepth 100000 in
theorem L_law_72_l986 (L : Nat) (xs : Nat → Int32) (c_X11_via : Nat → Int32 → Int32 → Int32 → Int32 → PH → Option Rs) (c_X12_via : Nat → Int32 → Int32 → Int32 → Int32 → PH → Option Rs) (g1807 : Nat → Nat → Nat → Int32 → PH → Option Rs) (x0 : Nat) (x1 : Nat) (x2 : Nat) (x3 : Int32) (h : PH) : L_law_72_b986 L xs c_X11_via c_X12_via (L_law_72_u1807 g1807) [some (.inr (72, x0)), some (.inr (10, x1)), some (.inr (11, x2)), some (.inl x3)] [] h = L_law_72_f986 L xs c_X11_via c_X12_via g1807 x0 x1 x2 x3 h := rfl
theorem L_law_72_m986 {L : Nat} {xs : Nat → Int32} {c_X11_via : Nat → Int32 → Int32 → Int32 → Int32 → PH → Option Rs} {c_X12_via : Nat → Int32 → Int32 → Int32 → Int32 → PH → Option Rs} {g1807 G1807 : Nat → Nat → Nat → Int32 → PH → Option Rs} (hg1807 : ∀ a0 a1 a2 a3 a4, Mo (g1807 a0 a1 a2 a3 a4) (G1807 a0 a1 a2 a3 a4)) (x0 : Nat) (x1 : Nat) (x2 : Nat) (x3 : Int32) (h : PH) : Mo (L_law_72_f986 L xs c_X11_via c_X12_via g1807 x0 x1 x2 x3 h) (L_law_72_f986 L xs c_X11_via c_X12_via G1807 x0 x1 x2 x3 h) := (mo_nn fun r319 => (mo_sc0 (mo_ix fun j320 => (mo_nn fun r321 => (mo_sc0 (mo_ix fun j322 => (mo_nn fun r323 => (mo_sc0 (mo_ix fun j324 => (mo_nn fun r325 => (mo_sc0 (mo_ix fun j326 => (mo_nn fun r327 => (mo_cI fun v329 h328 => (mo_nn fun r330 => (mo_sc0 (mo_ix fun j331 => (mo_nn fun r332 => (mo_sc0 (mo_ix fun j333 => (mo_nn fun r334 => (mo_sc0 (mo_ix fun j335 => (mo_nn fun r336 => (mo_sc0 (mo_ix fun j337 => (mo_nn fun r338 => (mo_cI fun v340 h339 => (mo_if (hg1807 x0 x1 x2 x3 h339) (mo_bz mo_rf))))))))))))))))))))))))))))))
theorem L_law_72_w986 {L : Nat} {xs : Nat → Int32} {z : CZ} (hX : XS (L_law_72_x z) L xs) {g1807 : Nat → Nat → Nat → Int32 → PH → Option Rs} (hk1807 : SK (L_law_72_x z) 1807 (L_law_72_u1807 g1807)) : SK (L_law_72_x z) 986 (L_law_72_u986 (L_law_72_f986 L xs X11_via X12_via g1807)) := by
  intro ls st h r e
  obtain ⟨hst, e⟩ := gL_of e
  obtain ⟨x0, q0, e⟩ := gR_of e
  obtain ⟨x1, q1, e⟩ := gR_of e
  obtain ⟨x2, q2, e⟩ := gR_of e
  obtain ⟨x3, q3, e⟩ := gI_of e
  rw [st_0 hst]
  exact WK.sub (canon := [some (.inr (72, x0)), some (.inr (10, x1)), some (.inr (11, x2)), some (.inl x3)]) rfl ⟨q0, q1, q2, q3, trivial⟩ (L_law_72_s986 hX hk1807 _ _ _ _ ((L_law_72_l986 L xs X11_via X12_via g1807 x0 x1 x2 x3 h).trans e))
noncomputable def L_law_72_f1039 (L : Nat) (xs : Nat → Int32) (c_X11_far : Nat → Int32 → Int32 → Int32 → PH → Option Rs) (c_X12_far : Nat → Int32 → Int32 → Int32 → PH → Option Rs) (g1807 : Nat → Nat → Nat → Int32 → PH → Option Rs) (x0 : Nat) (x1 : Nat) (x2 : Nat) (x3 : Int32) (h : PH) : Option Rs :=
  nn x0 fun r341 =>
  sc0 r341 <|
  ix (x3 + 1) L fun j342 =>
  nn x0 fun r343 =>
  sc0 r343 <|
  ix (x3 + 2) L fun j344 =>
  nn x0 fun r345 =>
  sc0 r345 <|
  ix (x3 + 3) L fun j346 =>
  nn x1 fun r347 =>
  cI (c_X11_far r347 (xs j342) (xs j344) (xs j346) h) fun v349 h348 =>
  nn x0 fun r350 =>
  sc0 r350 <|
  ix (x3 + 1) L fun j351 =>
  nn x0 fun r352 =>
  sc0 r352 <|
  ix (x3 + 2) L fun j353 =>
  nn x0 fun r354 =>
  sc0 r354 <|
  ix (x3 + 3) L fun j355 =>
  nn x2 fun r356 =>
  cI (c_X12_far r356 (xs j351) (xs j353) (xs j355) h348) fun v358 h357 =>
  if v349 = v358 then
    g1807 x0 x1 x2 x3 h357
  else
    bz 0 <|
    some (some (.inl 0), h357)
set_option maxRecDepth 100000 in
theorem L_law_72_l1039 (L : Nat) (xs : Nat → Int32) (c_X11_far : Nat → Int32 → Int32 → Int32 → PH → Option Rs) (c_X12_far : Nat → Int32 → Int32 → Int32 → PH → Option Rs) (g1807 : Nat → Nat → Nat → Int32 → PH → Option Rs) (x0 : Nat) (x1 : Nat) (x2 : Nat) (x3 : Int32) (h : PH) : L_law_72_b1039 L xs c_X11_far c_X12_far (L_law_72_u1807 g1807) [some (.inr (72, x0)), some (.inr (10, x1)), some (.inr (11, x2)), some (.inl x3)] [] h = L_law_72_f1039 L xs c_X11_far c_X12_far g1807 x0 x1 x2 x3 h := rfl
theorem L_law_72_m1039 {L : Nat} {xs : Nat → Int32} {c_X11_far : Nat → Int32 → Int32 → Int32 → PH → Option Rs} {c_X12_far : Nat → Int32 → Int32 → Int32 → PH → Option Rs} {g1807 G1807 : Nat → Nat → Nat → Int32 → PH → Option Rs} (hg1807 : ∀ a0 a1 a2 a3 a4, Mo (g1807 a0 a1 a2 a3 a4) (G1807 a0 a1 a2 a3 a4)) (x0 : Nat) (x1 : Nat) (x2 : Nat) (x3 : Int32) (h : PH) : Mo (L_law_72_f1039 L xs c_X11_far c_X12_far g1807 x0 x1 x2 x3 h) (L_law_72_f1039 L xs c_X11_far c_X12_far G1807 x0 x1 x2 x3 h) := (mo_nn fun r341 => (mo_sc0 (mo_ix fun j342 => (mo_nn fun r343 => (mo_sc0 (mo_ix fun j344 => (mo_nn fun r345 => (mo_sc0 (mo_ix fun j346 => (mo_nn fun r347 => (mo_cI fun v349 h348 => (mo_nn fun r350 => (mo_sc0 (mo_ix fun j351 => (mo_nn fun r352 => (mo_sc0 (mo_ix fun j353 => (mo_nn fun r354 => (mo_sc0 (mo_ix fun j355 => (mo_nn fun r356 => (mo_cI fun v358 h357 => (mo_if (hg1807 x0 x1 x2 x3 h357) (mo_bz mo_rf))))))))))))))))))))))))
theorem L_law_72_w1039 {L : Nat} {xs : Nat → Int32} {z : CZ} (hX : XS (L_law_72_x z) L xs) {g1807 : Nat → Nat → Nat → Int32 → PH → Option Rs} (hk1807 : SK (L_law_72_x z) 1807 (L_law_72_u1807 g1807)) : SK (L_law_72_x z) 1039 (L_law_72_u1039 (L_law_72_f1039 L xs X11_far X12_far g1807)) := by
  intro ls st h r e
  obtain ⟨hst, e⟩ := gL_of e
  obtain ⟨x0, q0, e⟩ := gR_of e
  obtain ⟨x1, q1, e⟩ := gR_of e
  obtain ⟨x2, q2, e⟩ := gR_of e
  obtain ⟨x3, q3, e⟩ := gI_of e
  rw [st_0 hst]
  exact WK.sub (canon := [some (.inr (72, x0)), some (.inr (10, x1)), some (.inr (11, x2)), some (.inl x3)]) rfl ⟨q0, q1, q2, q3, trivial⟩ (L_law_72_s1039 hX hk1807 _ _ _ _ ((L_law_72_l1039 L xs X11_far X12_far g1807 x0 x1 x2 x3 h).trans e))
noncomputable def L_law_72_f1082 (L : Nat) (xs : Nat → Int32) (c_X11_next : Nat → Int32 → Int32 → Int32 → PH → Option Rs) (c_X12_next : Nat → Int32 → Int32 → Int32 → PH → Option Rs) (g1807 : Nat → Nat → Nat → Int32 → PH → Option Rs) (x0 : Nat) (x1 : Nat) (x2 : Nat) (x3 : Int32) (h : PH) : Option Rs :=
  nn x0 fun r359 =>
  sc0 r359 <|
  ix (x3 + 1) L fun j360 =>
  nn x0 fun r361 =>
  sc0 r361 <|
  ix (x3 + 2) L fun j362 =>
  nn x0 fun r363 =>
  sc0 r363 <|
  ix (x3 + 3) L fun j364 =>
  nn x1 fun r365 =>
  cI (c_X11_next r365 (xs j360) (xs j362) (xs j364) h) fun v367 h366 =>
  nn x0 fun r368 =>
  sc0 r368 <|
  ix (x3 + 1) L fun j369 =>
  nn x0 fun r370 =>
  sc0 r370 <|
  ix (x3 + 2) L fun j371 =>
  nn x0 fun r372 =>
  sc0 r372 <|
  ix (x3 + 3) L fun j373 =>
  nn x2 fun r374 =>
  cI (c_X12_next r374 (xs j369) (xs j371) (xs j373) h366) fun v376 h375 =>
  if v367 = v376 then
    g1807 x0 x1 x2 x3 h375
  else
    bz 0 <|
    some (some (.inl 0), h375)
set_option maxRecDepth 100000 in
theorem L_law_72_l1082 (L : Nat) (xs : Nat → Int32) (c_X11_next : Nat → Int32 → Int32 → Int32 → PH → Option Rs) (c_X12_next : Nat → Int32 → Int32 → Int32 → PH → Option Rs) (g1807 : Nat → Nat → Nat → Int32 → PH → Option Rs) (x0 : Nat) (x1 : Nat) (x2 : Nat) (x3 : Int32) (h : PH) : L_law_72_b1082 L xs c_X11_next c_X12_next (L_law_72_u1807 g1807) [some (.inr (72, x0)), some (.inr (10, x1)), some (.inr (11, x2)), some (.inl x3)] [] h = L_law_72_f1082 L xs c_X11_next c_X12_next g1807 x0 x1 x2 x3 h := rfl
theorem L_law_72_m1082 {L : Nat} {xs : Nat → Int32} {c_X11_next : Nat → Int32 → Int32 → Int32 → PH → Option Rs} {c_X12_next : Nat → Int32 → Int32 → Int32 → PH → Option Rs} {g1807 G1807 : Nat → Nat → Nat → Int32 → PH → Option Rs} (hg1807 : ∀ a0 a1 a2 a3 a4, Mo (g1807 a0 a1 a2 a3 a4) (G1807 a0 a1 a2 a3 a4)) (x0 : Nat) (x1 : Nat) (x2 : Nat) (x3 : Int32) (h : PH) : Mo (L_law_72_f1082 L xs c_X11_next c_X12_next g1807 x0 x1 x2 x3 h) (L_law_72_f1082 L xs c_X11_next c_X12_next G1807 x0 x1 x2 x3 h) := (mo_nn fun r359 => (mo_sc0 (mo_ix fun j360 => (mo_nn fun r361 => (mo_sc0 (mo_ix fun j362 => (mo_nn fun r363 => (mo_sc0 (mo_ix fun j364 => (mo_nn fun r365 => (mo_cI fun v367 h366 => (mo_nn fun r368 => (mo_sc0 (mo_ix fun j369 => (mo_nn fun r370 => (mo_sc0 (mo_ix fun j371 => (mo_nn fun r372 => (mo_sc0 (mo_ix fun j373 => (mo_nn fun r374 => (mo_cI fun v376 h375 => (mo_if (hg1807 x0 x1 x2 x3 h375) (mo_bz mo_rf))))))))))))))))))))))))
theorem L_law_72_w1082 {L : Nat} {xs : Nat → Int32} {z : CZ} (hX : XS (L_law_72_x z) L xs) {g1807 : Nat → Nat → Nat → Int32 → PH → Option Rs} (hk1807 : SK (L_law_72_x z) 1807 (L_law_72_u1807 g1807)) : SK (L_law_72_x z) 1082 (L_law_72_u1082 (L_law_72_f1082 L xs X11_next X12_next g1807)) := by
  intro ls st h r e
  obtain ⟨hst, e⟩ := gL_of e
  obtain ⟨x0, q0, e⟩ := gR_of e
  obtain ⟨x1, q1, e⟩ := gR_of e
  obtain ⟨x2, q2, e⟩ := gR_of e
  obtain ⟨x3, q3, e⟩ := gI_of e
  rw [st_0 hst]
  exact WK.sub (canon := [some (.inr (72, x0)), some (.inr (10, x1)), some (.inr (11, x2)), some (.inl x3)]) rfl ⟨q0, q1, q2, q3, trivial⟩ (L_law_72_s1082 hX hk1807 _ _ _ _ ((L_law_72_l1082 L xs X11_next X12_next g1807 x0 x1 x2 x3 h).trans e))
noncomputable def L_law_72_f1125 (L : Nat) (xs : Nat → Int32) (c_X11_breaches : Nat → Int32 → PH → Option Rs) (c_X12_breaches : Nat → Int32 → PH → Option Rs) (g1807 : Nat → Nat → Nat → Int32 → PH → Option Rs) (x0 : Nat) (x1 : Nat) (x2 : Nat) (x3 : Int32) (h : PH) : Option Rs :=
  nn x0 fun r377 =>
  sc0 r377 <|
  ix (x3 + 1) L fun j378 =>
  nn x1 fun r379 =>
  cI (c_X11_breaches r379 (xs j378) h) fun v381 h380 =>
  nn x0 fun r382 =>
  sc0 r382 <|
  ix (x3 + 1) L fun j383 =>
  nn x2 fun r384 =>
  cI (c_X12_breaches r384 (xs j383) h380) fun v386 h385 =>
  if v381 = v386 then
    g1807 x0 x1 x2 x3 h385
  else
    bz 0 <|
    some (some (.inl 0), h385)
set_option maxRecDepth 100000 in
theorem L_law_72_l1125 (L : Nat) (xs : Nat → Int32) (c_X11_breaches : Nat → Int32 → PH → Option Rs) (c_X12_breaches : Nat → Int32 → PH → Option Rs) (g1807 : Nat → Nat → Nat → Int32 → PH → Option Rs) (x0 : Nat) (x1 : Nat) (x2 : Nat) (x3 : Int32) (h : PH) : L_law_72_b1125 L xs c_X11_breaches c_X12_breaches (L_law_72_u1807 g1807) [some (.inr (72, x0)), some (.inr (10, x1)), some (.inr (11, x2)), some (.inl x3)] [] h = L_law_72_f1125 L xs c_X11_breaches c_X12_breaches g1807 x0 x1 x2 x3 h := rfl
theorem L_law_72_m1125 {L : Nat} {xs : Nat → Int32} {c_X11_breaches : Nat → Int32 → PH → Option Rs} {c_X12_breaches : Nat → Int32 → PH → Option Rs} {g1807 G1807 : Nat → Nat → Nat → Int32 → PH → Option Rs} (hg1807 : ∀ a0 a1 a2 a3 a4, Mo (g1807 a0 a1 a2 a3 a4) (G1807 a0 a1 a2 a3 a4)) (x0 : Nat) (x1 : Nat) (x2 : Nat) (x3 : Int32) (h : PH) : Mo (L_law_72_f1125 L xs c_X11_breaches c_X12_breaches g1807 x0 x1 x2 x3 h) (L_law_72_f1125 L xs c_X11_breaches c_X12_breaches G1807 x0 x1 x2 x3 h) := (mo_nn fun r377 => (mo_sc0 (mo_ix fun j378 => (mo_nn fun r379 => (mo_cI fun v381 h380 => (mo_nn fun r382 => (mo_sc0 (mo_ix fun j383 => (mo_nn fun r384 => (mo_cI fun v386 h385 => (mo_if (hg1807 x0 x1 x2 x3 h385) (mo_bz mo_rf))))))))))))
theorem L_law_72_w1125 {L : Nat} {xs : Nat → Int32} {z : CZ} (hX : XS (L_law_72_x z) L xs) {g1807 : Nat → Nat → Nat → Int32 → PH → Option Rs} (hk1807 : SK (L_law_72_x z) 1807 (L_law_72_u1807 g1807)) : SK (L_law_72_x z) 1125 (L_law_72_u1125 (L_law_72_f1125 L xs X11_breaches X12_breaches g1807)) := by
  intro ls st h r e
  obtain ⟨hst, e⟩ := gL_of e
  obtain ⟨x0, q0, e⟩ := gR_of e
  obtain ⟨x1, q1, e⟩ := gR_of e
  obtain ⟨x2, q2, e⟩ := gR_of e
  obtain ⟨x3, q3, e⟩ := gI_of e
  rw [st_0 hst]
  exact WK.sub (canon := [some (.inr (72, x0)), some (.inr (10, x1)), some (.inr (11, x2)), some (.inl x3)]) rfl ⟨q0, q1, q2, q3, trivial⟩ (L_law_72_s1125 hX hk1807 _ _ _ _ ((L_law_72_l1125 L xs X11_breaches X12_breaches g1807 x0 x1 x2 x3 h).trans e))
noncomputable def L_law_72_f1148 (L : Nat) (xs : Nat → Int32) (c_X11_breach : Nat → Int32 → Int32 → PH → Option Rs) (c_X12_breach : Nat → Int32 → Int32 → PH → Option Rs) (g1807 : Nat → Nat → Nat → Int32 → PH → Option Rs) (x0 : Nat) (x1 : Nat) (x2 : Nat) (x3 : Int32) (h : PH) : Option Rs :=
  nn x0 fun r387 =>
  sc0 r387 <|
  ix (x3 + 1) L fun j388 =>
  nn x0 fun r389 =>
  sc0 r389 <|
  ix (x3 + 2) L fun j390 =>
  nn x1 fun r391 =>
  cI (c_X11_breach r391 (xs j388) (xs j390) h) fun v393 h392 =>
  nn x0 fun r394 =>
  sc0 r394 <|
  ix (x3 + 1) L fun j395 =>
  nn x0 fun r396 =>
  sc0 r396 <|
  ix (x3 + 2) L fun j397 =>
  nn x2 fun r398 =>
  cI (c_X12_breach r398 (xs j395) (xs j397) h392) fun v400 h399 =>
  if v393 = v400 then
    g1807 x0 x1 x2 x3 h399
  else
    bz 0 <|
    some (some (.inl 0), h399)
set_option maxRecDepth 100000 in
theorem L_law_72_l1148 (L : Nat) (xs : Nat → Int32) (c_X11_breach : Nat → Int32 → Int32 → PH → Option Rs) (c_X12_breach : Nat → Int32 → Int32 → PH → Option Rs) (g1807 : Nat → Nat → Nat → Int32 → PH → Option Rs) (x0 : Nat) (x1 : Nat) (x2 : Nat) (x3 : Int32) (h : PH) : L_law_72_b1148 L xs c_X11_breach c_X12_breach (L_law_72_u1807 g1807) [some (.inr (72, x0)), some (.inr (10, x1)), some (.inr (11, x2)), some (.inl x3)] [] h = L_law_72_f1148 L xs c_X11_breach c_X12_breach g1807 x0 x1 x2 x3 h := rfl
theorem L_law_72_m1148 {L : Nat} {xs : Nat → Int32} {c_X11_breach : Nat → Int32 → Int32 → PH → Option Rs} {c_X12_breach : Nat → Int32 → Int32 → PH → Option Rs} {g1807 G1807 : Nat → Nat → Nat → Int32 → PH → Option Rs} (hg1807 : ∀ a0 a1 a2 a3 a4, Mo (g1807 a0 a1 a2 a3 a4) (G1807 a0 a1 a2 a3 a4)) (x0 : Nat) (x1 : Nat) (x2 : Nat) (x3 : Int32) (h : PH) : Mo (L_law_72_f1148 L xs c_X11_breach c_X12_breach g1807 x0 x1 x2 x3 h) (L_law_72_f1148 L xs c_X11_breach c_X12_breach G1807 x0 x1 x2 x3 h) := (mo_nn fun r387 => (mo_sc0 (mo_ix fun j388 => (mo_nn fun r389 => (mo_sc0 (mo_ix fun j390 => (mo_nn fun r391 => (mo_cI fun v393 h392 => (mo_nn fun r394 => (mo_sc0 (mo_ix fun j395 => (mo_nn fun r396 => (mo_sc0 (mo_ix fun j397 => (mo_nn fun r398 => (mo_cI fun v400 h399 => (mo_if (hg1807 x0 x1 x2 x3 h399) (mo_bz mo_rf))))))))))))))))))
theorem L_law_72_w1148 {L : Nat} {xs : Nat → Int32} {z : CZ} (hX : XS (L_law_72_x z) L xs) {g1807 : Nat → Nat → Nat → Int32 → PH → Option Rs} (hk1807 : SK (L_law_72_x z) 1807 (L_law_72_u1807 g1807)) : SK (L_law_72_x z) 1148 (L_law_72_u1148 (L_law_72_f1148 L xs X11_breach X12_breach g1807)) := by
  intro ls st h r e
  obtain ⟨hst, e⟩ := gL_of e
  obtain ⟨x0, q0, e⟩ := gR_of e
  obtain ⟨x1, q1, e⟩ := gR_of e
  obtain ⟨x2, q2, e⟩ := gR_of e
  obtain ⟨x3, q3, e⟩ := gI_of e
  rw [st_0 hst]
  exact WK.sub (canon := [some (.inr (72, x0)), some (.inr (10, x1)), some (.inr (11, x2)), some (.inl x3)]) rfl ⟨q0, q1, q2, q3, trivial⟩ (L_law_72_s1148 hX hk1807 _ _ _ _ ((L_law_72_l1148 L xs X11_breach X12_breach g1807 x0 x1 x2 x3 h).trans e))
noncomputable def L_law_72_f1181 (L : Nat) (xs : Nat → Int32) (c_X11_needs : Nat → Int32 → Int32 → PH → Option Rs) (c_X12_needs : Nat → Int32 → Int32 → PH → Option Rs) (g1807 : Nat → Nat → Nat → Int32 → PH → Option Rs) (x0 : Nat) (x1 : Nat) (x2 : Nat) (x3 : Int32) (h : PH) : Option Rs :=
  nn x0 fun r401 =>
  sc0 r401 <|
  ix (x3 + 1) L fun j402 =>
  nn x0 fun r403 =>
  sc0 r403 <|
  ix (x3 + 2) L fun j404 =>
  nn x1 fun r405 =>
  cI (c_X11_needs r405 (xs j402) (xs j404) h) fun v407 h406 =>
  nn x0 fun r408 =>
  sc0 r408 <|
  ix (x3 + 1) L fun j409 =>
  nn x0 fun r410 =>
  sc0 r410 <|
  ix (x3 + 2) L fun j411 =>
  nn x2 fun r412 =>
  cI (c_X12_needs r412 (xs j409) (xs j411) h406) fun v414 h413 =>
  if v407 = v414 then
    g1807 x0 x1 x2 x3 h413
  else
    bz 0 <|
    some (some (.inl 0), h413)
set_option maxRecDepth 100000 in
theorem L_law_72_l1181 (L : Nat) (xs : Nat → Int32) (c_X11_needs : Nat → Int32 → Int32 → PH → Option Rs) (c_X12_needs : Nat → Int32 → Int32 → PH → Option Rs) (g1807 : Nat → Nat → Nat → Int32 → PH → Option Rs) (x0 : Nat) (x1 : Nat) (x2 : Nat) (x3 : Int32) (h : PH) : L_law_72_b1181 L xs c_X11_needs c_X12_needs (L_law_72_u1807 g1807) [some (.inr (72, x0)), some (.inr (10, x1)), some (.inr (11, x2)), some (.inl x3)] [] h = L_law_72_f1181 L xs c_X11_needs c_X12_needs g1807 x0 x1 x2 x3 h := rfl
theorem L_law_72_m1181 {L : Nat} {xs : Nat → Int32} {c_X11_needs : Nat → Int32 → Int32 → PH → Option Rs} {c_X12_needs : Nat → Int32 → Int32 → PH → Option Rs} {g1807 G1807 : Nat → Nat → Nat → Int32 → PH → Option Rs} (hg1807 : ∀ a0 a1 a2 a3 a4, Mo (g1807 a0 a1 a2 a3 a4) (G1807 a0 a1 a2 a3 a4)) (x0 : Nat) (x1 : Nat) (x2 : Nat) (x3 : Int32) (h : PH) : Mo (L_law_72_f1181 L xs c_X11_needs c_X12_needs g1807 x0 x1 x2 x3 h) (L_law_72_f1181 L xs c_X11_needs c_X12_needs G1807 x0 x1 x2 x3 h) := (mo_nn fun r401 => (mo_sc0 (mo_ix fun j402 => (mo_nn fun r403 => (mo_sc0 (mo_ix fun j404 => (mo_nn fun r405 => (mo_cI fun v407 h406 => (mo_nn fun r408 => (mo_sc0 (mo_ix fun j409 => (mo_nn fun r410 => (mo_sc0 (mo_ix fun j411 => (mo_nn fun r412 => (mo_cI fun v414 h413 => (mo_if (hg1807 x0 x1 x2 x3 h413) (mo_bz mo_rf))))))))))))))))))
theorem L_law_72_w1181 {L : Nat} {xs : Nat → Int32} {z : CZ} (hX : XS (L_law_72_x z) L xs) {g1807 : Nat → Nat → Nat → Int32 → PH → Option Rs} (hk1807 : SK (L_law_72_x z) 1807 (L_law_72_u1807 g1807)) : SK (L_law_72_x z) 1181 (L_law_72_u1181 (L_law_72_f1181 L xs X11_needs X12_needs g1807)) := by
  intro ls st h r e
  obtain ⟨hst, e⟩ := gL_of e
  obtain ⟨x0, q0, e⟩ := gR_of e
  obtain ⟨x1, q1, e⟩ := gR_of e
  obtain ⟨x2, q2, e⟩ := gR_of e
  obtain ⟨x3, q3, e⟩ := gI_of e
  rw [st_0 hst]
  exact WK.sub (canon := [some (.inr (72, x0)), some (.inr (10, x1)), some (.inr (11, x2)), some (.inl x3)]) rfl ⟨q0, q1, q2, q3, trivial⟩ (L_law_72_s1181 hX hk1807 _ _ _ _ ((L_law_72_l1181 L xs X11_needs X12_needs g1807 x0 x1 x2 x3 h).trans e))
noncomputable def L_law_72_f1214 (L : Nat) (xs : Nat → Int32) (c_X11_wrong : Nat → Int32 → PH → Option Rs) (c_X12_wrong : Nat → Int32 → PH → Option Rs) (g1807 : Nat → Nat → Nat → Int32 → PH → Option Rs) (x0 : Nat) (x1 : Nat) (x2 : Nat) (x3 : Int32) (h : PH) : Option Rs :=
  nn x0 fun r415 =>
  sc0 r415 <|
  ix (x3 + 1) L fun j416 =>
  nn x1 fun r417 =>
  cI (c_X11_wrong r417 (xs j416) h) fun v419 h418 =>
  nn x0 fun r420 =>
  sc0 r420 <|
  ix (x3 + 1) L fun j421 =>
  nn x2 fun r422 =>
  cI (c_X12_wrong r422 (xs j421) h418) fun v424 h423 =>
  if v419 = v424 then
    g1807 x0 x1 x2 x3 h423
  else
    bz 0 <|
    some (some (.inl 0), h423)
set_option maxRecDepth 100000 in
theorem L_law_72_l1214 (L : Nat) (xs : Nat → Int32) (c_X11_wrong : Nat → Int32 → PH → Option Rs) (c_X12_wrong : Nat → Int32 → PH → Option Rs) (g1807 : Nat → Nat → Nat → Int32 → PH → Option Rs) (x0 : Nat) (x1 : Nat) (x2 : Nat) (x3 : Int32) (h : PH) : L_law_72_b1214 L xs c_X11_wrong c_X12_wrong (L_law_72_u1807 g1807) [some (.inr (72, x0)), some (.inr (10, x1)), some (.inr (11, x2)), some (.inl x3)] [] h = L_law_72_f1214 L xs c_X11_wrong c_X12_wrong g1807 x0 x1 x2 x3 h := rfl
theorem L_law_72_m1214 {L : Nat} {xs : Nat → Int32} {c_X11_wrong : Nat → Int32 → PH → Option Rs} {c_X12_wrong : Nat → Int32 → PH → Option Rs} {g1807 G1807 : Nat → Nat → Nat → Int32 → PH → Option Rs} (hg1807 : ∀ a0 a1 a2 a3 a4, Mo (g1807 a0 a1 a2 a3 a4) (G1807 a0 a1 a2 a3 a4)) (x0 : Nat) (x1 : Nat) (x2 : Nat) (x3 : Int32) (h : PH) : Mo (L_law_72_f1214 L xs c_X11_wrong c_X12_wrong g1807 x0 x1 x2 x3 h) (L_law_72_f1214 L xs c_X11_wrong c_X12_wrong G1807 x0 x1 x2 x3 h) := (mo_nn fun r415 => (mo_sc0 (mo_ix fun j416 => (mo_nn fun r417 => (mo_cI fun v419 h418 => (mo_nn fun r420 => (mo_sc0 (mo_ix fun j421 => (mo_nn fun r422 => (mo_cI fun v424 h423 => (mo_if (hg1807 x0 x1 x2 x3 h423) (mo_bz mo_rf))))))))))))
theorem L_law_72_w1214 {L : Nat} {xs : Nat → Int32} {z : CZ} (hX : XS (L_law_72_x z) L xs) {g1807 : Nat → Nat → Nat → Int32 → PH → Option Rs} (hk1807 : SK (L_law_72_x z) 1807 (L_law_72_u1807 g1807)) : SK (L_law_72_x z) 1214 (L_law_72_u1214 (L_law_72_f1214 L xs X11_wrong X12_wrong g1807)) := by
  intro ls st h r e
  obtain ⟨hst, e⟩ := gL_of e
  obtain ⟨x0, q0, e⟩ := gR_of e
  obtain ⟨x1, q1, e⟩ := gR_of e
  obtain ⟨x2, q2, e⟩ := gR_of e
  obtain ⟨x3, q3, e⟩ := gI_of e
  rw [st_0 hst]
  exact WK.sub (canon := [some (.inr (72, x0)), some (.inr (10, x1)), some (.inr (11, x2)), some (.inl x3)]) rfl ⟨q0, q1, q2, q3, trivial⟩ (L_law_72_s1214 hX hk1807 _ _ _ _ ((L_law_72_l1214 L xs X11_wrong X12_wrong g1807 x0 x1 x2 x3 h).trans e))
noncomputable def L_law_72_f1237 (L : Nat) (xs : Nat → Int32) (c_X11_mend : Nat → Int32 → PH → Option Rs) (c_X12_mend : Nat → Int32 → PH → Option Rs) (g1807 : Nat → Nat → Nat → Int32 → PH → Option Rs) (x0 : Nat) (x1 : Nat) (x2 : Nat) (x3 : Int32) (h : PH) : Option Rs :=
  nn x0 fun r425 =>
  sc0 r425 <|
  ix (x3 + 1) L fun j426 =>
  nn x1 fun r427 =>
  cI (c_X11_mend r427 (xs j426) h) fun v429 h428 =>
  nn x0 fun r430 =>
  sc0 r430 <|
  ix (x3 + 1) L fun j431 =>
  nn x2 fun r432 =>
  cI (c_X12_mend r432 (xs j431) h428) fun v434 h433 =>
  if v429 = v434 then
    g1807 x0 x1 x2 x3 h433
  else
    bz 0 <|
    some (some (.inl 0), h433)
set_option maxRecDepth 100000 in
theorem L_law_72_l1237 (L : Nat) (xs : Nat → Int32) (c_X11_mend : Nat → Int32 → PH → Option Rs) (c_X12_mend : Nat → Int32 → PH → Option Rs) (g1807 : Nat → Nat → Nat → Int32 → PH → Option Rs) (x0 : Nat) (x1 : Nat) (x2 : Nat) (x3 : Int32) (h : PH) : L_law_72_b1237 L xs c_X11_mend c_X12_mend (L_law_72_u1807 g1807) [some (.inr (72, x0)), some (.inr (10, x1)), some (.inr (11, x2)), some (.inl x3)] [] h = L_law_72_f1237 L xs c_X11_mend c_X12_mend g1807 x0 x1 x2 x3 h := rfl
theorem L_law_72_m1237 {L : Nat} {xs : Nat → Int32} {c_X11_mend : Nat → Int32 → PH → Option Rs} {c_X12_mend : Nat → Int32 → PH → Option Rs} {g1807 G1807 : Nat → Nat → Nat → Int32 → PH → Option Rs} (hg1807 : ∀ a0 a1 a2 a3 a4, Mo (g1807 a0 a1 a2 a3 a4) (G1807 a0 a1 a2 a3 a4)) (x0 : Nat) (x1 : Nat) (x2 : Nat) (x3 : Int32) (h : PH) : Mo (L_law_72_f1237 L xs c_X11_mend c_X12_mend g1807 x0 x1 x2 x3 h) (L_law_72_f1237 L xs c_X11_mend c_X12_mend G1807 x0 x1 x2 x3 h) := (mo_nn fun r425 => (mo_sc0 (mo_ix fun j426 => (mo_nn fun r427 => (mo_cI fun v429 h428 => (mo_nn fun r430 => (mo_sc0 (mo_ix fun j431 => (mo_nn fun r432 => (mo_cI fun v434 h433 => (mo_if (hg1807 x0 x1 x2 x3 h433) (mo_bz mo_rf))))))))))))
theorem L_law_72_w1237 {L : Nat} {xs : Nat → Int32} {z : CZ} (hX : XS (L_law_72_x z) L xs) {g1807 : Nat → Nat → Nat → Int32 → PH → Option Rs} (hk1807 : SK (L_law_72_x z) 1807 (L_law_72_u1807 g1807)) : SK (L_law_72_x z) 1237 (L_law_72_u1237 (L_law_72_f1237 L xs X11_mend X12_mend g1807)) := by
  intro ls st h r e
  obtain ⟨hst, e⟩ := gL_of e
  obtain ⟨x0, q0, e⟩ := gR_of e
  obtain ⟨x1, q1, e⟩ := gR_of e
  obtain ⟨x2, q2, e⟩ := gR_of e
  obtain ⟨x3, q3, e⟩ := gI_of e
  rw [st_0 hst]
  exact WK.sub (canon := [some (.inr (72, x0)), some (.inr (10, x1)), some (.inr (11, x2)), some (.inl x3)]) rfl ⟨q0, q1, q2, q3, trivial⟩ (L_law_72_s1237 hX hk1807 _ _ _ _ ((L_law_72_l1237 L xs X11_mend X12_mend g1807 x0 x1 x2 x3 h).trans e))
noncomputable def L_law_72_f1260 (L : Nat) (xs : Nat → Int32) (c_X11_choose : Nat → Int32 → PH → Option Rs) (c_X12_choose : Nat → Int32 → PH → Option Rs) (g1807 : Nat → Nat → Nat → Int32 → PH → Option Rs) (x0 : Nat) (x1 : Nat) (x2 : Nat) (x3 : Int32) (h : PH) : Option Rs :=
  nn x0 fun r435 =>
  sc0 r435 <|
  ix (x3 + 1) L fun j436 =>
  nn x1 fun r437 =>
  cI (c_X11_choose r437 (xs j436) h) fun v439 h438 =>
  nn x0 fun r440 =>
  sc0 r440 <|
  ix (x3 + 1) L fun j441 =>
  nn x2 fun r442 =>
  cI (c_X12_choose r442 (xs j441) h438) fun v444 h443 =>
  if v439 = v444 then
    g1807 x0 x1 x2 x3 h443
  else
    bz 0 <|
    some (some (.inl 0), h443)
set_option maxRecDepth 100000 in
theorem L_law_72_l1260 (L : Nat) (xs : Nat → Int32) (c_X11_choose : Nat → Int32 → PH → Option Rs) (c_X12_choose : Nat → Int32 → PH → Option Rs) (g1807 : Nat → Nat → Nat → Int32 → PH → Option Rs) (x0 : Nat) (x1 : Nat) (x2 : Nat) (x3 : Int32) (h : PH) : L_law_72_b1260 L xs c_X11_choose c_X12_choose (L_law_72_u1807 g1807) [some (.inr (72, x0)), some (.inr (10, x1)), some (.inr (11, x2)), some (.inl x3)] [] h = L_law_72_f1260 L xs c_X11_choose c_X12_choose g1807 x0 x1 x2 x3 h := rfl
theorem L_law_72_m1260 {L : Nat} {xs : Nat → Int32} {c_X11_choose : Nat → Int32 → PH → Option Rs} {c_X12_choose : Nat → Int32 → PH → Option Rs} {g1807 G1807 : Nat → Nat → Nat → Int32 → PH → Option Rs} (hg1807 : ∀ a0 a1 a2 a3 a4, Mo (g1807 a0 a1 a2 a3 a4) (G1807 a0 a1 a2 a3 a4)) (x0 : Nat) (x1 : Nat) (x2 : Nat) (x3 : Int32) (h : PH) : Mo (L_law_72_f1260 L xs c_X11_choose c_X12_choose g1807 x0 x1 x2 x3 h) (L_law_72_f1260 L xs c_X11_choose c_X12_choose G1807 x0 x1 x2 x3 h) := (mo_nn fun r435 => (mo_sc0 (mo_ix fun j436 => (mo_nn fun r437 => (mo_cI fun v439 h438 => (mo_nn fun r440 => (mo_sc0 (mo_ix fun j441 => (mo_nn fun r442 => (mo_cI fun v444 h443 => (mo_if (hg1807 x0 x1 x2 x3 h443) (mo_bz mo_rf))))))))))))
theorem L_law_72_w1260 {L : Nat} {xs : Nat → Int32} {z : CZ} (hX : XS (L_law_72_x z) L xs) {g1807 : Nat → Nat → Nat → Int32 → PH → Option Rs} (hk1807 : SK (L_law_72_x z) 1807 (L_law_72_u1807 g1807)) : SK (L_law_72_x z) 1260 (L_law_72_u1260 (L_law_72_f1260 L xs X11_choose X12_choose g1807)) := by
  intro ls st h r e
  obtain ⟨hst, e⟩ := gL_of e
  obtain ⟨x0, q0, e⟩ := gR_of e
  obtain ⟨x1, q1, e⟩ := gR_of e
  obtain ⟨x2, q2, e⟩ := gR_of e
  obtain ⟨x3, q3, e⟩ := gI_of e
  rw [st_0 hst]
  exact WK.sub (canon := [some (.inr (72, x0)), some (.inr (10, x1)), some (.inr (11, x2)), some (.inl x3)]) rfl ⟨q0, q1, q2, q3, trivial⟩ (L_law_72_s1260 hX hk1807 _ _ _ _ ((L_law_72_l1260 L xs X11_choose X12_choose g1807 x0 x1 x2 x3 h).trans e))
noncomputable def L_law_72_f1283 (L : Nat) (xs : Nat → Int32) (c_X11_clear : Nat → PH → Option Rs) (c_X12_clear : Nat → PH → Option Rs) (g1807 : Nat → Nat → Nat → Int32 → PH → Option Rs) (x0 : Nat) (x1 : Nat) (x2 : Nat) (x3 : Int32) (h : PH) : Option Rs :=
  nn x1 fun r445 =>
  cI (c_X11_clear r445 h) fun v447 h446 =>
  nn x2 fun r448 =>
  cI (c_X12_clear r448 h446) fun v450 h449 =>
  if v447 = v450 then
    g1807 x0 x1 x2 x3 h449
  else
    bz 0 <|
    some (some (.inl 0), h449)
set_option maxRecDepth 100000 in
theorem L_law_72_l1283 (L : Nat) (xs : Nat → Int32) (c_X11_clear : Nat → PH → Option Rs) (c_X12_clear : Nat → PH → Option Rs) (g1807 : Nat → Nat → Nat → Int32 → PH → Option Rs) (x0 : Nat) (x1 : Nat) (x2 : Nat) (x3 : Int32) (h : PH) : L_law_72_b1283 L xs c_X11_clear c_X12_clear (L_law_72_u1807 g1807) [some (.inr (72, x0)), some (.inr (10, x1)), some (.inr (11, x2)), some (.inl x3)] [] h = L_law_72_f1283 L xs c_X11_clear c_X12_clear g1807 x0 x1 x2 x3 h := rfl
theorem L_law_72_m1283 {L : Nat} {xs : Nat → Int32} {c_X11_clear : Nat → PH → Option Rs} {c_X12_clear : Nat → PH → Option Rs} {g1807 G1807 : Nat → Nat → Nat → Int32 → PH → Option Rs} (hg1807 : ∀ a0 a1 a2 a3 a4, Mo (g1807 a0 a1 a2 a3 a4) (G1807 a0 a1 a2 a3 a4)) (x0 : Nat) (x1 : Nat) (x2 : Nat) (x3 : Int32) (h : PH) : Mo (L_law_72_f1283 L xs c_X11_clear c_X12_clear g1807 x0 x1 x2 x3 h) (L_law_72_f1283 L xs c_X11_clear c_X12_clear G1807 x0 x1 x2 x3 h) := (mo_nn fun r445 => (mo_cI fun v447 h446 => (mo_nn fun r448 => (mo_cI fun v450 h449 => (mo_if (hg1807 x0 x1 x2 x3 h449) (mo_bz mo_rf))))))
theorem L_law_72_w1283 {L : Nat} {xs : Nat → Int32} {z : CZ} (hX : XS (L_law_72_x z) L xs) {g1807 : Nat → Nat → Nat → Int32 → PH → Option Rs} (hk1807 : SK (L_law_72_x z) 1807 (L_law_72_u1807 g1807)) : SK (L_law_72_x z) 1283 (L_law_72_u1283 (L_law_72_f1283 L xs X11_clear X12_clear g1807)) := by
  intro ls st h r e
  obtain ⟨hst, e⟩ := gL_of e
  obtain ⟨x0, q0, e⟩ := gR_of e
  obtain ⟨x1, q1, e⟩ := gR_of e
  obtain ⟨x2, q2, e⟩ := gR_of e
  obtain ⟨x3, q3, e⟩ := gI_of e
  rw [st_0 hst]
  exact WK.sub (canon := [some (.inr (72, x0)), some (.inr (10, x1)), some (.inr (11, x2)), some (.inl x3)]) rfl ⟨q0, q1, q2, q3, trivial⟩ (L_law_72_s1283 hX hk1807 _ _ _ _ ((L_law_72_l1283 L xs X11_clear X12_clear g1807 x0 x1 x2 x3 h).trans e))
noncomputable def L_law_72_f1296 (L : Nat) (xs : Nat → Int32) (c_X11_fewest : Nat → Int32 → Int32 → PH → Option Rs) (c_X12_fewest : Nat → Int32 → Int32 → PH → Option Rs) (g1807 : Nat → Nat → Nat → Int32 → PH → Option Rs) (x0 : Nat) (x1 : Nat) (x2 : Nat) (x3 : Int32) (h : PH) : Option Rs :=
  nn x0 fun r451 =>
  sc0 r451 <|
  ix (x3 + 1) L fun j452 =>
  nn x0 fun r453 =>
  sc0 r453 <|
  ix (x3 + 2) L fun j454 =>
  nn x1 fun r455 =>
  cI (c_X11_fewest r455 (xs j452) (xs j454) h) fun v457 h456 =>
  nn x0 fun r458 =>
  sc0 r458 <|
  ix (x3 + 1) L fun j459 =>
  nn x0 fun r460 =>
  sc0 r460 <|
  ix (x3 + 2) L fun j461 =>
  nn x2 fun r462 =>
  cI (c_X12_fewest r462 (xs j459) (xs j461) h456) fun v464 h463 =>
  if v457 = v464 then
    g1807 x0 x1 x2 x3 h463
  else
    bz 0 <|
    some (some (.inl 0), h463)
set_option maxRecDepth 100000 in
theorem L_law_72_l1296 (L : Nat) (xs : Nat → Int32) (c_X11_fewest : Nat → Int32 → Int32 → PH → Option Rs) (c_X12_fewest : Nat → Int32 → Int32 → PH → Option Rs) (g1807 : Nat → Nat → Nat → Int32 → PH → Option Rs) (x0 : Nat) (x1 : Nat) (x2 : Nat) (x3 : Int32) (h : PH) : L_law_72_b1296 L xs c_X11_fewest c_X12_fewest (L_law_72_u1807 g1807) [some (.inr (72, x0)), some (.inr (10, x1)), some (.inr (11, x2)), some (.inl x3)] [] h = L_law_72_f1296 L xs c_X11_fewest c_X12_fewest g1807 x0 x1 x2 x3 h := rfl
theorem L_law_72_m1296 {L : Nat} {xs : Nat → Int32} {c_X11_fewest : Nat → Int32 → Int32 → PH → Option Rs} {c_X12_fewest : Nat → Int32 → Int32 → PH → Option Rs} {g1807 G1807 : Nat → Nat → Nat → Int32 → PH → Option Rs} (hg1807 : ∀ a0 a1 a2 a3 a4, Mo (g1807 a0 a1 a2 a3 a4) (G1807 a0 a1 a2 a3 a4)) (x0 : Nat) (x1 : Nat) (x2 : Nat) (x3 : Int32) (h : PH) : Mo (L_law_72_f1296 L xs c_X11_fewest c_X12_fewest g1807 x0 x1 x2 x3 h) (L_law_72_f1296 L xs c_X11_fewest c_X12_fewest G1807 x0 x1 x2 x3 h) := (mo_nn fun r451 => (mo_sc0 (mo_ix fun j452 => (mo_nn fun r453 => (mo_sc0 (mo_ix fun j454 => (mo_nn fun r455 => (mo_cI fun v457 h456 => (mo_nn fun r458 => (mo_sc0 (mo_ix fun j459 => (mo_nn fun r460 => (mo_sc0 (mo_ix fun j461 => (mo_nn fun r462 => (mo_cI fun v464 h463 => (mo_if (hg1807 x0 x1 x2 x3 h463) (mo_bz mo_rf))))))))))))))))))
theorem L_law_72_w1296 {L : Nat} {xs : Nat → Int32} {z : CZ} (hX : XS (L_law_72_x z) L xs) {g1807 : Nat → Nat → Nat → Int32 → PH → Option Rs} (hk1807 : SK (L_law_72_x z) 1807 (L_law_72_u1807 g1807)) : SK (L_law_72_x z) 1296 (L_law_72_u1296 (L_law_72_f1296 L xs X11_fewest X12_fewest g1807)) := by
  intro ls st h r e
  obtain ⟨hst, e⟩ := gL_of e
  obtain ⟨x0, q0, e⟩ := gR_of e
  obtain ⟨x1, q1, e⟩ := gR_of e
  obtain ⟨x2, q2, e⟩ := gR_of e
  obtain ⟨x3, q3, e⟩ := gI_of e
  rw [st_0 hst]
  exact WK.sub (canon := [some (.inr (72, x0)), some (.inr (10, x1)), some (.inr (11, x2)), some (.inl x3)]) rfl ⟨q0, q1, q2, q3, trivial⟩ (L_law_72_s1296 hX hk1807 _ _ _ _ ((L_law_72_l1296 L xs X11_fewest X12_fewest g1807 x0 x1 x2 x3 h).trans e))
noncomputable def L_law_72_f1329 (L : Nat) (xs : Nat → Int32) (c_X11_seed : Nat → Int32 → PH → Option Rs) (c_X12_seed : Nat → Int32 → PH → Option Rs) (g1807 : Nat → Nat → Nat → Int32 → PH → Option Rs) (x0 : Nat) (x1 : Nat) (x2 : Nat) (x3 : Int32) (h : PH) : Option Rs :=
  nn x0 fun r465 =>
  sc0 r465 <|
  ix (x3 + 1) L fun j466 =>
  nn x1 fun r467 =>
  cI (c_X11_seed r467 (xs j466) h) fun v469 h468 =>
  nn x0 fun r470 =>
  sc0 r470 <|
  ix (x3 + 1) L fun j471 =>
  nn x2 fun r472 =>
  cI (c_X12_seed r472 (xs j471) h468) fun v474 h473 =>
  if v469 = v474 then
    g1807 x0 x1 x2 x3 h473
  else
    bz 0 <|
    some (some (.inl 0), h473)
set_option maxRecDepth 100000 in
theorem L_law_72_l1329 (L : Nat) (xs : Nat → Int32) (c_X11_seed : Nat → Int32 → PH → Option Rs) (c_X12_seed : Nat → Int32 → PH → Option Rs) (g1807 : Nat → Nat → Nat → Int32 → PH → Option Rs) (x0 : Nat) (x1 : Nat) (x2 : Nat) (x3 : Int32) (h : PH) : L_law_72_b1329 L xs c_X11_seed c_X12_seed (L_law_72_u1807 g1807) [some (.inr (72, x0)), some (.inr (10, x1)), some (.inr (11, x2)), some (.inl x3)] [] h = L_law_72_f1329 L xs c_X11_seed c_X12_seed g1807 x0 x1 x2 x3 h := rfl
theorem L_law_72_m1329 {L : Nat} {xs : Nat → Int32} {c_X11_seed : Nat → Int32 → PH → Option Rs} {c_X12_seed : Nat → Int32 → PH → Option Rs} {g1807 G1807 : Nat → Nat → Nat → Int32 → PH → Option Rs} (hg1807 : ∀ a0 a1 a2 a3 a4, Mo (g1807 a0 a1 a2 a3 a4) (G1807 a0 a1 a2 a3 a4)) (x0 : Nat) (x1 : Nat) (x2 : Nat) (x3 : Int32) (h : PH) : Mo (L_law_72_f1329 L xs c_X11_seed c_X12_seed g1807 x0 x1 x2 x3 h) (L_law_72_f1329 L xs c_X11_seed c_X12_seed G1807 x0 x1 x2 x3 h) := (mo_nn fun r465 => (mo_sc0 (mo_ix fun j466 => (mo_nn fun r467 => (mo_cI fun v469 h468 => (mo_nn fun r470 => (mo_sc0 (mo_ix fun j471 => (mo_nn fun r472 => (mo_cI fun v474 h473 => (mo_if (hg1807 x0 x1 x2 x3 h473) (mo_bz mo_rf))))))))))))
theorem L_law_72_w1329 {L : Nat} {xs : Nat → Int32} {z : CZ} (hX : XS (L_law_72_x z) L xs) {g1807 : Nat → Nat → Nat → Int32 → PH → Option Rs} (hk1807 : SK (L_law_72_x z) 1807 (L_law_72_u1807 g1807)) : SK (L_law_72_x z) 1329 (L_law_72_u1329 (L_law_72_f1329 L xs X11_seed X12_seed g1807)) := by
  intro ls st h r e
  obtain ⟨hst, e⟩ := gL_of e
  obtain ⟨x0, q0, e⟩ := gR_of e
  obtain ⟨x1, q1, e⟩ := gR_of e
  obtain ⟨x2, q2, e⟩ := gR_of e
  obtain ⟨x3, q3, e⟩ := gI_of e
  rw [st_0 hst]
  exact WK.sub (canon := [some (.inr (72, x0)), some (.inr (10, x1)), some (.inr (11, x2)), some (.inl x3)]) rfl ⟨q0, q1, q2, q3, trivial⟩ (L_law_72_s1329 hX hk1807 _ _ _ _ ((L_law_72_l1329 L xs X11_seed X12_seed g1807 x0 x1 x2 x3 h).trans e))
noncomputable def L_law_72_f1352 (L : Nat) (xs : Nat → Int32) (c_X11_strangers : Nat → Int32 → PH → Option Rs) (c_X12_strangers : Nat → Int32 → PH → Option Rs) (g1807 : Nat → Nat → Nat → Int32 → PH → Option Rs) (x0 : Nat) (x1 : Nat) (x2 : Nat) (x3 : Int32) (h : PH) : Option Rs :=
  nn x0 fun r475 =>
  sc0 r475 <|
  ix (x3 + 1) L fun j476 =>
  nn x1 fun r477 =>
  cI (c_X11_strangers r477 (xs j476) h) fun v479 h478 =>
  nn x0 fun r480 =>
  sc0 r480 <|
  ix (x3 + 1) L fun j481 =>
  nn x2 fun r482 =>
  cI (c_X12_strangers r482 (xs j481) h478) fun v484 h483 =>
  if v479 = v484 then
    g1807 x0 x1 x2 x3 h483
  else
    bz 0 <|
    some (some (.inl 0), h483)
set_option maxRecDepth 100000 in
theorem L_law_72_l1352 (L : Nat) (xs : Nat → Int32) (c_X11_strangers : Nat → Int32 → PH → Option Rs) (c_X12_strangers : Nat → Int32 → PH → Option Rs) (g1807 : Nat → Nat → Nat → Int32 → PH → Option Rs) (x0 : Nat) (x1 : Nat) (x2 : Nat) (x3 : Int32) (h : PH) : L_law_72_b1352 L xs c_X11_strangers c_X12_strangers (L_law_72_u1807 g1807) [some (.inr (72, x0)), some (.inr (10, x1)), some (.inr (11, x2)), some (.inl x3)] [] h = L_law_72_f1352 L xs c_X11_strangers c_X12_strangers g1807 x0 x1 x2 x3 h := rfl
theorem L_law_72_m1352 {L : Nat} {xs : Nat → Int32} {c_X11_strangers : Nat → Int32 → PH → Option Rs} {c_X12_strangers : Nat → Int32 → PH → Option Rs} {g1807 G1807 : Nat → Nat → Nat → Int32 → PH → Option Rs} (hg1807 : ∀ a0 a1 a2 a3 a4, Mo (g1807 a0 a1 a2 a3 a4) (G1807 a0 a1 a2 a3 a4)) (x0 : Nat) (x1 : Nat) (x2 : Nat) (x3 : Int32) (h : PH) : Mo (L_law_72_f1352 L xs c_X11_strangers c_X12_strangers g1807 x0 x1 x2 x3 h) (L_law_72_f1352 L xs c_X11_strangers c_X12_strangers G1807 x0 x1 x2 x3 h) := (mo_nn fun r475 => (mo_sc0 (mo_ix fun j476 => (mo_nn fun r477 => (mo_cI fun v479 h478 => (mo_nn fun r480 => (mo_sc0 (mo_ix fun j481 => (mo_nn fun r482 => (mo_cI fun v484 h483 => (mo_if (hg1807 x0 x1 x2 x3 h483) (mo_bz mo_rf))))))))))))
theorem L_law_72_w1352 {L : Nat} {xs : Nat → Int32} {z : CZ} (hX : XS (L_law_72_x z) L xs) {g1807 : Nat → Nat → Nat → Int32 → PH → Option Rs} (hk1807 : SK (L_law_72_x z) 1807 (L_law_72_u1807 g1807)) : SK (L_law_72_x z) 1352 (L_law_72_u1352 (L_law_72_f1352 L xs X11_strangers X12_strangers g1807)) := by
  intro ls st h r e
  obtain ⟨hst, e⟩ := gL_of e
  obtain ⟨x0, q0, e⟩ := gR_of e
  obtain ⟨x1, q1, e⟩ := gR_of e
  obtain ⟨x2, q2, e⟩ := gR_of e
  obtain ⟨x3, q3, e⟩ := gI_of e
  rw [st_0 hst]
  exact WK.sub (canon := [some (.inr (72, x0)), some (.inr (10, x1)), some (.inr (11, x2)), some (.inl x3)]) rfl ⟨q0, q1, q2, q3, trivial⟩ (L_law_72_s1352 hX hk1807 _ _ _ _ ((L_law_72_l1352 L xs X11_strangers X12_strangers g1807 x0 x1 x2 x3 h).trans e))
noncomputable def L_law_72_f1375 (L : Nat) (xs : Nat → Int32) (c_X11_led : Nat → PH → Option Rs) (c_X12_led : Nat → PH → Option Rs) (g1807 : Nat → Nat → Nat → Int32 → PH → Option Rs) (x0 : Nat) (x1 : Nat) (x2 : Nat) (x3 : Int32) (h : PH) : Option Rs :=
  nn x1 fun r485 =>
  cI (c_X11_led r485 h) fun v487 h486 =>
  nn x2 fun r488 =>
  cI (c_X12_led r488 h486) fun v490 h489 =>
  if v487 = v490 then
    g1807 x0 x1 x2 x3 h489
  else
    bz 0 <|
    some (some (.inl 0), h489)
set_option maxRecDepth 100000 in
theorem L_law_72_l1375 (L : Nat) (xs : Nat → Int32) (c_X11_led : Nat → PH → Option Rs) (c_X12_led : Nat → PH → Option Rs) (g1807 : Nat → Nat → Nat → Int32 → PH → Option Rs) (x0 : Nat) (x1 : Nat) (x2 : Nat) (x3 : Int32) (h : PH) : L_law_72_b1375 L xs c_X11_led c_X12_led (L_law_72_u1807 g1807) [some (.inr (72, x0)), some (.inr (10, x1)), some (.inr (11, x2)), some (.inl x3)] [] h = L_law_72_f1375 L xs c_X11_led c_X12_led g1807 x0 x1 x2 x3 h := rfl
theorem L_law_72_m1375 {L : Nat} {xs : Nat → Int32} {c_X11_led : Nat → PH → Option Rs} {c_X12_led : Nat → PH → Option Rs} {g1807 G1807 : Nat → Nat → Nat → Int32 → PH → Option Rs} (hg1807 : ∀ a0 a1 a2 a3 a4, Mo (g1807 a0 a1 a2 a3 a4) (G1807 a0 a1 a2 a3 a4)) (x0 : Nat) (x1 : Nat) (x2 : Nat) (x3 : Int32) (h : PH) : Mo (L_law_72_f1375 L xs c_X11_led c_X12_led g1807 x0 x1 x2 x3 h) (L_law_72_f1375 L xs c_X11_led c_X12_led G1807 x0 x1 x2 x3 h) := (mo_nn fun r485 => (mo_cI fun v487 h486 => (mo_nn fun r488 => (mo_cI fun v490 h489 => (mo_if (hg1807 x0 x1 x2 x3 h489) (mo_bz mo_rf))))))
theorem L_law_72_w1375 {L : Nat} {xs : Nat → Int32} {z : CZ} (hX : XS (L_law_72_x z) L xs) {g1807 : Nat → Nat → Nat → Int32 → PH → Option Rs} (hk1807 : SK (L_law_72_x z) 1807 (L_law_72_u1807 g1807)) : SK (L_law_72_x z) 1375 (L_law_72_u1375 (L_law_72_f1375 L xs X11_led X12_led g1807)) := by
  intro ls st h r e
  obtain ⟨hst, e⟩ := gL_of e
  obtain ⟨x0, q0, e⟩ := gR_of e
  obtain ⟨x1, q1, e⟩ := gR_of e
  obtain ⟨x2, q2, e⟩ := gR_of e
  obtain ⟨x3, q3, e⟩ := gI_of e
  rw [st_0 hst]
  exact WK.sub (canon := [some (.inr (72, x0)), some (.inr (10, x1)), some (.inr (11, x2)), some (.inl x3)]) rfl ⟨q0, q1, q2, q3, trivial⟩ (L_law_72_s1375 hX hk1807 _ _ _ _ ((L_law_72_l1375 L xs X11_led X12_led g1807 x0 x1 x2 x3 h).trans e))
noncomputable def L_law_72_f1388 (L : Nat) (xs : Nat → Int32) (c_X11_sheet : Nat → Int32 → Int32 → Int32 → PH → Option Rs) (c_X12_sheet : Nat → Int32 → Int32 → Int32 → PH → Option Rs) (g1807 : Nat → Nat → Nat → Int32 → PH → Option Rs) (x0 : Nat) (x1 : Nat) (x2 : Nat) (x3 : Int32) (h : PH) : Option Rs :=
  nn x0 fun r491 =>
  sc0 r491 <|
  ix (x3 + 1) L fun j492 =>
  nn x0 fun r493 =>
  sc0 r493 <|
  ix (x3 + 2) L fun j494 =>
  nn x0 fun r495 =>
  sc0 r495 <|
  ix (x3 + 3) L fun j496 =>
  nn x1 fun r497 =>
  cI (c_X11_sheet r497 (xs j492) (xs j494) (xs j496) h) fun v499 h498 =>
  nn x0 fun r500 =>
  sc0 r500 <|
  ix (x3 + 1) L fun j501 =>
  nn x0 fun r502 =>
  sc0 r502 <|
  ix (x3 + 2) L fun j503 =>
  nn x0 fun r504 =>
  sc0 r504 <|
  ix (x3 + 3) L fun j505 =>
  nn x2 fun r506 =>
  cI (c_X12_sheet r506 (xs j501) (xs j503) (xs j505) h498) fun v508 h507 =>
  if v499 = v508 then
    g1807 x0 x1 x2 x3 h507
  else
    bz 0 <|
    some (some (.inl 0), h507)
set_option maxRecDepth 100000 in
theorem L_law_72_l1388 (L : Nat) (xs : Nat → Int32) (c_X11_sheet : Nat → Int32 → Int32 → Int32 → PH → Option Rs) (c_X12_sheet : Nat → Int32 → Int32 → Int32 → PH → Option Rs) (g1807 : Nat → Nat → Nat → Int32 → PH → Option Rs) (x0 : Nat) (x1 : Nat) (x2 : Nat) (x3 : Int32) (h : PH) : L_law_72_b1388 L xs c_X11_sheet c_X12_sheet (L_law_72_u1807 g1807) [some (.inr (72, x0)), some (.inr (10, x1)), some (.inr (11, x2)), some (.inl x3)] [] h = L_law_72_f1388 L xs c_X11_sheet c_X12_sheet g1807 x0 x1 x2 x3 h := rfl
theorem L_law_72_m1388 {L : Nat} {xs : Nat → Int32} {c_X11_sheet : Nat → Int32 → Int32 → Int32 → PH → Option Rs} {c_X12_sheet : Nat → Int32 → Int32 → Int32 → PH → Option Rs} {g1807 G1807 : Nat → Nat → Nat → Int32 → PH → Option Rs} (hg1807 : ∀ a0 a1 a2 a3 a4, Mo (g1807 a0 a1 a2 a3 a4) (G1807 a0 a1 a2 a3 a4)) (x0 : Nat) (x1 : Nat) (x2 : Nat) (x3 : Int32) (h : PH) : Mo (L_law_72_f1388 L xs c_X11_sheet c_X12_sheet g1807 x0 x1 x2 x3 h) (L_law_72_f1388 L xs c_X11_sheet c_X12_sheet G1807 x0 x1 x2 x3 h) := (mo_nn fun r491 => (mo_sc0 (mo_ix fun j492 => (mo_nn fun r493 => (mo_sc0 (mo_ix fun j494 => (mo_nn fun r495 => (mo_sc0 (mo_ix fun j496 => (mo_nn fun r497 => (mo_cI fun v499 h498 => (mo_nn fun r500 => (mo_sc0 (mo_ix fun j501 => (mo_nn fun r502 => (mo_sc0 (mo_ix fun j503 => (mo_nn fun r504 => (mo_sc0 (mo_ix fun j505 => (mo_nn fun r506 => (mo_cI fun v508 h507 => (mo_if (hg1807 x0 x1 x2 x3 h507) (mo_bz mo_rf))))))))))))))))))))))))
theorem L_law_72_w1388 {L : Nat} {xs : Nat → Int32} {z : CZ} (hX : XS (L_law_72_x z) L xs) {g1807 : Nat → Nat → Nat → Int32 → PH → Option Rs} (hk1807 : SK (L_law_72_x z) 1807 (L_law_72_u1807 g1807)) : SK (L_law_72_x z) 1388 (L_law_72_u1388 (L_law_72_f1388 L xs X11_sheet X12_sheet g1807)) := by
  intro ls st h r e
  obtain ⟨hst, e⟩ := gL_of e
  obtain ⟨x0, q0, e⟩ := gR_of e
  obtain ⟨x1, q1, e⟩ := gR_of e
  obtain ⟨x2, q2, e⟩ := gR_of e
  obtain ⟨x3, q3, e⟩ := gI_of e
  rw [st_0 hst]
  exact WK.sub (canon := [some (.inr (72, x0)), some (.inr (10, x1)), some (.inr (11, x2)), some (.inl x3)]) rfl ⟨q0, q1, q2, q3, trivial⟩ (L_law_72_s1388 hX hk1807 _ _ _ _ ((L_law_72_l1388 L xs X11_sheet X12_sheet g1807 x0 x1 x2 x3 h).trans e))
noncomputable def L_law_72_f1431 (L : Nat) (xs : Nat → Int32) (c_X11_mark : Nat → Int32 → Int32 → Int32 → PH → Option Rs) (c_X12_mark : Nat → Int32 → Int32 → Int32 → PH → Option Rs) (g1807 : Nat → Nat → Nat → Int32 → PH → Option Rs) (x0 : Nat) (x1 : Nat) (x2 : Nat) (x3 : Int32) (h : PH) : Option Rs :=
  nn x0 fun r509 =>
  sc0 r509 <|
  ix (x3 + 1) L fun j510 =>
  nn x0 fun r511 =>
  sc0 r511 <|
  ix (x3 + 2) L fun j512 =>
  nn x0 fun r513 =>
  sc0 r513 <|
  ix (x3 + 3) L fun j514 =>
  nn x1 fun r515 =>
  cI (c_X11_mark r515 (xs j510) (xs j512) (xs j514) h) fun v517 h516 =>
  nn x0 fun r518 =>
  sc0 r518 <|
  ix (x3 + 1) L fun j519 =>
  nn x0 fun r520 =>
  sc0 r520 <|
  ix (x3 + 2) L fun j521 =>
  nn x0 fun r522 =>
  sc0 r522 <|
  ix (x3 + 3) L fun j523 =>
  nn x2 fun r524 =>
  cI (c_X12_mark r524 (xs j519) (xs j521) (xs j523) h516) fun v526 h525 =>
  if v517 = v526 then
    g1807 x0 x1 x2 x3 h525
  else
    bz 0 <|
    some (some (.inl 0), h525)
set_option maxRecDepth 100000 in
theorem L_law_72_l1431 (L : Nat) (xs : Nat → Int32) (c_X11_mark : Nat → Int32 → Int32 → Int32 → PH → Option Rs) (c_X12_mark : Nat → Int32 → Int32 → Int32 → PH → Option Rs) (g1807 : Nat → Nat → Nat → Int32 → PH → Option Rs) (x0 : Nat) (x1 : Nat) (x2 : Nat) (x3 : Int32) (h : PH) : L_law_72_b1431 L xs c_X11_mark c_X12_mark (L_law_72_u1807 g1807) [some (.inr (72, x0)), some (.inr (10, x1)), some (.inr (11, x2)), some (.inl x3)] [] h = L_law_72_f1431 L xs c_X11_mark c_X12_mark g1807 x0 x1 x2 x3 h := rfl
theorem L_law_72_m1431 {L : Nat} {xs : Nat → Int32} {c_X11_mark : Nat → Int32 → Int32 → Int32 → PH → Option Rs} {c_X12_mark : Nat → Int32 → Int32 → Int32 → PH → Option Rs} {g1807 G1807 : Nat → Nat → Nat → Int32 → PH → Option Rs} (hg1807 : ∀ a0 a1 a2 a3 a4, Mo (g1807 a0 a1 a2 a3 a4) (G1807 a0 a1 a2 a3 a4)) (x0 : Nat) (x1 : Nat) (x2 : Nat) (x3 : Int32) (h : PH) : Mo (L_law_72_f1431 L xs c_X11_mark c_X12_mark g1807 x0 x1 x2 x3 h) (L_law_72_f1431 L xs c_X11_mark c_X12_mark G1807 x0 x1 x2 x3 h) := (mo_nn fun r509 => (mo_sc0 (mo_ix fun j510 => (mo_nn fun r511 => (mo_sc0 (mo_ix fun j512 => (mo_nn fun r513 => (mo_sc0 (mo_ix fun j514 => (mo_nn fun r515 => (mo_cI fun v517 h516 => (mo_nn fun r518 => (mo_sc0 (mo_ix fun j519 => (mo_nn fun r520 => (mo_sc0 (mo_ix fun j521 => (mo_nn fun r522 => (mo_sc0 (mo_ix fun j523 => (mo_nn fun r524 => (mo_cI fun v526 h525 => (mo_if (hg1807 x0 x1 x2 x3 h525) (mo_bz mo_rf))))))))))))))))))))))))
theorem L_law_72_w1431 {L : Nat} {xs : Nat → Int32} {z : CZ} (hX : XS (L_law_72_x z) L xs) {g1807 : Nat → Nat → Nat → Int32 → PH → Option Rs} (hk1807 : SK (L_law_72_x z) 1807 (L_law_72_u1807 g1807)) : SK (L_law_72_x z) 1431 (L_law_72_u1431 (L_law_72_f1431 L xs X11_mark X12_mark g1807)) := by
  intro ls st h r e
  obtain ⟨hst, e⟩ := gL_of e
  obtain ⟨x0, q0, e⟩ := gR_of e
  obtain ⟨x1, q1, e⟩ := gR_of e
  obtain ⟨x2, q2, e⟩ := gR_of e
  obtain ⟨x3, q3, e⟩ := gI_of e
  rw [st_0 hst]
  exact WK.sub (canon := [some (.inr (72, x0)), some (.inr (10, x1)), some (.inr (11, x2)), some (.inl x3)]) rfl ⟨q0, q1, q2, q3, trivial⟩ (L_law_72_s1431 hX hk1807 _ _ _ _ ((L_law_72_l1431 L xs X11_mark X12_mark g1807 x0 x1 x2 x3 h).trans e))
noncomputable def L_law_72_f1474 (L : Nat) (xs : Nat → Int32) (c_X11_fill : Nat → Int32 → Int32 → PH → Option Rs) (c_X12_fill : Nat → Int32 → Int32 → PH → Option Rs) (g1807 : Nat → Nat → Nat → Int32 → PH → Option Rs) (x0 : Nat) (x1 : Nat) (x2 : Nat) (x3 : Int32) (h : PH) : Option Rs :=
  nn x0 fun r527 =>
  sc0 r527 <|
  ix (x3 + 1) L fun j528 =>
  nn x0 fun r529 =>
  sc0 r529 <|
  ix (x3 + 2) L fun j530 =>
  nn x1 fun r531 =>
  cI (c_X11_fill r531 (xs j528) (xs j530) h) fun v533 h532 =>
  nn x0 fun r534 =>
  sc0 r534 <|
  ix (x3 + 1) L fun j535 =>
  nn x0 fun r536 =>
  sc0 r536 <|
  ix (x3 + 2) L fun j537 =>
  nn x2 fun r538 =>
  cI (c_X12_fill r538 (xs j535) (xs j537) h532) fun v540 h539 =>
  if v533 = v540 then
    g1807 x0 x1 x2 x3 h539
  else
    bz 0 <|
    some (some (.inl 0), h539)
set_option maxRecDepth 100000 in
theorem L_law_72_l1474 (L : Nat) (xs : Nat → Int32) (c_X11_fill : Nat → Int32 → Int32 → PH → Option Rs) (c_X12_fill : Nat → Int32 → Int32 → PH → Option Rs) (g1807 : Nat → Nat → Nat → Int32 → PH → Option Rs) (x0 : Nat) (x1 : Nat) (x2 : Nat) (x3 : Int32) (h : PH) : L_law_72_b1474 L xs c_X11_fill c_X12_fill (L_law_72_u1807 g1807) [some (.inr (72, x0)), some (.inr (10, x1)), some (.inr (11, x2)), some (.inl x3)] [] h = L_law_72_f1474 L xs c_X11_fill c_X12_fill g1807 x0 x1 x2 x3 h := rfl
theorem L_law_72_m1474 {L : Nat} {xs : Nat → Int32} {c_X11_fill : Nat → Int32 → Int32 → PH → Option Rs} {c_X12_fill : Nat → Int32 → Int32 → PH → Option Rs} {g1807 G1807 : Nat → Nat → Nat → Int32 → PH → Option Rs} (hg1807 : ∀ a0 a1 a2 a3 a4, Mo (g1807 a0 a1 a2 a3 a4) (G1807 a0 a1 a2 a3 a4)) (x0 : Nat) (x1 : Nat) (x2 : Nat) (x3 : Int32) (h : PH) : Mo (L_law_72_f1474 L xs c_X11_fill c_X12_fill g1807 x0 x1 x2 x3 h) (L_law_72_f1474 L xs c_X11_fill c_X12_fill G1807 x0 x1 x2 x3 h) := (mo_nn fun r527 => (mo_sc0 (mo_ix fun j528 => (mo_nn fun r529 => (mo_sc0 (mo_ix fun j530 => (mo_nn fun r531 => (mo_cI fun v533 h532 => (mo_nn fun r534 => (mo_sc0 (mo_ix fun j535 => (mo_nn fun r536 => (mo_sc0 (mo_ix fun j537 => (mo_nn fun r538 => (mo_cI fun v540 h539 => (mo_if (hg1807 x0 x1 x2 x3 h539) (mo_bz mo_rf))))))))))))))))))
theorem L_law_72_w1474 {L : Nat} {xs : Nat → Int32} {z : CZ} (hX : XS (L_law_72_x z) L xs) {g1807 : Nat → Nat → Nat → Int32 → PH → Option Rs} (hk1807 : SK (L_law_72_x z) 1807 (L_law_72_u1807 g1807)) : SK (L_law_72_x z) 1474 (L_law_72_u1474 (L_law_72_f1474 L xs X11_fill X12_fill g1807)) := by
  intro ls st h r e
  obtain ⟨hst, e⟩ := gL_of e
  obtain ⟨x0, q0, e⟩ := gR_of e
  obtain ⟨x1, q1, e⟩ := gR_of e
  obtain ⟨x2, q2, e⟩ := gR_of e
  obtain ⟨x3, q3, e⟩ := gI_of e
  rw [st_0 hst]
  exact WK.sub (canon := [some (.inr (72, x0)), some (.inr (10, x1)), some (.inr (11, x2)), some (.inl x3)]) rfl ⟨q0, q1, q2, q3, trivial⟩ (L_law_72_s1474 hX hk1807 _ _ _ _ ((L_law_72_l1474 L xs X11_fill X12_fill g1807 x0 x1 x2 x3 h).trans e))
noncomputable def L_law_72_f1507 (L : Nat) (xs : Nat → Int32) (c_X11_copy : Nat → Int32 → Int32 → Int32 → Int32 → Int32 → PH → Option Rs) (c_X12_copy : Nat → Int32 → Int32 → Int32 → Int32 → Int32 → PH → Option Rs) (g1807 : Nat → Nat → Nat → Int32 → PH → Option Rs) (x0 : Nat) (x1 : Nat) (x2 : Nat) (x3 : Int32) (h : PH) : Option Rs :=
  nn x0 fun r541 =>
  sc0 r541 <|
  ix (x3 + 1) L fun j542 =>
  nn x0 fun r543 =>
  sc0 r543 <|
  ix (x3 + 2) L fun j544 =>
  nn x0 fun r545 =>
  sc0 r545 <|
  ix (x3 + 3) L fun j546 =>
  nn x0 fun r547 =>
  sc0 r547 <|
  ix (x3 + 4) L fun j548 =>
  nn x0 fun r549 =>
  sc0 r549 <|
  ix (x3 + 5) L fun j550 =>
  nn x1 fun r551 =>
  cI (c_X11_copy r551 (xs j542) (xs j544) (xs j546) (xs j548) (xs j550) h) fun v553 h552 =>
  nn x0 fun r554 =>
  sc0 r554 <|
  ix (x3 + 1) L fun j555 =>
  nn x0 fun r556 =>
  sc0 r556 <|
  ix (x3 + 2) L fun j557 =>
  nn x0 fun r558 =>
  sc0 r558 <|
  ix (x3 + 3) L fun j559 =>
  nn x0 fun r560 =>
  sc0 r560 <|
  ix (x3 + 4) L fun j561 =>
  nn x0 fun r562 =>
  sc0 r562 <|
  ix (x3 + 5) L fun j563 =>
  nn x2 fun r564 =>
  cI (c_X12_copy r564 (xs j555) (xs j557) (xs j559) (xs j561) (xs j563) h552) fun v566 h565 =>
  if v553 = v566 then
    g1807 x0 x1 x2 x3 h565
  else
    bz 0 <|
    some (some (.inl 0), h565)
set_option maxRecDepth 100000 in
theorem L_law_72_l1507 (L : Nat) (xs : Nat → Int32) (c_X11_copy : Nat → Int32 → Int32 → Int32 → Int32 → Int32 → PH → Option Rs) (c_X12_copy : Nat → Int32 → Int32 → Int32 → Int32 → Int32 → PH → Option Rs) (g1807 : Nat → Nat → Nat → Int32 → PH → Option Rs) (x0 : Nat) (x1 : Nat) (x2 : Nat) (x3 : Int32) (h : PH) : L_law_72_b1507 L xs c_X11_copy c_X12_copy (L_law_72_u1807 g1807) [some (.inr (72, x0)), some (.inr (10, x1)), some (.inr (11, x2)), some (.inl x3)] [] h = L_law_72_f1507 L xs c_X11_copy c_X12_copy g1807 x0 x1 x2 x3 h := rfl
theorem L_law_72_m1507 {L : Nat} {xs : Nat → Int32} {c_X11_copy : Nat → Int32 → Int32 → Int32 → Int32 → Int32 → PH → Option Rs} {c_X12_copy : Nat → Int32 → Int32 → Int32 → Int32 → Int32 → PH → Option Rs} {g1807 G1807 : Nat → Nat → Nat → Int32 → PH → Option Rs} (hg1807 : ∀ a0 a1 a2 a3 a4, Mo (g1807 a0 a1 a2 a3 a4) (G1807 a0 a1 a2 a3 a4)) (x0 : Nat) (x1 : Nat) (x2 : Nat) (x3 : Int32) (h : PH) : Mo (L_law_72_f1507 L xs c_X11_copy c_X12_copy g1807 x0 x1 x2 x3 h) (L_law_72_f1507 L xs c_X11_copy c_X12_copy G1807 x0 x1 x2 x3 h) := (mo_nn fun r541 => (mo_sc0 (mo_ix fun j542 => (mo_nn fun r543 => (mo_sc0 (mo_ix fun j544 => (mo_nn fun r545 => (mo_sc0 (mo_ix fun j546 => (mo_nn fun r547 => (mo_sc0 (mo_ix fun j548 => (mo_nn fun r549 => (mo_sc0 (mo_ix fun j550 => (mo_nn fun r551 => (mo_cI fun v553 h552 => (mo_nn fun r554 => (mo_sc0 (mo_ix fun j555 => (mo_nn fun r556 => (mo_sc0 (mo_ix fun j557 => (mo_nn fun r558 => (mo_sc0 (mo_ix fun j559 => (mo_nn fun r560 => (mo_sc0 (mo_ix fun j561 => (mo_nn fun r562 => (mo_sc0 (mo_ix fun j563 => (mo_nn fun r564 => (mo_cI fun v566 h565 => (mo_if (hg1807 x0 x1 x2 x3 h565) (mo_bz mo_rf))))))))))))))))))))))))))))))))))))
theorem L_law_72_w1507 {L : Nat} {xs : Nat → Int32} {z : CZ} (hX : XS (L_law_72_x z) L xs) {g1807 : Nat → Nat → Nat → Int32 → PH → Option Rs} (hk1807 : SK (L_law_72_x z) 1807 (L_law_72_u1807 g1807)) : SK (L_law_72_x z) 1507 (L_law_72_u1507 (L_law_72_f1507 L xs X11_copy X12_copy g1807)) := by
  intro ls st h r e
  obtain ⟨hst, e⟩ := gL_of e
  obtain ⟨x0, q0, e⟩ := gR_of e
  obtain ⟨x1, q1, e⟩ := gR_of e
  obtain ⟨x2, q2, e⟩ := gR_of e
  obtain ⟨x3, q3, e⟩ := gI_of e
  rw [st_0 hst]
  exact WK.sub (canon := [some (.inr (72, x0)), some (.inr (10, x1)), some (.inr (11, x2)), some (.inl x3)]) rfl ⟨q0, q1, q2, q3, trivial⟩ (L_law_72_s1507 hX hk1807 _ _ _ _ ((L_law_72_l1507 L xs X11_copy X12_copy g1807 x0 x1 x2 x3 h).trans e))
noncomputable def L_law_72_f1570 (L : Nat) (xs : Nat → Int32) (c_X11_lay : Nat → Int32 → Int32 → Int32 → PH → Option Rs) (c_X12_lay : Nat → Int32 → Int32 → Int32 → PH → Option Rs) (g1807 : Nat → Nat → Nat → Int32 → PH → Option Rs) (x0 : Nat) (x1 : Nat) (x2 : Nat) (x3 : Int32) (h : PH) : Option Rs :=
  nn x0 fun r567 =>
  sc0 r567 <|
  ix (x3 + 1) L fun j568 =>
  nn x0 fun r569 =>
  sc0 r569 <|
  ix (x3 + 2) L fun j570 =>
  nn x0 fun r571 =>
  sc0 r571 <|
  ix (x3 + 3) L fun j572 =>
  nn x1 fun r573 =>
  cI (c_X11_lay r573 (xs j568) (xs j570) (xs j572) h) fun v575 h574 =>
  nn x0 fun r576 =>
  sc0 r576 <|
  ix (x3 + 1) L fun j577 =>
  nn x0 fun r578 =>
  sc0 r578 <|
  ix (x3 + 2) L fun j579 =>
  nn x0 fun r580 =>
  sc0 r580 <|
  ix (x3 + 3) L fun j581 =>
  nn x2 fun r582 =>
  cI (c_X12_lay r582 (xs j577) (xs j579) (xs j581) h574) fun v584 h583 =>
  if v575 = v584 then
    g1807 x0 x1 x2 x3 h583
  else
    bz 0 <|
    some (some (.inl 0), h583)
set_option maxRecDepth 100000 in
theorem L_law_72_l1570 (L : Nat) (xs : Nat → Int32) (c_X11_lay : Nat → Int32 → Int32 → Int32 → PH → Option Rs) (c_X12_lay : Nat → Int32 → Int32 → Int32 → PH → Option Rs) (g1807 : Nat → Nat → Nat → Int32 → PH → Option Rs) (x0 : Nat) (x1 : Nat) (x2 : Nat) (x3 : Int32) (h : PH) : L_law_72_b1570 L xs c_X11_lay c_X12_lay (L_law_72_u1807 g1807) [some (.inr (72, x0)), some (.inr (10, x1)), some (.inr (11, x2)), some (.inl x3)] [] h = L_law_72_f1570 L xs c_X11_lay c_X12_lay g1807 x0 x1 x2 x3 h := rfl
theorem L_law_72_m1570 {L : Nat} {xs : Nat → Int32} {c_X11_lay : Nat → Int32 → Int32 → Int32 → PH → Option Rs} {c_X12_lay : Nat → Int32 → Int32 → Int32 → PH → Option Rs} {g1807 G1807 : Nat → Nat → Nat → Int32 → PH → Option Rs} (hg1807 : ∀ a0 a1 a2 a3 a4, Mo (g1807 a0 a1 a2 a3 a4) (G1807 a0 a1 a2 a3 a4)) (x0 : Nat) (x1 : Nat) (x2 : Nat) (x3 : Int32) (h : PH) : Mo (L_law_72_f1570 L xs c_X11_lay c_X12_lay g1807 x0 x1 x2 x3 h) (L_law_72_f1570 L xs c_X11_lay c_X12_lay G1807 x0 x1 x2 x3 h) := (mo_nn fun r567 => (mo_sc0 (mo_ix fun j568 => (mo_nn fun r569 => (mo_sc0 (mo_ix fun j570 => (mo_nn fun r571 => (mo_sc0 (mo_ix fun j572 => (mo_nn fun r573 => (mo_cI fun v575 h574 => (mo_nn fun r576 => (mo_sc0 (mo_ix fun j577 => (mo_nn fun r578 => (mo_sc0 (mo_ix fun j579 => (mo_nn fun r580 => (mo_sc0 (mo_ix fun j581 => (mo_nn fun r582 => (mo_cI fun v584 h583 => (mo_if (hg1807 x0 x1 x2 x3 h583) (mo_bz mo_rf))))))))))))))))))))))))
theorem L_law_72_w1570 {L : Nat} {xs : Nat → Int32} {z : CZ} (hX : XS (L_law_72_x z) L xs) {g1807 : Nat → Nat → Nat → Int32 → PH → Option Rs} (hk1807 : SK (L_law_72_x z) 1807 (L_law_72_u1807 g1807)) : SK (L_law_72_x z) 1570 (L_law_72_u1570 (L_law_72_f1570 L xs X11_lay X12_lay g1807)) := by
  intro ls st h r e
  obtain ⟨hst, e⟩ := gL_of e
  obtain ⟨x0, q0, e⟩ := gR_of e
  obtain ⟨x1, q1, e⟩ := gR_of e
  obtain ⟨x2, q2, e⟩ := gR_of e
  obtain ⟨x3, q3, e⟩ := gI_of e
  rw [st_0 hst]
  exact WK.sub (canon := [some (.inr (72, x0)), some (.inr (10, x1)), some (.inr (11, x2)), some (.inl x3)]) rfl ⟨q0, q1, q2, q3, trivial⟩ (L_law_72_s1570 hX hk1807 _ _ _ _ ((L_law_72_l1570 L xs X11_lay X12_lay g1807 x0 x1 x2 x3 h).trans e))
noncomputable def L_law_72_f1613 (L : Nat) (xs : Nat → Int32) (c_X11_ask : Nat → Int32 → Int32 → PH → Option Rs) (c_X12_ask : Nat → Int32 → Int32 → PH → Option Rs) (g1807 : Nat → Nat → Nat → Int32 → PH → Option Rs) (x0 : Nat) (x1 : Nat) (x2 : Nat) (x3 : Int32) (h : PH) : Option Rs :=
  nn x0 fun r585 =>
  sc0 r585 <|
  ix (x3 + 1) L fun j586 =>
  nn x0 fun r587 =>
  sc0 r587 <|
  ix (x3 + 2) L fun j588 =>
  nn x1 fun r589 =>
  cI (c_X11_ask r589 (xs j586) (xs j588) h) fun v591 h590 =>
  nn x0 fun r592 =>
  sc0 r592 <|
  ix (x3 + 1) L fun j593 =>
  nn x0 fun r594 =>
  sc0 r594 <|
  ix (x3 + 2) L fun j595 =>
  nn x2 fun r596 =>
  cI (c_X12_ask r596 (xs j593) (xs j595) h590) fun v598 h597 =>
  if v591 = v598 then
    g1807 x0 x1 x2 x3 h597
  else
    bz 0 <|
    some (some (.inl 0), h597)
set_option maxRecDepth 100000 in
theorem L_law_72_l1613 (L : Nat) (xs : Nat → Int32) (c_X11_ask : Nat → Int32 → Int32 → PH → Option Rs) (c_X12_ask : Nat → Int32 → Int32 → PH → Option Rs) (g1807 : Nat → Nat → Nat → Int32 → PH → Option Rs) (x0 : Nat) (x1 : Nat) (x2 : Nat) (x3 : Int32) (h : PH) : L_law_72_b1613 L xs c_X11_ask c_X12_ask (L_law_72_u1807 g1807) [some (.inr (72, x0)), some (.inr (10, x1)), some (.inr (11, x2)), some (.inl x3)] [] h = L_law_72_f1613 L xs c_X11_ask c_X12_ask g1807 x0 x1 x2 x3 h := rfl
theorem L_law_72_m1613 {L : Nat} {xs : Nat → Int32} {c_X11_ask : Nat → Int32 → Int32 → PH → Option Rs} {c_X12_ask : Nat → Int32 → Int32 → PH → Option Rs} {g1807 G1807 : Nat → Nat → Nat → Int32 → PH → Option Rs} (hg1807 : ∀ a0 a1 a2 a3 a4, Mo (g1807 a0 a1 a2 a3 a4) (G1807 a0 a1 a2 a3 a4)) (x0 : Nat) (x1 : Nat) (x2 : Nat) (x3 : Int32) (h : PH) : Mo (L_law_72_f1613 L xs c_X11_ask c_X12_ask g1807 x0 x1 x2 x3 h) (L_law_72_f1613 L xs c_X11_ask c_X12_ask G1807 x0 x1 x2 x3 h) := (mo_nn fun r585 => (mo_sc0 (mo_ix fun j586 => (mo_nn fun r587 => (mo_sc0 (mo_ix fun j588 => (mo_nn fun r589 => (mo_cI fun v591 h590 => (mo_nn fun r592 => (mo_sc0 (mo_ix fun j593 => (mo_nn fun r594 => (mo_sc0 (mo_ix fun j595 => (mo_nn fun r596 => (mo_cI fun v598 h597 => (mo_if (hg1807 x0 x1 x2 x3 h597) (mo_bz mo_rf))))))))))))))))))
theorem L_law_72_w1613 {L : Nat} {xs : Nat → Int32} {z : CZ} (hX : XS (L_law_72_x z) L xs) {g1807 : Nat → Nat → Nat → Int32 → PH → Option Rs} (hk1807 : SK (L_law_72_x z) 1807 (L_law_72_u1807 g1807)) : SK (L_law_72_x z) 1613 (L_law_72_u1613 (L_law_72_f1613 L xs X11_ask X12_ask g1807)) := by
  intro ls st h r e
  obtain ⟨hst, e⟩ := gL_of e
  obtain ⟨x0, q0, e⟩ := gR_of e
  obtain ⟨x1, q1, e⟩ := gR_of e
  obtain ⟨x2, q2, e⟩ := gR_of e
  obtain ⟨x3, q3, e⟩ := gI_of e
  rw [st_0 hst]
  exact WK.sub (canon := [some (.inr (72, x0)), some (.inr (10, x1)), some (.inr (11, x2)), some (.inl x3)]) rfl ⟨q0, q1, q2, q3, trivial⟩ (L_law_72_s1613 hX hk1807 _ _ _ _ ((L_law_72_l1613 L xs X11_ask X12_ask g1807 x0 x1 x2 x3 h).trans e))
noncomputable def L_law_72_f1646 (L : Nat) (xs : Nat → Int32) (c_X11_item : Nat → Int32 → Int32 → PH → Option Rs) (c_X12_item : Nat → Int32 → Int32 → PH → Option Rs) (g1807 : Nat → Nat → Nat → Int32 → PH → Option Rs) (x0 : Nat) (x1 : Nat) (x2 : Nat) (x3 : Int32) (h : PH) : Option Rs :=
  nn x0 fun r599 =>
  sc0 r599 <|
  ix (x3 + 1) L fun j600 =>
  nn x0 fun r601 =>
  sc0 r601 <|
  ix (x3 + 2) L fun j602 =>
  nn x1 fun r603 =>
  cI (c_X11_item r603 (xs j600) (xs j602) h) fun v605 h604 =>
  nn x0 fun r606 =>
  sc0 r606 <|
  ix (x3 + 1) L fun j607 =>
  nn x0 fun r608 =>
  sc0 r608 <|
  ix (x3 + 2) L fun j609 =>
  nn x2 fun r610 =>
  cI (c_X12_item r610 (xs j607) (xs j609) h604) fun v612 h611 =>
  if v605 = v612 then
    g1807 x0 x1 x2 x3 h611
  else
    bz 0 <|
    some (some (.inl 0), h611)
set_option maxRecDepth 100000 in
theorem L_law_72_l1646 (L : Nat) (xs : Nat → Int32) (c_X11_item : Nat → Int32 → Int32 → PH → Option Rs) (c_X12_item : Nat → Int32 → Int32 → PH → Option Rs) (g1807 : Nat → Nat → Nat → Int32 → PH → Option Rs) (x0 : Nat) (x1 : Nat) (x2 : Nat) (x3 : Int32) (h : PH) : L_law_72_b1646 L xs c_X11_item c_X12_item (L_law_72_u1807 g1807) [some (.inr (72, x0)), some (.inr (10, x1)), some (.inr (11, x2)), some (.inl x3)] [] h = L_law_72_f1646 L xs c_X11_item c_X12_item g1807 x0 x1 x2 x3 h := rfl
theorem L_law_72_m1646 {L : Nat} {xs : Nat → Int32} {c_X11_item : Nat → Int32 → Int32 → PH → Option Rs} {c_X12_item : Nat → Int32 → Int32 → PH → Option Rs} {g1807 G1807 : Nat → Nat → Nat → Int32 → PH → Option Rs} (hg1807 : ∀ a0 a1 a2 a3 a4, Mo (g1807 a0 a1 a2 a3 a4) (G1807 a0 a1 a2 a3 a4)) (x0 : Nat) (x1 : Nat) (x2 : Nat) (x3 : Int32) (h : PH) : Mo (L_law_72_f1646 L xs c_X11_item c_X12_item g1807 x0 x1 x2 x3 h) (L_law_72_f1646 L xs c_X11_item c_X12_item G1807 x0 x1 x2 x3 h) := (mo_nn fun r599 => (mo_sc0 (mo_ix fun j600 => (mo_nn fun r601 => (mo_sc0 (mo_ix fun j602 => (mo_nn fun r603 => (mo_cI fun v605 h604 => (mo_nn fun r606 => (mo_sc0 (mo_ix fun j607 => (mo_nn fun r608 => (mo_sc0 (mo_ix fun j609 => (mo_nn fun r610 => (mo_cI fun v612 h611 => (mo_if (hg1807 x0 x1 x2 x3 h611) (mo_bz mo_rf))))))))))))))))))
theorem L_law_72_w1646 {L : Nat} {xs : Nat → Int32} {z : CZ} (hX : XS (L_law_72_x z) L xs) {g1807 : Nat → Nat → Nat → Int32 → PH → Option Rs} (hk1807 : SK (L_law_72_x z) 1807 (L_law_72_u1807 g1807)) : SK (L_law_72_x z) 1646 (L_law_72_u1646 (L_law_72_f1646 L xs X11_item X12_item g1807)) := by
  intro ls st h r e
  obtain ⟨hst, e⟩ := gL_of e
  obtain ⟨x0, q0, e⟩ := gR_of e
  obtain ⟨x1, q1, e⟩ := gR_of e
  obtain ⟨x2, q2, e⟩ := gR_of e
  obtain ⟨x3, q3, e⟩ := gI_of e
  rw [st_0 hst]
  exact WK.sub (canon := [some (.inr (72, x0)), some (.inr (10, x1)), some (.inr (11, x2)), some (.inl x3)]) rfl ⟨q0, q1, q2, q3, trivial⟩ (L_law_72_s1646 hX hk1807 _ _ _ _ ((L_law_72_l1646 L xs X11_item X12_item g1807 x0 x1 x2 x3 h).trans e))
noncomputable def L_law_72_f1679 (L : Nat) (xs : Nat → Int32) (c_X11_rest : Nat → Int32 → Int32 → PH → Option Rs) (c_X12_rest : Nat → Int32 → Int32 → PH → Option Rs) (g1807 : Nat → Nat → Nat → Int32 → PH → Option Rs) (x0 : Nat) (x1 : Nat) (x2 : Nat) (x3 : Int32) (h : PH) : Option Rs :=
  nn x0 fun r613 =>
  sc0 r613 <|
  ix (x3 + 1) L fun j614 =>
  nn x0 fun r615 =>
  sc0 r615 <|
  ix (x3 + 2) L fun j616 =>
  nn x1 fun r617 =>
  cI (c_X11_rest r617 (xs j614) (xs j616) h) fun v619 h618 =>
  nn x0 fun r620 =>
  sc0 r620 <|
  ix (x3 + 1) L fun j621 =>
  nn x0 fun r622 =>
  sc0 r622 <|
  ix (x3 + 2) L fun j623 =>
  nn x2 fun r624 =>
  cI (c_X12_rest r624 (xs j621) (xs j623) h618) fun v626 h625 =>
  if v619 = v626 then
    g1807 x0 x1 x2 x3 h625
  else
    bz 0 <|
    some (some (.inl 0), h625)
set_option maxRecDepth 100000 in
theorem L_law_72_l1679 (L : Nat) (xs : Nat → Int32) (c_X11_rest : Nat → Int32 → Int32 → PH → Option Rs) (c_X12_rest : Nat → Int32 → Int32 → PH → Option Rs) (g1807 : Nat → Nat → Nat → Int32 → PH → Option Rs) (x0 : Nat) (x1 : Nat) (x2 : Nat) (x3 : Int32) (h : PH) : L_law_72_b1679 L xs c_X11_rest c_X12_rest (L_law_72_u1807 g1807) [some (.inr (72, x0)), some (.inr (10, x1)), some (.inr (11, x2)), some (.inl x3)] [] h = L_law_72_f1679 L xs c_X11_rest c_X12_rest g1807 x0 x1 x2 x3 h := rfl
theorem L_law_72_m1679 {L : Nat} {xs : Nat → Int32} {c_X11_rest : Nat → Int32 → Int32 → PH → Option Rs} {c_X12_rest : Nat → Int32 → Int32 → PH → Option Rs} {g1807 G1807 : Nat → Nat → Nat → Int32 → PH → Option Rs} (hg1807 : ∀ a0 a1 a2 a3 a4, Mo (g1807 a0 a1 a2 a3 a4) (G1807 a0 a1 a2 a3 a4)) (x0 : Nat) (x1 : Nat) (x2 : Nat) (x3 : Int32) (h : PH) : Mo (L_law_72_f1679 L xs c_X11_rest c_X12_rest g1807 x0 x1 x2 x3 h) (L_law_72_f1679 L xs c_X11_rest c_X12_rest G1807 x0 x1 x2 x3 h) := (mo_nn fun r613 => (mo_sc0 (mo_ix fun j614 => (mo_nn fun r615 => (mo_sc0 (mo_ix fun j616 => (mo_nn fun r617 => (mo_cI fun v619 h618 => (mo_nn fun r620 => (mo_sc0 (mo_ix fun j621 => (mo_nn fun r622 => (mo_sc0 (mo_ix fun j623 => (mo_nn fun r624 => (mo_cI fun v626 h625 => (mo_if (hg1807 x0 x1 x2 x3 h625) (mo_bz mo_rf))))))))))))))))))
theorem L_law_72_w1679 {L : Nat} {xs : Nat → Int32} {z : CZ} (hX : XS (L_law_72_x z) L xs) {g1807 : Nat → Nat → Nat → Int32 → PH → Option Rs} (hk1807 : SK (L_law_72_x z) 1807 (L_law_72_u1807 g1807)) : SK (L_law_72_x z) 1679 (L_law_72_u1679 (L_law_72_f1679 L xs X11_rest X12_rest g1807)) := by
  intro ls st h r e
  obtain ⟨hst, e⟩ := gL_of e
  obtain ⟨x0, q0, e⟩ := gR_of e
  obtain ⟨x1, q1, e⟩ := gR_of e
  obtain ⟨x2, q2, e⟩ := gR_of e
  obtain ⟨x3, q3, e⟩ := gI_of e
  rw [st_0 hst]
  exact WK.sub (canon := [some (.inr (72, x0)), some (.inr (10, x1)), some (.inr (11, x2)), some (.inl x3)]) rfl ⟨q0, q1, q2, q3, trivial⟩ (L_law_72_s1679 hX hk1807 _ _ _ _ ((L_law_72_l1679 L xs X11_rest X12_rest g1807 x0 x1 x2 x3 h).trans e))
noncomputable def L_law_72_f1712 (L : Nat) (xs : Nat → Int32) (c_X11_tell : Nat → Int32 → PH → Option Rs) (c_X12_tell : Nat → Int32 → PH → Option Rs) (g1807 : Nat → Nat → Nat → Int32 → PH → Option Rs) (x0 : Nat) (x1 : Nat) (x2 : Nat) (x3 : Int32) (h : PH) : Option Rs :=
  nn x0 fun r627 =>
  sc0 r627 <|
  ix (x3 + 1) L fun j628 =>
  nn x1 fun r629 =>
  cI (c_X11_tell r629 (xs j628) h) fun v631 h630 =>
  nn x0 fun r632 =>
  sc0 r632 <|
  ix (x3 + 1) L fun j633 =>
  nn x2 fun r634 =>
  cI (c_X12_tell r634 (xs j633) h630) fun v636 h635 =>
  if v631 = v636 then
    g1807 x0 x1 x2 x3 h635
  else
    bz 0 <|
    some (some (.inl 0), h635)
set_option maxRecDepth 100000 in
theorem L_law_72_l1712 (L : Nat) (xs : Nat → Int32) (c_X11_tell : Nat → Int32 → PH → Option Rs) (c_X12_tell : Nat → Int32 → PH → Option Rs) (g1807 : Nat → Nat → Nat → Int32 → PH → Option Rs) (x0 : Nat) (x1 : Nat) (x2 : Nat) (x3 : Int32) (h : PH) : L_law_72_b1712 L xs c_X11_tell c_X12_tell (L_law_72_u1807 g1807) [some (.inr (72, x0)), some (.inr (10, x1)), some (.inr (11, x2)), some (.inl x3)] [] h = L_law_72_f1712 L xs c_X11_tell c_X12_tell g1807 x0 x1 x2 x3 h := rfl
theorem L_law_72_m1712 {L : Nat} {xs : Nat → Int32} {c_X11_tell : Nat → Int32 → PH → Option Rs} {c_X12_tell : Nat → Int32 → PH → Option Rs} {g1807 G1807 : Nat → Nat → Nat → Int32 → PH → Option Rs} (hg1807 : ∀ a0 a1 a2 a3 a4, Mo (g1807 a0 a1 a2 a3 a4) (G1807 a0 a1 a2 a3 a4)) (x0 : Nat) (x1 : Nat) (x2 : Nat) (x3 : Int32) (h : PH) : Mo (L_law_72_f1712 L xs c_X11_tell c_X12_tell g1807 x0 x1 x2 x3 h) (L_law_72_f1712 L xs c_X11_tell c_X12_tell G1807 x0 x1 x2 x3 h) := (mo_nn fun r627 => (mo_sc0 (mo_ix fun j628 => (mo_nn fun r629 => (mo_cI fun v631 h630 => (mo_nn fun r632 => (mo_sc0 (mo_ix fun j633 => (mo_nn fun r634 => (mo_cI fun v636 h635 => (mo_if (hg1807 x0 x1 x2 x3 h635) (mo_bz mo_rf))))))))))))
theorem L_law_72_w1712 {L : Nat} {xs : Nat → Int32} {z : CZ} (hX : XS (L_law_72_x z) L xs) {g1807 : Nat → Nat → Nat → Int32 → PH → Option Rs} (hk1807 : SK (L_law_72_x z) 1807 (L_law_72_u1807 g1807)) : SK (L_law_72_x z) 1712 (L_law_72_u1712 (L_law_72_f1712 L xs X11_tell X12_tell g1807)) := by
  intro ls st h r e
  obtain ⟨hst, e⟩ := gL_of e
  obtain ⟨x0, q0, e⟩ := gR_of e
  obtain ⟨x1, q1, e⟩ := gR_of e
  obtain ⟨x2, q2, e⟩ := gR_of e
  obtain ⟨x3, q3, e⟩ := gI_of e
  rw [st_0 hst]
  exact WK.sub (canon := [some (.inr (72, x0)), some (.inr (10, x1)), some (.inr (11, x2)), some (.inl x3)]) rfl ⟨q0, q1, q2, q3, trivial⟩ (L_law_72_s1712 hX hk1807 _ _ _ _ ((L_law_72_l1712 L xs X11_tell X12_tell g1807 x0 x1 x2 x3 h).trans e))
noncomputable def L_law_72_f1735 (L : Nat) (xs : Nat → Int32) (c_X11_check : Nat → Int32 → PH → Option Rs) (c_X12_check : Nat → Int32 → PH → Option Rs) (g1807 : Nat → Nat → Nat → Int32 → PH → Option Rs) (x0 : Nat) (x1 : Nat) (x2 : Nat) (x3 : Int32) (h : PH) : Option Rs :=
  nn x0 fun r637 =>
  sc0 r637 <|
  ix (x3 + 1) L fun j638 =>
  nn x1 fun r639 =>
  cI (c_X11_check r639 (xs j638) h) fun v641 h640 =>
  nn x0 fun r642 =>
  sc0 r642 <|
  ix (x3 + 1) L fun j643 =>
  nn x2 fun r644 =>
  cI (c_X12_check r644 (xs j643) h640) fun v646 h645 =>
  if v641 = v646 then
    g1807 x0 x1 x2 x3 h645
  else
    bz 0 <|
    some (some (.inl 0), h645)
set_option maxRecDepth 100000 in
theorem L_law_72_l1735 (L : Nat) (xs : Nat → Int32) (c_X11_check : Nat → Int32 → PH → Option Rs) (c_X12_check : Nat → Int32 → PH → Option Rs) (g1807 : Nat → Nat → Nat → Int32 → PH → Option Rs) (x0 : Nat) (x1 : Nat) (x2 : Nat) (x3 : Int32) (h : PH) : L_law_72_b1735 L xs c_X11_check c_X12_check (L_law_72_u1807 g1807) [some (.inr (72, x0)), some (.inr (10, x1)), some (.inr (11, x2)), some (.inl x3)] [] h = L_law_72_f1735 L xs c_X11_check c_X12_check g1807 x0 x1 x2 x3 h := rfl
theorem L_law_72_m1735 {L : Nat} {xs : Nat → Int32} {c_X11_check : Nat → Int32 → PH → Option Rs} {c_X12_check : Nat → Int32 → PH → Option Rs} {g1807 G1807 : Nat → Nat → Nat → Int32 → PH → Option Rs} (hg1807 : ∀ a0 a1 a2 a3 a4, Mo (g1807 a0 a1 a2 a3 a4) (G1807 a0 a1 a2 a3 a4)) (x0 : Nat) (x1 : Nat) (x2 : Nat) (x3 : Int32) (h : PH) : Mo (L_law_72_f1735 L xs c_X11_check c_X12_check g1807 x0 x1 x2 x3 h) (L_law_72_f1735 L xs c_X11_check c_X12_check G1807 x0 x1 x2 x3 h) := (mo_nn fun r637 => (mo_sc0 (mo_ix fun j638 => (mo_nn fun r639 => (mo_cI fun v641 h640 => (mo_nn fun r642 => (mo_sc0 (mo_ix fun j643 => (mo_nn fun r644 => (mo_cI fun v646 h645 => (mo_if (hg1807 x0 x1 x2 x3 h645) (mo_bz mo_rf))))))))))))
theorem L_law_72_w1735 {L : Nat} {xs : Nat → Int32} {z : CZ} (hX : XS (L_law_72_x z) L xs) {g1807 : Nat → Nat → Nat → Int32 → PH → Option Rs} (hk1807 : SK (L_law_72_x z) 1807 (L_law_72_u1807 g1807)) : SK (L_law_72_x z) 1735 (L_law_72_u1735 (L_law_72_f1735 L xs X11_check X12_check g1807)) := by
  intro ls st h r e
  obtain ⟨hst, e⟩ := gL_of e
  obtain ⟨x0, q0, e⟩ := gR_of e
  obtain ⟨x1, q1, e⟩ := gR_of e
  obtain ⟨x2, q2, e⟩ := gR_of e
  obtain ⟨x3, q3, e⟩ := gI_of e
  rw [st_0 hst]
  exact WK.sub (canon := [some (.inr (72, x0)), some (.inr (10, x1)), some (.inr (11, x2)), some (.inl x3)]) rfl ⟨q0, q1, q2, q3, trivial⟩ (L_law_72_s1735 hX hk1807 _ _ _ _ ((L_law_72_l1735 L xs X11_check X12_check g1807 x0 x1 x2 x3 h).trans e))
noncomputable def L_law_72_f1758 (L : Nat) (xs : Nat → Int32) (c_X11_keep : Nat → PH → Option Rs) (c_X12_keep : Nat → PH → Option Rs) (g1807 : Nat → Nat → Nat → Int32 → PH → Option Rs) (x0 : Nat) (x1 : Nat) (x2 : Nat) (x3 : Int32) (h : PH) : Option Rs :=
  nn x1 fun r647 =>
  cI (c_X11_keep r647 h) fun v649 h648 =>
  nn x2 fun r650 =>
  cI (c_X12_keep r650 h648) fun v652 h651 =>
  if v649 = v652 then
    g1807 x0 x1 x2 x3 h651
  else
    bz 0 <|
    some (some (.inl 0), h651)
set_option maxRecDepth 100000 in
theorem L_law_72_l1758 (L : Nat) (xs : Nat → Int32) (c_X11_keep : Nat → PH → Option Rs) (c_X12_keep : Nat → PH → Option Rs) (g1807 : Nat → Nat → Nat → Int32 → PH → Option Rs) (x0 : Nat) (x1 : Nat) (x2 : Nat) (x3 : Int32) (h : PH) : L_law_72_b1758 L xs c_X11_keep c_X12_keep (L_law_72_u1807 g1807) [some (.inr (72, x0)), some (.inr (10, x1)), some (.inr (11, x2)), some (.inl x3)] [] h = L_law_72_f1758 L xs c_X11_keep c_X12_keep g1807 x0 x1 x2 x3 h := rfl
theorem L_law_72_m1758 {L : Nat} {xs : Nat → Int32} {c_X11_keep : Nat → PH → Option Rs} {c_X12_keep : Nat → PH → Option Rs} {g1807 G1807 : Nat → Nat → Nat → Int32 → PH → Option Rs} (hg1807 : ∀ a0 a1 a2 a3 a4, Mo (g1807 a0 a1 a2 a3 a4) (G1807 a0 a1 a2 a3 a4)) (x0 : Nat) (x1 : Nat) (x2 : Nat) (x3 : Int32) (h : PH) : Mo (L_law_72_f1758 L xs c_X11_keep c_X12_keep g1807 x0 x1 x2 x3 h) (L_law_72_f1758 L xs c_X11_keep c_X12_keep G1807 x0 x1 x2 x3 h) := (mo_nn fun r647 => (mo_cI fun v649 h648 => (mo_nn fun r650 => (mo_cI fun v652 h651 => (mo_if (hg1807 x0 x1 x2 x3 h651) (mo_bz mo_rf))))))
theorem L_law_72_w1758 {L : Nat} {xs : Nat → Int32} {z : CZ} (hX : XS (L_law_72_x z) L xs) {g1807 : Nat → Nat → Nat → Int32 → PH → Option Rs} (hk1807 : SK (L_law_72_x z) 1807 (L_law_72_u1807 g1807)) : SK (L_law_72_x z) 1758 (L_law_72_u1758 (L_law_72_f1758 L xs X11_keep X12_keep g1807)) := by
  intro ls st h r e
  obtain ⟨hst, e⟩ := gL_of e
  obtain ⟨x0, q0, e⟩ := gR_of e
  obtain ⟨x1, q1, e⟩ := gR_of e
  obtain ⟨x2, q2, e⟩ := gR_of e
  obtain ⟨x3, q3, e⟩ := gI_of e
  rw [st_0 hst]
  exact WK.sub (canon := [some (.inr (72, x0)), some (.inr (10, x1)), some (.inr (11, x2)), some (.inl x3)]) rfl ⟨q0, q1, q2, q3, trivial⟩ (L_law_72_s1758 hX hk1807 _ _ _ _ ((L_law_72_l1758 L xs X11_keep X12_keep g1807 x0 x1 x2 x3 h).trans e))
noncomputable def L_law_72_f1771 (L : Nat) (xs : Nat → Int32) (c_X11_back : Nat → PH → Option Rs) (c_X12_back : Nat → PH → Option Rs) (g1807 : Nat → Nat → Nat → Int32 → PH → Option Rs) (x0 : Nat) (x1 : Nat) (x2 : Nat) (x3 : Int32) (h : PH) : Option Rs :=
  nn x1 fun r653 =>
  cI (c_X11_back r653 h) fun v655 h654 =>
  nn x2 fun r656 =>
  cI (c_X12_back r656 h654) fun v658 h657 =>
  if v655 = v658 then
    g1807 x0 x1 x2 x3 h657
  else
    bz 0 <|
    some (some (.inl 0), h657)
set_option maxRecDepth 100000 in
theorem L_law_72_l1771 (L : Nat) (xs : Nat → Int32) (c_X11_back : Nat → PH → Option Rs) (c_X12_back : Nat → PH → Option Rs) (g1807 : Nat → Nat → Nat → Int32 → PH → Option Rs) (x0 : Nat) (x1 : Nat) (x2 : Nat) (x3 : Int32) (h : PH) : L_law_72_b1771 L xs c_X11_back c_X12_back (L_law_72_u1807 g1807) [some (.inr (72, x0)), some (.inr (10, x1)), some (.inr (11, x2)), some (.inl x3)] [] h = L_law_72_f1771 L xs c_X11_back c_X12_back g1807 x0 x1 x2 x3 h := rfl
theorem L_law_72_m1771 {L : Nat} {xs : Nat → Int32} {c_X11_back : Nat → PH → Option Rs} {c_X12_back : Nat → PH → Option Rs} {g1807 G1807 : Nat → Nat → Nat → Int32 → PH → Option Rs} (hg1807 : ∀ a0 a1 a2 a3 a4, Mo (g1807 a0 a1 a2 a3 a4) (G1807 a0 a1 a2 a3 a4)) (x0 : Nat) (x1 : Nat) (x2 : Nat) (x3 : Int32) (h : PH) : Mo (L_law_72_f1771 L xs c_X11_back c_X12_back g1807 x0 x1 x2 x3 h) (L_law_72_f1771 L xs c_X11_back c_X12_back G1807 x0 x1 x2 x3 h) := (mo_nn fun r653 => (mo_cI fun v655 h654 => (mo_nn fun r656 => (mo_cI fun v658 h657 => (mo_if (hg1807 x0 x1 x2 x3 h657) (mo_bz mo_rf))))))
theorem L_law_72_w1771 {L : Nat} {xs : Nat → Int32} {z : CZ} (hX : XS (L_law_72_x z) L xs) {g1807 : Nat → Nat → Nat → Int32 → PH → Option Rs} (hk1807 : SK (L_law_72_x z) 1807 (L_law_72_u1807 g1807)) : SK (L_law_72_x z) 1771 (L_law_72_u1771 (L_law_72_f1771 L xs X11_back X12_back g1807)) := by
  intro ls st h r e
  obtain ⟨hst, e⟩ := gL_of e
  obtain ⟨x0, q0, e⟩ := gR_of e
  obtain ⟨x1, q1, e⟩ := gR_of e
  obtain ⟨x2, q2, e⟩ := gR_of e
  obtain ⟨x3, q3, e⟩ := gI_of e
  rw [st_0 hst]
  exact WK.sub (canon := [some (.inr (72, x0)), some (.inr (10, x1)), some (.inr (11, x2)), some (.inl x3)]) rfl ⟨q0, q1, q2, q3, trivial⟩ (L_law_72_s1771 hX hk1807 _ _ _ _ ((L_law_72_l1771 L xs X11_back X12_back g1807 x0 x1 x2 x3 h).trans e))
noncomputable def L_law_72_f1784 (L : Nat) (xs : Nat → Int32) (c_X11_count : Nat → Int32 → PH → Option Rs) (c_X12_count : Nat → Int32 → PH → Option Rs) (g1807 : Nat → Nat → Nat → Int32 → PH → Option Rs) (x0 : Nat) (x1 : Nat) (x2 : Nat) (x3 : Int32) (h : PH) : Option Rs :=
  nn x0 fun r659 =>
  sc0 r659 <|
  ix (x3 + 1) L fun j660 =>
  nn x1 fun r661 =>
  cI (c_X11_count r661 (xs j660) h) fun v663 h662 =>
  nn x0 fun r664 =>
  sc0 r664 <|
  ix (x3 + 1) L fun j665 =>
  nn x2 fun r666 =>
  cI (c_X12_count r666 (xs j665) h662) fun v668 h667 =>
  if v663 = v668 then
    g1807 x0 x1 x2 x3 h667
  else
    bz 0 <|
    some (some (.inl 0), h667)
set_option maxRecDepth 100000 in
theorem L_law_72_l1784 (L : Nat) (xs : Nat → Int32) (c_X11_count : Nat → Int32 → PH → Option Rs) (c_X12_count : Nat → Int32 → PH → Option Rs) (g1807 : Nat → Nat → Nat → Int32 → PH → Option Rs) (x0 : Nat) (x1 : Nat) (x2 : Nat) (x3 : Int32) (h : PH) : L_law_72_b1784 L xs c_X11_count c_X12_count (L_law_72_u1807 g1807) [some (.inr (72, x0)), some (.inr (10, x1)), some (.inr (11, x2)), some (.inl x3)] [] h = L_law_72_f1784 L xs c_X11_count c_X12_count g1807 x0 x1 x2 x3 h := rfl
theorem L_law_72_m1784 {L : Nat} {xs : Nat → Int32} {c_X11_count : Nat → Int32 → PH → Option Rs} {c_X12_count : Nat → Int32 → PH → Option Rs} {g1807 G1807 : Nat → Nat → Nat → Int32 → PH → Option Rs} (hg1807 : ∀ a0 a1 a2 a3 a4, Mo (g1807 a0 a1 a2 a3 a4) (G1807 a0 a1 a2 a3 a4)) (x0 : Nat) (x1 : Nat) (x2 : Nat) (x3 : Int32) (h : PH) : Mo (L_law_72_f1784 L xs c_X11_count c_X12_count g1807 x0 x1 x2 x3 h) (L_law_72_f1784 L xs c_X11_count c_X12_count G1807 x0 x1 x2 x3 h) := (mo_nn fun r659 => (mo_sc0 (mo_ix fun j660 => (mo_nn fun r661 => (mo_cI fun v663 h662 => (mo_nn fun r664 => (mo_sc0 (mo_ix fun j665 => (mo_nn fun r666 => (mo_cI fun v668 h667 => (mo_if (hg1807 x0 x1 x2 x3 h667) (mo_bz mo_rf))))))))))))
theorem L_law_72_w1784 {L : Nat} {xs : Nat → Int32} {z : CZ} (hX : XS (L_law_72_x z) L xs) {g1807 : Nat → Nat → Nat → Int32 → PH → Option Rs} (hk1807 : SK (L_law_72_x z) 1807 (L_law_72_u1807 g1807)) : SK (L_law_72_x z) 1784 (L_law_72_u1784 (L_law_72_f1784 L xs X11_count X12_count g1807)) := by
  intro ls st h r e
  obtain ⟨hst, e⟩ := gL_of e
  obtain ⟨x0, q0, e⟩ := gR_of e
  obtain ⟨x1, q1, e⟩ := gR_of e
  obtain ⟨x2, q2, e⟩ := gR_of e
  obtain ⟨x3, q3, e⟩ := gI_of e
  rw [st_0 hst]
  exact WK.sub (canon := [some (.inr (72, x0)), some (.inr (10, x1)), some (.inr (11, x2)), some (.inl x3)]) rfl ⟨q0, q1, q2, q3, trivial⟩ (L_law_72_s1784 hX hk1807 _ _ _ _ ((L_law_72_l1784 L xs X11_count X12_count g1807 x0 x1 x2 x3 h).trans e))
noncomputable def L_law_72_f1807 (L : Nat) (xs : Nat → Int32) (g18 : Nat → Nat → Nat → Int32 → PH → Option Rs) (x0 : Nat) (x1 : Nat) (x2 : Nat) (x3 : Int32) (h : PH) : Option Rs :=
  g18 x0 x1 x2 (x3 + 6) h
set_option maxRecDepth 100000 in
theorem L_law_72_l1807 (L : Nat) (xs : Nat → Int32) (g18 : Nat → Nat → Nat → Int32 → PH → Option Rs) (x0 : Nat) (x1 : Nat) (x2 : Nat) (x3 : Int32) (h : PH) : L_law_72_b1807 L xs (L_law_72_u18 g18) [some (.inr (72, x0)), some (.inr (10, x1)), some (.inr (11, x2)), some (.inl x3)] [] h = L_law_72_f1807 L xs g18 x0 x1 x2 x3 h := rfl
theorem L_law_72_m1807 {L : Nat} {xs : Nat → Int32} {g18 G18 : Nat → Nat → Nat → Int32 → PH → Option Rs} (hg18 : ∀ a0 a1 a2 a3 a4, Mo (g18 a0 a1 a2 a3 a4) (G18 a0 a1 a2 a3 a4)) (x0 : Nat) (x1 : Nat) (x2 : Nat) (x3 : Int32) (h : PH) : Mo (L_law_72_f1807 L xs g18 x0 x1 x2 x3 h) (L_law_72_f1807 L xs G18 x0 x1 x2 x3 h) := (hg18 x0 x1 x2 (x3 + 6) h)
theorem L_law_72_w1807 {L : Nat} {xs : Nat → Int32} {z : CZ} (hX : XS (L_law_72_x z) L xs) {g18 : Nat → Nat → Nat → Int32 → PH → Option Rs} (hk18 : SK (L_law_72_x z) 18 (L_law_72_u18 g18)) : SK (L_law_72_x z) 1807 (L_law_72_u1807 (L_law_72_f1807 L xs g18)) := by
  intro ls st h r e
  obtain ⟨hst, e⟩ := gL_of e
  obtain ⟨x0, q0, e⟩ := gR_of e
  obtain ⟨x1, q1, e⟩ := gR_of e
  obtain ⟨x2, q2, e⟩ := gR_of e
  obtain ⟨x3, q3, e⟩ := gI_of e
  rw [st_0 hst]
  exact WK.sub (canon := [some (.inr (72, x0)), some (.inr (10, x1)), some (.inr (11, x2)), some (.inl x3)]) rfl ⟨q0, q1, q2, q3, trivial⟩ (L_law_72_s1807 hX hk18 _ _ _ _ ((L_law_72_l1807 L xs g18 x0 x1 x2 x3 h).trans e))
noncomputable def L_law_72_g0 (L : Nat) (xs : Nat → Int32) (G : (Nat → Nat → Nat → Int32 → PH → Option Rs)) (x0 : Nat) (h : PH) : Option Rs := L_law_72_f0 L xs X11_init X12_init (G) x0 h
noncomputable def L_law_72_g1807 (L : Nat) (xs : Nat → Int32) (G : (Nat → Nat → Nat → Int32 → PH → Option Rs)) (x0 : Nat) (x1 : Nat) (x2 : Nat) (x3 : Int32) (h : PH) : Option Rs := L_law_72_f1807 L xs (G) x0 x1 x2 x3 h
noncomputable def L_law_72_g244 (L : Nat) (xs : Nat → Int32) (G : (Nat → Nat → Nat → Int32 → PH → Option Rs)) (x0 : Nat) (x1 : Nat) (x2 : Nat) (x3 : Int32) (h : PH) : Option Rs := L_law_72_f244 L xs X11_place X12_place (L_law_72_g1807 L xs G) x0 x1 x2 x3 h
noncomputable def L_law_72_g257 (L : Nat) (xs : Nat → Int32) (G : (Nat → Nat → Nat → Int32 → PH → Option Rs)) (x0 : Nat) (x1 : Nat) (x2 : Nat) (x3 : Int32) (h : PH) : Option Rs := L_law_72_f257 L xs X11_way X12_way (L_law_72_g1807 L xs G) x0 x1 x2 x3 h
noncomputable def L_law_72_g310 (L : Nat) (xs : Nat → Int32) (G : (Nat → Nat → Nat → Int32 → PH → Option Rs)) (x0 : Nat) (x1 : Nat) (x2 : Nat) (x3 : Int32) (h : PH) : Option Rs := L_law_72_f310 L xs X11_wayTold X12_wayTold (L_law_72_g1807 L xs G) x0 x1 x2 x3 h
noncomputable def L_law_72_g384 (L : Nat) (xs : Nat → Int32) (G : (Nat → Nat → Nat → Int32 → PH → Option Rs)) (x0 : Nat) (x1 : Nat) (x2 : Nat) (x3 : Int32) (s0 : Int32) (s1 : Int32) (s2 : Nat) (s3 : Int32) (h : PH) : Option Rs := L_law_72_f384 L xs X12_shut (L_law_72_g1807 L xs G) x0 x1 x2 x3 s0 s1 s2 s3 h
noncomputable def L_law_72_g362 (L : Nat) (xs : Nat → Int32) (G : (Nat → Nat → Nat → Int32 → PH → Option Rs)) (x0 : Nat) (x1 : Nat) (x2 : Nat) (x3 : Int32) (s0 : Int32) (s1 : Int32) (s2 : Nat) (h : PH) : Option Rs := L_law_72_f362 L xs X11_shut (L_law_72_g384 L xs G) x0 x1 x2 x3 s0 s1 s2 h
noncomputable def L_law_72_g343 (L : Nat) (xs : Nat → Int32) (G : (Nat → Nat → Nat → Int32 → PH → Option Rs)) (x0 : Nat) (x1 : Nat) (x2 : Nat) (x3 : Int32) (h : PH) : Option Rs := L_law_72_f343 L xs (L_law_72_g362 L xs G) x0 x1 x2 x3 h
noncomputable def L_law_72_g392 (L : Nat) (xs : Nat → Int32) (G : (Nat → Nat → Nat → Int32 → PH → Option Rs)) (x0 : Nat) (x1 : Nat) (x2 : Nat) (x3 : Int32) (h : PH) : Option Rs := L_law_72_f392 L xs X11_goal X12_goal (L_law_72_g1807 L xs G) x0 x1 x2 x3 h
noncomputable def L_law_72_g425 (L : Nat) (xs : Nat → Int32) (G : (Nat → Nat → Nat → Int32 → PH → Option Rs)) (x0 : Nat) (x1 : Nat) (x2 : Nat) (x3 : Int32) (h : PH) : Option Rs := L_law_72_f425 L xs X11_goalTold X12_goalTold (L_law_72_g1807 L xs G) x0 x1 x2 x3 h
noncomputable def L_law_72_g458 (L : Nat) (xs : Nat → Int32) (G : (Nat → Nat → Nat → Int32 → PH → Option Rs)) (x0 : Nat) (x1 : Nat) (x2 : Nat) (x3 : Int32) (h : PH) : Option Rs := L_law_72_f458 L xs X11_hours X12_hours (L_law_72_g1807 L xs G) x0 x1 x2 x3 h
noncomputable def L_law_72_g481 (L : Nat) (xs : Nat → Int32) (G : (Nat → Nat → Nat → Int32 → PH → Option Rs)) (x0 : Nat) (x1 : Nat) (x2 : Nat) (x3 : Int32) (h : PH) : Option Rs := L_law_72_f481 L xs X11_sign X12_sign (L_law_72_g1807 L xs G) x0 x1 x2 x3 h
noncomputable def L_law_72_g524 (L : Nat) (xs : Nat → Int32) (G : (Nat → Nat → Nat → Int32 → PH → Option Rs)) (x0 : Nat) (x1 : Nat) (x2 : Nat) (x3 : Int32) (h : PH) : Option Rs := L_law_72_f524 L xs X11_told X12_told (L_law_72_g1807 L xs G) x0 x1 x2 x3 h
noncomputable def L_law_72_g557 (L : Nat) (xs : Nat → Int32) (G : (Nat → Nat → Nat → Int32 → PH → Option Rs)) (x0 : Nat) (x1 : Nat) (x2 : Nat) (x3 : Int32) (h : PH) : Option Rs := L_law_72_f557 L xs X11_as X12_as (L_law_72_g1807 L xs G) x0 x1 x2 x3 h
noncomputable def L_law_72_g590 (L : Nat) (xs : Nat → Int32) (G : (Nat → Nat → Nat → Int32 → PH → Option Rs)) (x0 : Nat) (x1 : Nat) (x2 : Nat) (x3 : Int32) (h : PH) : Option Rs := L_law_72_f590 L xs X11_turns X12_turns (L_law_72_g1807 L xs G) x0 x1 x2 x3 h
noncomputable def L_law_72_g623 (L : Nat) (xs : Nat → Int32) (G : (Nat → Nat → Nat → Int32 → PH → Option Rs)) (x0 : Nat) (x1 : Nat) (x2 : Nat) (x3 : Int32) (h : PH) : Option Rs := L_law_72_f623 L xs X11_row X12_row (L_law_72_g1807 L xs G) x0 x1 x2 x3 h
noncomputable def L_law_72_g666 (L : Nat) (xs : Nat → Int32) (G : (Nat → Nat → Nat → Int32 → PH → Option Rs)) (x0 : Nat) (x1 : Nat) (x2 : Nat) (x3 : Int32) (h : PH) : Option Rs := L_law_72_f666 L xs X11_rowTold X12_rowTold (L_law_72_g1807 L xs G) x0 x1 x2 x3 h
noncomputable def L_law_72_g709 (L : Nat) (xs : Nat → Int32) (G : (Nat → Nat → Nat → Int32 → PH → Option Rs)) (x0 : Nat) (x1 : Nat) (x2 : Nat) (x3 : Int32) (h : PH) : Option Rs := L_law_72_f709 L xs X11_drop X12_drop (L_law_72_g1807 L xs G) x0 x1 x2 x3 h
noncomputable def L_law_72_g742 (L : Nat) (xs : Nat → Int32) (G : (Nat → Nat → Nat → Int32 → PH → Option Rs)) (x0 : Nat) (x1 : Nat) (x2 : Nat) (x3 : Int32) (h : PH) : Option Rs := L_law_72_f742 L xs X11_aim X12_aim (L_law_72_g1807 L xs G) x0 x1 x2 x3 h
noncomputable def L_law_72_g785 (L : Nat) (xs : Nat → Int32) (G : (Nat → Nat → Nat → Int32 → PH → Option Rs)) (x0 : Nat) (x1 : Nat) (x2 : Nat) (x3 : Int32) (h : PH) : Option Rs := L_law_72_f785 L xs X11_undo X12_undo (L_law_72_g1807 L xs G) x0 x1 x2 x3 h
noncomputable def L_law_72_g798 (L : Nat) (xs : Nat → Int32) (G : (Nat → Nat → Nat → Int32 → PH → Option Rs)) (x0 : Nat) (x1 : Nat) (x2 : Nat) (x3 : Int32) (h : PH) : Option Rs := L_law_72_f798 L xs X11_feed X12_feed (L_law_72_g1807 L xs G) x0 x1 x2 x3 h
noncomputable def L_law_72_g841 (L : Nat) (xs : Nat → Int32) (G : (Nat → Nat → Nat → Int32 → PH → Option Rs)) (x0 : Nat) (x1 : Nat) (x2 : Nat) (x3 : Int32) (h : PH) : Option Rs := L_law_72_f841 L xs X11_trim X12_trim (L_law_72_g1807 L xs G) x0 x1 x2 x3 h
noncomputable def L_law_72_g864 (L : Nat) (xs : Nat → Int32) (G : (Nat → Nat → Nat → Int32 → PH → Option Rs)) (x0 : Nat) (x1 : Nat) (x2 : Nat) (x3 : Int32) (h : PH) : Option Rs := L_law_72_f864 L xs X11_text X12_text (L_law_72_g1807 L xs G) x0 x1 x2 x3 h
noncomputable def L_law_72_g877 (L : Nat) (xs : Nat → Int32) (G : (Nat → Nat → Nat → Int32 → PH → Option Rs)) (x0 : Nat) (x1 : Nat) (x2 : Nat) (x3 : Int32) (h : PH) : Option Rs := L_law_72_f877 L xs X11_textTold X12_textTold (L_law_72_g1807 L xs G) x0 x1 x2 x3 h
noncomputable def L_law_72_g910 (L : Nat) (xs : Nat → Int32) (G : (Nat → Nat → Nat → Int32 → PH → Option Rs)) (x0 : Nat) (x1 : Nat) (x2 : Nat) (x3 : Int32) (h : PH) : Option Rs := L_law_72_f910 L xs X11_why X12_why (L_law_72_g1807 L xs G) x0 x1 x2 x3 h
noncomputable def L_law_72_g933 (L : Nat) (xs : Nat → Int32) (G : (Nat → Nat → Nat → Int32 → PH → Option Rs)) (x0 : Nat) (x1 : Nat) (x2 : Nat) (x3 : Int32) (h : PH) : Option Rs := L_law_72_f933 L xs X11_walk X12_walk (L_law_72_g1807 L xs G) x0 x1 x2 x3 h
noncomputable def L_law_72_g986 (L : Nat) (xs : Nat → Int32) (G : (Nat → Nat → Nat → Int32 → PH → Option Rs)) (x0 : Nat) (x1 : Nat) (x2 : Nat) (x3 : Int32) (h : PH) : Option Rs := L_law_72_f986 L xs X11_via X12_via (L_law_72_g1807 L xs G) x0 x1 x2 x3 h
noncomputable def L_law_72_g1039 (L : Nat) (xs : Nat → Int32) (G : (Nat → Nat → Nat → Int32 → PH → Option Rs)) (x0 : Nat) (x1 : Nat) (x2 : Nat) (x3 : Int32) (h : PH) : Option Rs := L_law_72_f1039 L xs X11_far X12_far (L_law_72_g1807 L xs G) x0 x1 x2 x3 h
noncomputable def L_law_72_g1082 (L : Nat) (xs : Nat → Int32) (G : (Nat → Nat → Nat → Int32 → PH → Option Rs)) (x0 : Nat) (x1 : Nat) (x2 : Nat) (x3 : Int32) (h : PH) : Option Rs := L_law_72_f1082 L xs X11_next X12_next (L_law_72_g1807 L xs G) x0 x1 x2 x3 h
noncomputable def L_law_72_g1125 (L : Nat) (xs : Nat → Int32) (G : (Nat → Nat → Nat → Int32 → PH → Option Rs)) (x0 : Nat) (x1 : Nat) (x2 : Nat) (x3 : Int32) (h : PH) : Option Rs := L_law_72_f1125 L xs X11_breaches X12_breaches (L_law_72_g1807 L xs G) x0 x1 x2 x3 h
noncomputable def L_law_72_g1148 (L : Nat) (xs : Nat → Int32) (G : (Nat → Nat → Nat → Int32 → PH → Option Rs)) (x0 : Nat) (x1 : Nat) (x2 : Nat) (x3 : Int32) (h : PH) : Option Rs := L_law_72_f1148 L xs X11_breach X12_breach (L_law_72_g1807 L xs G) x0 x1 x2 x3 h
noncomputable def L_law_72_g1181 (L : Nat) (xs : Nat → Int32) (G : (Nat → Nat → Nat → Int32 → PH → Option Rs)) (x0 : Nat) (x1 : Nat) (x2 : Nat) (x3 : Int32) (h : PH) : Option Rs := L_law_72_f1181 L xs X11_needs X12_needs (L_law_72_g1807 L xs G) x0 x1 x2 x3 h
noncomputable def L_law_72_g1214 (L : Nat) (xs : Nat → Int32) (G : (Nat → Nat → Nat → Int32 → PH → Option Rs)) (x0 : Nat) (x1 : Nat) (x2 : Nat) (x3 : Int32) (h : PH) : Option Rs := L_law_72_f1214 L xs X11_wrong X12_wrong (L_law_72_g1807 L xs G) x0 x1 x2 x3 h
noncomputable def L_law_72_g1237 (L : Nat) (xs : Nat → Int32) (G : (Nat → Nat → Nat → Int32 → PH → Option Rs)) (x0 : Nat) (x1 : Nat) (x2 : Nat) (x3 : Int32) (h : PH) : Option Rs := L_law_72_f1237 L xs X11_mend X12_mend (L_law_72_g1807 L xs G) x0 x1 x2 x3 h
noncomputable def L_law_72_g1260 (L : Nat) (xs : Nat → Int32) (G : (Nat → Nat → Nat → Int32 → PH → Option Rs)) (x0 : Nat) (x1 : Nat) (x2 : Nat) (x3 : Int32) (h : PH) : Option Rs := L_law_72_f1260 L xs X11_choose X12_choose (L_law_72_g1807 L xs G) x0 x1 x2 x3 h
noncomputable def L_law_72_g1283 (L : Nat) (xs : Nat → Int32) (G : (Nat → Nat → Nat → Int32 → PH → Option Rs)) (x0 : Nat) (x1 : Nat) (x2 : Nat) (x3 : Int32) (h : PH) : Option Rs := L_law_72_f1283 L xs X11_clear X12_clear (L_law_72_g1807 L xs G) x0 x1 x2 x3 h
noncomputable def L_law_72_g1296 (L : Nat) (xs : Nat → Int32) (G : (Nat → Nat → Nat → Int32 → PH → Option Rs)) (x0 : Nat) (x1 : Nat) (x2 : Nat) (x3 : Int32) (h : PH) : Option Rs := L_law_72_f1296 L xs X11_fewest X12_fewest (L_law_72_g1807 L xs G) x0 x1 x2 x3 h
noncomputable def L_law_72_g1329 (L : Nat) (xs : Nat → Int32) (G : (Nat → Nat → Nat → Int32 → PH → Option Rs)) (x0 : Nat) (x1 : Nat) (x2 : Nat) (x3 : Int32) (h : PH) : Option Rs := L_law_72_f1329 L xs X11_seed X12_seed (L_law_72_g1807 L xs G) x0 x1 x2 x3 h
noncomputable def L_law_72_g1352 (L : Nat) (xs : Nat → Int32) (G : (Nat → Nat → Nat → Int32 → PH → Option Rs)) (x0 : Nat) (x1 : Nat) (x2 : Nat) (x3 : Int32) (h : PH) : Option Rs := L_law_72_f1352 L xs X11_strangers X12_strangers (L_law_72_g1807 L xs G) x0 x1 x2 x3 h
noncomputable def L_law_72_g1375 (L : Nat) (xs : Nat → Int32) (G : (Nat → Nat → Nat → Int32 → PH → Option Rs)) (x0 : Nat) (x1 : Nat) (x2 : Nat) (x3 : Int32) (h : PH) : Option Rs := L_law_72_f1375 L xs X11_led X12_led (L_law_72_g1807 L xs G) x0 x1 x2 x3 h
noncomputable def L_law_72_g1388 (L : Nat) (xs : Nat → Int32) (G : (Nat → Nat → Nat → Int32 → PH → Option Rs)) (x0 : Nat) (x1 : Nat) (x2 : Nat) (x3 : Int32) (h : PH) : Option Rs := L_law_72_f1388 L xs X11_sheet X12_sheet (L_law_72_g1807 L xs G) x0 x1 x2 x3 h
noncomputable def L_law_72_g1431 (L : Nat) (xs : Nat → Int32) (G : (Nat → Nat → Nat → Int32 → PH → Option Rs)) (x0 : Nat) (x1 : Nat) (x2 : Nat) (x3 : Int32) (h : PH) : Option Rs := L_law_72_f1431 L xs X11_mark X12_mark (L_law_72_g1807 L xs G) x0 x1 x2 x3 h
noncomputable def L_law_72_g1474 (L : Nat) (xs : Nat → Int32) (G : (Nat → Nat → Nat → Int32 → PH → Option Rs)) (x0 : Nat) (x1 : Nat) (x2 : Nat) (x3 : Int32) (h : PH) : Option Rs := L_law_72_f1474 L xs X11_fill X12_fill (L_law_72_g1807 L xs G) x0 x1 x2 x3 h
noncomputable def L_law_72_g1507 (L : Nat) (xs : Nat → Int32) (G : (Nat → Nat → Nat → Int32 → PH → Option Rs)) (x0 : Nat) (x1 : Nat) (x2 : Nat) (x3 : Int32) (h : PH) : Option Rs := L_law_72_f1507 L xs X11_copy X12_copy (L_law_72_g1807 L xs G) x0 x1 x2 x3 h
noncomputable def L_law_72_g1570 (L : Nat) (xs : Nat → Int32) (G : (Nat → Nat → Nat → Int32 → PH → Option Rs)) (x0 : Nat) (x1 : Nat) (x2 : Nat) (x3 : Int32) (h : PH) : Option Rs := L_law_72_f1570 L xs X11_lay X12_lay (L_law_72_g1807 L xs G) x0 x1 x2 x3 h
noncomputable def L_law_72_g1613 (L : Nat) (xs : Nat → Int32) (G : (Nat → Nat → Nat → Int32 → PH → Option Rs)) (x0 : Nat) (x1 : Nat) (x2 : Nat) (x3 : Int32) (h : PH) : Option Rs := L_law_72_f1613 L xs X11_ask X12_ask (L_law_72_g1807 L xs G) x0 x1 x2 x3 h
noncomputable def L_law_72_g1646 (L : Nat) (xs : Nat → Int32) (G : (Nat → Nat → Nat → Int32 → PH → Option Rs)) (x0 : Nat) (x1 : Nat) (x2 : Nat) (x3 : Int32) (h : PH) : Option Rs := L_law_72_f1646 L xs X11_item X12_item (L_law_72_g1807 L xs G) x0 x1 x2 x3 h
noncomputable def L_law_72_g1679 (L : Nat) (xs : Nat → Int32) (G : (Nat → Nat → Nat → Int32 → PH → Option Rs)) (x0 : Nat) (x1 : Nat) (x2 : Nat) (x3 : Int32) (h : PH) : Option Rs := L_law_72_f1679 L xs X11_rest X12_rest (L_law_72_g1807 L xs G) x0 x1 x2 x3 h
noncomputable def L_law_72_g1712 (L : Nat) (xs : Nat → Int32) (G : (Nat → Nat → Nat → Int32 → PH → Option Rs)) (x0 : Nat) (x1 : Nat) (x2 : Nat) (x3 : Int32) (h : PH) : Option Rs := L_law_72_f1712 L xs X11_tell X12_tell (L_law_72_g1807 L xs G) x0 x1 x2 x3 h
noncomputable def L_law_72_g1735 (L : Nat) (xs : Nat → Int32) (G : (Nat → Nat → Nat → Int32 → PH → Option Rs)) (x0 : Nat) (x1 : Nat) (x2 : Nat) (x3 : Int32) (h : PH) : Option Rs := L_law_72_f1735 L xs X11_check X12_check (L_law_72_g1807 L xs G) x0 x1 x2 x3 h
noncomputable def L_law_72_g1758 (L : Nat) (xs : Nat → Int32) (G : (Nat → Nat → Nat → Int32 → PH → Option Rs)) (x0 : Nat) (x1 : Nat) (x2 : Nat) (x3 : Int32) (h : PH) : Option Rs := L_law_72_f1758 L xs X11_keep X12_keep (L_law_72_g1807 L xs G) x0 x1 x2 x3 h
noncomputable def L_law_72_g1771 (L : Nat) (xs : Nat → Int32) (G : (Nat → Nat → Nat → Int32 → PH → Option Rs)) (x0 : Nat) (x1 : Nat) (x2 : Nat) (x3 : Int32) (h : PH) : Option Rs := L_law_72_f1771 L xs X11_back X12_back (L_law_72_g1807 L xs G) x0 x1 x2 x3 h
noncomputable def L_law_72_g1784 (L : Nat) (xs : Nat → Int32) (G : (Nat → Nat → Nat → Int32 → PH → Option Rs)) (x0 : Nat) (x1 : Nat) (x2 : Nat) (x3 : Int32) (h : PH) : Option Rs := L_law_72_f1784 L xs X11_count X12_count (L_law_72_g1807 L xs G) x0 x1 x2 x3 h
noncomputable def L_law_72_g18 (L : Nat) (xs : Nat → Int32) (G : (Nat → Nat → Nat → Int32 → PH → Option Rs)) (x0 : Nat) (x1 : Nat) (x2 : Nat) (x3 : Int32) (h : PH) : Option Rs := L_law_72_f18 L xs (L_law_72_g244 L xs G) (L_law_72_g257 L xs G) (L_law_72_g310 L xs G) (L_law_72_g343 L xs G) (L_law_72_g392 L xs G) (L_law_72_g425 L xs G) (L_law_72_g458 L xs G) (L_law_72_g481 L xs G) (L_law_72_g524 L xs G) (L_law_72_g557 L xs G) (L_law_72_g590 L xs G) (L_law_72_g623 L xs G) (L_law_72_g666 L xs G) (L_law_72_g709 L xs G) (L_law_72_g742 L xs G) (L_law_72_g785 L xs G) (L_law_72_g798 L xs G) (L_law_72_g841 L xs G) (L_law_72_g864 L xs G) (L_law_72_g877 L xs G) (L_law_72_g910 L xs G) (L_law_72_g933 L xs G) (L_law_72_g986 L xs G) (L_law_72_g1039 L xs G) (L_law_72_g1082 L xs G) (L_law_72_g1125 L xs G) (L_law_72_g1148 L xs G) (L_law_72_g1181 L xs G) (L_law_72_g1214 L xs G) (L_law_72_g1237 L xs G) (L_law_72_g1260 L xs G) (L_law_72_g1283 L xs G) (L_law_72_g1296 L xs G) (L_law_72_g1329 L xs G) (L_law_72_g1352 L xs G) (L_law_72_g1375 L xs G) (L_law_72_g1388 L xs G) (L_law_72_g1431 L xs G) (L_law_72_g1474 L xs G) (L_law_72_g1507 L xs G) (L_law_72_g1570 L xs G) (L_law_72_g1613 L xs G) (L_law_72_g1646 L xs G) (L_law_72_g1679 L xs G) (L_law_72_g1712 L xs G) (L_law_72_g1735 L xs G) (L_law_72_g1758 L xs G) (L_law_72_g1771 L xs G) (L_law_72_g1784 L xs G) (L_law_72_g1807 L xs G) x0 x1 x2 x3 h
theorem L_law_72_v1807 {L : Nat} {xs : Nat → Int32} {z : CZ} (hX : XS (L_law_72_x z) L xs) {G : (Nat → Nat → Nat → Int32 → PH → Option Rs)} (hG18 : SK (L_law_72_x z) 18 (L_law_72_u18 (G))) : SK (L_law_72_x z) 1807 (L_law_72_u1807 (L_law_72_g1807 L xs G)) := L_law_72_w1807 hX hG18
theorem L_law_72_v244 {L : Nat} {xs : Nat → Int32} {z : CZ} (hX : XS (L_law_72_x z) L xs) {G : (Nat → Nat → Nat → Int32 → PH → Option Rs)} (hG18 : SK (L_law_72_x z) 18 (L_law_72_u18 (G))) : SK (L_law_72_x z) 244 (L_law_72_u244 (L_law_72_g244 L xs G)) := L_law_72_w244 hX (L_law_72_v1807 hX hG18)
theorem L_law_72_v257 {L : Nat} {xs : Nat → Int32} {z : CZ} (hX : XS (L_law_72_x z) L xs) {G : (Nat → Nat → Nat → Int32 → PH → Option Rs)} (hG18 : SK (L_law_72_x z) 18 (L_law_72_u18 (G))) : SK (L_law_72_x z) 257 (L_law_72_u257 (L_law_72_g257 L xs G)) := L_law_72_w257 hX (L_law_72_v1807 hX hG18)
theorem L_law_72_v310 {L : Nat} {xs : Nat → Int32} {z : CZ} (hX : XS (L_law_72_x z) L xs) {G : (Nat → Nat → Nat → Int32 → PH → Option Rs)} (hG18 : SK (L_law_72_x z) 18 (L_law_72_u18 (G))) : SK (L_law_72_x z) 310 (L_law_72_u310 (L_law_72_g310 L xs G)) := L_law_72_w310 hX (L_law_72_v1807 hX hG18)
theorem L_law_72_v384 {L : Nat} {xs : Nat → Int32} {z : CZ} (hX : XS (L_law_72_x z) L xs) {G : (Nat → Nat → Nat → Int32 → PH → Option Rs)} (hG18 : SK (L_law_72_x z) 18 (L_law_72_u18 (G))) : SK (L_law_72_x z) 384 (L_law_72_u384 (L_law_72_g384 L xs G)) := L_law_72_w384 hX (L_law_72_v1807 hX hG18)
theorem L_law_72_v362 {L : Nat} {xs : Nat → Int32} {z : CZ} (hX : XS (L_law_72_x z) L xs) {G : (Nat → Nat → Nat → Int32 → PH → Option Rs)} (hG18 : SK (L_law_72_x z) 18 (L_law_72_u18 (G))) : SK (L_law_72_x z) 362 (L_law_72_u362 (L_law_72_g362 L xs G)) := L_law_72_w362 hX (L_law_72_v384 hX hG18)
theorem L_law_72_v343 {L : Nat} {xs : Nat → Int32} {z : CZ} (hX : XS (L_law_72_x z) L xs) {G : (Nat → Nat → Nat → Int32 → PH → Option Rs)} (hG18 : SK (L_law_72_x z) 18 (L_law_72_u18 (G))) : SK (L_law_72_x z) 343 (L_law_72_u343 (L_law_72_g343 L xs G)) := L_law_72_w343 hX (L_law_72_v362 hX hG18)
theorem L_law_72_v392 {L : Nat} {xs : Nat → Int32} {z : CZ} (hX : XS (L_law_72_x z) L xs) {G : (Nat → Nat → Nat → Int32 → PH → Option Rs)} (hG18 : SK (L_law_72_x z) 18 (L_law_72_u18 (G))) : SK (L_law_72_x z) 392 (L_law_72_u392 (L_law_72_g392 L xs G)) := L_law_72_w392 hX (L_law_72_v1807 hX hG18)
theorem L_law_72_v425 {L : Nat} {xs : Nat → Int32} {z : CZ} (hX : XS (L_law_72_x z) L xs) {G : (Nat → Nat → Nat → Int32 → PH → Option Rs)} (hG18 : SK (L_law_72_x z) 18 (L_law_72_u18 (G))) : SK (L_law_72_x z) 425 (L_law_72_u425 (L_law_72_g425 L xs G)) := L_law_72_w425 hX (L_law_72_v1807 hX hG18)
theorem L_law_72_v458 {L : Nat} {xs : Nat → Int32} {z : CZ} (hX : XS (L_law_72_x z) L xs) {G : (Nat → Nat → Nat → Int32 → PH → Option Rs)} (hG18 : SK (L_law_72_x z) 18 (L_law_72_u18 (G))) : SK (L_law_72_x z) 458 (L_law_72_u458 (L_law_72_g458 L xs G)) := L_law_72_w458 hX (L_law_72_v1807 hX hG18)
theorem L_law_72_v481 {L : Nat} {xs : Nat → Int32} {z : CZ} (hX : XS (L_law_72_x z) L xs) {G : (Nat → Nat → Nat → Int32 → PH → Option Rs)} (hG18 : SK (L_law_72_x z) 18 (L_law_72_u18 (G))) : SK (L_law_72_x z) 481 (L_law_72_u481 (L_law_72_g481 L xs G)) := L_law_72_w481 hX (L_law_72_v1807 hX hG18)
theorem L_law_72_v524 {L : Nat} {xs : Nat → Int32} {z : CZ} (hX : XS (L_law_72_x z) L xs) {G : (Nat → Nat → Nat → Int32 → PH → Option Rs)} (hG18 : SK (L_law_72_x z) 18 (L_law_72_u18 (G))) : SK (L_law_72_x z) 524 (L_law_72_u524 (L_law_72_g524 L xs G)) := L_law_72_w524 hX (L_law_72_v1807 hX hG18)
theorem L_law_72_v557 {L : Nat} {xs : Nat → Int32} {z : CZ} (hX : XS (L_law_72_x z) L xs) {G : (Nat → Nat → Nat → Int32 → PH → Option Rs)} (hG18 : SK (L_law_72_x z) 18 (L_law_72_u18 (G))) : SK (L_law_72_x z) 557 (L_law_72_u557 (L_law_72_g557 L xs G)) := L_law_72_w557 hX (L_law_72_v1807 hX hG18)
theorem L_law_72_v590 {L : Nat} {xs : Nat → Int32} {z : CZ} (hX : XS (L_law_72_x z) L xs) {G : (Nat → Nat → Nat → Int32 → PH → Option Rs)} (hG18 : SK (L_law_72_x z) 18 (L_law_72_u18 (G))) : SK (L_law_72_x z) 590 (L_law_72_u590 (L_law_72_g590 L xs G)) := L_law_72_w590 hX (L_law_72_v1807 hX hG18)
theorem L_law_72_v623 {L : Nat} {xs : Nat → Int32} {z : CZ} (hX : XS (L_law_72_x z) L xs) {G : (Nat → Nat → Nat → Int32 → PH → Option Rs)} (hG18 : SK (L_law_72_x z) 18 (L_law_72_u18 (G))) : SK (L_law_72_x z) 623 (L_law_72_u623 (L_law_72_g623 L xs G)) := L_law_72_w623 hX (L_law_72_v1807 hX hG18)
theorem L_law_72_v666 {L : Nat} {xs : Nat → Int32} {z : CZ} (hX : XS (L_law_72_x z) L xs) {G : (Nat → Nat → Nat → Int32 → PH → Option Rs)} (hG18 : SK (L_law_72_x z) 18 (L_law_72_u18 (G))) : SK (L_law_72_x z) 666 (L_law_72_u666 (L_law_72_g666 L xs G)) := L_law_72_w666 hX (L_law_72_v1807 hX hG18)
theorem L_law_72_v709 {L : Nat} {xs : Nat → Int32} {z : CZ} (hX : XS (L_law_72_x z) L xs) {G : (Nat → Nat → Nat → Int32 → PH → Option Rs)} (hG18 : SK (L_law_72_x z) 18 (L_law_72_u18 (G))) : SK (L_law_72_x z) 709 (L_law_72_u709 (L_law_72_g709 L xs G)) := L_law_72_w709 hX (L_law_72_v1807 hX hG18)
theorem L_law_72_v742 {L : Nat} {xs : Nat → Int32} {z : CZ} (hX : XS (L_law_72_x z) L xs) {G : (Nat → Nat → Nat → Int32 → PH → Option Rs)} (hG18 : SK (L_law_72_x z) 18 (L_law_72_u18 (G))) : SK (L_law_72_x z) 742 (L_law_72_u742 (L_law_72_g742 L xs G)) := L_law_72_w742 hX (L_law_72_v1807 hX hG18)
theorem L_law_72_v785 {L : Nat} {xs : Nat → Int32} {z : CZ} (hX : XS (L_law_72_x z) L xs) {G : (Nat → Nat → Nat → Int32 → PH → Option Rs)} (hG18 : SK (L_law_72_x z) 18 (L_law_72_u18 (G))) : SK (L_law_72_x z) 785 (L_law_72_u785 (L_law_72_g785 L xs G)) := L_law_72_w785 hX (L_law_72_v1807 hX hG18)
theorem L_law_72_v798 {L : Nat} {xs : Nat → Int32} {z : CZ} (hX : XS (L_law_72_x z) L xs) {G : (Nat → Nat → Nat → Int32 → PH → Option Rs)} (hG18 : SK (L_law_72_x z) 18 (L_law_72_u18 (G))) : SK (L_law_72_x z) 798 (L_law_72_u798 (L_law_72_g798 L xs G)) := L_law_72_w798 hX (L_law_72_v1807 hX hG18)
theorem L_law_72_v841 {L : Nat} {xs : Nat → Int32} {z : CZ} (hX : XS (L_law_72_x z) L xs) {G : (Nat → Nat → Nat → Int32 → PH → Option Rs)} (hG18 : SK (L_law_72_x z) 18 (L_law_72_u18 (G))) : SK (L_law_72_x z) 841 (L_law_72_u841 (L_law_72_g841 L xs G)) := L_law_72_w841 hX (L_law_72_v1807 hX hG18)
theorem L_law_72_v864 {L : Nat} {xs : Nat → Int32} {z : CZ} (hX : XS (L_law_72_x z) L xs) {G : (Nat → Nat → Nat → Int32 → PH → Option Rs)} (hG18 : SK (L_law_72_x z) 18 (L_law_72_u18 (G))) : SK (L_law_72_x z) 864 (L_law_72_u864 (L_law_72_g864 L xs G)) := L_law_72_w864 hX (L_law_72_v1807 hX hG18)
theorem L_law_72_v877 {L : Nat} {xs : Nat → Int32} {z : CZ} (hX : XS (L_law_72_x z) L xs) {G : (Nat → Nat → Nat → Int32 → PH → Option Rs)} (hG18 : SK (L_law_72_x z) 18 (L_law_72_u18 (G))) : SK (L_law_72_x z) 877 (L_law_72_u877 (L_law_72_g877 L xs G)) := L_law_72_w877 hX (L_law_72_v1807 hX hG18)
theorem L_law_72_v910 {L : Nat} {xs : Nat → Int32} {z : CZ} (hX : XS (L_law_72_x z) L xs) {G : (Nat → Nat → Nat → Int32 → PH → Option Rs)} (hG18 : SK (L_law_72_x z) 18 (L_law_72_u18 (G))) : SK (L_law_72_x z) 910 (L_law_72_u910 (L_law_72_g910 L xs G)) := L_law_72_w910 hX (L_law_72_v1807 hX hG18)
theorem L_law_72_v933 {L : Nat} {xs : Nat → Int32} {z : CZ} (hX : XS (L_law_72_x z) L xs) {G : (Nat → Nat → Nat → Int32 → PH → Option Rs)} (hG18 : SK (L_law_72_x z) 18 (L_law_72_u18 (G))) : SK (L_law_72_x z) 933 (L_law_72_u933 (L_law_72_g933 L xs G)) := L_law_72_w933 hX (L_law_72_v1807 hX hG18)
theorem L_law_72_v986 {L : Nat} {xs : Nat → Int32} {z : CZ} (hX : XS (L_law_72_x z) L xs) {G : (Nat → Nat → Nat → Int32 → PH → Option Rs)} (hG18 : SK (L_law_72_x z) 18 (L_law_72_u18 (G))) : SK (L_law_72_x z) 986 (L_law_72_u986 (L_law_72_g986 L xs G)) := L_law_72_w986 hX (L_law_72_v1807 hX hG18)
theorem L_law_72_v1039 {L : Nat} {xs : Nat → Int32} {z : CZ} (hX : XS (L_law_72_x z) L xs) {G : (Nat → Nat → Nat → Int32 → PH → Option Rs)} (hG18 : SK (L_law_72_x z) 18 (L_law_72_u18 (G))) : SK (L_law_72_x z) 1039 (L_law_72_u1039 (L_law_72_g1039 L xs G)) := L_law_72_w1039 hX (L_law_72_v1807 hX hG18)
theorem L_law_72_v1082 {L : Nat} {xs : Nat → Int32} {z : CZ} (hX : XS (L_law_72_x z) L xs) {G : (Nat → Nat → Nat → Int32 → PH → Option Rs)} (hG18 : SK (L_law_72_x z) 18 (L_law_72_u18 (G))) : SK (L_law_72_x z) 1082 (L_law_72_u1082 (L_law_72_g1082 L xs G)) := L_law_72_w1082 hX (L_law_72_v1807 hX hG18)
theorem L_law_72_v1125 {L : Nat} {xs : Nat → Int32} {z : CZ} (hX : XS (L_law_72_x z) L xs) {G : (Nat → Nat → Nat → Int32 → PH → Option Rs)} (hG18 : SK (L_law_72_x z) 18 (L_law_72_u18 (G))) : SK (L_law_72_x z) 1125 (L_law_72_u1125 (L_law_72_g1125 L xs G)) := L_law_72_w1125 hX (L_law_72_v1807 hX hG18)
theorem L_law_72_v1148 {L : Nat} {xs : Nat → Int32} {z : CZ} (hX : XS (L_law_72_x z) L xs) {G : (Nat → Nat → Nat → Int32 → PH → Option Rs)} (hG18 : SK (L_law_72_x z) 18 (L_law_72_u18 (G))) : SK (L_law_72_x z) 1148 (L_law_72_u1148 (L_law_72_g1148 L xs G)) := L_law_72_w1148 hX (L_law_72_v1807 hX hG18)
theorem L_law_72_v1181 {L : Nat} {xs : Nat → Int32} {z : CZ} (hX : XS (L_law_72_x z) L xs) {G : (Nat → Nat → Nat → Int32 → PH → Option Rs)} (hG18 : SK (L_law_72_x z) 18 (L_law_72_u18 (G))) : SK (L_law_72_x z) 1181 (L_law_72_u1181 (L_law_72_g1181 L xs G)) := L_law_72_w1181 hX (L_law_72_v1807 hX hG18)
theorem L_law_72_v1214 {L : Nat} {xs : Nat → Int32} {z : CZ} (hX : XS (L_law_72_x z) L xs) {G : (Nat → Nat → Nat → Int32 → PH → Option Rs)} (hG18 : SK (L_law_72_x z) 18 (L_law_72_u18 (G))) : SK (L_law_72_x z) 1214 (L_law_72_u1214 (L_law_72_g1214 L xs G)) := L_law_72_w1214 hX (L_law_72_v1807 hX hG18)
theorem L_law_72_v1237 {L : Nat} {xs : Nat → Int32} {z : CZ} (hX : XS (L_law_72_x z) L xs) {G : (Nat → Nat → Nat → Int32 → PH → Option Rs)} (hG18 : SK (L_law_72_x z) 18 (L_law_72_u18 (G))) : SK (L_law_72_x z) 1237 (L_law_72_u1237 (L_law_72_g1237 L xs G)) := L_law_72_w1237 hX (L_law_72_v1807 hX hG18)
theorem L_law_72_v1260 {L : Nat} {xs : Nat → Int32} {z : CZ} (hX : XS (L_law_72_x z) L xs) {G : (Nat → Nat → Nat → Int32 → PH → Option Rs)} (hG18 : SK (L_law_72_x z) 18 (L_law_72_u18 (G))) : SK (L_law_72_x z) 1260 (L_law_72_u1260 (L_law_72_g1260 L xs G)) := L_law_72_w1260 hX (L_law_72_v1807 hX hG18)
theorem L_law_72_v1283 {L : Nat} {xs : Nat → Int32} {z : CZ} (hX : XS (L_law_72_x z) L xs) {G : (Nat → Nat → Nat → Int32 → PH → Option Rs)} (hG18 : SK (L_law_72_x z) 18 (L_law_72_u18 (G))) : SK (L_law_72_x z) 1283 (L_law_72_u1283 (L_law_72_g1283 L xs G)) := L_law_72_w1283 hX (L_law_72_v1807 hX hG18)
theorem L_law_72_v1296 {L : Nat} {xs : Nat → Int32} {z : CZ} (hX : XS (L_law_72_x z) L xs) {G : (Nat → Nat → Nat → Int32 → PH → Option Rs)} (hG18 : SK (L_law_72_x z) 18 (L_law_72_u18 (G))) : SK (L_law_72_x z) 1296 (L_law_72_u1296 (L_law_72_g1296 L xs G)) := L_law_72_w1296 hX (L_law_72_v1807 hX hG18)
theorem L_law_72_v1329 {L : Nat} {xs : Nat → Int32} {z : CZ} (hX : XS (L_law_72_x z) L xs) {G : (Nat → Nat → Nat → Int32 → PH → Option Rs)} (hG18 : SK (L_law_72_x z) 18 (L_law_72_u18 (G))) : SK (L_law_72_x z) 1329 (L_law_72_u1329 (L_law_72_g1329 L xs G)) := L_law_72_w1329 hX (L_law_72_v1807 hX hG18)
theorem L_law_72_v1352 {L : Nat} {xs : Nat → Int32} {z : CZ} (hX : XS (L_law_72_x z) L xs) {G : (Nat → Nat → Nat → Int32 → PH → Option Rs)} (hG18 : SK (L_law_72_x z) 18 (L_law_72_u18 (G))) : SK (L_law_72_x z) 1352 (L_law_72_u1352 (L_law_72_g1352 L xs G)) := L_law_72_w1352 hX (L_law_72_v1807 hX hG18)
theorem L_law_72_v1375 {L : Nat} {xs : Nat → Int32} {z : CZ} (hX : XS (L_law_72_x z) L xs) {G : (Nat → Nat → Nat → Int32 → PH → Option Rs)} (hG18 : SK (L_law_72_x z) 18 (L_law_72_u18 (G))) : SK (L_law_72_x z) 1375 (L_law_72_u1375 (L_law_72_g1375 L xs G)) := L_law_72_w1375 hX (L_law_72_v1807 hX hG18)
theorem L_law_72_v1388 {L : Nat} {xs : Nat → Int32} {z : CZ} (hX : XS (L_law_72_x z) L xs) {G : (Nat → Nat → Nat → Int32 → PH → Option Rs)} (hG18 : SK (L_law_72_x z) 18 (L_law_72_u18 (G))) : SK (L_law_72_x z) 1388 (L_law_72_u1388 (L_law_72_g1388 L xs G)) := L_law_72_w1388 hX (L_law_72_v1807 hX hG18)
theorem L_law_72_v1431 {L : Nat} {xs : Nat → Int32} {z : CZ} (hX : XS (L_law_72_x z) L xs) {G : (Nat → Nat → Nat → Int32 → PH → Option Rs)} (hG18 : SK (L_law_72_x z) 18 (L_law_72_u18 (G))) : SK (L_law_72_x z) 1431 (L_law_72_u1431 (L_law_72_g1431 L xs G)) := L_law_72_w1431 hX (L_law_72_v1807 hX hG18)
theorem L_law_72_v1474 {L : Nat} {xs : Nat → Int32} {z : CZ} (hX : XS (L_law_72_x z) L xs) {G : (Nat → Nat → Nat → Int32 → PH → Option Rs)} (hG18 : SK (L_law_72_x z) 18 (L_law_72_u18 (G))) : SK (L_law_72_x z) 1474 (L_law_72_u1474 (L_law_72_g1474 L xs G)) := L_law_72_w1474 hX (L_law_72_v1807 hX hG18)
theorem L_law_72_v1507 {L : Nat} {xs : Nat → Int32} {z : CZ} (hX : XS (L_law_72_x z) L xs) {G : (Nat → Nat → Nat → Int32 → PH → Option Rs)} (hG18 : SK (L_law_72_x z) 18 (L_law_72_u18 (G))) : SK (L_law_72_x z) 1507 (L_law_72_u1507 (L_law_72_g1507 L xs G)) := L_law_72_w1507 hX (L_law_72_v1807 hX hG18)
theorem L_law_72_v1570 {L : Nat} {xs : Nat → Int32} {z : CZ} (hX : XS (L_law_72_x z) L xs) {G : (Nat → Nat → Nat → Int32 → PH → Option Rs)} (hG18 : SK (L_law_72_x z) 18 (L_law_72_u18 (G))) : SK (L_law_72_x z) 1570 (L_law_72_u1570 (L_law_72_g1570 L xs G)) := L_law_72_w1570 hX (L_law_72_v1807 hX hG18)
theorem L_law_72_v1613 {L : Nat} {xs : Nat → Int32} {z : CZ} (hX : XS (L_law_72_x z) L xs) {G : (Nat → Nat → Nat → Int32 → PH → Option Rs)} (hG18 : SK (L_law_72_x z) 18 (L_law_72_u18 (G))) : SK (L_law_72_x z) 1613 (L_law_72_u1613 (L_law_72_g1613 L xs G)) := L_law_72_w1613 hX (L_law_72_v1807 hX hG18)
theorem L_law_72_v1646 {L : Nat} {xs : Nat → Int32} {z : CZ} (hX : XS (L_law_72_x z) L xs) {G : (Nat → Nat → Nat → Int32 → PH → Option Rs)} (hG18 : SK (L_law_72_x z) 18 (L_law_72_u18 (G))) : SK (L_law_72_x z) 1646 (L_law_72_u1646 (L_law_72_g1646 L xs G)) := L_law_72_w1646 hX (L_law_72_v1807 hX hG18)
theorem L_law_72_v1679 {L : Nat} {xs : Nat → Int32} {z : CZ} (hX : XS (L_law_72_x z) L xs) {G : (Nat → Nat → Nat → Int32 → PH → Option Rs)} (hG18 : SK (L_law_72_x z) 18 (L_law_72_u18 (G))) : SK (L_law_72_x z) 1679 (L_law_72_u1679 (L_law_72_g1679 L xs G)) := L_law_72_w1679 hX (L_law_72_v1807 hX hG18)
theorem L_law_72_v1712 {L : Nat} {xs : Nat → Int32} {z : CZ} (hX : XS (L_law_72_x z) L xs) {G : (Nat → Nat → Nat → Int32 → PH → Option Rs)} (hG18 : SK (L_law_72_x z) 18 (L_law_72_u18 (G))) : SK (L_law_72_x z) 1712 (L_law_72_u1712 (L_law_72_g1712 L xs G)) := L_law_72_w1712 hX (L_law_72_v1807 hX hG18)
theorem L_law_72_v1735 {L : Nat} {xs : Nat → Int32} {z : CZ} (hX : XS (L_law_72_x z) L xs) {G : (Nat → Nat → Nat → Int32 → PH → Option Rs)} (hG18 : SK (L_law_72_x z) 18 (L_law_72_u18 (G))) : SK (L_law_72_x z) 1735 (L_law_72_u1735 (L_law_72_g1735 L xs G)) := L_law_72_w1735 hX (L_law_72_v1807 hX hG18)
theorem L_law_72_v1758 {L : Nat} {xs : Nat → Int32} {z : CZ} (hX : XS (L_law_72_x z) L xs) {G : (Nat → Nat → Nat → Int32 → PH → Option Rs)} (hG18 : SK (L_law_72_x z) 18 (L_law_72_u18 (G))) : SK (L_law_72_x z) 1758 (L_law_72_u1758 (L_law_72_g1758 L xs G)) := L_law_72_w1758 hX (L_law_72_v1807 hX hG18)
theorem L_law_72_v1771 {L : Nat} {xs : Nat → Int32} {z : CZ} (hX : XS (L_law_72_x z) L xs) {G : (Nat → Nat → Nat → Int32 → PH → Option Rs)} (hG18 : SK (L_law_72_x z) 18 (L_law_72_u18 (G))) : SK (L_law_72_x z) 1771 (L_law_72_u1771 (L_law_72_g1771 L xs G)) := L_law_72_w1771 hX (L_law_72_v1807 hX hG18)
theorem L_law_72_v1784 {L : Nat} {xs : Nat → Int32} {z : CZ} (hX : XS (L_law_72_x z) L xs) {G : (Nat → Nat → Nat → Int32 → PH → Option Rs)} (hG18 : SK (L_law_72_x z) 18 (L_law_72_u18 (G))) : SK (L_law_72_x z) 1784 (L_law_72_u1784 (L_law_72_g1784 L xs G)) := L_law_72_w1784 hX (L_law_72_v1807 hX hG18)
theorem L_law_72_v18 {L : Nat} {xs : Nat → Int32} {z : CZ} (hX : XS (L_law_72_x z) L xs) {G : (Nat → Nat → Nat → Int32 → PH → Option Rs)} (hG18 : SK (L_law_72_x z) 18 (L_law_72_u18 (G))) : SK (L_law_72_x z) 18 (L_law_72_u18 (L_law_72_g18 L xs G)) := L_law_72_w18 hX (L_law_72_v244 hX hG18) (L_law_72_v257 hX hG18) (L_law_72_v310 hX hG18) (L_law_72_v343 hX hG18) (L_law_72_v392 hX hG18) (L_law_72_v425 hX hG18) (L_law_72_v458 hX hG18) (L_law_72_v481 hX hG18) (L_law_72_v524 hX hG18) (L_law_72_v557 hX hG18) (L_law_72_v590 hX hG18) (L_law_72_v623 hX hG18) (L_law_72_v666 hX hG18) (L_law_72_v709 hX hG18) (L_law_72_v742 hX hG18) (L_law_72_v785 hX hG18) (L_law_72_v798 hX hG18) (L_law_72_v841 hX hG18) (L_law_72_v864 hX hG18) (L_law_72_v877 hX hG18) (L_law_72_v910 hX hG18) (L_law_72_v933 hX hG18) (L_law_72_v986 hX hG18) (L_law_72_v1039 hX hG18) (L_law_72_v1082 hX hG18) (L_law_72_v1125 hX hG18) (L_law_72_v1148 hX hG18) (L_law_72_v1181 hX hG18) (L_law_72_v1214 hX hG18) (L_law_72_v1237 hX hG18) (L_law_72_v1260 hX hG18) (L_law_72_v1283 hX hG18) (L_law_72_v1296 hX hG18) (L_law_72_v1329 hX hG18) (L_law_72_v1352 hX hG18) (L_law_72_v1375 hX hG18) (L_law_72_v1388 hX hG18) (L_law_72_v1431 hX hG18) (L_law_72_v1474 hX hG18) (L_law_72_v1507 hX hG18) (L_law_72_v1570 hX hG18) (L_law_72_v1613 hX hG18) (L_law_72_v1646 hX hG18) (L_law_72_v1679 hX hG18) (L_law_72_v1712 hX hG18) (L_law_72_v1735 hX hG18) (L_law_72_v1758 hX hG18) (L_law_72_v1771 hX hG18) (L_law_72_v1784 hX hG18) (L_law_72_v1807 hX hG18)
noncomputable def L_law_72_fam (L : Nat) (xs : Nat → Int32) : Nat → (Nat → Nat → Nat → Int32 → PH → Option Rs)
  | 0 => fun _ _ _ _ _ => none
  | n + 1 => L_law_72_g18 L xs (L_law_72_fam L xs n)
theorem L_law_72_k {L : Nat} {xs : Nat → Int32} {z : CZ} (hX : XS (L_law_72_x z) L xs) : ∀ n, SK (L_law_72_x z) 18 (L_law_72_u18 (L_law_72_fam L xs n))
  | 0 => (fun ls st h r e => by
      obtain ⟨_, e⟩ := gL_of e
      obtain ⟨_, _, e⟩ := gR_of e
      obtain ⟨_, _, e⟩ := gR_of e
      obtain ⟨_, _, e⟩ := gR_of e
      obtain ⟨_, _, e⟩ := gI_of e
      cases e)
  | n + 1 => by
    obtain ih18 := L_law_72_k hX n
    exact L_law_72_v18 hX ih18
theorem L_law_72_n0 {L : Nat} {xs : Nat → Int32} {G G' : (Nat → Nat → Nat → Int32 → PH → Option Rs)} (hg18 : ∀ a0 a1 a2 a3 a4, Mo ((G) a0 a1 a2 a3 a4) ((G') a0 a1 a2 a3 a4)) (x0 : Nat) (h : PH) : Mo (L_law_72_g0 L xs G x0 h) (L_law_72_g0 L xs G' x0 h) := L_law_72_m0 hg18 x0 h
theorem L_law_72_n1807 {L : Nat} {xs : Nat → Int32} {G G' : (Nat → Nat → Nat → Int32 → PH → Option Rs)} (hg18 : ∀ a0 a1 a2 a3 a4, Mo ((G) a0 a1 a2 a3 a4) ((G') a0 a1 a2 a3 a4)) (x0 : Nat) (x1 : Nat) (x2 : Nat) (x3 : Int32) (h : PH) : Mo (L_law_72_g1807 L xs G x0 x1 x2 x3 h) (L_law_72_g1807 L xs G' x0 x1 x2 x3 h) := L_law_72_m1807 hg18 x0 x1 x2 x3 h
theorem L_law_72_n244 {L : Nat} {xs : Nat → Int32} {G G' : (Nat → Nat → Nat → Int32 → PH → Option Rs)} (hg18 : ∀ a0 a1 a2 a3 a4, Mo ((G) a0 a1 a2 a3 a4) ((G') a0 a1 a2 a3 a4)) (x0 : Nat) (x1 : Nat) (x2 : Nat) (x3 : Int32) (h : PH) : Mo (L_law_72_g244 L xs G x0 x1 x2 x3 h) (L_law_72_g244 L xs G' x0 x1 x2 x3 h) := L_law_72_m244 (fun a0 a1 a2 a3 a4 => L_law_72_n1807 hg18 a0 a1 a2 a3 a4) x0 x1 x2 x3 h
theorem L_law_72_n257 {L : Nat} {xs : Nat → Int32} {G G' : (Nat → Nat → Nat → Int32 → PH → Option Rs)} (hg18 : ∀ a0 a1 a2 a3 a4, Mo ((G) a0 a1 a2 a3 a4) ((G') a0 a1 a2 a3 a4)) (x0 : Nat) (x1 : Nat) (x2 : Nat) (x3 : Int32) (h : PH) : Mo (L_law_72_g257 L xs G x0 x1 x2 x3 h) (L_law_72_g257 L xs G' x0 x1 x2 x3 h) := L_law_72_m257 (fun a0 a1 a2 a3 a4 => L_law_72_n1807 hg18 a0 a1 a2 a3 a4) x0 x1 x2 x3 h
theorem L_law_72_n310 {L : Nat} {xs : Nat → Int32} {G G' : (Nat → Nat → Nat → Int32 → PH → Option Rs)} (hg18 : ∀ a0 a1 a2 a3 a4, Mo ((G) a0 a1 a2 a3 a4) ((G') a0 a1 a2 a3 a4)) (x0 : Nat) (x1 : Nat) (x2 : Nat) (x3 : Int32) (h : PH) : Mo (L_law_72_g310 L xs G x0 x1 x2 x3 h) (L_law_72_g310 L xs G' x0 x1 x2 x3 h) := L_law_72_m310 (fun a0 a1 a2 a3 a4 => L_law_72_n1807 hg18 a0 a1 a2 a3 a4) x0 x1 x2 x3 h
theorem L_law_72_n384 {L : Nat} {xs : Nat → Int32} {G G' : (Nat → Nat → Nat → Int32 → PH → Option Rs)} (hg18 : ∀ a0 a1 a2 a3 a4, Mo ((G) a0 a1 a2 a3 a4) ((G') a0 a1 a2 a3 a4)) (x0 : Nat) (x1 : Nat) (x2 : Nat) (x3 : Int32) (s0 : Int32) (s1 : Int32) (s2 : Nat) (s3 : Int32) (h : PH) : Mo (L_law_72_g384 L xs G x0 x1 x2 x3 s0 s1 s2 s3 h) (L_law_72_g384 L xs G' x0 x1 x2 x3 s0 s1 s2 s3 h) := L_law_72_m384 (fun a0 a1 a2 a3 a4 => L_law_72_n1807 hg18 a0 a1 a2 a3 a4) x0 x1 x2 x3 s0 s1 s2 s3 h
theorem L_law_72_n362 {L : Nat} {xs : Nat → Int32} {G G' : (Nat → Nat → Nat → Int32 → PH → Option Rs)} (hg18 : ∀ a0 a1 a2 a3 a4, Mo ((G) a0 a1 a2 a3 a4) ((G') a0 a1 a2 a3 a4)) (x0 : Nat) (x1 : Nat) (x2 : Nat) (x3 : Int32) (s0 : Int32) (s1 : Int32) (s2 : Nat) (h : PH) : Mo (L_law_72_g362 L xs G x0 x1 x2 x3 s0 s1 s2 h) (L_law_72_g362 L xs G' x0 x1 x2 x3 s0 s1 s2 h) := L_law_72_m362 (fun a0 a1 a2 a3 a4 a5 a6 a7 a8 => L_law_72_n384 hg18 a0 a1 a2 a3 a4 a5 a6 a7 a8) x0 x1 x2 x3 s0 s1 s2 h
theorem L_law_72_n343 {L : Nat} {xs : Nat → Int32} {G G' : (Nat → Nat → Nat → Int32 → PH → Option Rs)} (hg18 : ∀ a0 a1 a2 a3 a4, Mo ((G) a0 a1 a2 a3 a4) ((G') a0 a1 a2 a3 a4)) (x0 : Nat) (x1 : Nat) (x2 : Nat) (x3 : Int32) (h : PH) : Mo (L_law_72_g343 L xs G x0 x1 x2 x3 h) (L_law_72_g343 L xs G' x0 x1 x2 x3 h) := L_law_72_m343 (fun a0 a1 a2 a3 a4 a5 a6 a7 => L_law_72_n362 hg18 a0 a1 a2 a3 a4 a5 a6 a7) x0 x1 x2 x3 h
theorem L_law_72_n392 {L : Nat} {xs : Nat → Int32} {G G' : (Nat → Nat → Nat → Int32 → PH → Option Rs)} (hg18 : ∀ a0 a1 a2 a3 a4, Mo ((G) a0 a1 a2 a3 a4) ((G') a0 a1 a2 a3 a4)) (x0 : Nat) (x1 : Nat) (x2 : Nat) (x3 : Int32) (h : PH) : Mo (L_law_72_g392 L xs G x0 x1 x2 x3 h) (L_law_72_g392 L xs G' x0 x1 x2 x3 h) := L_law_72_m392 (fun a0 a1 a2 a3 a4 => L_law_72_n1807 hg18 a0 a1 a2 a3 a4) x0 x1 x2 x3 h
theorem L_law_72_n425 {L : Nat} {xs : Nat → Int32} {G G' : (Nat → Nat → Nat → Int32 → PH → Option Rs)} (hg18 : ∀ a0 a1 a2 a3 a4, Mo ((G) a0 a1 a2 a3 a4) ((G') a0 a1 a2 a3 a4)) (x0 : Nat) (x1 : Nat) (x2 : Nat) (x3 : Int32) (h : PH) : Mo (L_law_72_g425 L xs G x0 x1 x2 x3 h) (L_law_72_g425 L xs G' x0 x1 x2 x3 h) := L_law_72_m425 (fun a0 a1 a2 a3 a4 => L_law_72_n1807 hg18 a0 a1 a2 a3 a4) x0 x1 x2 x3 h
theorem L_law_72_n458 {L : Nat} {xs : Nat → Int32} {G G' : (Nat → Nat → Nat → Int32 → PH → Option Rs)} (hg18 : ∀ a0 a1 a2 a3 a4, Mo ((G) a0 a1 a2 a3 a4) ((G') a0 a1 a2 a3 a4)) (x0 : Nat) (x1 : Nat) (x2 : Nat) (x3 : Int32) (h : PH) : Mo (L_law_72_g458 L xs G x0 x1 x2 x3 h) (L_law_72_g458 L xs G' x0 x1 x2 x3 h) := L_law_72_m458 (fun a0 a1 a2 a3 a4 => L_law_72_n1807 hg18 a0 a1 a2 a3 a4) x0 x1 x2 x3 h
theorem L_law_72_n481 {L : Nat} {xs : Nat → Int32} {G G' : (Nat → Nat → Nat → Int32 → PH → Option Rs)} (hg18 : ∀ a0 a1 a2 a3 a4, Mo ((G) a0 a1 a2 a3 a4) ((G') a0 a1 a2 a3 a4)) (x0 : Nat) (x1 : Nat) (x2 : Nat) (x3 : Int32) (h : PH) : Mo (L_law_72_g481 L xs G x0 x1 x2 x3 h) (L_law_72_g481 L xs G' x0 x1 x2 x3 h) := L_law_72_m481 (fun a0 a1 a2 a3 a4 => L_law_72_n1807 hg18 a0 a1 a2 a3 a4) x0 x1 x2 x3 h
theorem L_law_72_n524 {L : Nat} {xs : Nat → Int32} {G G' : (Nat → Nat → Nat → Int32 → PH → Option Rs)} (hg18 : ∀ a0 a1 a2 a3 a4, Mo ((G) a0 a1 a2 a3 a4) ((G') a0 a1 a2 a3 a4)) (x0 : Nat) (x1 : Nat) (x2 : Nat) (x3 : Int32) (h : PH) : Mo (L_law_72_g524 L xs G x0 x1 x2 x3 h) (L_law_72_g524 L xs G' x0 x1 x2 x3 h) := L_law_72_m524 (fun a0 a1 a2 a3 a4 => L_law_72_n1807 hg18 a0 a1 a2 a3 a4) x0 x1 x2 x3 h
theorem L_law_72_n557 {L : Nat} {xs : Nat → Int32} {G G' : (Nat → Nat → Nat → Int32 → PH → Option Rs)} (hg18 : ∀ a0 a1 a2 a3 a4, Mo ((G) a0 a1 a2 a3 a4) ((G') a0 a1 a2 a3 a4)) (x0 : Nat) (x1 : Nat) (x2 : Nat) (x3 : Int32) (h : PH) : Mo (L_law_72_g557 L xs G x0 x1 x2 x3 h) (L_law_72_g557 L xs G' x0 x1 x2 x3 h) := L_law_72_m557 (fun a0 a1 a2 a3 a4 => L_law_72_n1807 hg18 a0 a1 a2 a3 a4) x0 x1 x2 x3 h
theorem L_law_72_n590 {L : Nat} {xs : Nat → Int32} {G G' : (Nat → Nat → Nat → Int32 → PH → Option Rs)} (hg18 : ∀ a0 a1 a2 a3 a4, Mo ((G) a0 a1 a2 a3 a4) ((G') a0 a1 a2 a3 a4)) (x0 : Nat) (x1 : Nat) (x2 : Nat) (x3 : Int32) (h : PH) : Mo (L_law_72_g590 L xs G x0 x1 x2 x3 h) (L_law_72_g590 L xs G' x0 x1 x2 x3 h) := L_law_72_m590 (fun a0 a1 a2 a3 a4 => L_law_72_n1807 hg18 a0 a1 a2 a3 a4) x0 x1 x2 x3 h
theorem L_law_72_n623 {L : Nat} {xs : Nat → Int32} {G G' : (Nat → Nat → Nat → Int32 → PH → Option Rs)} (hg18 : ∀ a0 a1 a2 a3 a4, Mo ((G) a0 a1 a2 a3 a4) ((G') a0 a1 a2 a3 a4)) (x0 : Nat) (x1 : Nat) (x2 : Nat) (x3 : Int32) (h : PH) : Mo (L_law_72_g623 L xs G x0 x1 x2 x3 h) (L_law_72_g623 L xs G' x0 x1 x2 x3 h) := L_law_72_m623 (fun a0 a1 a2 a3 a4 => L_law_72_n1807 hg18 a0 a1 a2 a3 a4) x0 x1 x2 x3 h
theorem L_law_72_n666 {L : Nat} {xs : Nat → Int32} {G G' : (Nat → Nat → Nat → Int32 → PH → Option Rs)} (hg18 : ∀ a0 a1 a2 a3 a4, Mo ((G) a0 a1 a2 a3 a4) ((G') a0 a1 a2 a3 a4)) (x0 : Nat) (x1 : Nat) (x2 : Nat) (x3 : Int32) (h : PH) : Mo (L_law_72_g666 L xs G x0 x1 x2 x3 h) (L_law_72_g666 L xs G' x0 x1 x2 x3 h) := L_law_72_m666 (fun a0 a1 a2 a3 a4 => L_law_72_n1807 hg18 a0 a1 a2 a3 a4) x0 x1 x2 x3 h
theorem L_law_72_n709 {L : Nat} {xs : Nat → Int32} {G G' : (Nat → Nat → Nat → Int32 → PH → Option Rs)} (hg18 : ∀ a0 a1 a2 a3 a4, Mo ((G) a0 a1 a2 a3 a4) ((G') a0 a1 a2 a3 a4)) (x0 : Nat) (x1 : Nat) (x2 : Nat) (x3 : Int32) (h : PH) : Mo (L_law_72_g709 L xs G x0 x1 x2 x3 h) (L_law_72_g709 L xs G' x0 x1 x2 x3 h) := L_law_72_m709 (fun a0 a1 a2 a3 a4 => L_law_72_n1807 hg18 a0 a1 a2 a3 a4) x0 x1 x2 x3 h
theorem L_law_72_n742 {L : Nat} {xs : Nat → Int32} {G G' : (Nat → Nat → Nat → Int32 → PH → Option Rs)} (hg18 : ∀ a0 a1 a2 a3 a4, Mo ((G) a0 a1 a2 a3 a4) ((G') a0 a1 a2 a3 a4)) (x0 : Nat) (x1 : Nat) (x2 : Nat) (x3 : Int32) (h : PH) : Mo (L_law_72_g742 L xs G x0 x1 x2 x3 h) (L_law_72_g742 L xs G' x0 x1 x2 x3 h) := L_law_72_m742 (fun a0 a1 a2 a3 a4 => L_law_72_n1807 hg18 a0 a1 a2 a3 a4) x0 x1 x2 x3 h
theorem L_law_72_n785 {L : Nat} {xs : Nat → Int32} {G G' : (Nat → Nat → Nat → Int32 → PH → Option Rs)} (hg18 : ∀ a0 a1 a2 a3 a4, Mo ((G) a0 a1 a2 a3 a4) ((G') a0 a1 a2 a3 a4)) (x0 : Nat) (x1 : Nat) (x2 : Nat) (x3 : Int32) (h : PH) : Mo (L_law_72_g785 L xs G x0 x1 x2 x3 h) (L_law_72_g785 L xs G' x0 x1 x2 x3 h) := L_law_72_m785 (fun a0 a1 a2 a3 a4 => L_law_72_n1807 hg18 a0 a1 a2 a3 a4) x0 x1 x2 x3 h
theorem L_law_72_n798 {L : Nat} {xs : Nat → Int32} {G G' : (Nat → Nat → Nat → Int32 → PH → Option Rs)} (hg18 : ∀ a0 a1 a2 a3 a4, Mo ((G) a0 a1 a2 a3 a4) ((G') a0 a1 a2 a3 a4)) (x0 : Nat) (x1 : Nat) (x2 : Nat) (x3 : Int32) (h : PH) : Mo (L_law_72_g798 L xs G x0 x1 x2 x3 h) (L_law_72_g798 L xs G' x0 x1 x2 x3 h) := L_law_72_m798 (fun a0 a1 a2 a3 a4 => L_law_72_n1807 hg18 a0 a1 a2 a3 a4) x0 x1 x2 x3 h
theorem L_law_72_n841 {L : Nat} {xs : Nat → Int32} {G G' : (Nat → Nat → Nat → Int32 → PH → Option Rs)} (hg18 : ∀ a0 a1 a2 a3 a4, Mo ((G) a0 a1 a2 a3 a4) ((G') a0 a1 a2 a3 a4)) (x0 : Nat) (x1 : Nat) (x2 : Nat) (x3 : Int32) (h : PH) : Mo (L_law_72_g841 L xs G x0 x1 x2 x3 h) (L_law_72_g841 L xs G' x0 x1 x2 x3 h) := L_law_72_m841 (fun a0 a1 a2 a3 a4 => L_law_72_n1807 hg18 a0 a1 a2 a3 a4) x0 x1 x2 x3 h
theorem L_law_72_n864 {L : Nat} {xs : Nat → Int32} {G G' : (Nat → Nat → Nat → Int32 → PH → Option Rs)} (hg18 : ∀ a0 a1 a2 a3 a4, Mo ((G) a0 a1 a2 a3 a4) ((G') a0 a1 a2 a3 a4)) (x0 : Nat) (x1 : Nat) (x2 : Nat) (x3 : Int32) (h : PH) : Mo (L_law_72_g864 L xs G x0 x1 x2 x3 h) (L_law_72_g864 L xs G' x0 x1 x2 x3 h) := L_law_72_m864 (fun a0 a1 a2 a3 a4 => L_law_72_n1807 hg18 a0 a1 a2 a3 a4) x0 x1 x2 x3 h
theorem L_law_72_n877 {L : Nat} {xs : Nat → Int32} {G G' : (Nat → Nat → Nat → Int32 → PH → Option Rs)} (hg18 : ∀ a0 a1 a2 a3 a4, Mo ((G) a0 a1 a2 a3 a4) ((G') a0 a1 a2 a3 a4)) (x0 : Nat) (x1 : Nat) (x2 : Nat) (x3 : Int32) (h : PH) : Mo (L_law_72_g877 L xs G x0 x1 x2 x3 h) (L_law_72_g877 L xs G' x0 x1 x2 x3 h) := L_law_72_m877 (fun a0 a1 a2 a3 a4 => L_law_72_n1807 hg18 a0 a1 a2 a3 a4) x0 x1 x2 x3 h
theorem L_law_72_n910 {L : Nat} {xs : Nat → Int32} {G G' : (Nat → Nat → Nat → Int32 → PH → Option Rs)} (hg18 : ∀ a0 a1 a2 a3 a4, Mo ((G) a0 a1 a2 a3 a4) ((G') a0 a1 a2 a3 a4)) (x0 : Nat) (x1 : Nat) (x2 : Nat) (x3 : Int32) (h : PH) : Mo (L_law_72_g910 L xs G x0 x1 x2 x3 h) (L_law_72_g910 L xs G' x0 x1 x2 x3 h) := L_law_72_m910 (fun a0 a1 a2 a3 a4 => L_law_72_n1807 hg18 a0 a1 a2 a3 a4) x0 x1 x2 x3 h
theorem L_law_72_n933 {L : Nat} {xs : Nat → Int32} {G G' : (Nat → Nat → Nat → Int32 → PH → Option Rs)} (hg18 : ∀ a0 a1 a2 a3 a4, Mo ((G) a0 a1 a2 a3 a4) ((G') a0 a1 a2 a3 a4)) (x0 : Nat) (x1 : Nat) (x2 : Nat) (x3 : Int32) (h : PH) : Mo (L_law_72_g933 L xs G x0 x1 x2 x3 h) (L_law_72_g933 L xs G' x0 x1 x2 x3 h) := L_law_72_m933 (fun a0 a1 a2 a3 a4 => L_law_72_n1807 hg18 a0 a1 a2 a3 a4) x0 x1 x2 x3 h
theorem L_law_72_n986 {L : Nat} {xs : Nat → Int32} {G G' : (Nat → Nat → Nat → Int32 → PH → Option Rs)} (hg18 : ∀ a0 a1 a2 a3 a4, Mo ((G) a0 a1 a2 a3 a4) ((G') a0 a1 a2 a3 a4)) (x0 : Nat) (x1 : Nat) (x2 : Nat) (x3 : Int32) (h : PH) : Mo (L_law_72_g986 L xs G x0 x1 x2 x3 h) (L_law_72_g986 L xs G' x0 x1 x2 x3 h) := L_law_72_m986 (fun a0 a1 a2 a3 a4 => L_law_72_n1807 hg18 a0 a1 a2 a3 a4) x0 x1 x2 x3 h
theorem L_law_72_n1039 {L : Nat} {xs : Nat → Int32} {G G' : (Nat → Nat → Nat → Int32 → PH → Option Rs)} (hg18 : ∀ a0 a1 a2 a3 a4, Mo ((G) a0 a1 a2 a3 a4) ((G') a0 a1 a2 a3 a4)) (x0 : Nat) (x1 : Nat) (x2 : Nat) (x3 : Int32) (h : PH) : Mo (L_law_72_g1039 L xs G x0 x1 x2 x3 h) (L_law_72_g1039 L xs G' x0 x1 x2 x3 h) := L_law_72_m1039 (fun a0 a1 a2 a3 a4 => L_law_72_n1807 hg18 a0 a1 a2 a3 a4) x0 x1 x2 x3 h
theorem L_law_72_n1082 {L : Nat} {xs : Nat → Int32} {G G' : (Nat → Nat → Nat → Int32 → PH → Option Rs)} (hg18 : ∀ a0 a1 a2 a3 a4, Mo ((G) a0 a1 a2 a3 a4) ((G') a0 a1 a2 a3 a4)) (x0 : Nat) (x1 : Nat) (x2 : Nat) (x3 : Int32) (h : PH) : Mo (L_law_72_g1082 L xs G x0 x1 x2 x3 h) (L_law_72_g1082 L xs G' x0 x1 x2 x3 h) := L_law_72_m1082 (fun a0 a1 a2 a3 a4 => L_law_72_n1807 hg18 a0 a1 a2 a3 a4) x0 x1 x2 x3 h
theorem L_law_72_n1125 {L : Nat} {xs : Nat → Int32} {G G' : (Nat → Nat → Nat → Int32 → PH → Option Rs)} (hg18 : ∀ a0 a1 a2 a3 a4, Mo ((G) a0 a1 a2 a3 a4) ((G') a0 a1 a2 a3 a4)) (x0 : Nat) (x1 : Nat) (x2 : Nat) (x3 : Int32) (h : PH) : Mo (L_law_72_g1125 L xs G x0 x1 x2 x3 h) (L_law_72_g1125 L xs G' x0 x1 x2 x3 h) := L_law_72_m1125 (fun a0 a1 a2 a3 a4 => L_law_72_n1807 hg18 a0 a1 a2 a3 a4) x0 x1 x2 x3 h
theorem L_law_72_n1148 {L : Nat} {xs : Nat → Int32} {G G' : (Nat → Nat → Nat → Int32 → PH → Option Rs)} (hg18 : ∀ a0 a1 a2 a3 a4, Mo ((G) a0 a1 a2 a3 a4) ((G') a0 a1 a2 a3 a4)) (x0 : Nat) (x1 : Nat) (x2 : Nat) (x3 : Int32) (h : PH) : Mo (L_law_72_g1148 L xs G x0 x1 x2 x3 h) (L_law_72_g1148 L xs G' x0 x1 x2 x3 h) := L_law_72_m1148 (fun a0 a1 a2 a3 a4 => L_law_72_n1807 hg18 a0 a1 a2 a3 a4) x0 x1 x2 x3 h
theorem L_law_72_n1181 {L : Nat} {xs : Nat → Int32} {G G' : (Nat → Nat → Nat → Int32 → PH → Option Rs)} (hg18 : ∀ a0 a1 a2 a3 a4, Mo ((G) a0 a1 a2 a3 a4) ((G') a0 a1 a2 a3 a4)) (x0 : Nat) (x1 : Nat) (x2 : Nat) (x3 : Int32) (h : PH) : Mo (L_law_72_g1181 L xs G x0 x1 x2 x3 h) (L_law_72_g1181 L xs G' x0 x1 x2 x3 h) := L_law_72_m1181 (fun a0 a1 a2 a3 a4 => L_law_72_n1807 hg18 a0 a1 a2 a3 a4) x0 x1 x2 x3 h
theorem L_law_72_n1214 {L : Nat} {xs : Nat → Int32} {G G' : (Nat → Nat → Nat → Int32 → PH → Option Rs)} (hg18 : ∀ a0 a1 a2 a3 a4, Mo ((G) a0 a1 a2 a3 a4) ((G') a0 a1 a2 a3 a4)) (x0 : Nat) (x1 : Nat) (x2 : Nat) (x3 : Int32) (h : PH) : Mo (L_law_72_g1214 L xs G x0 x1 x2 x3 h) (L_law_72_g1214 L xs G' x0 x1 x2 x3 h) := L_law_72_m1214 (fun a0 a1 a2 a3 a4 => L_law_72_n1807 hg18 a0 a1 a2 a3 a4) x0 x1 x2 x3 h
theorem L_law_72_n1237 {L : Nat} {xs : Nat → Int32} {G G' : (Nat → Nat → Nat → Int32 → PH → Option Rs)} (hg18 : ∀ a0 a1 a2 a3 a4, Mo ((G) a0 a1 a2 a3 a4) ((G') a0 a1 a2 a3 a4)) (x0 : Nat) (x1 : Nat) (x2 : Nat) (x3 : Int32) (h : PH) : Mo (L_law_72_g1237 L xs G x0 x1 x2 x3 h) (L_law_72_g1237 L xs G' x0 x1 x2 x3 h) := L_law_72_m1237 (fun a0 a1 a2 a3 a4 => L_law_72_n1807 hg18 a0 a1 a2 a3 a4) x0 x1 x2 x3 h
theorem L_law_72_n1260 {L : Nat} {xs : Nat → Int32} {G G' : (Nat → Nat → Nat → Int32 → PH → Option Rs)} (hg18 : ∀ a0 a1 a2 a3 a4, Mo ((G) a0 a1 a2 a3 a4) ((G') a0 a1 a2 a3 a4)) (x0 : Nat) (x1 : Nat) (x2 : Nat) (x3 : Int32) (h : PH) : Mo (L_law_72_g1260 L xs G x0 x1 x2 x3 h) (L_law_72_g1260 L xs G' x0 x1 x2 x3 h) := L_law_72_m1260 (fun a0 a1 a2 a3 a4 => L_law_72_n1807 hg18 a0 a1 a2 a3 a4) x0 x1 x2 x3 h
theorem L_law_72_n1283 {L : Nat} {xs : Nat → Int32} {G G' : (Nat → Nat → Nat → Int32 → PH → Option Rs)} (hg18 : ∀ a0 a1 a2 a3 a4, Mo ((G) a0 a1 a2 a3 a4) ((G') a0 a1 a2 a3 a4)) (x0 : Nat) (x1 : Nat) (x2 : Nat) (x3 : Int32) (h : PH) : Mo (L_law_72_g1283 L xs G x0 x1 x2 x3 h) (L_law_72_g1283 L xs G' x0 x1 x2 x3 h) := L_law_72_m1283 (fun a0 a1 a2 a3 a4 => L_law_72_n1807 hg18 a0 a1 a2 a3 a4) x0 x1 x2 x3 h
theorem L_law_72_n1296 {L : Nat} {xs : Nat → Int32} {G G' : (Nat → Nat → Nat → Int32 → PH → Option Rs)} (hg18 : ∀ a0 a1 a2 a3 a4, Mo ((G) a0 a1 a2 a3 a4) ((G') a0 a1 a2 a3 a4)) (x0 : Nat) (x1 : Nat) (x2 : Nat) (x3 : Int32) (h : PH) : Mo (L_law_72_g1296 L xs G x0 x1 x2 x3 h) (L_law_72_g1296 L xs G' x0 x1 x2 x3 h) := L_law_72_m1296 (fun a0 a1 a2 a3 a4 => L_law_72_n1807 hg18 a0 a1 a2 a3 a4) x0 x1 x2 x3 h
theorem L_law_72_n1329 {L : Nat} {xs : Nat → Int32} {G G' : (Nat → Nat → Nat → Int32 → PH → Option Rs)} (hg18 : ∀ a0 a1 a2 a3 a4, Mo ((G) a0 a1 a2 a3 a4) ((G') a0 a1 a2 a3 a4)) (x0 : Nat) (x1 : Nat) (x2 : Nat) (x3 : Int32) (h : PH) : Mo (L_law_72_g1329 L xs G x0 x1 x2 x3 h) (L_law_72_g1329 L xs G' x0 x1 x2 x3 h) := L_law_72_m1329 (fun a0 a1 a2 a3 a4 => L_law_72_n1807 hg18 a0 a1 a2 a3 a4) x0 x1 x2 x3 h
theorem L_law_72_n1352 {L : Nat} {xs : Nat → Int32} {G G' : (Nat → Nat → Nat → Int32 → PH → Option Rs)} (hg18 : ∀ a0 a1 a2 a3 a4, Mo ((G) a0 a1 a2 a3 a4) ((G') a0 a1 a2 a3 a4)) (x0 : Nat) (x1 : Nat) (x2 : Nat) (x3 : Int32) (h : PH) : Mo (L_law_72_g1352 L xs G x0 x1 x2 x3 h) (L_law_72_g1352 L xs G' x0 x1 x2 x3 h) := L_law_72_m1352 (fun a0 a1 a2 a3 a4 => L_law_72_n1807 hg18 a0 a1 a2 a3 a4) x0 x1 x2 x3 h
theorem L_law_72_n1375 {L : Nat} {xs : Nat → Int32} {G G' : (Nat → Nat → Nat → Int32 → PH → Option Rs)} (hg18 : ∀ a0 a1 a2 a3 a4, Mo ((G) a0 a1 a2 a3 a4) ((G') a0 a1 a2 a3 a4)) (x0 : Nat) (x1 : Nat) (x2 : Nat) (x3 : Int32) (h : PH) : Mo (L_law_72_g1375 L xs G x0 x1 x2 x3 h) (L_law_72_g1375 L xs G' x0 x1 x2 x3 h) := L_law_72_m1375 (fun a0 a1 a2 a3 a4 => L_law_72_n1807 hg18 a0 a1 a2 a3 a4) x0 x1 x2 x3 h
theorem L_law_72_n1388 {L : Nat} {xs : Nat → Int32} {G G' : (Nat → Nat → Nat → Int32 → PH → Option Rs)} (hg18 : ∀ a0 a1 a2 a3 a4, Mo ((G) a0 a1 a2 a3 a4) ((G') a0 a1 a2 a3 a4)) (x0 : Nat) (x1 : Nat) (x2 : Nat) (x3 : Int32) (h : PH) : Mo (L_law_72_g1388 L xs G x0 x1 x2 x3 h) (L_law_72_g1388 L xs G' x0 x1 x2 x3 h) := L_law_72_m1388 (fun a0 a1 a2 a3 a4 => L_law_72_n1807 hg18 a0 a1 a2 a3 a4) x0 x1 x2 x3 h
theorem L_law_72_n1431 {L : Nat} {xs : Nat → Int32} {G G' : (Nat → Nat → Nat → Int32 → PH → Option Rs)} (hg18 : ∀ a0 a1 a2 a3 a4, Mo ((G) a0 a1 a2 a3 a4) ((G') a0 a1 a2 a3 a4)) (x0 : Nat) (x1 : Nat) (x2 : Nat) (x3 : Int32) (h : PH) : Mo (L_law_72_g1431 L xs G x0 x1 x2 x3 h) (L_law_72_g1431 L xs G' x0 x1 x2 x3 h) := L_law_72_m1431 (fun a0 a1 a2 a3 a4 => L_law_72_n1807 hg18 a0 a1 a2 a3 a4) x0 x1 x2 x3 h
theorem L_law_72_n1474 {L : Nat} {xs : Nat → Int32} {G G' : (Nat → Nat → Nat → Int32 → PH → Option Rs)} (hg18 : ∀ a0 a1 a2 a3 a4, Mo ((G) a0 a1 a2 a3 a4) ((G') a0 a1 a2 a3 a4)) (x0 : Nat) (x1 : Nat) (x2 : Nat) (x3 : Int32) (h : PH) : Mo (L_law_72_g1474 L xs G x0 x1 x2 x3 h) (L_law_72_g1474 L xs G' x0 x1 x2 x3 h) := L_law_72_m1474 (fun a0 a1 a2 a3 a4 => L_law_72_n1807 hg18 a0 a1 a2 a3 a4) x0 x1 x2 x3 h
theorem L_law_72_n1507 {L : Nat} {xs : Nat → Int32} {G G' : (Nat → Nat → Nat → Int32 → PH → Option Rs)} (hg18 : ∀ a0 a1 a2 a3 a4, Mo ((G) a0 a1 a2 a3 a4) ((G') a0 a1 a2 a3 a4)) (x0 : Nat) (x1 : Nat) (x2 : Nat) (x3 : Int32) (h : PH) : Mo (L_law_72_g1507 L xs G x0 x1 x2 x3 h) (L_law_72_g1507 L xs G' x0 x1 x2 x3 h) := L_law_72_m1507 (fun a0 a1 a2 a3 a4 => L_law_72_n1807 hg18 a0 a1 a2 a3 a4) x0 x1 x2 x3 h
theorem L_law_72_n1570 {L : Nat} {xs : Nat → Int32} {G G' : (Nat → Nat → Nat → Int32 → PH → Option Rs)} (hg18 : ∀ a0 a1 a2 a3 a4, Mo ((G) a0 a1 a2 a3 a4) ((G') a0 a1 a2 a3 a4)) (x0 : Nat) (x1 : Nat) (x2 : Nat) (x3 : Int32) (h : PH) : Mo (L_law_72_g1570 L xs G x0 x1 x2 x3 h) (L_law_72_g1570 L xs G' x0 x1 x2 x3 h) := L_law_72_m1570 (fun a0 a1 a2 a3 a4 => L_law_72_n1807 hg18 a0 a1 a2 a3 a4) x0 x1 x2 x3 h
theorem L_law_72_n1613 {L : Nat} {xs : Nat → Int32} {G G' : (Nat → Nat → Nat → Int32 → PH → Option Rs)} (hg18 : ∀ a0 a1 a2 a3 a4, Mo ((G) a0 a1 a2 a3 a4) ((G') a0 a1 a2 a3 a4)) (x0 : Nat) (x1 : Nat) (x2 : Nat) (x3 : Int32) (h : PH) : Mo (L_law_72_g1613 L xs G x0 x1 x2 x3 h) (L_law_72_g1613 L xs G' x0 x1 x2 x3 h) := L_law_72_m1613 (fun a0 a1 a2 a3 a4 => L_law_72_n1807 hg18 a0 a1 a2 a3 a4) x0 x1 x2 x3 h
theorem L_law_72_n1646 {L : Nat} {xs : Nat → Int32} {G G' : (Nat → Nat → Nat → Int32 → PH → Option Rs)} (hg18 : ∀ a0 a1 a2 a3 a4, Mo ((G) a0 a1 a2 a3 a4) ((G') a0 a1 a2 a3 a4)) (x0 : Nat) (x1 : Nat) (x2 : Nat) (x3 : Int32) (h : PH) : Mo (L_law_72_g1646 L xs G x0 x1 x2 x3 h) (L_law_72_g1646 L xs G' x0 x1 x2 x3 h) := L_law_72_m1646 (fun a0 a1 a2 a3 a4 => L_law_72_n1807 hg18 a0 a1 a2 a3 a4) x0 x1 x2 x3 h
theorem L_law_72_n1679 {L : Nat} {xs : Nat → Int32} {G G' : (Nat → Nat → Nat → Int32 → PH → Option Rs)} (hg18 : ∀ a0 a1 a2 a3 a4, Mo ((G) a0 a1 a2 a3 a4) ((G') a0 a1 a2 a3 a4)) (x0 : Nat) (x1 : Nat) (x2 : Nat) (x3 : Int32) (h : PH) : Mo (L_law_72_g1679 L xs G x0 x1 x2 x3 h) (L_law_72_g1679 L xs G' x0 x1 x2 x3 h) := L_law_72_m1679 (fun a0 a1 a2 a3 a4 => L_law_72_n1807 hg18 a0 a1 a2 a3 a4) x0 x1 x2 x3 h
theorem L_law_72_n1712 {L : Nat} {xs : Nat → Int32} {G G' : (Nat → Nat → Nat → Int32 → PH → Option Rs)} (hg18 : ∀ a0 a1 a2 a3 a4, Mo ((G) a0 a1 a2 a3 a4) ((G') a0 a1 a2 a3 a4)) (x0 : Nat) (x1 : Nat) (x2 : Nat) (x3 : Int32) (h : PH) : Mo (L_law_72_g1712 L xs G x0 x1 x2 x3 h) (L_law_72_g1712 L xs G' x0 x1 x2 x3 h) := L_law_72_m1712 (fun a0 a1 a2 a3 a4 => L_law_72_n1807 hg18 a0 a1 a2 a3 a4) x0 x1 x2 x3 h
theorem L_law_72_n1735 {L : Nat} {xs : Nat → Int32} {G G' : (Nat → Nat → Nat → Int32 → PH → Option Rs)} (hg18 : ∀ a0 a1 a2 a3 a4, Mo ((G) a0 a1 a2 a3 a4) ((G') a0 a1 a2 a3 a4)) (x0 : Nat) (x1 : Nat) (x2 : Nat) (x3 : Int32) (h : PH) : Mo (L_law_72_g1735 L xs G x0 x1 x2 x3 h) (L_law_72_g1735 L xs G' x0 x1 x2 x3 h) := L_law_72_m1735 (fun a0 a1 a2 a3 a4 => L_law_72_n1807 hg18 a0 a1 a2 a3 a4) x0 x1 x2 x3 h
theorem L_law_72_n1758 {L : Nat} {xs : Nat → Int32} {G G' : (Nat → Nat → Nat → Int32 → PH → Option Rs)} (hg18 : ∀ a0 a1 a2 a3 a4, Mo ((G) a0 a1 a2 a3 a4) ((G') a0 a1 a2 a3 a4)) (x0 : Nat) (x1 : Nat) (x2 : Nat) (x3 : Int32) (h : PH) : Mo (L_law_72_g1758 L xs G x0 x1 x2 x3 h) (L_law_72_g1758 L xs G' x0 x1 x2 x3 h) := L_law_72_m1758 (fun a0 a1 a2 a3 a4 => L_law_72_n1807 hg18 a0 a1 a2 a3 a4) x0 x1 x2 x3 h
theorem L_law_72_n1771 {L : Nat} {xs : Nat → Int32} {G G' : (Nat → Nat → Nat → Int32 → PH → Option Rs)} (hg18 : ∀ a0 a1 a2 a3 a4, Mo ((G) a0 a1 a2 a3 a4) ((G') a0 a1 a2 a3 a4)) (x0 : Nat) (x1 : Nat) (x2 : Nat) (x3 : Int32) (h : PH) : Mo (L_law_72_g1771 L xs G x0 x1 x2 x3 h) (L_law_72_g1771 L xs G' x0 x1 x2 x3 h) := L_law_72_m1771 (fun a0 a1 a2 a3 a4 => L_law_72_n1807 hg18 a0 a1 a2 a3 a4) x0 x1 x2 x3 h
theorem L_law_72_n1784 {L : Nat} {xs : Nat → Int32} {G G' : (Nat → Nat → Nat → Int32 → PH → Option Rs)} (hg18 : ∀ a0 a1 a2 a3 a4, Mo ((G) a0 a1 a2 a3 a4) ((G') a0 a1 a2 a3 a4)) (x0 : Nat) (x1 : Nat) (x2 : Nat) (x3 : Int32) (h : PH) : Mo (L_law_72_g1784 L xs G x0 x1 x2 x3 h) (L_law_72_g1784 L xs G' x0 x1 x2 x3 h) := L_law_72_m1784 (fun a0 a1 a2 a3 a4 => L_law_72_n1807 hg18 a0 a1 a2 a3 a4) x0 x1 x2 x3 h
theorem L_law_72_n18 {L : Nat} {xs : Nat → Int32} {G G' : (Nat → Nat → Nat → Int32 → PH → Option Rs)} (hg18 : ∀ a0 a1 a2 a3 a4, Mo ((G) a0 a1 a2 a3 a4) ((G') a0 a1 a2 a3 a4)) (x0 : Nat) (x1 : Nat) (x2 : Nat) (x3 : Int32) (h : PH) : Mo (L_law_72_g18 L xs G x0 x1 x2 x3 h) (L_law_72_g18 L xs G' x0 x1 x2 x3 h) := L_law_72_m18 (fun a0 a1 a2 a3 a4 => L_law_72_n244 hg18 a0 a1 a2 a3 a4) (fun a0 a1 a2 a3 a4 => L_law_72_n257 hg18 a0 a1 a2 a3 a4) (fun a0 a1 a2 a3 a4 => L_law_72_n310 hg18 a0 a1 a2 a3 a4) (fun a0 a1 a2 a3 a4 => L_law_72_n343 hg18 a0 a1 a2 a3 a4) (fun a0 a1 a2 a3 a4 => L_law_72_n392 hg18 a0 a1 a2 a3 a4) (fun a0 a1 a2 a3 a4 => L_law_72_n425 hg18 a0 a1 a2 a3 a4) (fun a0 a1 a2 a3 a4 => L_law_72_n458 hg18 a0 a1 a2 a3 a4) (fun a0 a1 a2 a3 a4 => L_law_72_n481 hg18 a0 a1 a2 a3 a4) (fun a0 a1 a2 a3 a4 => L_law_72_n524 hg18 a0 a1 a2 a3 a4) (fun a0 a1 a2 a3 a4 => L_law_72_n557 hg18 a0 a1 a2 a3 a4) (fun a0 a1 a2 a3 a4 => L_law_72_n590 hg18 a0 a1 a2 a3 a4) (fun a0 a1 a2 a3 a4 => L_law_72_n623 hg18 a0 a1 a2 a3 a4) (fun a0 a1 a2 a3 a4 => L_law_72_n666 hg18 a0 a1 a2 a3 a4) (fun a0 a1 a2 a3 a4 => L_law_72_n709 hg18 a0 a1 a2 a3 a4) (fun a0 a1 a2 a3 a4 => L_law_72_n742 hg18 a0 a1 a2 a3 a4) (fun a0 a1 a2 a3 a4 => L_law_72_n785 hg18 a0 a1 a2 a3 a4) (fun a0 a1 a2 a3 a4 => L_law_72_n798 hg18 a0 a1 a2 a3 a4) (fun a0 a1 a2 a3 a4 => L_law_72_n841 hg18 a0 a1 a2 a3 a4) (fun a0 a1 a2 a3 a4 => L_law_72_n864 hg18 a0 a1 a2 a3 a4) (fun a0 a1 a2 a3 a4 => L_law_72_n877 hg18 a0 a1 a2 a3 a4) (fun a0 a1 a2 a3 a4 => L_law_72_n910 hg18 a0 a1 a2 a3 a4) (fun a0 a1 a2 a3 a4 => L_law_72_n933 hg18 a0 a1 a2 a3 a4) (fun a0 a1 a2 a3 a4 => L_law_72_n986 hg18 a0 a1 a2 a3 a4) (fun a0 a1 a2 a3 a4 => L_law_72_n1039 hg18 a0 a1 a2 a3 a4) (fun a0 a1 a2 a3 a4 => L_law_72_n1082 hg18 a0 a1 a2 a3 a4) (fun a0 a1 a2 a3 a4 => L_law_72_n1125 hg18 a0 a1 a2 a3 a4) (fun a0 a1 a2 a3 a4 => L_law_72_n1148 hg18 a0 a1 a2 a3 a4) (fun a0 a1 a2 a3 a4 => L_law_72_n1181 hg18 a0 a1 a2 a3 a4) (fun a0 a1 a2 a3 a4 => L_law_72_n1214 hg18 a0 a1 a2 a3 a4) (fun a0 a1 a2 a3 a4 => L_law_72_n1237 hg18 a0 a1 a2 a3 a4) (fun a0 a1 a2 a3 a4 => L_law_72_n1260 hg18 a0 a1 a2 a3 a4) (fun a0 a1 a2 a3 a4 => L_law_72_n1283 hg18 a0 a1 a2 a3 a4) (fun a0 a1 a2 a3 a4 => L_law_72_n1296 hg18 a0 a1 a2 a3 a4) (fun a0 a1 a2 a3 a4 => L_law_72_n1329 hg18 a0 a1 a2 a3 a4) (fun a0 a1 a2 a3 a4 => L_law_72_n1352 hg18 a0 a1 a2 a3 a4) (fun a0 a1 a2 a3 a4 => L_law_72_n1375 hg18 a0 a1 a2 a3 a4) (fun a0 a1 a2 a3 a4 => L_law_72_n1388 hg18 a0 a1 a2 a3 a4) (fun a0 a1 a2 a3 a4 => L_law_72_n1431 hg18 a0 a1 a2 a3 a4) (fun a0 a1 a2 a3 a4 => L_law_72_n1474 hg18 a0 a1 a2 a3 a4) (fun a0 a1 a2 a3 a4 => L_law_72_n1507 hg18 a0 a1 a2 a3 a4) (fun a0 a1 a2 a3 a4 => L_law_72_n1570 hg18 a0 a1 a2 a3 a4) (fun a0 a1 a2 a3 a4 => L_law_72_n1613 hg18 a0 a1 a2 a3 a4) (fun a0 a1 a2 a3 a4 => L_law_72_n1646 hg18 a0 a1 a2 a3 a4) (fun a0 a1 a2 a3 a4 => L_law_72_n1679 hg18 a0 a1 a2 a3 a4) (fun a0 a1 a2 a3 a4 => L_law_72_n1712 hg18 a0 a1 a2 a3 a4) (fun a0 a1 a2 a3 a4 => L_law_72_n1735 hg18 a0 a1 a2 a3 a4) (fun a0 a1 a2 a3 a4 => L_law_72_n1758 hg18 a0 a1 a2 a3 a4) (fun a0 a1 a2 a3 a4 => L_law_72_n1771 hg18 a0 a1 a2 a3 a4) (fun a0 a1 a2 a3 a4 => L_law_72_n1784 hg18 a0 a1 a2 a3 a4) (fun a0 a1 a2 a3 a4 => L_law_72_n1807 hg18 a0 a1 a2 a3 a4) x0 x1 x2 x3 h
theorem L_law_72_fm {L : Nat} {xs : Nat → Int32} : ∀ n, (∀ a0 a1 a2 a3 a4, Mo ((L_law_72_fam L xs n) a0 a1 a2 a3 a4) ((L_law_72_fam L xs (n + 1)) a0 a1 a2 a3 a4))
  | 0 => fun _ _ _ _ _ => mo_no
  | n + 1 => by
    obtain ih18 := L_law_72_fm n
    exact fun a0 a1 a2 a3 a4 => L_law_72_n18 ih18 a0 a1 a2 a3 a4
noncomputable def L_law_72 (L : Nat) (xs : Nat → Int32) (x0 : Nat) (h : PH) : Option Rs := lim (fun n => L_law_72_g0 L xs (L_law_72_fam L xs n) x0 h)
theorem L_law_72_iff {L : Nat} {xs : Nat → Int32} {x0 : Nat} {h : PH} {r : Rs} : L_law_72 L xs x0 h = some r ↔ ∃ n, L_law_72_g0 L xs (L_law_72_fam L xs n) x0 h = some r := lim_iff (fun n => by
  obtain ih18 := L_law_72_fm n
  exact L_law_72_n0 ih18 x0 h)
noncomputable abbrev L_law_72_F (L : Nat) (xs : Nat → Int32) : List PV → PH → Option Rs := FW_R72 (L_law_72 L xs)
set_option maxRecDepth 100000 in
theorem L_law_wk {z : CZ} {L : Nat} {xs : Nat → Int32} (hX : XS (L_law_72_x z) L xs) {x0 : Nat} {h : PH} {r : Rs} (e : L_law_72 L xs x0 h = some r) : WK (L_law_72_x z) r 0 [some (.inr (72, x0)), none, none, none] [] h := by
  obtain ⟨n, e⟩ := lim_of e
  obtain hG18 := L_law_72_k hX (z := z) n
  exact (L_law_72_s0 hX hG18 _ _ _ _ ((L_law_72_l0 L xs X11_init X12_init (L_law_72_fam L xs n) x0 h).trans e))
