/-! pairs: trim, tell, ask, item, rest -/
def othCols : List Nat := 2624 :: imgCols ++ chgCols ++ kysCols ++ wlkCols
/-- neither house nor changes nor walkers are touched -/
theorem R.oth {W : List Nat × List Nat × Bool} {m : Nat} {h h' : PH} (r : R m h) (f : Fr W h h') (hw : othCols.all (fun c => !W.1.contains c) = true) (hv : hsRefs.all (fun c => !W.2.1.contains c) = true) (hc : W.2.2 = false) (tp : Tape h') (sh : Shts h') (sl : Slts h') (wt : Wait h') : R (m + 1) h' := by
  obtain ⟨a, q1, q2, q3, q4, q5, q6, q7, q8, q9, q10⟩ := r
  have sub : ∀ L : List Nat, (∀ c ∈ L, c ∈ othCols) → L.all (fun c => !W.1.contains c) = true := fun L hL => by
    rw [List.all_eq_true] at hw ⊢
    exact fun c hc => hw c (hL c hc)
  have hN : hI h' 2624 0 = hI h 2624 0 := now_fr a f (ninW hw (by decide +kernel))
  have q1' := q1.fr f (sub hsCols (by decide +kernel)) hv
  unfold R
  rw [hN]
  exact ⟨q1'.1, q1', q2.fr a f (sub imgCols (by decide +kernel)) hv, q3.fr a f (sub chgCols (by decide +kernel)), tp, sh, sl, wt, (q8.fr a f (sub wlkCols (by decide +kernel))).mono, q9.fr a f (sub kysCols (by decide +kernel)), (q10.fr f hc).mono⟩
theorem pair_trim (m : Nat) (h : PH) (x : Int32) (_ : m < 64) (r : R m h) : Pr (R (m + 1)) (X11_trim 0 x) (X12_trim 0 x) h := by
  have r0 := r
  obtain ⟨a, q, -, -, q4, q5, q6, q7, -⟩ := r
  obtain ⟨L, t1, t2, t3, t4⟩ := q4
  by_cases d1 : x < 0
  · exact r0.same (v := -1000000001) (by rw [X11_trim_eq a, if_pos d1]) (by rw [X12_trim_eq, if_pos d1])
  by_cases d2 : nI L < x
  · exact r0.same (v := -1000000001) (by rw [X11_trim_eq a, if_neg d1, t2, if_pos d2]) (by rw [X12_trim_eq, if_neg d1, t3, if_pos d2])
  obtain ⟨k, hk, rfl⟩ := nI_of d1
  have hkL : k ≤ L := by
    rw [i_lt, nI_toInt (by omega), nI_toInt hk] at d2
    omega
  have f2 : Fr ([129, 711], [], false) h (pI (pI h 129 0 0 (nI k)) 711 0 0 (nI k)) := (Fr.rf.pI (by decide)).pI (by decide)
  refine ⟨nI k, pI h 129 0 0 (nI k), pI (pI h 129 0 0 (nI k)) 711 0 0 (nI k), by rw [X11_trim_eq a, if_neg d1, t2, if_neg d2], ?_, r0.oth f2 (by decide +kernel) (by decide +kernel) rfl ⟨k, by omega, ?_, ?_, fun j hj => ?_⟩ (q5.fr a f2 (by decide)) (q6.fr a f2 (by decide)) (q7.fr a f2 (by decide))⟩
  · rw [X12_trim_eq, if_neg d1, hI_off h (by decide), t3, if_neg d2]
  · rw [hI_off _ (by decide), hI_pI, if_pos ⟨rfl, rfl, rfl⟩]
  · rw [hI_pI, if_pos ⟨rfl, rfl, rfl⟩]
  · rw [hI_off _ (by decide), hI_off _ (by decide), hI_off _ (by decide), hI_off _ (by decide)]
    exact t4 j (by omega)
theorem pair_tell (m : Nat) (h : PH) (x : Int32) (_ : m < 64) (r : R m h) : Pr (R (m + 1)) (X11_tell 0 x) (X12_tell 0 x) h := by
  have r0 := r
  obtain ⟨a, q, -, -, q4, q5, q6, q7, -⟩ := r
  obtain ⟨n, t1, t2, t3, t4⟩ := q7
  by_cases d : n < 60
  case neg =>
    exact r0.same (v := -1000000003) (by rw [X11_tell_eq a x t2 t1, if_neg d]) (by rw [X12_tell_eq a x t3 t1, if_neg d])
  have a1 : SH (pI (pI h 2560 0 n x) 649 0 0 (nI (n + 1))) := a
  have f2 : Fr ([2560, 649, 4480, 754], [], false) h (pI (pI (pI (pI h 2560 0 n x) 649 0 0 (nI (n + 1))) 4480 0 n x) 754 0 0 (nI (n + 1))) := (((Fr.rf.pI (by decide)).pI (by decide)).pI (by decide)).pI (by decide)
  refine ⟨nI (n + 1), pI (pI h 2560 0 n x) 649 0 0 (nI (n + 1)), pI (pI (pI (pI h 2560 0 n x) 649 0 0 (nI (n + 1))) 4480 0 n x) 754 0 0 (nI (n + 1)), by rw [X11_tell_eq a x t2 t1, if_pos d], ?_, r0.oth f2 (by decide +kernel) (by decide +kernel) rfl (Tape.fr q4 a f2 (by decide)) (q5.fr a f2 (by decide)) (q6.fr a f2 (by decide)) ⟨n + 1, by omega, ?_, ?_, fun j hj => ?_⟩⟩
  · rw [X12_tell_eq a1 x (n := n) (by rw [hI_off _ (by decide), hI_off _ (by decide), t3]) t1, if_pos d]
  · rw [hI_off _ (by decide), hI_off _ (by decide), hI_pI, if_pos ⟨rfl, rfl, rfl⟩]
  · rw [hI_pI, if_pos ⟨rfl, rfl, rfl⟩]
  · have l : hI (pI (pI (pI (pI h 2560 0 n x) 649 0 0 (nI (n + 1))) 4480 0 n x) 754 0 0 (nI (n + 1))) 2560 0 j = if 2560 = 2560 ∧ 0 = 0 ∧ j = n then x else hI h 2560 0 j := by
      rw [hI_off _ (by decide), hI_off _ (by decide), hI_off _ (by decide), hI_pI]
    have l2 : hI (pI (pI (pI (pI h 2560 0 n x) 649 0 0 (nI (n + 1))) 4480 0 n x) 754 0 0 (nI (n + 1))) 4480 0 j = if 4480 = 4480 ∧ 0 = 0 ∧ j = n then x else hI h 4480 0 j := by
      rw [hI_off _ (by decide), hI_pI, hI_off _ (by decide), hI_off _ (by decide)]
    rw [l, l2]
    by_cases c : j = n
    · rw [if_pos ⟨rfl, rfl, c⟩, if_pos ⟨rfl, rfl, c⟩]
    · rw [if_neg (fun z => c z.2.2), if_neg (fun z => c z.2.2)]
      exact t4 j (by omega)
theorem isSlot_wn (x : Int32) (h : PH) : X12_isSlot x h = some (some (.inl (wn x 5)), h) := by
  unfold X12_isSlot X12_isSlot_g0 X12_isSlot_f0
  rw [in_wn5, cI_some, bz_ok (wn_01 _ _)]
theorem isSheet_wn (x : Int32) (h : PH) : X12_isSheet x h = some (some (.inl (wn x 4)), h) := by
  unfold X12_isSheet X12_isSheet_g0 X12_isSheet_f0
  rw [in_wn4, cI_some, bz_ok (wn_01 _ _)]
theorem jrem_m1 (x : Int32) : jrem x (-1) = 0 := by
  have hd : x / (-1) = -x := by
    have e1 : (-1 : Int32).toInt = -1 := by decide
    rw [← Int32.toInt_inj, Int32.toInt_div, e1, Int32.toInt_neg]
    congr 1
    rw [Int.tdiv_neg, Int.tdiv_one]
  unfold jrem
  rw [hd, Int32.neg_mul, Int32.mul_neg, Int32.mul_one, Int32.neg_neg, Int32.sub_self]
theorem pair_rest (m : Nat) (h : PH) (x1 x2 : Int32) (_ : m < 64) (r : R m h) : Pr (R (m + 1)) (X11_rest 0 x1 x2) (X12_rest 0 x1 x2) h := by
  have r0 := r
  obtain ⟨a, q, -, -, -, -, q6, -⟩ := r
  rcases lit_cases (x := x1) (y := 5) (K := 5) rfl (by decide) with z | ⟨z, t, ht, rfl⟩
  · refine r0.same (v := -1000000001) ?_ ?_
    · unfold X11_rest X11_rest_g0 X11_rest_f0
      rw [isWithin_wn, cI_some, z, if_pos rfl]
    · unfold X12_rest X12_rest_g0 X12_rest_f0
      rw [isSlot_wn, cI_some, z, if_pos rfl]
  obtain ⟨s1, s2, s3, s4, s5⟩ := q6 t ht
  have hc : X11_rest 0 (nI t) x2 h = if hI h 4160 0 t = 0 then some (some (.inl (-1000000011)), h) else if hI h 4160 0 t = 3 then (if x2 = 0 then some (some (.inl (-1000000002)), h) else dv x2 (some (some (.inl (jrem (hI h 387 t 0) x2)), h))) else some (some (.inl (-1000000012)), h) := by
    unfold X11_rest X11_rest_g0 X11_rest_f0
    rw [isWithin_wn, cI_some, z, if_neg (by decide), nnE (sh_647 a), ixE (ln_39 a) rfl ht (by decide), nnE (sh_2496 a t ht), nnE (sh_2496 a t ht), nnE (sh_2496 a t ht), s1]
  have hm : X12_rest 0 (nI t) x2 h = if hI h 4160 0 t = 0 then some (some (.inl (-1000000011)), h) else if hI h 4160 0 t = 3 then (if x2 = 0 then some (some (.inl (-1000000002)), h) else if x2 = -1 then some (some (.inl 0), h) else dv x2 (some (some (.inl (jrem (hI h 4224 0 t) x2)), h))) else some (some (.inl (-1000000012)), h) := by
    unfold X12_rest X12_rest_g0 X12_rest_f0
    rw [isSlot_wn, cI_some, z, if_neg (by decide), nnE (sh_748 a), ixE (ln_65 a) rfl ht (by decide), nnE (sh_748 a), ixE (ln_65 a) rfl ht (by decide), nnE (sh_749 a), ixE (ln_66 a) rfl ht (by decide)]
  by_cases c0 : hI h 4160 0 t = 0
  · exact r0.same (v := -1000000011) (by rw [hc, if_pos c0]) (by rw [hm, if_pos c0])
  by_cases c3 : hI h 4160 0 t = 3
  case neg => exact r0.same (v := -1000000012) (by rw [hc, if_neg c0, if_neg c3]) (by rw [hm, if_neg c0, if_neg c3])
  by_cases d0 : x2 = 0
  · exact r0.same (v := -1000000002) (by rw [hc, if_neg c0, if_pos c3, if_pos d0]) (by rw [hm, if_neg c0, if_pos c3, if_pos d0])
  by_cases dm : x2 = -1
  · subst dm
    exact r0.same (v := 0) (by rw [hc, if_neg c0, if_pos c3, if_neg d0, dv_ok d0, jrem_m1]) (by rw [hm, if_neg c0, if_pos c3, if_neg d0, if_pos rfl])
  · exact r0.same (v := jrem (hI h 4224 0 t) x2) (by rw [hc, if_neg c0, if_pos c3, if_neg d0, dv_ok d0, s5 c3]) (by rw [hm, if_neg c0, if_pos c3, if_neg d0, if_neg dm, dv_ok d0])
theorem pair_ask (m : Nat) (h : PH) (x1 x2 : Int32) (_ : m < 64) (r : R m h) : Pr (R (m + 1)) (X11_ask 0 x1 x2) (X12_ask 0 x1 x2) h := by
  have r0 := r
  obtain ⟨a, q, -, -, -, -, q6, -⟩ := r
  rcases lit_cases (x := x1) (y := 5) (K := 5) rfl (by decide) with z | ⟨z, t, ht, rfl⟩
  · refine r0.same (v := -1000000001) ?_ ?_
    · unfold X11_ask X11_ask_g0 X11_ask_f0
      rw [isWithin_wn, cI_some, z, if_pos rfl]
    · unfold X12_ask X12_ask_g0 X12_ask_f0
      rw [isSlot_wn, cI_some, z, if_pos rfl]
  rcases lit_cases (x := x2) (y := 6) (K := 6) rfl (by decide) with z2 | ⟨z2, k, hk, rfl⟩
  · refine r0.same (v := -1000000001) ?_ ?_
    · unfold X11_ask X11_ask_g0 X11_ask_f0
      rw [isWithin_wn, cI_some, z, if_neg (by decide), isWithin_wn, cI_some, z2, if_pos rfl]
    · unfold X12_ask X12_ask_g0 X12_ask_f0
      rw [isSlot_wn, cI_some, z, if_neg (by decide), in_wn6, cI_some, z2, if_pos rfl]
  obtain ⟨s1, s2, s3, s4, s5⟩ := q6 t ht
  have hk5 : rgI (nI k) 0 5 := ⟨by rw [nI_toInt (by omega)]; omega, by rw [nI_toInt (by omega)]; omega⟩
  have hc : X11_ask 0 (nI t) (nI k) h = if hI h 4160 0 t = 0 then some (some (.inl (-1000000011)), h) else if hI h 4160 0 t = 1 then (cI (X6_isOfKind (hI h 385 t 0) (nI k) h) fun v11 h10 => if v11 = 0 then some (some (.inl (-1000000012)), h10) else cI (pr3 [.inl (hI h10 385 t 0), .inl (hI h10 386 t 0)] h10) fun v15 h14 => some (some (.inl v15), h14)) else some (some (.inl (-1000000012)), h) := by
    unfold X11_ask X11_ask_g0 X11_ask_f0
    rw [isWithin_wn, cI_some, z, if_neg (by decide), isWithin_wn, cI_some, z2, if_neg (by decide), nnE (sh_647 a), ixE (ln_39 a) rfl ht (by decide), sh_2496 a t ht]
    simp only [nn_succ]
    rw [s1]
  have hm : X12_ask 0 (nI t) (nI k) h = if hI h 4160 0 t = 0 then some (some (.inl (-1000000011)), h) else if hI h 4160 0 t = 1 then (cI (X12_isUnder (hI h 4224 0 t) (nI k) h) fun v12 h11 => if v12 = 0 then some (some (.inl (-1000000012)), h11) else nn (hR h11 749 0 0) fun r13 => ix (nI t) (hL h11 66 r13) fun j14 => nn (hR h11 750 0 0) fun r15 => ix (nI t) (hL h11 67 r15) fun j16 => cI (X12_priceBy (hI h11 4224 r13 j14) (hI h11 4288 r15 j16) h11) fun v18 h17 => some (some (.inl v18), h17)) else some (some (.inl (-1000000012)), h) := by
    unfold X12_ask X12_ask_g0 X12_ask_f0
    rw [isSlot_wn, cI_some, z, if_neg (by decide), in_wn6, cI_some, z2, if_neg (by decide), nnE (sh_748 a), ixE (ln_65 a) rfl ht (by decide), nnE (sh_748 a), ixE (ln_65 a) rfl ht (by decide), nnE (sh_749 a), ixE (ln_66 a) rfl ht (by decide)]
  by_cases c0 : hI h 4160 0 t = 0
  · exact r0.same (v := -1000000011) (by rw [hc, if_pos c0]) (by rw [hm, if_pos c0])
  by_cases c1 : hI h 4160 0 t = 1
  case neg => exact r0.same (v := -1000000012) (by rw [hc, if_neg c0, if_neg c1]) (by rw [hm, if_neg c0, if_neg c1])
  obtain ⟨u1, u2, u3⟩ := s3 c1
  refine r0.same (v := if underK (hI h 4224 0 t) (nI k) = 0 then -1000000012 else priceK (hI h 4224 0 t) (hI h 4288 0 t)) ?_ ?_
  · rw [hc, if_neg c0, if_pos c1, u1, isOfKind_eq u3 hk5, cI_some, u1, u2, pr3_eq u3, cI_some]
    split <;> rfl
  · rw [hm, if_neg c0, if_pos c1, isUnder_eq u3 hk5, cI_some, nnE (sh_749 a), ixE (ln_66 a) rfl ht (by decide), nnE (sh_750 a), ixE (ln_67 a) rfl ht (by decide), X12_priceBy_eq, cI_some]
    split <;> rfl
theorem pair_item (m : Nat) (h : PH) (x1 x2 : Int32) (_ : m < 64) (r : R m h) : Pr (R (m + 1)) (X11_item 0 x1 x2) (X12_item 0 x1 x2) h := by
  have r0 := r
  obtain ⟨a, q, -, -, -, -, q6, -⟩ := r
  rcases lit_cases (x := x1) (y := 5) (K := 5) rfl (by decide) with z | ⟨z, t, ht, rfl⟩
  · refine r0.same (v := -1000000001) ?_ ?_
    · unfold X11_item X11_item_g0 X11_item_f0
      rw [isWithin_wn, cI_some, z, if_pos rfl]
    · unfold X12_item X12_item_g0 X12_item_f0
      rw [isSlot_wn, cI_some, z, if_pos rfl]
  obtain ⟨s1, s2, s3, s4, s5⟩ := q6 t ht
  have h388 : hR h 388 t 0 = 4 + t + 1 := by
    rw [sh_388 a t ht]
    omega
  have hc : X11_item 0 (nI t) x2 h = if hI h 4160 0 t = 0 then some (some (.inl (-1000000011)), h) else if hI h 4160 0 t = 2 then (if wn x2 (hI h 257 (4 + t) 0) = 0 then some (some (.inl (-1000000013)), h) else ix x2 24 fun j14 => some (some (.inl (hI h 1664 (4 + t) j14)), h)) else some (some (.inl (-1000000012)), h) := by
    unfold X11_item X11_item_g0 X11_item_f0
    rw [isWithin_wn, cI_some, z, if_neg (by decide), nnE (sh_647 a), ixE (ln_39 a) rfl ht (by decide), sh_2496 a t ht]
    simp only [nn_succ, h388, isWithin_wn, cI_some, sh_258 a (4 + t) (by omega), ln_26 a (4 + t) (by omega)]
    rw [s1]
  have hm : X12_item 0 (nI t) x2 h = if hI h 4160 0 t = 0 then some (some (.inl (-1000000011)), h) else if hI h 4160 0 t = 2 then (cI (X12_in x2 0 ((hI h 4224 0 t) - 1) h) fun v10 h9 => if v10 = 0 then some (some (.inl (-1000000013)), h9) else nn (hR h9 751 0 0) fun r11 => ix ((24 * nI t) + x2) (hL h9 68 r11) fun j12 => some (some (.inl (hI h9 4352 r11 j12)), h9)) else some (some (.inl (-1000000012)), h) := by
    unfold X12_item X12_item_g0 X12_item_f0
    rw [isSlot_wn, cI_some, z, if_neg (by decide), nnE (sh_748 a), ixE (ln_65 a) rfl ht (by decide), nnE (sh_748 a), ixE (ln_65 a) rfl ht (by decide), nnE (sh_749 a), ixE (ln_66 a) rfl ht (by decide)]
  by_cases c0 : hI h 4160 0 t = 0
  · exact r0.same (v := -1000000011) (by rw [hc, if_pos c0]) (by rw [hm, if_pos c0])
  by_cases c2 : hI h 4160 0 t = 2
  case neg => exact r0.same (v := -1000000012) (by rw [hc, if_neg c0, if_neg c2]) (by rw [hm, if_neg c0, if_neg c2])
  obtain ⟨u1, u2, u3⟩ := s4 c2
  obtain ⟨K, hK, hK24⟩ := rg_nI (u := 24) u2
  have hK0 : (0 : Int) ≤ (nI K).toInt := by rw [nI_toInt (by omega)]; omega
  rw [hK] at u1
  rcases wn_cases (x := x2) (K := K) (by omega) with z2 | ⟨z2, j, hj, rfl⟩
  · exact r0.same (v := -1000000013) (by rw [hc, if_neg c0, if_pos c2, u1, z2, if_pos rfl]) (by rw [hm, if_neg c0, if_pos c2, hK, in_wnK hK0, cI_some, z2, if_pos rfl])
  · have x24 : (24 : Int32) * nI t + nI j = nI (24 * t + j) := by rw [show (24 : Int32) = nI 24 from rfl, nI_mul, nI_add]
    exact r0.same (v := hI h 4352 0 (24 * t + j)) (by rw [hc, if_neg c0, if_pos c2, u1, z2, if_neg (by decide), ix_nI (show j < 24 by omega) (by decide), u3 j (by omega)]) (by rw [hm, if_neg c0, if_pos c2, hK, in_wnK hK0, cI_some, z2, if_neg (by decide), nnE (sh_751 a), ixE (ln_68 a) x24 (show 24 * t + j < 120 by omega) (by decide)])
