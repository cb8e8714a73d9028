/-! pairs: mark, sheet -/
theorem nar_js (x : Int32) : vp_nar .short (js x) = js x := by
  rw [vp_nar_short]
  unfold js
  simp
theorem nar_jb (x : Int32) : vp_nar .short (js (jb x)) = jb x := by
  rw [vp_nar_short]
  unfold js jb
  simp
theorem Slts.cong {h h' : PH} (q : Slts h) (k1 : ∀ t, t < 5 → hI h' 384 t 0 = hI h 384 t 0 ∧ hI h' 385 t 0 = hI h 385 t 0 ∧ hI h' 386 t 0 = hI h 386 t 0 ∧ hI h' 387 t 0 = hI h 387 t 0 ∧ hI h' 257 (4 + t) 0 = hI h 257 (4 + t) 0 ∧ ∀ k, k < 24 → hI h' 1664 (4 + t) k = hI h 1664 (4 + t) k) (k4 : ∀ j, hI h' 4160 0 j = hI h 4160 0 j ∧ hI h' 4224 0 j = hI h 4224 0 j ∧ hI h' 4288 0 j = hI h 4288 0 j ∧ hI h' 4352 0 j = hI h 4352 0 j) : Slts h' := fun t ht => by
  obtain ⟨q1, q2, q3, q4, q5⟩ := q t ht
  obtain ⟨e1, e2, e3, e4, e5, e6⟩ := k1 t ht
  obtain ⟨g1, g2, g3, -⟩ := k4 t
  rw [e1, e2, e3, e4, e5, g1, g2, g3]
  refine ⟨q1, q2, q3, fun h2 => ?_, q5⟩
  obtain ⟨d1, d2, d3⟩ := q4 h2
  exact ⟨d1, d2, fun k hk => by rw [e6 k hk, (k4 _).2.2.2]; exact d3 k hk⟩
theorem sort_neg {x : Int32} (h : rgI x (-1) 1) : x < 0 ↔ x = -1 := by
  have em : (-1 : Int32).toInt = -1 := by decide
  obtain ⟨h1, h2⟩ := h
  rw [i_lt, i_eq, i0, em]
  omega
theorem pair_mark (m : Nat) (h : PH) (x1 x2 x3 : Int32) (_ : m < 64) (r : R m h) : Pr (R (m + 1)) (X11_mark 0 x1 x2 x3) (X12_mark 0 x1 x2 x3) h := by
  have r0 := r
  obtain ⟨a, q, -, -, q4, q5, q6, q7, -⟩ := r
  rcases lit_cases (x := x1) (y := 4) (K := 4) rfl (by decide) with z | ⟨z, s, hs, rfl⟩
  · refine r0.same (v := -1000000001) ?_ ?_
    · unfold X11_mark X11_mark_g0 X11_mark_f0
      rw [isWithin_wn, cI_some, z, if_pos rfl]
    · unfold X12_mark X12_mark_g0 X12_mark_f0
      rw [isSheet_wn, cI_some, z, if_pos rfl]
  obtain ⟨s1, s2, s3, s4, s5⟩ := q5 s hs
  have hc : X11_mark 0 (nI s) x2 x3 h = if hI h 3968 0 s = -1 then some (some (.inl (-1000000011)), h) else if wn x2 (hI h 4032 0 s) = 0 then some (some (.inl (-1000000013)), h) else ix x2 24 fun j11 => cV (X5_put s x2 x3 h) fun h13 => some (some (.inl (hI h 1664 s j11)), h13) := by
    unfold X11_mark X11_mark_g0 X11_mark_f0
    rw [isWithin_wn, cI_some, z, if_neg (by decide), nnE (sh_646 a), ixE (ln_38 a) rfl hs (by decide), sh_2432 a s hs]
    simp only [nn_succ, isWithin_wn, cI_some, sh_258 a s (by omega), ln_26 a s (by omega)]
    rw [s1, s2]
  have hm : ∀ y, SH y → hI y 3968 0 s = hI h 3968 0 s → hI y 4032 0 s = hI h 4032 0 s → X12_mark 0 (nI s) x2 x3 y = if hI h 3968 0 s < 0 then some (some (.inl (-1000000011)), y) else (cI (X12_in x2 0 ((hI h 4032 0 s) - 1) y) fun v8 h7 => if v8 = 0 then some (some (.inl (-1000000013)), h7) else nn (hR h7 747 0 0) fun r9 => ix ((24 * nI s) + x2) (hL h7 64 r9) fun j10 => nn (hR h7 745 0 0) fun r11 => ix (nI s) (hL h7 62 r11) fun j12 => if (hI h7 3968 r11 j12) = 0 then X12_mark_g82 (hI h7 4096 r9 j10) (jb x3) ((24 * nI s) + x2) (hR h7 747 0 0) h7 else X12_mark_g82 (hI h7 4096 r9 j10) (js x3) ((24 * nI s) + x2) (hR h7 747 0 0) h7) := fun y ay y1 y2 => by
    unfold X12_mark X12_mark_g0 X12_mark_f0
    rw [isSheet_wn, cI_some, z, if_neg (by decide), nnE (sh_745 ay), ixE (ln_62 ay) rfl hs (by decide), y1, nnE (sh_746 ay), ixE (ln_63 ay) rfl hs (by decide), y2]
  by_cases c0 : hI h 3968 0 s = -1
  · exact r0.same (v := -1000000011) (by rw [hc, if_pos c0]) (by rw [hm h a rfl rfl, if_pos ((sort_neg s3).mpr c0)])
  have c0' : ¬ hI h 3968 0 s < 0 := fun e => c0 ((sort_neg s3).mp e)
  obtain ⟨K, hK, hK24⟩ := rg_nI (u := 24) s4
  have hK0 : (0 : Int) ≤ (nI K).toInt := by rw [nI_toInt (by omega)]; omega
  rcases wn_cases (x := x2) (K := K) (by omega) with z2 | ⟨z2, j, hj, rfl⟩
  · exact r0.same (v := -1000000013) (by rw [hc, if_neg c0, hK, z2, if_pos rfl]) (by rw [hm h a rfl rfl, if_neg c0', hK, in_wnK hK0, cI_some, z2, if_pos rfl])
  have x24 : (24 : Int32) * nI s + nI j = nI (24 * s + j) := by rw [show (24 : Int32) = nI 24 from rfl, nI_mul, nI_add]
  generalize hv : (if hI h 3968 0 s = 0 then jb x3 else js x3) = v
  have hput : X5_put s (nI j) x3 h = some (none, pI h 1664 s j v) := by
    unfold X5_put X5_put_g0 X5_put_f0 X5_put_g20 X5_put_f20
    rw [s1, nnE (sh_258 a s (by omega)), ixE (ln_26 a s (by omega)) rfl (show j < 24 by omega) (by decide), wr_eq, nar_jb, nnE (sh_258 a s (by omega)), ixE (ln_26 a s (by omega)) rfl (show j < 24 by omega) (by decide), wr_eq, nar_js, ← hv]
    split <;> rfl
  have a1 : SH (pI h 1664 s j v) := a
  have f2 : Fr ([1664, 4096], [], false) h (pI (pI h 1664 s j v) 4096 0 (24 * s + j) v) := (Fr.rf.pI (by decide)).pI (by decide)
  refine ⟨hI h 4096 0 (24 * s + j), pI h 1664 s j v, pI (pI h 1664 s j v) 4096 0 (24 * s + j) v, ?_, ?_, r0.oth f2 (by decide +kernel) (by decide +kernel) rfl (q4.fr a f2 (by decide)) (fun s' hs' => ?_) ?_ (q7.fr a f2 (by decide))⟩
  · rw [hc, if_neg c0, hK, z2, if_neg (by decide), ix_nI (show j < 24 by omega) (by decide), hput, cV_some, s5 j (by omega)]
  · have g82 : ∀ y, X12_mark_g82 (hI h 4096 0 (24 * s + j)) y (nI (24 * s + j)) 1 (pI h 1664 s j v) = some (some (.inl (hI h 4096 0 (24 * s + j))), pI (pI h 1664 s j v) 4096 0 (24 * s + j) y) := fun y => by
      unfold X12_mark_g82 X12_mark_f82
      rw [nnE rfl, ixE (ln_64 a1) rfl (show 24 * s + j < 96 by omega) (by decide), wr_eq]
    rw [hm _ a1 (hI_off h (by decide) _ _ _ _ _) (hI_off h (by decide) _ _ _ _ _), if_neg c0', hK, in_wnK hK0, cI_some, z2, if_neg (by decide), x24, nnE (sh_747 a1), ixE (ln_64 a1) rfl (show 24 * s + j < 96 by omega) (by decide), nnE (sh_745 a1), ixE (ln_62 a1) rfl hs (by decide), sh_747 a1, hI_off h (by decide), hI_off h (by decide), g82, g82, ← hv]
    split <;> rfl
  · obtain ⟨t1, t2, t3, t4, t5⟩ := q5 s' hs'
    rw [hI_off _ (by decide), hI_off _ (by decide), hI_off _ (by decide), hI_off _ (by decide), hI_off _ (by decide), hI_off _ (by decide), hI_off _ (by decide), hI_off _ (by decide)]
    refine ⟨t1, t2, t3, t4, fun k hk => ?_⟩
    have l1 : hI (pI (pI h 1664 s j v) 4096 0 (24 * s + j) v) 1664 s' k = if 1664 = 1664 ∧ s' = s ∧ k = j then v else hI h 1664 s' k := by rw [hI_off _ (by decide), hI_pI]
    have l2 : hI (pI (pI h 1664 s j v) 4096 0 (24 * s + j) v) 4096 0 (24 * s' + k) = if 4096 = 4096 ∧ 0 = 0 ∧ 24 * s' + k = 24 * s + j then v else hI h 4096 0 (24 * s' + k) := by rw [hI_pI, hI_off _ (by decide)]
    rw [l1, l2]
    by_cases c : s' = s ∧ k = j
    · rw [if_pos ⟨rfl, c⟩, if_pos ⟨rfl, rfl, by omega⟩]
    · rw [if_neg (fun e => c e.2), if_neg (fun e => c (by omega))]
      exact t5 k hk
  · refine q6.cong (fun t ht => ⟨?_, ?_, ?_, ?_, ?_, fun k hk => ?_⟩) (fun i => ⟨?_, ?_, ?_, ?_⟩)
    case refine_6 => rw [hI_off _ (by decide), hI_pI, if_neg (fun e => by omega)]
    all_goals rw [hI_off _ (by decide), hI_off _ (by decide)]
theorem fill26_eq {i : Nat} {v : Int32} {h : PH} (hl : hL h 26 i = 24) : J7_fill_fb410_26 (i + 1) v h = some (none, pFl h 1664 i 0 24 (vp_nar .short v)) := by
  have key : ∀ (k j : Nat) (h : PH), j + k = 24 → hL h 26 i = 24 → ∃ n, J7_fill_fb410_26_fam n (i + 1) v (nI j) (nI 24) h = some (none, pFl h 1664 i j 24 (vp_nar .short v)) := by
    intro k
    induction k with
    | zero =>
      intro j h e hl
      refine ⟨1, ?_⟩
      have : j = 24 := by omega
      subst this
      show J7_fill_fb410_26_g5 _ (i + 1) v (nI 24) (nI 24) h = _
      unfold J7_fill_fb410_26_g5 J7_fill_fb410_26_f5
      rw [if_neg (nI_nlt (Nat.le_refl _) (by decide)), pFl_nil]
    | succ k ih =>
      intro j h e hl
      obtain ⟨n, hn⟩ := ih (j + 1) (pI h 1664 i j (vp_nar .short v)) (by omega) hl
      refine ⟨n + 1, ?_⟩
      show J7_fill_fb410_26_g5 (J7_fill_fb410_26_fam n) (i + 1) v (nI j) (nI 24) h = _
      unfold J7_fill_fb410_26_g5 J7_fill_fb410_26_f5
      rw [if_pos (nI_lt (by omega) (by decide)), nnE rfl, ixE hl rfl (by omega) (by decide), wr_eq, nI_1, hn, pFl_cons h (by omega)]
  obtain ⟨n, hn⟩ := key 24 0 h (by omega) hl
  refine J7_fill_fb410_26_iff.mpr ⟨n, ?_⟩
  unfold J7_fill_fb410_26_g0 J7_fill_fb410_26_f0
  rw [nnE rfl, hl]
  exact hn
def shC (h : PH) (s : Nat) (x y : Int32) : PH := pFl (pI (pI h 256 s 0 x) 257 s 0 y) 1664 s 0 24 0
def shM (h : PH) (s : Nat) (x y : Int32) : PH := pFl (pI (pI h 3968 0 s x) 4032 0 s y) 4096 0 (24 * s) (24 * s + 24) 0
theorem become_eq {h : PH} (a : SH h) {s : Nat} (hs : s < 9) (x y : Int32) : X5_become s x y h = some (none, shC h s x y) := by
  have a2 : SH (pI (pI h 256 s 0 x) 257 s 0 y) := a
  unfold X5_become X5_become_g0 X5_become_f0
  rw [wr_eq, wr_eq, sh_258 a2 s hs, fill26_eq (ln_26 a2 s hs), cV_some]
  rfl
theorem Fr.pFl {W : List Nat × List Nat × Bool} {h0 h : PH} (q : Fr W h0 h) {c i x y : Nat} {v : Int32} (hc : W.1.contains c = true) : Fr W h0 (pFl h c i x y v) := by
  refine ⟨fun c' i' j' hc' hi' => ?_, fun c' i' j' hc' hi' => q.2.1 c' i' j' hc' hi', q.2.2.1, q.2.2.2.1, q.2.2.2.2⟩
  rw [hI_pFl, if_neg, q.1 c' i' j' hc' hi']
  rintro ⟨rfl, -, -⟩
  rw [hc] at hc'
  cases hc'
theorem sheetM_loop {h : PH} (a : SH h) {s : Nat} (hs : s < 4) : ∀ k j h, SH h → j + k = 24 → ∃ n, X12_sheet_fam n 0 (nI s) (nI j) h = some (some (.inl (hI h 4032 0 s)), pFl h 4096 0 (24 * s + j) (24 * s + 24) 0) := by
  intro k
  induction k with
  | zero =>
    intro j h a e
    have : j = 24 := by omega
    subst this
    refine ⟨1, ?_⟩
    show X12_sheet_g66 _ 0 (nI s) (nI 24) h = _
    unfold X12_sheet_g66 X12_sheet_f66
    rw [if_neg (show ¬ nI 24 < 24 by decide), nnE (sh_746 a), ixE (ln_63 a) rfl hs (by decide), pFl_nil]
  | succ k ih =>
    intro j h a e
    have x24 : (24 : Int32) * nI s + nI j = nI (24 * s + j) := by rw [show (24 : Int32) = nI 24 from rfl, nI_mul, nI_add]
    obtain ⟨n, hn⟩ := ih (j + 1) (pI h 4096 0 (24 * s + j) 0) a (by omega)
    refine ⟨n + 1, ?_⟩
    show X12_sheet_g66 (X12_sheet_fam n) 0 (nI s) (nI j) h = _
    unfold X12_sheet_g66 X12_sheet_f66
    rw [if_pos (show nI j < 24 from nI_lt (b := 24) (by omega) (by decide)), nnE (sh_747 a), ixE (ln_64 a) x24 (show 24 * s + j < 96 by omega) (by decide), wr_eq, nI_1, hn, ← Nat.add_assoc, pFl_cons h (by omega), hI_off _ (by decide)]
