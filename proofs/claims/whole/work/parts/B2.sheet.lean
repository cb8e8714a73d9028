/-! pair: sheet -/
theorem sheetM_put {h : PH} (a : SH h) {s : Nat} (hs : s < 4) (x2 x3 : Int32) : ∃ n, X12_sheet_g41 (X12_sheet_fam n) 0 (nI s) x2 x3 h = some (some (.inl (if x2 < 0 then 0 else x3)), shM h s x2 (if x2 < 0 then 0 else x3)) := by
  have a7 : SH (pI h 3968 0 s x2) := a
  have g62 : ∀ y, ∃ n, X12_sheet_g62 (X12_sheet_fam n) 0 (nI s) y (nI s) 1 (pI h 3968 0 s x2) = some (some (.inl y), shM h s x2 y) := fun y => by
    have a10 : SH (pI (pI h 3968 0 s x2) 4032 0 s y) := a
    obtain ⟨n, hn⟩ := sheetM_loop a10 hs 24 0 _ a10 (by omega)
    refine ⟨n, ?_⟩
    unfold X12_sheet_g62 X12_sheet_f62
    rw [nnE rfl, ixE (ln_63 a7) rfl hs (by decide), wr_eq]
    show X12_sheet_fam n 0 (nI s) (nI 0) (pI (pI h 3968 0 s x2) 4032 0 s y) = _
    rw [hn, hI_pI, if_pos ⟨rfl, rfl, rfl⟩]
    rfl
  by_cases c : x2 < 0
  · obtain ⟨n, hn⟩ := g62 0
    refine ⟨n, ?_⟩
    unfold X12_sheet_g41 X12_sheet_f41
    rw [nnE (sh_745 a), ixE (ln_62 a) rfl hs (by decide), wr_eq, if_pos c, sh_746 a7, if_pos c]
    exact hn
  · obtain ⟨n, hn⟩ := g62 x3
    refine ⟨n, ?_⟩
    unfold X12_sheet_g41 X12_sheet_f41
    rw [nnE (sh_745 a), ixE (ln_62 a) rfl hs (by decide), wr_eq, if_neg c, sh_746 a7, if_neg c]
    exact hn
def shW : List Nat × List Nat × Bool := ([256, 257, 1664, 3968, 4032, 4096], [], false)
theorem shC_off (h : PH) (s : Nat) (x y : Int32) {c i : Nat} (hc : ¬ (c = 256 ∨ c = 257 ∨ c = 1664) ∨ i ≠ s) (j : Nat) : hI (shC h s x y) c i j = hI h c i j := by
  unfold shC
  rw [hI_pFl, if_neg (fun e => by omega), hI_pI, if_neg (fun e => by omega), hI_pI, if_neg (fun e => by omega)]
theorem shC_at (h : PH) (s : Nat) (x y : Int32) : hI (shC h s x y) 256 s 0 = x ∧ hI (shC h s x y) 257 s 0 = y ∧ ∀ k, k < 24 → hI (shC h s x y) 1664 s k = 0 := by
  unfold shC
  refine ⟨?_, ?_, fun k hk => ?_⟩
  · rw [hI_pFl, if_neg (fun e => absurd e.1 (by decide)), hI_off _ (by decide), hI_pI, if_pos ⟨rfl, rfl, rfl⟩]
  · rw [hI_pFl, if_neg (fun e => absurd e.1 (by decide)), hI_pI, if_pos ⟨rfl, rfl, rfl⟩]
  · rw [hI_pFl, if_pos ⟨rfl, rfl, by omega, hk⟩]
theorem shM_off (h : PH) (s : Nat) (x y : Int32) {c : Nat} (h1 : c ≠ 3968) (h2 : c ≠ 4032) (h3 : c ≠ 4096) (i j : Nat) : hI (shM h s x y) c i j = hI h c i j := by
  unfold shM
  rw [hI_pFl, if_neg (fun e => h3 e.1), hI_off _ h2, hI_off _ h1]
theorem shM_at (h : PH) (s : Nat) (x y : Int32) (t : Nat) : hI (shM h s x y) 3968 0 t = (if t = s then x else hI h 3968 0 t) ∧ hI (shM h s x y) 4032 0 t = (if t = s then y else hI h 4032 0 t) ∧ ∀ k, hI (shM h s x y) 4096 0 k = if 24 * s ≤ k ∧ k < 24 * s + 24 then 0 else hI h 4096 0 k := by
  unfold shM
  refine ⟨?_, ?_, fun k => ?_⟩
  · rw [hI_pFl, if_neg (fun e => absurd e.1 (by decide)), hI_off _ (by decide), hI_pI]
    by_cases c : t = s
    · rw [if_pos ⟨rfl, rfl, c⟩, if_pos c]
    · rw [if_neg (fun e => c e.2.2), if_neg c]
  · rw [hI_pFl, if_neg (fun e => absurd e.1 (by decide)), hI_pI]
    by_cases c : t = s
    · rw [if_pos ⟨rfl, rfl, c⟩, if_pos c]
    · rw [if_neg (fun e => c e.2.2), if_neg c, hI_off _ (by decide)]
  · rw [hI_pFl]
    by_cases c : 24 * s ≤ k ∧ k < 24 * s + 24
    · rw [if_pos ⟨rfl, rfl, c⟩, if_pos c]
    · rw [if_neg (fun e => c e.2.2), if_neg c, hI_off _ (by decide), hI_off _ (by decide)]
theorem sheet_R {m : Nat} {h : PH} (r : R m h) {s : Nat} (hs : s < 4) {x y : Int32} (hx : rgI x (-1) 1) (hy : rgI y 0 24) : R (m + 1) (shM (shC h s x y) s x y) := by
  have r0 := r
  obtain ⟨a, q, -, -, q4, q5, q6, q7, -⟩ := r
  have f : Fr shW h (shM (shC h s x y) s x y) := (((((Fr.rf.pI (by decide)).pI (by decide)).pFl (by decide)).pI (by decide)).pI (by decide)).pFl (by decide)
  obtain ⟨c1, c2, c3⟩ := shC_at h s x y
  refine r0.oth f (by decide +kernel) (by decide +kernel) rfl (q4.fr a f (by decide)) (fun t ht => ?_) ?_ (q7.fr a f (by decide))
  · obtain ⟨d1, d2, d3⟩ := shM_at (shC h s x y) s x y t
    rw [d1, d2, shM_off _ _ _ _ (by decide) (by decide) (by decide), shM_off _ _ _ _ (by decide) (by decide) (by decide)]
    by_cases c : t = s
    · subst c
      rw [if_pos rfl, if_pos rfl]
      refine ⟨c1, c2, hx, hy, fun k hk => ?_⟩
      rw [d3, if_pos (by omega), shM_off _ _ _ _ (by decide) (by decide) (by decide), c3 k hk]
    · obtain ⟨t1, t2, t3, t4, t5⟩ := q5 t ht
      rw [if_neg c, if_neg c, shC_off _ _ _ _ (Or.inr c), shC_off _ _ _ _ (Or.inr c), shC_off _ _ _ _ (Or.inl (by decide)), shC_off _ _ _ _ (Or.inl (by decide))]
      refine ⟨t1, t2, t3, t4, fun k hk => ?_⟩
      rw [d3, if_neg (by omega), shM_off _ _ _ _ (by decide) (by decide) (by decide), shC_off _ _ _ _ (Or.inr c), shC_off _ _ _ _ (Or.inl (by decide))]
      exact t5 k hk
  · refine q6.cong (fun t ht => ⟨?_, ?_, ?_, ?_, ?_, fun k hk => ?_⟩) (fun i => ⟨?_, ?_, ?_, ?_⟩)
    case refine_5 => rw [shM_off _ _ _ _ (by decide) (by decide) (by decide), shC_off _ _ _ _ (Or.inr (by omega))]
    case refine_6 => rw [shM_off _ _ _ _ (by decide) (by decide) (by decide), shC_off _ _ _ _ (Or.inr (by omega))]
    all_goals rw [shM_off _ _ _ _ (by decide) (by decide) (by decide), shC_off _ _ _ _ (Or.inl (by decide))]
theorem in_m11 (x : Int32) (h : PH) : X12_in x (-1) 1 h = some (some (.inl (if x < -1 then 0 else if 1 < x then 0 else 1)), h) := X12_in_eq x (-1) 1 h
theorem pair_sheet (m : Nat) (h : PH) (x1 x2 x3 : Int32) (_ : m < 64) (r : R m h) : Pr (R (m + 1)) (X11_sheet 0 x1 x2 x3) (X12_sheet 0 x1 x2 x3) h := by
  have r0 := r
  obtain ⟨a, q, -, -, q4, q5, q6, q7, -⟩ := r
  have em : (-1 : Int32).toInt = -1 := by decide
  rcases lit_cases (x := x1) (y := 4) (K := 4) rfl (by decide) with z | ⟨z, s, hs, rfl⟩
  · refine r0.same (v := -1000000001) ?_ (X12_sheet_iff.mpr ⟨0, ?_⟩)
    · unfold X11_sheet X11_sheet_g0 X11_sheet_f0
      rw [isWithin_wn, cI_some, z, if_pos rfl]
    · unfold X12_sheet_g0 X12_sheet_f0
      rw [isSheet_wn, cI_some, z, if_pos rfl]
  by_cases d1 : x2 < -1
  · refine r0.same (v := -1000000001) ?_ (X12_sheet_iff.mpr ⟨0, ?_⟩)
    · unfold X11_sheet X11_sheet_g0 X11_sheet_f0
      rw [isWithin_wn, cI_some, z, if_neg (by decide), if_pos d1]
    · unfold X12_sheet_g0 X12_sheet_f0
      rw [isSheet_wn, cI_some, z, if_neg (by decide), in_m11, cI_some, if_pos d1, if_pos rfl]
  by_cases d2 : 1 < x2
  · refine r0.same (v := -1000000001) ?_ (X12_sheet_iff.mpr ⟨0, ?_⟩)
    · unfold X11_sheet X11_sheet_g0 X11_sheet_f0
      rw [isWithin_wn, cI_some, z, if_neg (by decide), if_neg d1, if_pos d2]
    · unfold X12_sheet_g0 X12_sheet_f0
      rw [isSheet_wn, cI_some, z, if_neg (by decide), in_m11, cI_some, if_neg d1, if_pos d2, if_pos rfl]
  have hx : rgI x2 (-1) 1 := by
    rw [i_lt, em] at d1
    rw [i_lt, i1] at d2
    exact ⟨by omega, by omega⟩
  by_cases d3 : x2 = -1
  · have d3' : x2 < 0 := (sort_neg hx).mpr d3
    have a1 : SH (shC h s x2 0) := a
    obtain ⟨n, hn⟩ := sheetM_put a1 hs x2 x3
    rw [if_pos d3'] at hn
    refine ⟨0, shC h s x2 0, shM (shC h s x2 0) s x2 0, ?_, X12_sheet_iff.mpr ⟨n, ?_⟩, sheet_R r0 hs hx ⟨by decide, by decide⟩⟩
    · unfold X11_sheet X11_sheet_g0 X11_sheet_f0
      rw [isWithin_wn, cI_some, z, if_neg (by decide), if_neg d1, if_neg d2, if_pos d3, nnE (sh_646 a), ixE (ln_38 a) rfl hs (by decide), nnE (sh_2432 a s hs), become_eq a (by omega), cV_some, d3]
    · unfold X12_sheet_g0 X12_sheet_f0
      rw [isSheet_wn, cI_some, z, if_neg (by decide), in_m11, cI_some, if_neg d1, if_neg d2, if_neg (by decide), if_pos d3']
      unfold X12_sheet_g29 X12_sheet_f29
      rw [if_pos d3']
      exact hn
  have d3' : ¬ x2 < 0 := fun e => d3 ((sort_neg hx).mp e)
  by_cases d4 : 24 < x3
  · refine r0.same (v := -1000000001) ?_ (X12_sheet_iff.mpr ⟨0, ?_⟩)
    · unfold X11_sheet X11_sheet_g0 X11_sheet_f0
      rw [isWithin_wn, cI_some, z, if_neg (by decide), if_neg d1, if_neg d2, if_neg d3, if_pos d4]
    · unfold X12_sheet_g0 X12_sheet_f0
      rw [isSheet_wn, cI_some, z, if_neg (by decide), in_m11, cI_some, if_neg d1, if_neg d2, if_neg (by decide), if_neg d3', if_pos d4]
  by_cases d5 : x3 < 0
  · refine r0.same (v := -1000000014) ?_ (X12_sheet_iff.mpr ⟨0, ?_⟩)
    · unfold X11_sheet X11_sheet_g0 X11_sheet_f0
      rw [isWithin_wn, cI_some, z, if_neg (by decide), if_neg d1, if_neg d2, if_neg d3, if_neg d4, if_pos d5]
    · unfold X12_sheet_g0 X12_sheet_f0
      rw [isSheet_wn, cI_some, z, if_neg (by decide), in_m11, cI_some, if_neg d1, if_neg d2, if_neg (by decide), if_neg d3', if_neg d4]
      unfold X12_sheet_g29 X12_sheet_f29
      rw [if_neg d3', if_pos d5]
  have a1 : SH (shC h s x2 x3) := a
  obtain ⟨n, hn⟩ := sheetM_put a1 hs x2 x3
  rw [if_neg d3'] at hn
  have hy : rgI x3 0 24 := by
    rw [i_lt, show (24 : Int32).toInt = 24 by decide] at d4
    rw [i_lt, i0] at d5
    exact ⟨by omega, by omega⟩
  refine ⟨x3, shC h s x2 x3, shM (shC h s x2 x3) s x2 x3, ?_, X12_sheet_iff.mpr ⟨n, ?_⟩, sheet_R r0 hs hx hy⟩
  · unfold X11_sheet X11_sheet_g0 X11_sheet_f0
    rw [isWithin_wn, cI_some, z, if_neg (by decide), if_neg d1, if_neg d2, if_neg d3, if_neg d4, if_neg d5, nnE (sh_646 a), ixE (ln_38 a) rfl hs (by decide), nnE (sh_2432 a s hs), become_eq a (by omega), cV_some]
  · unfold X12_sheet_g0 X12_sheet_f0
    rw [isSheet_wn, cI_some, z, if_neg (by decide), in_m11, cI_some, if_neg d1, if_neg d2, if_neg (by decide), if_neg d3', if_neg d4]
    unfold X12_sheet_g29 X12_sheet_f29
    rw [if_neg d3', if_neg d5]
    exact hn
