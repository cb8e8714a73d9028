def cpW : List Nat × List Nat × Bool := ([649, 754, 80, 515, 1536, 1920, 1984, 516, 521, 523, 524, 525, 526, 527, 2048, 2112, 2176, 2240, 2304, 2752, 731, 732, 733, 734, 737, 2624, 3264, 3328, 3392, 3456, 3584, 3648], [193, 513], false)
theorem pair_check (m : Nat) (h : PH) (x1 : Int32) (hm : m < 64) (r : R m h) : Pr (R (m + 1)) (X11_check 0 x1) (X12_check 0 x1) h := by
  have r0 := r
  obtain ⟨a, q, q2, q3, q4, q5, q6, q7, q8, q9, q10⟩ := r
  obtain ⟨n, hn, w1, w2, w3⟩ := q7
  obtain ⟨i1, i2⟩ := q2
  generalize hh1 : pI h 649 0 0 0 = h1
  have f1 : Fr ([649], [], false) h h1 := by
    subst hh1
    exact Fr.rf.pI (by decide)
  have a1 : SH h1 := a.fr f1 (by decide)
  have o1 : ∀ c i j, c ≠ 649 → hI h1 c i j = hI h c i j := fun c i j hc => by
    subst hh1
    rw [hI_off _ hc]
  have z649 : hI h1 649 0 0 = 0 := by
    subst hh1
    rw [hI_pI, if_pos ⟨rfl, rfl, rfl⟩]
  -- refused
  have no : ∀ v, X11_check 0 x1 h = some (some (.inl v), h1) → (X12_check 0 x1 h1 = some (some (.inl v), pI h1 754 0 0 0)) → Pr (R (m + 1)) (X11_check 0 x1) (X12_check 0 x1) h := fun v e1 e2 => by
    have fA : Fr ([649, 754], [], false) h (pI h1 754 0 0 0) := (f1.sub (by decide)).pI (by decide)
    refine ⟨v, h1, _, e1, e2, r0.oth fA (by decide +kernel) (by decide +kernel) rfl (q4.fr a fA (by decide)) (q5.fr a fA (by decide)) (q6.fr a fA (by decide)) ⟨0, by omega, ?_, ?_, fun j hj => by omega⟩⟩
    · rw [hI_off _ (by decide), z649]
      rfl
    · rw [hI_pI, if_pos ⟨rfl, rfl, rfl⟩]
      rfl
  have n754 : hI h1 754 0 0 = nI n := by rw [o1 _ _ _ (by decide), w2]
  by_cases d1 : x1 < 1
  · refine no (-1000000001) ?_ (X12_check_iff.mpr ⟨0, ?_⟩)
    · unfold X11_check X11_check_g0 X11_check_f0
      rw [wr_eq, hh1, if_pos d1]
    · unfold X12_check_g0 X12_check_f0
      rw [wr_eq, X12_in_eq, cI_some, if_pos d1, if_pos rfl]
  by_cases d2 : 30 < x1
  · refine no (-1000000001) ?_ (X12_check_iff.mpr ⟨0, ?_⟩)
    · unfold X11_check X11_check_g0 X11_check_f0
      rw [wr_eq, hh1, if_neg d1, if_pos d2]
    · unfold X12_check_g0 X12_check_f0
      rw [wr_eq, X12_in_eq, cI_some, if_neg d1, if_pos d2, if_pos rfl]
  rcases i2 with c | ⟨c, qi⟩
  · refine no (-1000000002) ?_ (X12_check_iff.mpr ⟨0, ?_⟩)
    · unfold X11_check X11_check_g0 X11_check_f0
      rw [wr_eq, hh1, if_neg d1, if_neg d2, o1 642 0 0 (by decide), i1, c, if_pos rfl]
    · unfold X12_check_g0 X12_check_f0
      rw [wr_eq, X12_in_eq, cI_some, if_neg d1, if_neg d2, if_neg (by decide), hI_off _ (by decide), o1 707 0 0 (by decide), c, if_pos rfl]
  have c642 : ¬ hI h1 642 0 0 = 0 := by
    rw [o1 642 0 0 (by decide), i1, c]
    decide
  generalize hh2 : pI h1 754 0 0 0 = hm2
  sorry
