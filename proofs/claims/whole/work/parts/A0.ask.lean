/-! pairs: what is asked and changes nothing -/
theorem R.same {m : Nat} {h : PH} (r : R m h) {f g : PH → Option Rs} {v : Int32} (e1 : f h = some (some (.inl v), h)) (e2 : g h = some (some (.inl v), h)) : Pr (R (m + 1)) f g h := ⟨v, h, h, e1, e2, r.mono⟩
theorem in_wn2 (x : Int32) (h : PH) : X12_in x 0 1 h = some (some (.inl (wn x 2)), h) := by
  rw [in_inn, show (1 : Int32) = 2 - 1 by decide, inn_wn (by decide)]
theorem in_wn3 (x : Int32) (h : PH) : X12_in x 0 2 h = some (some (.inl (wn x 3)), h) := by
  rw [in_inn, show (2 : Int32) = 3 - 1 by decide, inn_wn (by decide)]
theorem in_wn4 (x : Int32) (h : PH) : X12_in x 0 3 h = some (some (.inl (wn x 4)), h) := by
  rw [in_inn, show (3 : Int32) = 4 - 1 by decide, inn_wn (by decide)]
theorem in_wn6 (x : Int32) (h : PH) : X12_in x 0 5 h = some (some (.inl (wn x 6)), h) := by
  rw [in_inn, show (5 : Int32) = 6 - 1 by decide, inn_wn (by decide)]
theorem in_wn8 (x : Int32) (h : PH) : X12_in x 0 7 h = some (some (.inl (wn x 8)), h) := by
  rw [in_inn, show (7 : Int32) = 8 - 1 by decide, inn_wn (by decide)]
theorem in_wn10 (x : Int32) (h : PH) : X12_in x 0 9 h = some (some (.inl (wn x 10)), h) := by
  rw [in_inn, show (9 : Int32) = 10 - 1 by decide, inn_wn (by decide)]
theorem in_wn14 (x : Int32) (h : PH) : X12_in x 0 13 h = some (some (.inl (wn x 14)), h) := by
  rw [in_inn, show (13 : Int32) = 14 - 1 by decide, inn_wn (by decide)]
theorem in_wnK {x n : Int32} (hn : 0 ≤ n.toInt) (h : PH) : X12_in x 0 (n - 1) h = some (some (.inl (wn x n)), h) := by
  rw [in_inn, inn_wn hn]
theorem sign_cases {h : PH} {b : Nat} {N : Nat → Int32} (q : Hs h b N) (x : Int32) : wn x (N 6) = 0 ∨ (wn x (N 6) = 1 ∧ ∃ s, s < nt (N 6) ∧ x = nI s) := by
  obtain ⟨K, hK, h14, hKn, -⟩ := q.signs
  rw [hK, nt_nI (by omega)]
  exact wn_cases (by omega)
theorem goal_cases {h : PH} {b : Nat} {N : Nat → Int32} (q : Hs h b N) (x : Int32) : wn x (N 5) = 0 ∨ (wn x (N 5) = 1 ∧ ∃ s, s < nt (N 5) ∧ x = nI s) := by
  obtain ⟨K, hK, h14, hKn, -⟩ := q.goals
  rw [hK, nt_nI (by omega)]
  exact wn_cases (by omega)
theorem place_cases {h : PH} {b : Nat} {N : Nat → Int32} (q : Hs h b N) (x : Int32) : wn x (N 3) = 0 ∨ (wn x (N 3) = 1 ∧ ∃ s, s < nt (N 3) ∧ x = nI s) := by
  obtain ⟨K, hK, h14, hKn, -⟩ := q.places
  rw [hK, nt_nI (by omega)]
  exact wn_cases (by omega)
theorem way_cases {h : PH} {b : Nat} {N : Nat → Int32} (q : Hs h b N) (x : Int32) : wn x (N 4) = 0 ∨ (wn x (N 4) = 1 ∧ ∃ s, s < nt (N 4) ∧ x = nI s) := by
  obtain ⟨K, hK, h14, hKn, -⟩ := q.ways
  rw [hK, nt_nI (by omega)]
  exact wn_cases (by omega)
theorem lit_cases {x y : Int32} {K : Nat} (hy : y = nI K) (hK : K < 2 ^ 31) : wn x y = 0 ∨ (wn x y = 1 ∧ ∃ s, s < K ∧ x = nI s) := by
  rw [hy]
  exact wn_cases hK
theorem rg_orNone {x : Int32} (hx : rgI x (-1) 3) (h : PH) : X11_orNone x h = some (some (.inl (if x < 0 then -1000000005 else x)), h) := by
  unfold X11_orNone X11_orNone_g0 X11_orNone_f0
  have em : (-1 : Int32).toInt = -1 := by decide
  obtain ⟨h1, h2⟩ := hx
  by_cases c : x = -1
  · rw [if_pos c, if_pos (by rw [c]; decide)]
  · rw [if_neg c, if_neg]
    rw [i_eq, em] at c
    rw [i_lt, i0]
    omega
theorem pair_goalTold (m : Nat) (h : PH) (x1 x2 : Int32) (_ : m < 64) (r : R m h) : Pr (R (m + 1)) (X11_goalTold 0 x1 x2) (X12_goalTold 0 x1 x2) h := by
  have r0 := r
  obtain ⟨a, q, -⟩ := r
  have s74 := q.2.2.1.1.2.2.1
  rcases goal_cases q x1 with z | ⟨z, g, hg, rfl⟩
  · refine r0.same (v := -1000000001) ?_ ?_
    · unfold X11_goalTold X11_goalTold_g0 X11_goalTold_f0
      rw [nnE (sh_640 a), X1_hasGoal_eq, cI_some, s74, z, if_pos rfl]
    · unfold X12_goalTold X12_goalTold_g0 X12_goalTold_f0
      rw [isGoal_wn a q, cI_some, z, if_pos rfl]
  · obtain ⟨g1, g2, g3, g4, g5, g6⟩ := q.goal hg
    rcases lit_cases (x := x2) (y := 2) (K := 2) rfl (by decide) with z2 | ⟨z2, k, hk, rfl⟩
    · refine r0.same (v := -1000000001) ?_ ?_
      · unfold X11_goalTold X11_goalTold_g0 X11_goalTold_f0
        rw [nnE (sh_640 a), X1_hasGoal_eq, cI_some, s74, z, if_neg (by decide), isWithin_wn, cI_some, z2, if_pos rfl]
      · unfold X12_goalTold X12_goalTold_g0 X12_goalTold_f0
        rw [isGoal_wn a q, cI_some, z, if_neg (by decide), in_wn2, cI_some, z2, if_pos rfl]
    · have hk2 : k = 0 ∨ k = 1 := by omega
      rcases hk2 with rfl | rfl
      · refine r0.same (v := nI (gP (hI h 2624 0) g)) ?_ ?_
        · unfold X11_goalTold X11_goalTold_g0 X11_goalTold_f0
          rw [nnE (sh_640 a), X1_hasGoal_eq, cI_some, s74, z, if_neg (by decide), isWithin_wn, cI_some, z2, if_neg (by decide), if_pos (by decide), nnE (sh_640 a), nnE (sh_66 a 0 (by decide)), ixE (ln_16 a 0 (by decide)) rfl g6 (by decide), g3]
        · unfold X12_goalTold X12_goalTold_g0 X12_goalTold_f0
          rw [isGoal_wn a q, cI_some, z, if_neg (by decide), in_wn2, cI_some, z2, if_neg (by decide), if_pos (by decide), X12_placeOf_eq a g6, cI_some, g1]
      · refine r0.same (v := if hI h 2624 0 (136 + 2 * g) < 0 then -1000000005 else hI h 2624 0 (136 + 2 * g)) ?_ ?_
        · unfold X11_goalTold X11_goalTold_g0 X11_goalTold_f0
          rw [nnE (sh_640 a), X1_hasGoal_eq, cI_some, s74, z, if_neg (by decide), isWithin_wn, cI_some, z2, if_neg (by decide), if_neg (by decide), nnE (sh_640 a), nnE (sh_67 a 0 (by decide)), ixE (ln_17 a 0 (by decide)) rfl g6 (by decide), g4, rg_orNone g5, cI_some]
        · unfold X12_goalTold X12_goalTold_g0 X12_goalTold_f0
          rw [isGoal_wn a q, cI_some, z, if_neg (by decide), in_wn2, cI_some, z2, if_neg (by decide), if_neg (by decide), X12_groupOf_eq a g6, cI_some, X12_groupOf_eq a g6, cI_some]
          split <;> rfl
theorem pair_as (m : Nat) (h : PH) (x1 x2 : Int32) (_ : m < 64) (r : R m h) : Pr (R (m + 1)) (X11_as 0 x1 x2) (X12_as 0 x1 x2) h := by
  have r0 := r
  obtain ⟨a, q, -⟩ := r
  have s75 := q.2.2.1.1.2.2.2.1
  rcases sign_cases q x1 with z | ⟨z, s, hs, rfl⟩
  · refine r0.same (v := -1000000001) ?_ ?_
    · unfold X11_as X11_as_g0 X11_as_f0
      rw [nnE (sh_640 a), X1_hasSign_eq, cI_some, s75, z, if_pos rfl]
    · unfold X12_as X12_as_g0 X12_as_f0
      rw [isSign_wn a q, cI_some, z, if_pos rfl]
  · obtain ⟨e1, e2, e3, e4, e5, e6, -⟩ := q.sign hs
    obtain ⟨f1, f2, f3, f4, f5⟩ := q.signF hs
    rw [Nat.mul_zero, Nat.zero_add] at f2 f3
    have o1 : X12_of5 0 (nI s) 1 h = some (some (.inl (hI h 2624 0 (156 + 5 * s))), h) := of5_at (k := 1) a rfl e6 (by decide) (by omega)
    rcases lit_cases (x := x2) (y := 6) (K := 6) rfl (by decide) with z2 | ⟨z2, k, hk, rfl⟩
    · refine r0.same (v := -1000000001) ?_ ?_
      · unfold X11_as X11_as_g0 X11_as_f0
        rw [nnE (sh_640 a), X1_hasSign_eq, cI_some, s75, z, if_neg (by decide), isWithin_wn, cI_some, z2, if_pos rfl]
      · unfold X12_as X12_as_g0 X12_as_f0
        rw [isSign_wn a q, cI_some, z, if_neg (by decide), in_wn6, cI_some, z2, if_pos rfl]
    · have hk5 : rgI (nI k) 0 5 := ⟨by rw [nI_toInt (by omega)]; omega, by rw [nI_toInt (by omega)]; omega⟩
      refine r0.same (v := if underK (hI h 2624 0 (156 + 5 * s)) (nI k) = 0 then -1000000012 else nI (sR (hI h 2624 0) s)) ?_ ?_
      · unfold X11_as X11_as_g0 X11_as_f0
        rw [nnE (sh_640 a), X1_hasSign_eq, cI_some, s75, z, if_neg (by decide), isWithin_wn, cI_some, z2, if_neg (by decide), nnE (sh_640 a), nnE (sh_68 a 0 (by decide)), ixE (ln_18 a 0 (by decide)) rfl e6 (by decide), nnE (sh_1152_0 a s e6), f2, isOfKind_eq e5 hk5, cI_some, nnE (sh_1152_0 a s e6), f3]
        split <;> rfl
      · unfold X12_as X12_as_g0 X12_as_f0
        rw [isSign_wn a q, cI_some, z, if_neg (by decide), in_wn6, cI_some, z2, if_neg (by decide), o1, cI_some, isUnder_eq e5 hk5, cI_some, rowsOf_sR a rfl q hs, cI_some]
        split <;> rfl
theorem pair_rowTold (m : Nat) (h : PH) (x1 x2 x3 : Int32) (_ : m < 64) (r : R m h) : Pr (R (m + 1)) (X11_rowTold 0 x1 x2 x3) (X12_rowTold 0 x1 x2 x3) h := by
  have r0 := r
  obtain ⟨a, q, -⟩ := r
  have s75 := q.2.2.1.1.2.2.2.1
  rcases sign_cases q x1 with z | ⟨z, s, hs, rfl⟩
  · refine r0.same (v := -1000000001) ?_ ?_
    · unfold X11_rowTold X11_rowTold_g0 X11_rowTold_f0
      rw [nnE (sh_640 a), X1_hasSign_eq, cI_some, s75, z, if_pos rfl]
    · unfold X12_rowTold X12_rowTold_g0 X12_rowTold_f0
      rw [isSign_wn a q, cI_some, z, if_pos rfl]
  · obtain ⟨e1, e2, e3, e4, e5, e6, -⟩ := q.sign hs
    obtain ⟨f1, f2, f3, f4, f5⟩ := q.signF hs
    rw [Nat.mul_zero, Nat.zero_add] at f3
    rcases lit_cases (x := x3) (y := 2) (K := 2) rfl (by decide) with z2 | ⟨z2, k, hk, rfl⟩
    · refine r0.same (v := -1000000001) ?_ ?_
      · unfold X11_rowTold X11_rowTold_g0 X11_rowTold_f0
        rw [nnE (sh_640 a), X1_hasSign_eq, cI_some, s75, z, if_neg (by decide), isWithin_wn, cI_some, z2, if_pos rfl]
      · unfold X12_rowTold X12_rowTold_g0 X12_rowTold_f0
        rw [isSign_wn a q, cI_some, z, if_neg (by decide), in_wn2, cI_some, z2, if_pos rfl]
    · have hR0 : (0 : Int) ≤ (nI (sR (hI h 2624 0) s)).toInt := by rw [nI_toInt (by omega)]; omega
      rcases wn_cases (x := x2) (K := sR (hI h 2624 0) s) (by omega) with z3 | ⟨z3, rr, hrr, rfl⟩
      · refine r0.same (v := -1000000005) ?_ ?_
        · unfold X11_rowTold X11_rowTold_g0 X11_rowTold_f0
          rw [nnE (sh_640 a), X1_hasSign_eq, cI_some, s75, z, if_neg (by decide), isWithin_wn, cI_some, z2, if_neg (by decide), nnE (sh_640 a), nnE (sh_68 a 0 (by decide)), ixE (ln_18 a 0 (by decide)) rfl e6 (by decide), nnE (sh_1152_0 a s e6), f3, isWithin_wn, cI_some, z3, if_pos rfl]
        · unfold X12_rowTold X12_rowTold_g0 X12_rowTold_f0
          rw [isSign_wn a q, cI_some, z, if_neg (by decide), in_wn2, cI_some, z2, if_neg (by decide), rowsOf_sR a rfl q hs, cI_some, in_wnK hR0, cI_some, z3, if_pos rfl]
      · obtain ⟨w1, w2, w3, w4, w5⟩ := q.row hs hrr
        rw [Nat.mul_zero, Nat.zero_add] at w1 w2
        have hk2 : k = 0 ∨ k = 1 := by omega
        rcases hk2 with rfl | rfl
        · refine r0.same (v := hI h 2624 0 (225 + 12 * s + 2 * rr)) ?_ ?_
          · unfold X11_rowTold X11_rowTold_g0 X11_rowTold_f0
            rw [nnE (sh_640 a), X1_hasSign_eq, cI_some, s75, z, if_neg (by decide), isWithin_wn, cI_some, z2, if_neg (by decide), nnE (sh_640 a), nnE (sh_68 a 0 (by decide)), ixE (ln_18 a 0 (by decide)) rfl e6 (by decide), nnE (sh_1152_0 a s e6), f3, isWithin_wn, cI_some, z3, if_neg (by decide), if_pos (by decide), nnE (sh_1152_0 a s e6), nnE (sh_325 a s (by omega)), ixE (ln_27 a s (by omega)) rfl (show rr < 6 by omega) (by decide), w1]
          · unfold X12_rowTold X12_rowTold_g0 X12_rowTold_f0
            rw [isSign_wn a q, cI_some, z, if_neg (by decide), in_wn2, cI_some, z2, if_neg (by decide), rowsOf_sR a rfl q hs, cI_some, in_wnK hR0, cI_some, z3, if_neg (by decide), if_pos (by decide), X12_nameAt_eq a e6 (show rr < 6 by omega), cI_some]
        · refine r0.same (v := nI (sA (hI h 2624 0) s rr)) ?_ ?_
          · unfold X11_rowTold X11_rowTold_g0 X11_rowTold_f0
            rw [nnE (sh_640 a), X1_hasSign_eq, cI_some, s75, z, if_neg (by decide), isWithin_wn, cI_some, z2, if_neg (by decide), nnE (sh_640 a), nnE (sh_68 a 0 (by decide)), ixE (ln_18 a 0 (by decide)) rfl e6 (by decide), nnE (sh_1152_0 a s e6), f3, isWithin_wn, cI_some, z3, if_neg (by decide), if_neg (by decide), nnE (sh_1152_0 a s e6), nnE (sh_326 a s (by omega)), ixE (ln_28 a s (by omega)) rfl (show rr < 6 by omega) (by decide), w2]
          · unfold X12_rowTold X12_rowTold_g0 X12_rowTold_f0
            rw [isSign_wn a q, cI_some, z, if_neg (by decide), in_wn2, cI_some, z2, if_neg (by decide), rowsOf_sR a rfl q hs, cI_some, in_wnK hR0, cI_some, z3, if_neg (by decide), if_neg (by decide), X12_arrowAt_eq a e6 (show rr < 6 by omega), cI_some, w3]
theorem pair_why (m : Nat) (h : PH) (x1 : Int32) (_ : m < 64) (r : R m h) : Pr (R (m + 1)) (X11_why 0 x1) (X12_why 0 x1) h := by
  have r0 := r
  obtain ⟨a, q, -⟩ := r
  obtain ⟨K, t1, t2, t3, t4⟩ := q.2.2.2
  rcases lit_cases (x := x1) (y := 3) (K := 3) rfl (by decide) with z2 | ⟨z2, k, hk, rfl⟩
  · refine r0.same (v := -1000000001) ?_ ?_
    · unfold X11_why X11_why_g0 X11_why_f0
      rw [isWithin_wn, cI_some, z2, if_pos rfl]
    · unfold X12_why X12_why_g0 X12_why_f0
      rw [in_wn3, cI_some, z2, if_pos rfl]
  · have lt : ∀ w, cntO (hI h 2624 0) (nI k) K = some w → w < 2 ^ 31 := fun w hw => by
      have := (cntO_lt hw).1
      omega
    refine r0.same (v := orV (cntO (hI h 2624 0) (nI k) K)) ?_ ?_
    · unfold X11_why X11_why_g0 X11_why_f0
      rw [isWithin_wn, cI_some, z2, if_neg (by decide), nnE (sh_640 a), nnE (sh_70 a 0 (by decide)), ixE (ln_20 a 0 (by decide)) rfl hk (by decide), t4 k hk, orNone_oI lt, cI_some]
    · unfold X12_why X12_why_g0 X12_why_f0
      rw [in_wn3, cI_some, z2, if_neg (by decide), X12_counts_eq a (nI k) t1 t2, cI_some]
      cases c : cntO (hI h 2624 0) (nI k) K with
      | none => rfl
      | some w =>
        rw [if_neg (oI_pos (lt w c))]
        rfl
theorem pair_textTold (m : Nat) (h : PH) (x1 x2 : Int32) (_ : m < 64) (r : R m h) : Pr (R (m + 1)) (X11_textTold 0 x1 x2) (X12_textTold 0 x1 x2) h := by
  have r0 := r
  obtain ⟨a, q, -⟩ := r
  obtain ⟨K, t1, t2, t3, t4⟩ := q.2.2.2
  have s76 : hI h 76 0 0 = nI K := q.2.2.1.1.2.2.2.2.1.trans t1
  have hK0 : (0 : Int) ≤ (nI K).toInt := by rw [nI_toInt (by omega)]; omega
  rcases wn_cases (x := x1) (K := K) (by omega) with z | ⟨z, t, ht, rfl⟩
  · refine r0.same (v := -1000000001) ?_ ?_
    · unfold X11_textTold X11_textTold_g0 X11_textTold_f0
      rw [nnE (sh_640 a), s76, isWithin_wn, cI_some, z, if_pos rfl]
    · unfold X12_textTold X12_textTold_g0 X12_textTold_f0
      rw [nnE (sh_704 a), ixE (ln_41 a) (show (8 : Int32) = nI 8 from rfl) (by decide) (by decide), t1, in_wnK hK0, cI_some, z, if_pos rfl]
  · rcases lit_cases (x := x2) (y := 2) (K := 2) rfl (by decide) with z2 | ⟨z2, k, hk, rfl⟩
    · refine r0.same (v := -1000000001) ?_ ?_
      · unfold X11_textTold X11_textTold_g0 X11_textTold_f0
        rw [nnE (sh_640 a), s76, isWithin_wn, cI_some, z, if_neg (by decide), isWithin_wn, cI_some, z2, if_pos rfl]
      · unfold X12_textTold X12_textTold_g0 X12_textTold_f0
        rw [nnE (sh_704 a), ixE (ln_41 a) (show (8 : Int32) = nI 8 from rfl) (by decide) (by decide), t1, in_wnK hK0, cI_some, z, if_neg (by decide), in_wn2, cI_some, z2, if_pos rfl]
    · obtain ⟨T, S, V, key, many, atoms, ⟨r1, r2, r3, r4, -⟩, q2, q3, q4, q5, -⟩ := t3 t ht
      obtain ⟨m1, m2, m3⟩ := manyT_eq q2 q3 q4
      have x0 : (393 : Int32) + 2 * nI t = nI (393 + 2 * t) := by rw [show (393 : Int32) = nI 393 from rfl, show (2 : Int32) = nI 2 from rfl, nI_mul, nI_add]
      have x1 : nI (393 + 2 * t) + 1 = nI (394 + 2 * t) := by rw [nI_1]; congr 1; omega
      have hk2 : k = 0 ∨ k = 1 := by omega
      rcases hk2 with rfl | rfl
      · refine r0.same (v := nI key) ?_ ?_
        · unfold X11_textTold X11_textTold_g0 X11_textTold_f0
          rw [nnE (sh_640 a), s76, isWithin_wn, cI_some, z, if_neg (by decide), isWithin_wn, cI_some, z2, if_neg (by decide), nnE (sh_640 a), nnE (sh_69 a 0 (by decide)), ixE (ln_19 a 0 (by decide)) rfl (show t < 14 by omega) (by decide), r1, if_neg (Nat.succ_ne_zero T), if_pos (by decide), nnE rfl, r3]
        · unfold X12_textTold X12_textTold_g0 X12_textTold_f0
          rw [nnE (sh_704 a), ixE (ln_41 a) (show (8 : Int32) = nI 8 from rfl) (by decide) (by decide), t1, in_wnK hK0, cI_some, z, if_neg (by decide), in_wn2, cI_some, z2, if_neg (by decide), if_pos (by decide), nnE (sh_704 a), ixE (ln_41 a) x0 (show 393 + 2 * t < 1765 by omega) (by decide), dv_ok (by decide), m3]
      · refine r0.same (v := nI atoms) ?_ ?_
        · unfold X11_textTold X11_textTold_g0 X11_textTold_f0
          rw [nnE (sh_640 a), s76, isWithin_wn, cI_some, z, if_neg (by decide), isWithin_wn, cI_some, z2, if_neg (by decide), nnE (sh_640 a), nnE (sh_69 a 0 (by decide)), ixE (ln_19 a 0 (by decide)) rfl (show t < 14 by omega) (by decide), r1, if_neg (Nat.succ_ne_zero T), if_neg (by decide), nnE rfl, r4]
        · unfold X12_textTold X12_textTold_g0 X12_textTold_f0
          rw [nnE (sh_704 a), ixE (ln_41 a) (show (8 : Int32) = nI 8 from rfl) (by decide) (by decide), t1, in_wnK hK0, cI_some, z, if_neg (by decide), in_wn2, cI_some, z2, if_neg (by decide), if_neg (by decide), x0, x1, nnE (sh_704 a), ixE (ln_41 a) rfl (show 394 + 2 * t < 1765 by omega) (by decide), q5]
