def cpW : List Nat × List Nat × Bool := ([649, 754, 80, 515, 1536, 1920, 1984, 516, 521, 523, 524, 525, 526, 527, 2048, 2112, 2176, 2240, 2304, 2752, 731, 732, 733, 734, 737, 2624, 3264, 3328, 3392, 3456, 3584, 3648], [193, 513], false)
theorem pair_check (m : Nat) (h : PH) (x1 : Int32) (hm : m < 64) (r : R m h) : Pr (R (m + 1)) (X11_check 0 x1) (X12_check 0 x1) h := by
  have r0 := r
  obtain ⟨a, q, q2, q3, q4, q5, q6, q7, q8, q9, q10⟩ := r
  obtain ⟨n, hn, w1, w2, w3⟩ := q7
  obtain ⟨i1, i2⟩ := q2
  generalize hh1 : pI h 649 0 0 0 = h1
  have f1 : Fr ([649], [], false) h h1 := by
    subst hh1
    exact Fr.rf.pI (by decide)
  have a1 : SH h1 := a.fr f1 (by decide)
  have o1 : ∀ c i j, c ≠ 649 → hI h1 c i j = hI h c i j := fun c i j hc => by
    subst hh1
    rw [hI_off _ hc]
  have z649 : hI h1 649 0 0 = 0 := by
    subst hh1
    rw [hI_pI, if_pos ⟨rfl, rfl, rfl⟩]
  -- refused
  have no : ∀ v, X11_check 0 x1 h = some (some (.inl v), h1) → (X12_check 0 x1 h1 = some (some (.inl v), pI h1 754 0 0 0)) → Pr (R (m + 1)) (X11_check 0 x1) (X12_check 0 x1) h := fun v e1 e2 => by
    have fA : Fr ([649, 754], [], false) h (pI h1 754 0 0 0) := (f1.sub (by decide)).pI (by decide)
    refine ⟨v, h1, _, e1, e2, r0.oth fA (by decide +kernel) (by decide +kernel) rfl (q4.fr a fA (by decide)) (q5.fr a fA (by decide)) (q6.fr a fA (by decide)) ⟨0, by omega, ?_, ?_, fun j hj => by omega⟩⟩
    · rw [hI_off _ (by decide), z649]
      rfl
    · rw [hI_pI, if_pos ⟨rfl, rfl, rfl⟩]
      rfl
  have n754 : hI h1 754 0 0 = nI n := by rw [o1 _ _ _ (by decide), w2]
  by_cases d1 : x1 < 1
  · refine no (-1000000001) ?_ (X12_check_iff.mpr ⟨0, ?_⟩)
    · unfold X11_check X11_check_g0 X11_check_f0
      rw [wr_eq, hh1, if_pos d1]
    · unfold X12_check_g0 X12_check_f0
      rw [wr_eq, X12_in_eq, cI_some, if_pos d1, if_pos rfl]
  by_cases d2 : 30 < x1
  · refine no (-1000000001) ?_ (X12_check_iff.mpr ⟨0, ?_⟩)
    · unfold X11_check X11_check_g0 X11_check_f0
      rw [wr_eq, hh1, if_neg d1, if_pos d2]
    · unfold X12_check_g0 X12_check_f0
      rw [wr_eq, X12_in_eq, cI_some, if_neg d1, if_pos d2, if_pos rfl]
  rcases i2 with c | ⟨c, qi⟩
  · refine no (-1000000002) ?_ (X12_check_iff.mpr ⟨0, ?_⟩)
    · unfold X11_check X11_check_g0 X11_check_f0
      rw [wr_eq, hh1, if_neg d1, if_neg d2, o1 642 0 0 (by decide), i1, c, if_pos rfl]
    · unfold X12_check_g0 X12_check_f0
      rw [wr_eq, X12_in_eq, cI_some, if_neg d1, if_neg d2, if_neg (by decide), hI_off _ (by decide), o1 707 0 0 (by decide), c, if_pos rfl]
  have c642 : ¬ hI h1 642 0 0 = 0 := by
    rw [o1 642 0 0 (by decide), i1, c]
    decide
  have qi1 : Hs h1 1 (hI h 2688 0) := qi.fr f1 (by decide +kernel) (by decide +kernel)
  have n42 : ∀ y, SH y → 0 < hN y 42 := fun y ay => ay.nl (k := 42) (n := 1765) (by decide +kernel)
  obtain ⟨Z, hZ, h12, hZn, hZi, h72⟩ := qi1.places
  obtain ⟨K, hK, h10, hKn, hKi, h74⟩ := qi1.goals
  have c707 : ∀ y, hI y 707 0 0 = hI h 707 0 0 → ¬ hI y 707 0 0 = 0 := fun y e => by
    rw [e, c]
    decide
  by_cases d3 : Z = 0
  · subst d3
    refine no (-1000000002) ?_ (X12_check_iff.mpr ⟨0, ?_⟩)
    · unfold X11_check X11_check_g0 X11_check_f0
      rw [wr_eq, hh1, if_neg d1, if_neg d2, if_neg c642, nnE (sh_641 a1), h72, if_pos (show nI 0 = 0 from rfl)]
    · have b1 : SH (pI h1 754 0 0 0) := a1
      unfold X12_check_g0 X12_check_f0
      rw [wr_eq, X12_in_eq, cI_some, if_neg d1, if_neg d2, if_neg (by decide), if_neg (c707 _ (by rw [hI_off _ (by decide), o1 707 0 0 (by decide)])), nnE (sh_705 b1), ixE (x := 3) (j := 3) (ln_42 b1) rfl (by decide) (by decide), hI_off _ (by decide), o1 2688 0 3 (by decide), hZ, if_pos (show nI 0 = 0 from rfl)]
  have d3' : ¬ nI Z = 0 := fun z => d3 ((nI_eq (b := 0) (by omega) (by omega)).mp z)
  by_cases d4 : K = 0
  · subst d4
    refine no (-1000000002) ?_ (X12_check_iff.mpr ⟨0, ?_⟩)
    · unfold X11_check X11_check_g0 X11_check_f0
      rw [wr_eq, hh1, if_neg d1, if_neg d2, if_neg c642, nnE (sh_641 a1), h72, if_neg d3', nnE (sh_641 a1), h74, if_pos (show nI 0 = 0 from rfl)]
    · have b1 : SH (pI h1 754 0 0 0) := a1
      unfold X12_check_g0 X12_check_f0
      rw [wr_eq, X12_in_eq, cI_some, if_neg d1, if_neg d2, if_neg (by decide), if_neg (c707 _ (by rw [hI_off _ (by decide), o1 707 0 0 (by decide)])), nnE (sh_705 b1), ixE (x := 3) (j := 3) (ln_42 b1) rfl (by decide) (by decide), hI_off _ (by decide), o1 2688 0 3 (by decide), hZ, if_neg d3', nnE (sh_705 b1), ixE (x := 5) (j := 5) (ln_42 b1) rfl (by decide) (by decide), hI_off _ (by decide), o1 2688 0 5 (by decide), hK, if_pos (show nI 0 = 0 from rfl)]
  have d4' : ¬ nI K = 0 := fun z => d4 ((nI_eq (b := 0) (by omega) (by omega)).mp z)
  have d0 : ¬ x1 < 0 := fun z => d1 (by rw [i_lt, i0] at z; rw [i_lt, i1]; omega)
  obtain ⟨X, hX31, rfl⟩ := nI_of d0
  have hX : X ≤ 30 := by
    rw [i_lt, nI_toInt hX31, show (30 : Int32).toInt = 30 by decide] at d2
    omega
  obtain ⟨h3, e3, f3, en3⟩ := enterBoth_eq qi1 (fun i hi => (o1 192 i 0 (by decide)).trans (q8 i hi).1)
  have q3i := qi1.fr f3 (by decide +kernel) (by decide +kernel)
  have a3 := q3i.1
  have wc : ∀ i, i < 2 → ∃ cc, cc ≤ 1000 * m ∧ WcE h3 i cc := fun i hi => by
    obtain ⟨-, cc, u1, u2, u3⟩ := q8 i hi
    exact ⟨cc, u1, ((show WcE h i cc from ⟨u2, u3⟩).fr a hi f1 (by decide) (by decide)).fr a1 hi f3 (by decide) (by decide)⟩
  obtain ⟨c0, k0, w0⟩ := wc 0 (by decide)
  obtain ⟨c1, k1, w1'⟩ := wc 1 (by decide)
  have wcs : ∀ i, i < 2 → WcE h3 i (if i = 0 then c0 else c1) := fun i hi => by
    have : i = 0 ∨ i = 1 := by omega
    rcases this with rfl | rfl
    · exact w0
    · exact w1'
  have wcb : ∀ i, i < 2 → (if i = 0 then c0 else c1) + X < 2 ^ 31 := fun i hi => by split <;> omega
  have run := fun (N : Nat → Int32) (qN : Hs h3 1 N) (eN : EnE h3 1 N) (hp : 0 < nt (N 3)) (hg : 0 < nt (N 5)) => right_loop check_step (h0 := h3) (N0 := N) a3 hX hn X 0 0 h3 N (fun i => if i = 0 then c0 else c1) (by omega) rfl qN eN hp hg wcs wcb (fun _ => rfl) Fr.rf (fun _ _ => rfl)
  sorry
