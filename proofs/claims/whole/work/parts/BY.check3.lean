def cpW : List Nat × List Nat × Bool := ([649, 754, 80, 515, 1536, 1920, 1984, 516, 521, 523, 524, 525, 526, 527, 2048, 2112, 2176, 2240, 2304, 2752, 731, 732, 733, 734, 737, 2624, 3264, 3328, 3392, 3456, 3584, 3648], [193, 513], false)
def cqW : List Nat × List Nat × Bool := ([649, 754, 80, 515, 1536, 1920, 1984, 516, 521, 523, 524, 525, 526, 527, 2048, 2112, 2176, 2240, 2304, 2752], [193, 513], false)
def cdW : List Nat × List Nat × Bool := ([80, 754, 2752, 731, 732, 733, 734, 737, 2624, 3264, 3328, 3392, 3456, 3584, 3648], [], false)
def ceW : List Nat × List Nat × Bool := ([754, 2752, 731, 732, 733, 734, 737, 2624, 3264, 3328, 3392, 3456, 3584, 3648], [], false)
theorem chV_nI {n X x y : Nat} (e : nI x = nI y) : chV n X x = chV n X y := by
  unfold chV
  rw [e]
theorem pair_check (m : Nat) (h : PH) (x1 : Int32) (hm : m < 64) (r : R m h) : Pr (R (m + 1)) (X11_check 0 x1) (X12_check 0 x1) h := by
  have r0 := r
  obtain ⟨a, q, q2, q3, q4, q5, q6, q7, q8, q9, q10⟩ := r
  obtain ⟨n, hn, w1, w2, w3⟩ := q7
  obtain ⟨im1, im2⟩ := q2
  generalize hh1 : pI h 649 0 0 0 = h1
  have f1 : Fr ([649], [], false) h h1 := by
    subst hh1
    exact Fr.rf.pI (by decide)
  have a1 : SH h1 := a.fr f1 (by decide)
  have o1 : ∀ c i j, c ≠ 649 → hI h1 c i j = hI h c i j := fun c i j hc => by
    subst hh1
    rw [hI_off _ hc]
  have z649 : hI h1 649 0 0 = 0 := by
    subst hh1
    rw [hI_pI, if_pos ⟨rfl, rfl, rfl⟩]
  -- refused
  have no : ∀ v, X11_check 0 x1 h = some (some (.inl v), h1) → (X12_check 0 x1 h1 = some (some (.inl v), pI h1 754 0 0 0)) → Pr (R (m + 1)) (X11_check 0 x1) (X12_check 0 x1) h := fun v e1 e2 => by
    have fA : Fr ([649, 754], [], false) h (pI h1 754 0 0 0) := (f1.sub (by decide)).pI (by decide)
    refine ⟨v, h1, _, e1, e2, r0.oth fA (by decide +kernel) (by decide +kernel) rfl (q4.fr a fA (by decide)) (q5.fr a fA (by decide)) (q6.fr a fA (by decide)) ⟨0, by omega, ?_, ?_, fun j hj => by omega⟩⟩
    · rw [hI_off _ (by decide), z649]
      rfl
    · rw [hI_pI, if_pos ⟨rfl, rfl, rfl⟩]
      rfl
  have n754 : hI h1 754 0 0 = nI n := by rw [o1 _ _ _ (by decide), w2]
  by_cases d1 : x1 < 1
  · refine no (-1000000001) ?_ (X12_check_iff.mpr ⟨0, ?_⟩)
    · unfold X11_check X11_check_g0 X11_check_f0
      rw [wr_eq, hh1, if_pos d1]
    · unfold X12_check_g0 X12_check_f0
      rw [wr_eq, X12_in_eq, cI_some, if_pos d1, if_pos rfl]
  by_cases d2 : 30 < x1
  · refine no (-1000000001) ?_ (X12_check_iff.mpr ⟨0, ?_⟩)
    · unfold X11_check X11_check_g0 X11_check_f0
      rw [wr_eq, hh1, if_neg d1, if_pos d2]
    · unfold X12_check_g0 X12_check_f0
      rw [wr_eq, X12_in_eq, cI_some, if_neg d1, if_pos d2, if_pos rfl]
  rcases im2 with c | ⟨c, qi⟩
  · refine no (-1000000002) ?_ (X12_check_iff.mpr ⟨0, ?_⟩)
    · unfold X11_check X11_check_g0 X11_check_f0
      rw [wr_eq, hh1, if_neg d1, if_neg d2, o1 642 0 0 (by decide), im1, c, if_pos rfl]
    · unfold X12_check_g0 X12_check_f0
      rw [wr_eq, X12_in_eq, cI_some, if_neg d1, if_neg d2, if_neg (by decide), hI_off _ (by decide), o1 707 0 0 (by decide), c, if_pos rfl]
  have c642 : ¬ hI h1 642 0 0 = 0 := by
    rw [o1 642 0 0 (by decide), im1, c]
    decide
  have qi1 : Hs h1 1 (hI h 2688 0) := qi.fr f1 (by decide +kernel) (by decide +kernel)
  have n42 : ∀ y, SH y → 0 < hN y 42 := fun y ay => ay.nl (k := 42) (n := 1765) (by decide +kernel)
  obtain ⟨Z, hZ, h12, hZn, hZi, h72⟩ := qi1.places
  obtain ⟨K, hK, h10, hKn, hKi, h74⟩ := qi1.goals
  have c707 : ∀ y, hI y 707 0 0 = hI h 707 0 0 → ¬ hI y 707 0 0 = 0 := fun y e => by
    rw [e, c]
    decide
  by_cases d3 : Z = 0
  · subst d3
    refine no (-1000000002) ?_ (X12_check_iff.mpr ⟨0, ?_⟩)
    · unfold X11_check X11_check_g0 X11_check_f0
      rw [wr_eq, hh1, if_neg d1, if_neg d2, if_neg c642, nnE (sh_641 a1), h72, if_pos (show nI 0 = 0 from rfl)]
    · have b1 : SH (pI h1 754 0 0 0) := a1
      unfold X12_check_g0 X12_check_f0
      rw [wr_eq, X12_in_eq, cI_some, if_neg d1, if_neg d2, if_neg (by decide), if_neg (c707 _ (by rw [hI_off _ (by decide), o1 707 0 0 (by decide)])), nnE (sh_705 b1), ixE (x := 3) (j := 3) (ln_42 b1) rfl (by decide) (by decide), hI_off _ (by decide), o1 2688 0 3 (by decide), hZ, if_pos (show nI 0 = 0 from rfl)]
  have d3' : ¬ nI Z = 0 := fun z => d3 ((nI_eq (b := 0) (by omega) (by omega)).mp z)
  by_cases d4 : K = 0
  · subst d4
    refine no (-1000000002) ?_ (X12_check_iff.mpr ⟨0, ?_⟩)
    · unfold X11_check X11_check_g0 X11_check_f0
      rw [wr_eq, hh1, if_neg d1, if_neg d2, if_neg c642, nnE (sh_641 a1), h72, if_neg d3', nnE (sh_641 a1), h74, if_pos (show nI 0 = 0 from rfl)]
    · have b1 : SH (pI h1 754 0 0 0) := a1
      unfold X12_check_g0 X12_check_f0
      rw [wr_eq, X12_in_eq, cI_some, if_neg d1, if_neg d2, if_neg (by decide), if_neg (c707 _ (by rw [hI_off _ (by decide), o1 707 0 0 (by decide)])), nnE (sh_705 b1), ixE (x := 3) (j := 3) (ln_42 b1) rfl (by decide) (by decide), hI_off _ (by decide), o1 2688 0 3 (by decide), hZ, if_neg d3', nnE (sh_705 b1), ixE (x := 5) (j := 5) (ln_42 b1) rfl (by decide) (by decide), hI_off _ (by decide), o1 2688 0 5 (by decide), hK, if_pos (show nI 0 = 0 from rfl)]
  have d4' : ¬ nI K = 0 := fun z => d4 ((nI_eq (b := 0) (by omega) (by omega)).mp z)
  have d0 : ¬ x1 < 0 := fun z => d1 (by rw [i_lt, i0] at z; rw [i_lt, i1]; omega)
  obtain ⟨X, hX31, rfl⟩ := nI_of d0
  have hX : X ≤ 30 := by
    rw [i_lt, nI_toInt hX31, show (30 : Int32).toInt = 30 by decide] at d2
    omega
  obtain ⟨h3, e3, f3, en3⟩ := enterBoth_eq qi1 (fun i hi => (o1 192 i 0 (by decide)).trans (q8 i hi).1)
  have q3i := qi1.fr f3 (by decide +kernel) (by decide +kernel)
  have a3 := q3i.1
  have wc : ∀ i, i < 2 → ∃ cc, cc ≤ 1000 * m ∧ WcE h3 i cc := fun i hi => by
    obtain ⟨-, cc, u1, u2, u3⟩ := q8 i hi
    exact ⟨cc, u1, ((show WcE h i cc from ⟨u2, u3⟩).fr a hi f1 (by decide) (by decide)).fr a1 hi f3 (by decide) (by decide)⟩
  obtain ⟨c0, k0, w0⟩ := wc 0 (by decide)
  obtain ⟨c1, k1, w1'⟩ := wc 1 (by decide)
  have wcs : ∀ i, i < 2 → WcE h3 i (if i = 0 then c0 else c1) := fun i hi => by
    have : i = 0 ∨ i = 1 := by omega
    rcases this with rfl | rfl
    · exact w0
    · exact w1'
  have wcb : ∀ i, i < 2 → (if i = 0 then c0 else c1) + X < 2 ^ 31 := fun i hi => by split <;> omega
  have run := fun (N : Nat → Int32) (qN : Hs h3 1 N) (eN : EnE h3 1 N) (hp : 0 < nt (N 3)) (hg : 0 < nt (N 5)) => right_loop check_step (h0 := h3) (N0 := N) a3 hX hn X 0 0 h3 N (fun i => if i = 0 then c0 else c1) (by omega) rfl qN eN hp hg wcs wcb (fun _ => rfl) Fr.rf (fun _ _ => rfl)
  have hpN : 0 < nt (hI h 2688 0 3) := by omega
  have hgN : 0 < nt (hI h 2688 0 5) := by omega
  obtain ⟨z, h4, M, y1, y2, y3, y4, y5, y6⟩ := run (hI h 2688 0) q3i en3 hpN hgN
  have a4 := y2.1
  generalize hv : chF stN stR n (hI h3 2560 0) X 0 (hI h 2688 0) = v at y1
  have eR : X11_rightNumbers 0 (nI X) (nI n) h3 = some (some (.inl (nI v)), h4) := X11_rightNumbers_iff.mpr ⟨z, y1⟩
  generalize hh5 : pI h4 80 1 0 (hI h 2688 0 0) = h5
  have f5 : Fr ([80], [], false) h4 h5 := by
    subst hh5
    exact Fr.rf.pI (by decide)
  have q5' : Hs h5 1 (hI h 2688 0) := by
    subst hh5
    have s5 := y2.seed (hI h 2688 0 0)
    have e : updF M 0 (hI h 2688 0 0) = hI h 2688 0 := funext fun j => by
      by_cases cj : j = 0
      · subst cj
        exact if_pos rfl
      · exact (if_neg cj).trans (y3 j cj)
    rw [e] at s5
    exact s5
  have a5 := q5'.1
  have e80 : hI h1 80 1 0 = hI h 2688 0 0 := qi1.2.2.1.1.2.2.2.2.2.2.2.2
  have cls : X11_check 0 (nI X) h = some (some (.inl (chV n X v)), h5) := by
    unfold X11_check X11_check_g0 X11_check_f0
    rw [wr_eq, hh1, if_neg d1, if_neg d2, if_neg c642, nnE (sh_641 a1), h72, if_neg d3', nnE (sh_641 a1), h74, if_neg d4', nnE (sh_641 a1), sh_641 a1, show X11_enterBoth 0 2 h1 = _ from e3, cV_some, w1, eR, cI_some, nnE (sh_641 a4), wr_eq, e80, hh5]
    exact chV_eq X n (nI v) h5
  generalize hh6 : pI h5 754 0 0 0 = h6
  have f6 : Fr ([754], [], false) h5 h6 := by
    subst hh6
    exact Fr.rf.pI (by decide)
  have a6 : SH h6 := a5.fr f6 (by decide)
  have z754 : hI h6 754 0 0 = 0 := by
    subst hh6
    rw [hI_pI, if_pos ⟨rfl, rfl, rfl⟩]
  obtain ⟨h7, e7, f7, v7⟩ := copy_41_43 a6
  have a7 : SH h7 := a6.fr f7 (by decide)
  obtain ⟨h8, e8, f8, v8⟩ := copy_42_41 a7
  have a8 : SH h8 := a7.fr f8 (by decide)
  have fC4 : Fr cqW h h4 := ((f1.sub (by decide)).tr (f3.sub (by decide))).tr (y6.sub (by decide))
  have fC5 : Fr cqW h h5 := fC4.tr (f5.sub (by decide))
  have f06 : Fr cqW h h6 := fC5.tr (f6.sub (by decide))
  have f07 : Fr cqW h h7 := f06.tr (f7.sub (by decide))
  have f08 : Fr cpW h h8 := (f07.sub (by decide)).tr (f8.sub (by decide))
  have eN : ∀ j, j < 1765 → hI h8 2624 0 j = hI h 2688 0 j := fun j hj => by
    rw [v8 j hj, f07.1 2688 0 j (by decide) (n42 h a)]
  obtain ⟨h3', e3', f3', en3'⟩ := enterBoth_eq (qi1.congN eN) (fun i hi => (o1 192 i 0 (by decide)).trans (q8 i hi).1)
  have e33 : h3' = h3 := by
    have t := e3'.symm.trans e3
    exact (Prod.mk.inj (Option.some.inj t)).2
  subst e33
  have hp8 : 0 < nt (hI h8 2624 0 3) := by
    rw [eN 3 (by omega)]
    exact hpN
  have hg8 : 0 < nt (hI h8 2624 0 5) := by
    rw [eN 5 (by omega)]
    exact hgN
  have q38 := q3i.congN eN
  obtain ⟨z2, h4', M2, u1, -⟩ := run (hI h8 2624 0) q38 en3' hp8 hg8
  have hch : chF stA stR n (hI h8 4480 0) X 0 (hI h8 2624 0) = chF stN stR n (hI h3' 2560 0) X 0 (hI h8 2624 0) := by
    refine chF_ag (Re := ReS) ReS.step (fun j hj => ?_) X 0 _ _ ⟨⟨_, q38⟩, ⟨_, q38⟩, AgS.rf, rfl, hg8⟩
    rw [f08.1 4480 0 j (by decide) (a.nl (k := 70) (n := 60) (by decide +kernel)), f3.1 2560 0 j (by decide) (a1.nl (k := 40) (n := 60) (by decide +kernel)), f1.1 2560 0 j (by decide) (a.nl (k := 40) (n := 60) (by decide +kernel)), w3 j hj]
  obtain ⟨z9, h9, m1, m2, m3⟩ := check_loop (model_step 1) (h0 := h8) a8 hX hn X 0 0 h8 (hI h8 2624 0) (by omega) rfl a8 rfl ⟨_, q38⟩ hp8 hg8 Fr.rf
  rw [hch] at m1
  generalize chF stN stR n (hI h3' 2560 0) X 0 (hI h8 2624 0) = v2 at u1 m1
  have eR2 : X11_rightNumbers 0 (nI X) (nI n) h3' = some (some (.inl (nI v2)), h4') := X11_rightNumbers_iff.mpr ⟨z2, u1⟩
  have hvv : nI v2 = nI v := by
    have t := (Prod.mk.inj (Option.some.inj (eR2.symm.trans eR))).1
    exact Sum.inl.inj (Option.some.inj t)
  rw [chV_nI hvv] at m1
  have a9 : SH h9 := a8.fr m2 (by decide)
  have fA : Fr cpW h h9 := f08.tr (m2.sub (by decide))
  have fM : Fr ceW h5 h9 := (((f6.sub (by decide)).tr (f7.sub (by decide))).tr (f8.sub (by decide))).tr (m2.sub (by decide))
  have fD : Fr cdW h4 h9 := (f5.sub (by decide)).tr (fM.sub (by decide))
  have mdl : X12_check 0 (nI X) h5 = some (some (.inl (chV n X v)), h9) := by
    refine X12_check_iff.mpr ⟨z9, ?_⟩
    have n754' : hI h5 754 0 0 = nI n := by rw [f5.1 754 0 0 (by decide) a4.n11, y6.1 754 0 0 (by decide) (q3i.1).n11, f3.1 754 0 0 (by decide) a1.n11, n754]
    have c707' : ¬ hI h6 707 0 0 = 0 := c707 _ (f06.1 707 0 0 (by decide) a.n11)
    unfold X12_check_g0 X12_check_f0
    rw [wr_eq, hh6, X12_in_eq, cI_some, if_neg d1, if_neg d2, if_neg (by decide), if_neg c707', nnE (sh_705 a6), ixE (x := 3) (j := 3) (ln_42 a6) rfl (by decide) (by decide), f06.1 2688 0 3 (by decide) (n42 h a), hZ, if_neg d3', nnE (sh_705 a6), ixE (x := 5) (j := 5) (ln_42 a6) rfl (by decide) (by decide), f06.1 2688 0 5 (by decide) (n42 h a), hK, if_neg d4', sh_704 a6, sh_706 a6, e7, cV_some, sh_705 a7, sh_704 a7, e8, cV_some, n754']
    exact m1
  have v9 : ∀ j, j < 1765 → hI h9 2624 0 j = hI h 2624 0 j := fun j hj => by
    rw [m3 j hj, f8.1 2752 0 j (by decide) (a7.nl (k := 43) (n := 1765) (by decide +kernel)), v7 j hj, f06.1 2624 0 j (by decide) (a.nl (k := 41) (n := 1765) (by decide +kernel))]
  have v98 : hI h9 2688 0 = hI h 2688 0 := funext fun j => fA.1 2688 0 j (by decide) (n42 h a)
  have sm : Same h h5 0 hsCols := fun c hc i j hi hb => by
    by_cases c8 : c = 80
    · subst c8
      have hi0 : i = 0 := hb.2.2 ⟨by decide, by decide, by decide⟩
      subst hi0
      have e5 : hI h5 80 0 j = hI h4 80 0 j := by
        subst hh5
        rw [hI_pI, if_neg (fun z => absurd z.2.1 (by decide))]
      rw [e5, y5, f3.1 80 0 j (by decide) (a1.b1 (by decide)), f1.1 80 0 j (by decide) (a.b1 (by decide))]
    · have e9 : ∀ c ∈ hsCols, c ≠ 80 → cqW.1.contains c = false := by decide +kernel
      exact fC5.1 c i j (e9 c hc c8) hi
  have hvR : hsRefs.all (fun c => !cqW.2.1.contains c) = true := by decide +kernel
  have p0 : Hs h5 0 (hI h 2624 0) := q.same a5 sm fC5.2.2.2.1 (fun c i j hc hi _ => fC5.2.1 c i j (ninW hvR (List.mem_append_right _ hc)) hi) fC5.2.2.1
  have p0' := (p0.fr fM (by decide +kernel) (by decide +kernel)).congN v9
  have p1' := q5'.fr fM (by decide +kernel) (by decide +kernel)
  have c642' : hI h9 642 0 0 = hI h 642 0 0 := fA.1 642 0 0 (by decide) (a.k1 (k := 10) (n := 1) (by decide +kernel) (by decide))
  have c707' : hI h9 707 0 0 = hI h 707 0 0 := fA.1 707 0 0 (by decide) a.n11
  refine ⟨chV n X v, h5, h9, cls, mdl, a9, p0', ⟨by rw [c642', c707']; exact im1, Or.inr ⟨by rw [c707']; exact c, by rw [v98]; exact p1'⟩⟩, ?_, q4.fr a fA (by decide +kernel), q5.fr a fA (by decide +kernel), q6.fr a fA (by decide +kernel), ⟨0, by omega, ?_, ?_, fun j hj => by omega⟩, fun i hi => ?_, q9.fr a fA (by decide +kernel), (q10.fr fA rfl).mono⟩
  · rw [v9 6 (by omega)]
    exact q3.fr a fA (by decide +kernel)
  · rw [fM.1 649 0 0 (by decide) (a5.k1 (k := 10) (n := 1) (by decide +kernel) (by decide)), f5.1 649 0 0 (by decide) (a4.k1 (k := 10) (n := 1) (by decide +kernel) (by decide)), y6.1 649 0 0 (by decide) (a3.k1 (k := 10) (n := 1) (by decide +kernel) (by decide)), f3.1 649 0 0 (by decide) (a1.k1 (k := 10) (n := 1) (by decide +kernel) (by decide)), z649]
    rfl
  · rw [m2.1 754 0 0 (by decide) a8.n11, f8.1 754 0 0 (by decide) a7.n11, f7.1 754 0 0 (by decide) a6.n11, z754]
    rfl
  · obtain ⟨c', x1, x2⟩ := y4 i hi
    have x2 := x2.fr a4 hi fD (by decide) (by decide)
    have x1 : c' ≤ (if i = 0 then c0 else c1) + X := x1
    have : (if i = 0 then c0 else c1) ≤ 1000 * m := by split <;> omega
    exact ⟨(fA.1 192 i 0 (by decide) (a.n3 hi)).trans (q8 i hi).1, c', by omega, x2.1, x2.2⟩
