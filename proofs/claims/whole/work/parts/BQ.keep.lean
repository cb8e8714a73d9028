/-! rows copied whole; pairs: keep, back -/
theorem copy_41_42 {h0 : PH} (a0 : SH h0) : ∃ h', X12_copyAll_41_42 1 1 h0 = some (none, h') ∧ Fr ([2688], [], false) h0 h' ∧ ∀ j, j < 1765 → hI h' 2688 0 j = hI h0 2624 0 j := by
  have key : ∀ k j h, j + k = 1765 → Fr ([2688], [], false) h0 h → (∀ i, i < j → hI h 2688 0 i = hI h0 2624 0 i) → ∃ n h', X12_copyAll_41_42_fam n 1 1 (nI j) h = some (none, h') ∧ Fr ([2688], [], false) h0 h' ∧ ∀ i, i < 1765 → hI h' 2688 0 i = hI h0 2624 0 i := by
    intro k
    induction k with
    | zero =>
      intro j h e f v
      refine ⟨1, h, ?_, f, fun i hi => v i (by omega)⟩
      show X12_copyAll_41_42_g2 (X12_copyAll_41_42_fam 0) 1 1 (nI j) h = _
      unfold X12_copyAll_41_42_g2 X12_copyAll_41_42_f2
      rw [if_neg (show ¬ nI j < 1765 from nI_nlt (b := 1765) (by omega) (by omega))]
    | succ k ih =>
      intro j h e f v
      have a : SH h := a0.fr f (by decide)
      have e1 : hI h 2624 0 j = hI h0 2624 0 j := f.1 2624 0 j (by decide) (a0.nl (k := 41) (n := 1765) (by decide +kernel))
      obtain ⟨n, h', y1, y2⟩ := ih (j + 1) (pI h 2688 0 j (hI h 2624 0 j)) (by omega) (f.pI (by decide)) (fun i hi => by
        rw [hI_pI]
        by_cases c : i = j
        · subst c
          rw [if_pos ⟨rfl, rfl, rfl⟩, e1]
        · rw [if_neg (fun z => c z.2.2)]
          exact v i (by omega))
      refine ⟨n + 1, h', ?_, y2⟩
      show X12_copyAll_41_42_g2 (X12_copyAll_41_42_fam n) 1 1 (nI j) h = _
      unfold X12_copyAll_41_42_g2 X12_copyAll_41_42_f2
      rw [if_pos (show nI j < 1765 from nI_lt (b := 1765) (by omega) (by decide)), nnE rfl, ixE (ln_41 a) rfl (show j < 1765 by omega) (by decide), nnE rfl, ixE (ln_42 a) rfl (show j < 1765 by omega) (by decide), wr_eq, nI_1]
      exact y1
  obtain ⟨n, h', y1, y2, y3⟩ := key 1765 0 h0 (by omega) Fr.rf (fun i hi => by omega)
  exact ⟨h', X12_copyAll_41_42_iff.mpr ⟨n, y1⟩, y2, y3⟩
theorem copy_42_41 {h0 : PH} (a0 : SH h0) : ∃ h', X12_copyAll_42_41 1 1 h0 = some (none, h') ∧ Fr ([2624], [], false) h0 h' ∧ ∀ j, j < 1765 → hI h' 2624 0 j = hI h0 2688 0 j := by
  have key : ∀ k j h, j + k = 1765 → Fr ([2624], [], false) h0 h → (∀ i, i < j → hI h 2624 0 i = hI h0 2688 0 i) → ∃ n h', X12_copyAll_42_41_fam n 1 1 (nI j) h = some (none, h') ∧ Fr ([2624], [], false) h0 h' ∧ ∀ i, i < 1765 → hI h' 2624 0 i = hI h0 2688 0 i := by
    intro k
    induction k with
    | zero =>
      intro j h e f v
      refine ⟨1, h, ?_, f, fun i hi => v i (by omega)⟩
      show X12_copyAll_42_41_g2 (X12_copyAll_42_41_fam 0) 1 1 (nI j) h = _
      unfold X12_copyAll_42_41_g2 X12_copyAll_42_41_f2
      rw [if_neg (show ¬ nI j < 1765 from nI_nlt (b := 1765) (by omega) (by omega))]
    | succ k ih =>
      intro j h e f v
      have a : SH h := a0.fr f (by decide)
      have e1 : hI h 2688 0 j = hI h0 2688 0 j := f.1 2688 0 j (by decide) (a0.nl (k := 42) (n := 1765) (by decide +kernel))
      obtain ⟨n, h', y1, y2⟩ := ih (j + 1) (pI h 2624 0 j (hI h 2688 0 j)) (by omega) (f.pI (by decide)) (fun i hi => by
        rw [hI_pI]
        by_cases c : i = j
        · subst c
          rw [if_pos ⟨rfl, rfl, rfl⟩, e1]
        · rw [if_neg (fun z => c z.2.2)]
          exact v i (by omega))
      refine ⟨n + 1, h', ?_, y2⟩
      show X12_copyAll_42_41_g2 (X12_copyAll_42_41_fam n) 1 1 (nI j) h = _
      unfold X12_copyAll_42_41_g2 X12_copyAll_42_41_f2
      rw [if_pos (show nI j < 1765 from nI_lt (b := 1765) (by omega) (by decide)), nnE rfl, ixE (ln_42 a) rfl (show j < 1765 by omega) (by decide), nnE rfl, ixE (ln_41 a) rfl (show j < 1765 by omega) (by decide), wr_eq, nI_1]
      exact y1
  obtain ⟨n, h', y1, y2, y3⟩ := key 1765 0 h0 (by omega) Fr.rf (fun i hi => by omega)
  exact ⟨h', X12_copyAll_42_41_iff.mpr ⟨n, y1⟩, y2, y3⟩
theorem copy_41_43 {h0 : PH} (a0 : SH h0) : ∃ h', X12_copyAll_41_43 1 1 h0 = some (none, h') ∧ Fr ([2752], [], false) h0 h' ∧ ∀ j, j < 1765 → hI h' 2752 0 j = hI h0 2624 0 j := by
  have key : ∀ k j h, j + k = 1765 → Fr ([2752], [], false) h0 h → (∀ i, i < j → hI h 2752 0 i = hI h0 2624 0 i) → ∃ n h', X12_copyAll_41_43_fam n 1 1 (nI j) h = some (none, h') ∧ Fr ([2752], [], false) h0 h' ∧ ∀ i, i < 1765 → hI h' 2752 0 i = hI h0 2624 0 i := by
    intro k
    induction k with
    | zero =>
      intro j h e f v
      refine ⟨1, h, ?_, f, fun i hi => v i (by omega)⟩
      show X12_copyAll_41_43_g2 (X12_copyAll_41_43_fam 0) 1 1 (nI j) h = _
      unfold X12_copyAll_41_43_g2 X12_copyAll_41_43_f2
      rw [if_neg (show ¬ nI j < 1765 from nI_nlt (b := 1765) (by omega) (by omega))]
    | succ k ih =>
      intro j h e f v
      have a : SH h := a0.fr f (by decide)
      have e1 : hI h 2624 0 j = hI h0 2624 0 j := f.1 2624 0 j (by decide) (a0.nl (k := 41) (n := 1765) (by decide +kernel))
      obtain ⟨n, h', y1, y2⟩ := ih (j + 1) (pI h 2752 0 j (hI h 2624 0 j)) (by omega) (f.pI (by decide)) (fun i hi => by
        rw [hI_pI]
        by_cases c : i = j
        · subst c
          rw [if_pos ⟨rfl, rfl, rfl⟩, e1]
        · rw [if_neg (fun z => c z.2.2)]
          exact v i (by omega))
      refine ⟨n + 1, h', ?_, y2⟩
      show X12_copyAll_41_43_g2 (X12_copyAll_41_43_fam n) 1 1 (nI j) h = _
      unfold X12_copyAll_41_43_g2 X12_copyAll_41_43_f2
      rw [if_pos (show nI j < 1765 from nI_lt (b := 1765) (by omega) (by decide)), nnE rfl, ixE (ln_41 a) rfl (show j < 1765 by omega) (by decide), nnE rfl, ixE (ln_43 a) rfl (show j < 1765 by omega) (by decide), wr_eq, nI_1]
      exact y1
  obtain ⟨n, h', y1, y2, y3⟩ := key 1765 0 h0 (by omega) Fr.rf (fun i hi => by omega)
  exact ⟨h', X12_copyAll_41_43_iff.mpr ⟨n, y1⟩, y2, y3⟩
theorem copy_43_41 {h0 : PH} (a0 : SH h0) : ∃ h', X12_copyAll_43_41 1 1 h0 = some (none, h') ∧ Fr ([2624], [], false) h0 h' ∧ ∀ j, j < 1765 → hI h' 2624 0 j = hI h0 2752 0 j := by
  have key : ∀ k j h, j + k = 1765 → Fr ([2624], [], false) h0 h → (∀ i, i < j → hI h 2624 0 i = hI h0 2752 0 i) → ∃ n h', X12_copyAll_43_41_fam n 1 1 (nI j) h = some (none, h') ∧ Fr ([2624], [], false) h0 h' ∧ ∀ i, i < 1765 → hI h' 2624 0 i = hI h0 2752 0 i := by
    intro k
    induction k with
    | zero =>
      intro j h e f v
      refine ⟨1, h, ?_, f, fun i hi => v i (by omega)⟩
      show X12_copyAll_43_41_g2 (X12_copyAll_43_41_fam 0) 1 1 (nI j) h = _
      unfold X12_copyAll_43_41_g2 X12_copyAll_43_41_f2
      rw [if_neg (show ¬ nI j < 1765 from nI_nlt (b := 1765) (by omega) (by omega))]
    | succ k ih =>
      intro j h e f v
      have a : SH h := a0.fr f (by decide)
      have e1 : hI h 2752 0 j = hI h0 2752 0 j := f.1 2752 0 j (by decide) (a0.nl (k := 43) (n := 1765) (by decide +kernel))
      obtain ⟨n, h', y1, y2⟩ := ih (j + 1) (pI h 2624 0 j (hI h 2752 0 j)) (by omega) (f.pI (by decide)) (fun i hi => by
        rw [hI_pI]
        by_cases c : i = j
        · subst c
          rw [if_pos ⟨rfl, rfl, rfl⟩, e1]
        · rw [if_neg (fun z => c z.2.2)]
          exact v i (by omega))
      refine ⟨n + 1, h', ?_, y2⟩
      show X12_copyAll_43_41_g2 (X12_copyAll_43_41_fam n) 1 1 (nI j) h = _
      unfold X12_copyAll_43_41_g2 X12_copyAll_43_41_f2
      rw [if_pos (show nI j < 1765 from nI_lt (b := 1765) (by omega) (by decide)), nnE rfl, ixE (ln_43 a) rfl (show j < 1765 by omega) (by decide), nnE rfl, ixE (ln_41 a) rfl (show j < 1765 by omega) (by decide), wr_eq, nI_1]
      exact y1
  obtain ⟨n, h', y1, y2, y3⟩ := key 1765 0 h0 (by omega) Fr.rf (fun i hi => by omega)
  exact ⟨h', X12_copyAll_43_41_iff.mpr ⟨n, y1⟩, y2, y3⟩
theorem Hs.congN {h : PH} {b : Nat} {N N' : Nat → Int32} (q : Hs h b N) (e : ∀ j, j < 1765 → N' j = N j) : Hs h b N' := by
  obtain ⟨a, hb, ⟨q1, q2, q3, q4, q5, q6⟩, t⟩ := q
  have q2' : HRange N' := q2.of (fun j hj => e j (by omega))
  refine ⟨a, hb, ⟨?_, q2', q3.cong a hb q2.2.1.2 (e 4 (by omega)) (fun j _ h2 => e j (by omega)) (by rw [e 3 (by omega)]; omega) Same.rf, q4.cong a hb q2.2.2.1.2 (e 5 (by omega)) (fun j _ h2 => e j (by omega)) (by rw [e 3 (by omega)]; omega) Same.rf, q5.cong a hb q2.2.2.2.1.2 (e 6 (by omega)) (fun j _ h2 => e j (by omega)) (by rw [e 3 (by omega)]; omega) Same.rf, q6.cong a hb q2.2.2.2.2.2.1.2 (e 7 (by omega)) (fun j _ h2 => e j (by omega)) (by rw [e 3 (by omega)]; omega) Same.rf⟩, t.cong a hb (e 8 (by omega)) (fun j _ h2 => e j (by omega)) Same.rf (fun _ => Nat.le_refl _) (fun _ _ _ _ _ _ => rfl) (fun _ _ _ => rfl)⟩
  unfold HScal at q1 ⊢
  rw [e 0 (by omega), e 1 (by omega), e 2 (by omega), e 3 (by omega), e 4 (by omega), e 5 (by omega), e 6 (by omega), e 7 (by omega), e 8 (by omega)]
  exact q1
def kpW : List Nat × List Nat × Bool := ([72, 73, 74, 75, 76, 77, 78, 79, 80, 320, 321, 322, 323, 324, 576, 577, 578, 579, 580, 581, 960, 1024, 1088, 1280, 1344, 1728, 1792, 642, 707, 2688, 2624, 2, 709], [1216], false)
def kqW : List Nat × List Nat × Bool := ([72, 73, 74, 75, 76, 77, 78, 79, 80, 320, 321, 322, 323, 324, 576, 577, 578, 579, 580, 581, 960, 1024, 1088, 1280, 1344, 1728, 1792, 642, 707, 2688], [1216], false)
theorem trR {h h' : PH} {s : Nat} (f : Fr X1_becomeLike_W h h') (hr : ∀ j, hR h' 1216 s j = hR h 1216 s j) : ∀ c i j, c ∈ trRefs → i < hN h (c / 64) → (c = 1216 → i = s) → hR h' c i j = hR h c i j := fun c i j hc hi hcs => by
  have hc' : c = 1216 ∨ c = 450 ∨ c = 451 := by
    unfold trRefs at hc
    simpa using hc
  rcases hc' with rfl | rfl | rfl
  · rw [hcs rfl]
    exact hr j
  · exact f.2.1 450 i j (by decide) hi
  · exact f.2.1 451 i j (by decide) hi
theorem pair_keep (m : Nat) (h : PH) (_ : m < 64) (r : R m h) : Pr (R (m + 1)) (X11_keep 0) (X12_keep 0) h := by
  obtain ⟨a, q, q2, q3, q4, q5, q6, q7, q8, q9, q10⟩ := r
  obtain ⟨h1, e1, f1, l1, s1, r1⟩ := becomeLike_eq q (d := 1) (by decide) (by decide)
  have a1 : SH h1 := a.fr f1 (by decide +kernel)
  have p0 : Hs h1 0 (hI h 2624 0) := q.same a1 s1 f1.2.2.2.1 (trR f1 r1) f1.2.2.1
  have p1 : Hs h1 1 (hI h 2624 0) := q.like (by decide) a1 f1 l1
  generalize hh2 : pI h1 642 0 0 1 = h2
  have f2 : Fr ([642], [], false) h1 h2 := by
    subst hh2
    exact Fr.rf.pI (by decide)
  have a2 : SH h2 := a1.fr f2 (by decide)
  have n2 : hI h2 2624 0 = hI h 2624 0 := (now_fr a1 f2 (by decide)).trans (now_fr a f1 (by decide))
  have e642 : hI h2 642 0 0 = 1 := by
    subst hh2
    rw [hI_pI, if_pos ⟨rfl, rfl, rfl⟩]
  obtain ⟨h3, e3, f3, v3⟩ := copy_41_42 a2
  have a3 : SH h3 := a2.fr f3 (by decide)
  generalize hh4 : pI h3 707 0 0 1 = h4
  have f4 : Fr ([707], [], false) h3 h4 := by
    subst hh4
    exact Fr.rf.pI (by decide)
  have a4 : SH h4 := a3.fr f4 (by decide)
  have fM : Fr ([642, 2688, 707], [], false) h1 h4 := ((f2.sub (by decide)).tr (f3.sub (by decide))).tr (f4.sub (by decide))
  have n4 : hI h4 2624 0 = hI h 2624 0 := (now_fr a1 fM (by decide)).trans (now_fr a f1 (by decide))
  have fA : Fr kpW h h4 := (f1.sub (by decide)).tr (fM.sub (by decide))
  have fC : Fr kqW h h4 := (f1.sub (by decide)).tr (fM.sub (by decide))
  have p0' := p0.fr fM (by decide +kernel) (by decide +kernel)
  have p1' := p1.fr fM (by decide +kernel) (by decide +kernel)
  have v4 : ∀ j, j < 1765 → hI h4 2688 0 j = hI h 2624 0 j := fun j hj => by
    rw [f4.1 2688 0 j (by decide) (a3.nl (k := 42) (n := 1765) (by decide +kernel)), v3 j hj, n2]
  have c642 : hI h4 642 0 0 = 1 := by
    rw [f4.1 642 0 0 (by decide) (a3.k1 (k := 10) (n := 1) (by decide +kernel) (by decide)), f3.1 642 0 0 (by decide) (a2.k1 (k := 10) (n := 1) (by decide +kernel) (by decide)), e642]
  have c707 : hI h4 707 0 0 = 1 := by
    subst hh4
    rw [hI_pI, if_pos ⟨rfl, rfl, rfl⟩]
  refine ⟨hI h 2624 0 6, h2, h4, ?_, ?_, a4, by rw [n4]; exact p0', ⟨by rw [c642, c707], Or.inr ⟨c707, p1'.congN v4⟩⟩, by rw [n4]; exact q3.fr a fC (by decide +kernel), q4.fr a fA (by decide +kernel), q5.fr a fA (by decide +kernel), q6.fr a fA (by decide +kernel), q7.fr a fA (by decide +kernel), (q8.fr a fA (by decide +kernel)).mono, q9.fr a fA (by decide +kernel), (q10.fr fA rfl).mono⟩
  · unfold X11_keep X11_keep_g0 X11_keep_f0
    have e75 : hI h2 75 0 0 = hI h 2624 0 6 := by
      rw [f2.1 75 0 0 (by decide) (a1.b1 (by decide))]
      exact p0.2.2.1.1.2.2.2.1
    rw [nnE (sh_641 a), sh_640 a, show X1_becomeLike 1 1 h = _ from e1, cV_some, bz_ok (Or.inr rfl), wr_eq, hh2, nnE (sh_640 a2), e75]
  · unfold X12_keep X12_keep_g0 X12_keep_f0
    rw [sh_704 a2, sh_705 a2, e3, cV_some, bz_ok (Or.inr rfl), wr_eq, hh4, nnE (sh_704 a4), ixE (x := 6) (j := 6) (ln_41 a4) rfl (by decide) (by decide), n4]
theorem pair_back (m : Nat) (h : PH) (_ : m < 64) (r : R m h) : Pr (R (m + 1)) (X11_back 0) (X12_back 0) h := by
  have r0 := r
  obtain ⟨a, q, q2, q3, q4, q5, q6, q7, q8, q9, q10⟩ := r
  obtain ⟨i1, i2⟩ := q2
  rcases i2 with c | ⟨c, qi⟩
  · refine r0.same (v := -1000000002) ?_ ?_
    · unfold X11_back X11_back_g0 X11_back_f0
      rw [i1, c, if_pos rfl]
    · unfold X12_back X12_back_g0 X12_back_f0
      rw [c, if_pos rfl]
  obtain ⟨h1, e1, f1, l1, s1, r1⟩ := becomeLike_eq qi (d := 0) (by decide) (by decide)
  have a1 : SH h1 := a.fr f1 (by decide +kernel)
  have p1 : Hs h1 1 (hI h 2688 0) := qi.same a1 s1 f1.2.2.2.1 (trR f1 r1) f1.2.2.1
  have p0 : Hs h1 0 (hI h 2688 0) := qi.like (by decide) a1 f1 l1
  generalize hh2 : pI h1 2 0 0 0 = h2
  have f2 : Fr ([2], [], false) h1 h2 := by
    subst hh2
    exact Fr.rf.pI (by decide)
  have a2 : SH h2 := a1.fr f2 (by decide)
  have n42 : ∀ y, SH y → 0 < hN y 42 := fun y ay => ay.nl (k := 42) (n := 1765) (by decide +kernel)
  have n2 : ∀ j, hI h2 2688 0 j = hI h 2688 0 j := fun j => by
    rw [f2.1 2688 0 j (by decide) (n42 h1 a1), f1.1 2688 0 j (by decide) (n42 h a)]
  obtain ⟨h3, e3, f3, v3⟩ := copy_42_41 a2
  have a3 : SH h3 := a2.fr f3 (by decide)
  generalize hh4 : pI h3 709 0 0 0 = h4
  have f4 : Fr ([709], [], false) h3 h4 := by
    subst hh4
    exact Fr.rf.pI (by decide)
  have a4 : SH h4 := a3.fr f4 (by decide)
  have fM : Fr ([2, 2624, 709], [], false) h1 h4 := ((f2.sub (by decide)).tr (f3.sub (by decide))).tr (f4.sub (by decide))
  have fA : Fr kpW h h4 := (f1.sub (by decide)).tr (fM.sub (by decide))
  have p0' := p0.fr fM (by decide +kernel) (by decide +kernel)
  have p1' := p1.fr fM (by decide +kernel) (by decide +kernel)
  have v4 : ∀ j, j < 1765 → hI h4 2624 0 j = hI h 2688 0 j := fun j hj => by
    rw [f4.1 2624 0 j (by decide) (a3.nl (k := 41) (n := 1765) (by decide +kernel)), v3 j hj, n2]
  have v8 : hI h4 2688 0 = hI h 2688 0 := funext fun j => by
    rw [fM.1 2688 0 j (by decide) (n42 h1 a1), f1.1 2688 0 j (by decide) (n42 h a)]
  have n10 : ∀ y, SH y → 0 < hN y 10 := fun y ay => ay.k1 (k := 10) (n := 1) (by decide +kernel) (by decide)
  have c642 : hI h4 642 0 0 = hI h 642 0 0 := by rw [fM.1 642 0 0 (by decide) (n10 h1 a1), f1.1 642 0 0 (by decide) (n10 h a)]
  have c707 : hI h4 707 0 0 = hI h 707 0 0 := by rw [fM.1 707 0 0 (by decide) a1.n11, f1.1 707 0 0 (by decide) a.n11]
  have n0 : ∀ y, SH y → 0 < hN y 0 := fun y ay => ay.k1 (k := 0) (n := 1) (by decide +kernel) (by decide)
  obtain ⟨n, l, k1, k2, k3, k4, k5, k6⟩ := q3
  have cC : Chg h4 (nt (hI h4 2624 0 6)) := by
    refine ⟨0, l, by omega, k2, ?_, ?_, ?_, fun k hk => by omega⟩
    · rw [f4.1 2 0 0 (by decide) (n0 h3 a3), f3.1 2 0 0 (by decide) (n0 h2 a2)]
      subst hh2
      rw [hI_pI, if_pos ⟨rfl, rfl, rfl⟩]
      rfl
    · subst hh4
      rw [hI_pI, if_pos ⟨rfl, rfl, rfl⟩]
      rfl
    · rw [fM.1 1 0 0 (by decide) (n0 h1 a1), f1.1 1 0 0 (by decide) (n0 h a), k5]
  refine ⟨hI h 2688 0 6, h2, h4, ?_, ?_, a4, p0'.congN v4, ⟨by rw [c642, c707]; exact i1, Or.inr ⟨by rw [c707]; exact c, by rw [v8]; exact p1'⟩⟩, cC, q4.fr a fA (by decide +kernel), q5.fr a fA (by decide +kernel), q6.fr a fA (by decide +kernel), q7.fr a fA (by decide +kernel), (q8.fr a fA (by decide +kernel)).mono, q9.fr a fA (by decide +kernel), (q10.fr fA rfl).mono⟩
  · have e75 : hI h2 75 0 0 = hI h 2688 0 6 := by
      rw [f2.1 75 0 0 (by decide) (a1.b1 (by decide))]
      exact p0.2.2.1.1.2.2.2.1
    unfold X11_back X11_back_g0 X11_back_f0
    rw [i1, c, if_neg (by decide), nnE (sh_640 a), sh_641 a, show X1_becomeLike 0 2 h = _ from e1, cV_some, nnE (sh_644 a1)]
    unfold X0_forget X0_forget_g0 X0_forget_f0
    rw [wr_eq, hh2, cV_some, nnE (sh_640 a2), e75]
  · have c7 : hI h2 707 0 0 = 1 := by
      rw [f2.1 707 0 0 (by decide) a1.n11, f1.1 707 0 0 (by decide) a.n11, c]
    unfold X12_back X12_back_g0 X12_back_f0
    rw [c7, if_neg (by decide), sh_704 a2, sh_705 a2, e3, cV_some, wr_eq, hh4, nnE (sh_704 a4), ixE (x := 6) (j := 6) (ln_41 a4) rfl (by decide) (by decide), v4 6 (by decide)]
