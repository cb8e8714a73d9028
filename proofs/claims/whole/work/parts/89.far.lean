/-! far and next -/
theorem wn_cases {x : Int32} {K : Nat} (hK : K < 2 ^ 31) : wn x (nI K) = 0 ∨ (wn x (nI K) = 1 ∧ ∃ p, p < K ∧ x = nI p) := by
  unfold wn
  by_cases c : x < 0
  · exact Or.inl (if_pos c)
  · rw [if_neg c]
    by_cases d : x < nI K
    · rw [if_pos d]
      refine Or.inr ⟨rfl, nt x, ?_, nI_nt ?_⟩
      · rw [i_lt, nI_toInt hK] at d
        rw [i_lt, i0] at c
        unfold nt
        omega
      · rw [i_lt, i0] at c
        omega
    · exact Or.inl (if_neg d)
theorem wheels_wn (x : Int32) (h : PH) : X12_areWheels x h = some (some (.inl (wn x 2)), h) := by
  unfold X12_areWheels X12_areWheels_g0 X12_areWheels_f0
  rw [in_inn, cI_some, show (1 : Int32) = 2 - 1 by decide, inn_wn (by decide), bz_ok (wn_01 _ _)]
theorem isPlace_wn {h g : PH} {b : Nat} (a : SH h) (q : Hs g b (hI h 2624 0)) (x : Int32) : X12_isPlace 0 x h = some (some (.inl (wn x (hI h 2624 0 3))), h) := by
  obtain ⟨K, hK, h12, hKn, hKi, -⟩ := q.places
  rw [X12_isPlace_eq a, inn_wn (by rw [hKi]; omega)]
theorem isGoal_wn {h g : PH} {b : Nat} (a : SH h) (q : Hs g b (hI h 2624 0)) (x : Int32) : X12_isGoal 0 x h = some (some (.inl (wn x (hI h 2624 0 5))), h) := by
  obtain ⟨K, hK, h12, hKn, hKi, -⟩ := q.goals
  rw [X12_isGoal_eq a, inn_wn (by rw [hKi]; omega)]
theorem isSign_wn {h g : PH} {b : Nat} (a : SH h) (q : Hs g b (hI h 2624 0)) (x : Int32) : X12_isSign 0 x h = some (some (.inl (wn x (hI h 2624 0 6))), h) := by
  obtain ⟨K, hK, h12, hKn, hKi, -⟩ := q.signs
  rw [X12_isSign_eq a, inn_wn (by rw [hKi]; omega)]
/-- a trip is one for both, or for none -/
theorem trip_cases {h : PH} {N : Nat → Int32} (q : Hs h 0 N) (hN : hI h 2624 0 = N) (x1 x2 x3 : Int32) : (X11_isTrip 0 x1 x2 x3 h = some (some (.inl 0), h) ∧ (wn x1 (N 3) = 0 ∨ wn x2 (N 5) = 0 ∨ wn x3 2 = 0)) ∨ (X11_isTrip 0 x1 x2 x3 h = some (some (.inl 1), h) ∧ wn x1 (N 3) = 1 ∧ wn x2 (N 5) = 1 ∧ wn x3 2 = 1 ∧ ∃ p g i, p < nt (N 3) ∧ g < nt (N 5) ∧ i < 2 ∧ x1 = nI p ∧ x2 = nI g ∧ x3 = nI i) := by
  obtain ⟨K, hK, h12, hKn, hKi, hK1⟩ := q.places
  obtain ⟨L, hL, h10, hLn, hLi, hL1⟩ := q.goals
  have a := q.1
  unfold X11_isTrip X11_isTrip_g0 X11_isTrip_f0
  rw [nnE (sh_640 a), X1_hasPlace_eq, cI_some, hK1, hK]
  rcases wn_cases (x := x1) (K := K) (by omega) with e1 | ⟨e1, p, hp, rfl⟩
  · rw [e1, if_pos rfl]
    exact Or.inl ⟨rfl, Or.inl rfl⟩
  · rw [e1, if_neg (by decide), nnE (sh_640 a), X1_hasGoal_eq, cI_some, hL1, hL]
    rcases wn_cases (x := x2) (K := L) (by omega) with e2 | ⟨e2, g, hg, rfl⟩
    · rw [e2, if_pos rfl]
      exact Or.inl ⟨rfl, Or.inr (Or.inl rfl)⟩
    · rw [e2, if_neg (by decide), isWithin_wn, cI_some]
      rcases wn_cases (x := x3) (K := 2) (by decide) with e3 | ⟨e3, i, hi, rfl⟩
      · have e3' : wn x3 2 = 0 := e3
        rw [e3', if_pos rfl]
        exact Or.inl ⟨rfl, Or.inr (Or.inr rfl)⟩
      · have e3' : wn (nI i) 2 = 1 := e3
        rw [e3', if_neg (by decide)]
        exact Or.inr ⟨rfl, rfl, rfl, rfl, p, g, i, by rw [nt_nI (by omega)]; exact hp, by rw [nt_nI (by omega)]; exact hg, hi, rfl, rfl, rfl⟩
theorem roadsFor_eq {h : PH} {N : Nat → Int32} (q : Hs h 0 N) {i : Nat} (hi : i < 2) {x : Int32} (hx : hI h 192 i 0 = x) : ∃ h', X11_roadsFor 0 (nI i) h = some (some (.inr (3, i + 1)), h') ∧ Fr X4_survey_W h h' ∧ RdE h' i 0 N (fun v => passB N v x) := by
  have a := q.1
  obtain ⟨h', e, f, r, p⟩ := X4_survey_eq q hi hx
  refine ⟨h', ?_, f, q.fr f (by decide +kernel) (by decide +kernel), hi, r, p⟩
  unfold X11_roadsFor X11_roadsFor_g0 X11_roadsFor_f0
  rw [nnE (sh_643 a), ixE (ln_37 a) rfl hi (by decide), nnE (sh_2368 a i hi), nnE (sh_512 a i hi), sh_640 a, e, cV_some, sh_512 a i hi]
theorem X12_trip {h g : PH} {b : Nat} (a : SH h) (q : Hs g b (hI h 2624 0)) {x1 x2 x3 : Int32} (hz : wn x1 (hI h 2624 0 3) = 0 ∨ wn x2 (hI h 2624 0 5) = 0 ∨ wn x3 2 = 0) : X12_far 0 x1 x2 x3 h = some (some (.inl (-1000000001)), h) ∧ X12_next 0 x1 x2 x3 h = some (some (.inl (-1000000001)), h) := by
  unfold X12_far X12_far_g0 X12_far_f0 X12_next X12_next_g0 X12_next_f0
  rw [isPlace_wn a q, cI_some, cI_some]
  rcases wn_01 x1 (hI h 2624 0 3) with e | e
  · rw [e, if_pos rfl, if_pos rfl]
    exact ⟨rfl, rfl⟩
  · rw [e, if_neg (by decide), if_neg (by decide), isGoal_wn a q, cI_some, cI_some]
    rcases wn_01 x2 (hI h 2624 0 5) with e2 | e2
    · rw [e2, if_pos rfl, if_pos rfl]
      exact ⟨rfl, rfl⟩
    · rw [e2, if_neg (by decide), if_neg (by decide), wheels_wn, cI_some, cI_some]
      have e3 : wn x3 2 = 0 := by
        rcases hz with c | c | c
        · rw [e] at c; cases c
        · rw [e2] at c; cases c
        · exact c
      rw [e3, if_pos rfl, if_pos rfl]
      exact ⟨rfl, rfl⟩
theorem X12_way_out {h g : PH} {b : Nat} (a : SH h) (q : Hs g b (hI h 2624 0)) {gl : Nat} (hg : gl < nt (hI h 2624 0 5)) (x : Int32) : ∃ h1 h2, X12_looks 0 x h = some (none, h1) ∧ X12_findAway 0 (nI gl) h1 = some (none, h2) ∧ AwE h2 (hI h 2624 0) (fun v => passB (hI h 2624 0) v x) ∧ LdE h2 (fewM (hI h 2624 0) (fun v => passB (hI h 2624 0) v x) (gP (hI h 2624 0) gl)) ∧ Fr X12_looks_W h h1 ∧ Fr awW h1 h2 ∧ (∀ v, v < nt (hI h 2624 0 6) → hI h2 3456 0 v = b2 (readB (hI h 2624 0) x v)) := by
  obtain ⟨h1, e1, f1, p1, p2⟩ := X12_looks_eq a q x
  have a1 : AwE h1 (hI h 2624 0) (fun v => passB (hI h 2624 0) v x) := ⟨a.fr f1 (by decide +kernel), now_fr a f1 (by decide), p1⟩
  obtain ⟨h2, e2, p3, f2⟩ := X12_findAway_eq a1 q hg
  exact ⟨h1, h2, e1, e2, a1.fr f2 (by decide) (by decide) (by decide), p3, f1, f2, fun v hv => (f2.1 3456 0 v (by decide) a1.1.n54).trans (p2 v hv)⟩
theorem pair_far (m : Nat) (h : PH) (x1 x2 x3 : Int32) (_ : m < 64) (r : R m h) : Pr (R (m + 1)) (X11_far 0 x1 x2 x3) (X12_far 0 x1 x2 x3) h := by
  have r0 := r
  obtain ⟨a, q, -, -, -, -, -, -, q8, -⟩ := r
  rcases trip_cases q rfl x1 x2 x3 with ⟨e, z⟩ | ⟨e, z1, z2, z3, p, g, i, hp, hg, hi, rfl, rfl, rfl⟩
  · refine ⟨-1000000001, h, h, ?_, (X12_trip a q z).1, r0.mono⟩
    unfold X11_far X11_far_g0 X11_far_f0
    rw [e, cI_some, if_pos rfl]
  · have n12 := q.n12
    obtain ⟨g1, g2, -, -, -, g6⟩ := q.goal hg
    obtain ⟨h1, e1, f1, d1⟩ := roadsFor_eq q hi (q8 i hi).1
    obtain ⟨h2, e2, l2, f2, -⟩ := X4_measure_eq d1 hg
    have d2 := d1.fr f2 (by decide +kernel) (by decide +kernel)
    have fA : Fr ([1536, 1920, 1600], [193], false) h h2 := (f1.sub (by decide)).tr (f2.sub (by decide))
    have hN2 : hI h2 2624 0 = hI h 2624 0 := now_fr a fA (by decide)
    have q2 : Hs h2 0 (hI h2 2624 0) := by rw [hN2]; exact d2.1
    obtain ⟨h3, h4, e3, e4, aw, ld, f3, f4, -⟩ := X12_way_out q2.1 q2 (gl := g) (by rw [hN2]; exact hg) (nI i)
    rw [hN2] at aw ld
    have a4 := aw.1
    have fB : Fr ([3264, 3328, 3392, 3456, 3520], [], false) h2 h4 := (f3.sub (by decide)).tr (f4.sub (by decide))
    have hz := fewM_le (hI h 2624 0) (fun v => passB (hI h 2624 0) v (nI i)) (gP (hI h 2624 0) g) p
    have hr4 : R (m + 1) h4 := r0.keep (W := ([1536, 1920, 1600, 3264, 3328, 3392, 3456, 3520], [193], false)) ((fA.sub (by decide)).tr (fB.sub (by decide))) (by decide +kernel) (by decide +kernel) rfl (fun w => (w.fr a ((fA.sub (by decide)).tr (fB.sub (by decide)) : Fr ([1536, 1920, 1600, 3264, 3328, 3392, 3456, 3520], [193], false) h h4) (by decide)).mono)
    have ec : X11_far 0 (nI p) (nI g) (nI i) h = if nI (fewM (hI h 2624 0) (fun v => passB (hI h 2624 0) v (nI i)) (gP (hI h 2624 0) g) p) < 1000000 then some (some (.inl (nI (fewM (hI h 2624 0) (fun v => passB (hI h 2624 0) v (nI i)) (gP (hI h 2624 0) g) p))), h2) else some (some (.inl (-1000000005)), h2) := by
      unfold X11_far X11_far_g0 X11_far_f0
      rw [e, cI_some, if_neg (by decide), e1, cR_some, nnE rfl, e2, cV_some, nnE rfl, minutesFrom_eq d2.1.1 hi g6 (by omega), cI_some, l2 p (by omega)]
    have em : X12_far 0 (nI p) (nI g) (nI i) h2 = if nI (fewM (hI h 2624 0) (fun v => passB (hI h 2624 0) v (nI i)) (gP (hI h 2624 0) g) p) < 1000000 then some (some (.inl (nI (fewM (hI h 2624 0) (fun v => passB (hI h 2624 0) v (nI i)) (gP (hI h 2624 0) g) p))), h4) else some (some (.inl (-1000000005)), h4) := by
      unfold X12_far X12_far_g0 X12_far_f0
      rw [isPlace_wn q2.1 q2, cI_some, hN2, z1, if_neg (by decide), isGoal_wn q2.1 q2, cI_some, hN2, z2, if_neg (by decide), wheels_wn, cI_some, z3, if_neg (by decide), e3, cV_some, e4, cV_some, nnE (sh_730 a4), ixE (ln_55 a4) rfl (show p < 12 by omega) (by decide), ld p (by omega), nnE (sh_730 a4), ixE (ln_55 a4) rfl (show p < 12 by omega) (by decide), ld p (by omega)]
    by_cases c : nI (fewM (hI h 2624 0) (fun v => passB (hI h 2624 0) v (nI i)) (gP (hI h 2624 0) g) p) < 1000000
    · rw [if_pos c] at ec em
      exact ⟨_, h2, h4, ec, em, hr4⟩
    · rw [if_neg c] at ec em
      exact ⟨_, h2, h4, ec, em, hr4⟩
def orV : Option Nat → Int32
  | none => -1000000005
  | some w => nI w
theorem orNone_oI {o : Option Nat} (ho : ∀ w, o = some w → w < 2 ^ 31) (h : PH) : X11_orNone (oI o) h = some (some (.inl (orV o)), h) := by
  unfold X11_orNone X11_orNone_g0 X11_orNone_f0
  cases o with
  | none => rfl
  | some w =>
    rw [if_neg (fun e => by have := (oI_m1 ho).mp e; cases this)]
    rfl
theorem pair_next (m : Nat) (h : PH) (x1 x2 x3 : Int32) (_ : m < 64) (r : R m h) : Pr (R (m + 1)) (X11_next 0 x1 x2 x3) (X12_next 0 x1 x2 x3) h := by
  have r0 := r
  obtain ⟨a, q, -, -, -, -, -, -, q8, -⟩ := r
  rcases trip_cases q rfl x1 x2 x3 with ⟨e, z⟩ | ⟨e, z1, z2, z3, p, g, i, hp, hg, hi, rfl, rfl, rfl⟩
  · refine ⟨-1000000001, h, h, ?_, (X12_trip a q z).2, r0.mono⟩
    unfold X11_next X11_next_g0 X11_next_f0
    rw [e, cI_some, if_pos rfl]
  · have n12 := q.n12
    obtain ⟨g1, g2, -, -, -, g6⟩ := q.goal hg
    obtain ⟨h1, e1, f1, d1⟩ := roadsFor_eq q hi (q8 i hi).1
    obtain ⟨h2, e2, l2, f2, -⟩ := X4_measure_eq d1 hg
    have d2 := d1.fr f2 (by decide +kernel) (by decide +kernel)
    have fA : Fr ([1536, 1920, 1600], [193], false) h h2 := (f1.sub (by decide)).tr (f2.sub (by decide))
    have hN2 : hI h2 2624 0 = hI h 2624 0 := now_fr a fA (by decide)
    have q2 : Hs h2 0 (hI h2 2624 0) := by rw [hN2]; exact d2.1
    obtain ⟨h3, h4, e3, e4, aw, ld, f3, f4, -⟩ := X12_way_out q2.1 q2 (gl := g) (by rw [hN2]; exact hg) (nI i)
    rw [hN2] at aw ld
    have a4 := aw.1
    have fB : Fr ([3264, 3328, 3392, 3456, 3520], [], false) h2 h4 := (f3.sub (by decide)).tr (f4.sub (by decide))
    have hz := fewM_le (hI h 2624 0) (fun v => passB (hI h 2624 0) v (nI i)) (gP (hI h 2624 0) g)
    have hr4 : R (m + 1) h4 := r0.keep (W := ([1536, 1920, 1600, 3264, 3328, 3392, 3456, 3520], [193], false)) ((fA.sub (by decide)).tr (fB.sub (by decide))) (by decide +kernel) (by decide +kernel) rfl (fun w => (w.fr a ((fA.sub (by decide)).tr (fB.sub (by decide)) : Fr ([1536, 1920, 1600, 3264, 3328, 3392, 3456, 3520], [193], false) h h4) (by decide)).mono)
    have lt8 : ∀ w, headO (hI h 2624 0) (fun v => passB (hI h 2624 0) v (nI i)) (fewM (hI h 2624 0) (fun v => passB (hI h 2624 0) v (nI i)) (gP (hI h 2624 0) g)) p = some w → w < 2 ^ 31 := fun w hw => by
      have := headO_lt hw
      omega
    refine ⟨orV (headO (hI h 2624 0) (fun v => passB (hI h 2624 0) v (nI i)) (fewM (hI h 2624 0) (fun v => passB (hI h 2624 0) v (nI i)) (gP (hI h 2624 0) g)) p), h2, h4, ?_, ?_, hr4⟩
    · unfold X11_next X11_next_g0 X11_next_f0
      rw [e, cI_some, if_neg (by decide), e1, cR_some, nnE rfl, e2, cV_some, nnE rfl, X4_heading_eq d2 g6 l2 hz (show p < 12 by omega), cI_some, orNone_oI lt8, cI_some]
    · unfold X12_next X12_next_g0 X12_next_f0
      rw [isPlace_wn q2.1 q2, cI_some, hN2, z1, if_neg (by decide), isGoal_wn q2.1 q2, cI_some, hN2, z2, if_neg (by decide), wheels_wn, cI_some, z3, if_neg (by decide), e3, cV_some, e4, cV_some, X12_nextFrom_eq aw d2.1 ld hz (show p < 12 by omega), cI_some]
      cases c : headO (hI h 2624 0) (fun v => passB (hI h 2624 0) v (nI i)) (fewM (hI h 2624 0) (fun v => passB (hI h 2624 0) v (nI i)) (gP (hI h 2624 0) g)) p with
      | none => rfl
      | some w =>
        rw [if_neg (fun z => by have := (oI_neg (fun v hv => lt8 v (c.trans hv))).mp z; cases this)]
        rfl
