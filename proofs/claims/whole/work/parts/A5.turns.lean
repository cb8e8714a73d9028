/-! pairs: hours, turns, shut -/
theorem HScal.of {h h2 : PH} {N N' : Nat → Int32} (q : HScal h 0 N) (a : SH h) (s : Same h h2 0 [72, 73, 74, 75, 76, 77, 78, 79, 80]) (e : ∀ j, j < 9 → N' j = N j) : HScal h2 0 N' := by
  have q' := q.cong a (by decide) s
  unfold HScal at q' ⊢
  rw [e 3 (by decide), e 4 (by decide), e 5 (by decide), e 6 (by decide), e 8 (by decide), e 7 (by decide), e 1 (by decide), e 2 (by decide), e 0 (by decide)]
  exact q'
theorem HRange.of {N N' : Nat → Int32} (q : HRange N) (e : ∀ j, j < 9 → N' j = N j) : HRange N' := by
  unfold HRange at q ⊢
  rw [e 3 (by decide), e 4 (by decide), e 5 (by decide), e 6 (by decide), e 8 (by decide), e 7 (by decide), e 1 (by decide), e 2 (by decide)]
  exact q
theorem pair_hours (m : Nat) (h : PH) (x : Int32) (_ : m < 64) (r : R m h) : Pr (R (m + 1)) (X11_hours 0 x) (X12_hours 0 x) h := by
  have r0 := r
  obtain ⟨a, q, -, q3, -⟩ := r
  obtain ⟨c1, c2, c3, c4, c5, c6, c7, c8, c9⟩ := q.2.2.1.1
  obtain ⟨g1, g2, g3, g4, g5, g6, g7, g8⟩ := q.2.2.1.2.1
  by_cases d1 : x < 1
  · exact r0.same (v := -1000000001) (by rw [X11_hours_eq a, if_pos d1]) (by rw [X12_hours_eq a, if_pos d1])
  by_cases d2 : 48 < x
  · exact r0.same (v := -1000000001) (by rw [X11_hours_eq a, if_neg d1, if_pos d2]) (by rw [X12_hours_eq a, if_neg d1, if_pos d2])
  by_cases d3 : 999 < hI h 2624 0 2 + (hI h 2624 0 1 + x) / 24
  · exact r0.same (v := -1000000003) (by rw [X11_hours_eq a, if_neg d1, if_neg d2, c7, c8, if_pos d3]) (by rw [X12_hours_eq a, if_neg d1, if_neg d2, if_pos d3])
  obtain ⟨H, hH, hH23⟩ := rg_nI (u := 23) g7
  obtain ⟨D, hD, hD999⟩ := rg_nI (u := 999) g8
  have e48 : (48 : Int32).toInt = 48 := by decide
  rw [i_lt, i1] at d1
  rw [i_lt, e48] at d2
  have hx : x = nI (nt x) := nI_nt (by omega)
  have hX : nt x ≤ 48 := by unfold nt; omega
  have ea : hI h 2624 0 1 + x = nI (H + nt x) := by
    rw [hH]
    conv => lhs; rw [hx]
    rw [nI_add]
  have ed : (hI h 2624 0 1 + x) / 24 = nI ((H + nt x) / 24) := by
    rw [ea, show (24 : Int32) = nI 24 from rfl, pk_div (by omega) (by decide) (by decide)]
  have er : jrem (hI h 2624 0 1 + x) 24 = nI ((H + nt x) % 24) := by
    unfold jrem
    rw [ea, show (24 : Int32) = nI 24 from rfl]
    exact pk_rem (by omega) (by decide) (by decide)
  have es : hI h 2624 0 2 + (hI h 2624 0 1 + x) / 24 = nI (D + (H + nt x) / 24) := by rw [ed, hD, nI_add]
  have d3' : D + (H + nt x) / 24 ≤ 999 := by
    rw [es, i_lt, nI_toInt (by omega), show (999 : Int32).toInt = 999 by decide] at d3
    omega
  generalize hh1 : pI (pI h 78 0 0 (nI ((H + nt x) % 24))) 79 0 0 (nI (D + (H + nt x) / 24)) = h1
  have a1 : SH h1 := by subst hh1; exact a
  have hN1 : hI h1 2624 0 = hI h 2624 0 := by
    subst hh1
    rw [off_now (by decide), off_now (by decide)]
  generalize hh2 : pI (pI h1 2624 0 2 (nI (D + (H + nt x) / 24))) 2624 0 1 (nI ((H + nt x) % 24)) = h2
  have f2 : Fr ([78, 79, 2624], [], false) h h2 := by
    subst hh2 hh1
    exact (((Fr.rf.pI (by decide)).pI (by decide)).pI (by decide)).pI (by decide)
  have hN2 : hI h2 2624 0 = updF (updF (hI h 2624 0) 2 (nI (D + (H + nt x) / 24))) 1 (nI ((H + nt x) % 24)) := by
    subst hh2
    rw [hI_upd, hI_upd, hN1]
  have s0 : Same h h2 0 noScal := by
    subst hh2 hh1
    exact (((Same.rf.pI (fun hc => absurd hc (by decide))).pI (fun hc => absurd hc (by decide))).pI (fun hc => absurd hc (by decide))).pI (fun hc => absurd hc (by decide))
  have up : ∀ j, j ≠ 1 → j ≠ 2 → updF (updF (hI h 2624 0) 2 (nI (D + (H + nt x) / 24))) 1 (nI ((H + nt x) % 24)) j = hI h 2624 0 j := fun j hj hj2 => (if_neg hj).trans (if_neg hj2)
  refine ⟨nI ((H + nt x) % 24), h1, h2, ?_, ?_, r0.put f2 (by decide +kernel) (by decide +kernel) rfl ?_ ?_ ?_ ?_⟩
  · rw [X11_hours_eq a, if_neg (by rw [i_lt, i1]; exact d1), if_neg (by rw [i_lt, e48]; exact d2), c7, c8, if_neg d3, er, es, hh1]
  · rw [X12_hours_eq a1, if_neg (by rw [i_lt, i1]; exact d1), if_neg (by rw [i_lt, e48]; exact d2), hN1, if_neg d3, er, es, hh2]
  · rw [hN2]
    refine q.2.2.1.scal a s0 (up 4 (by decide) (by decide)) (up 5 (by decide) (by decide)) (up 6 (by decide) (by decide)) (fun j hj => up j (by omega) (by omega)) (by rw [up 3 (by decide) (by decide)]; omega) (by rw [up 7 (by decide) (by decide)]; omega) ?_ ⟨g1, g2, g3, g4, g5, g6, ⟨?_, ?_⟩, ?_, ?_⟩
    · subst hh2 hh1
      refine ⟨?_, ?_, ?_, ?_, ?_, ?_, ?_, ?_, ?_⟩ <;> rw [hI_off _ (by decide), hI_off _ (by decide)]
      case refine_7 => rw [hI_off _ (by decide), hI_pI, if_pos ⟨rfl, rfl, rfl⟩]; rfl
      case refine_8 => rw [hI_pI, if_pos ⟨rfl, rfl, rfl⟩]; rfl
      all_goals rw [hI_off _ (by decide), hI_off _ (by decide)]; assumption
    · show (0 : Int) ≤ (nI ((H + nt x) % 24)).toInt
      rw [nI_toInt (by omega)]; omega
    · show (nI ((H + nt x) % 24)).toInt ≤ 23
      rw [nI_toInt (by omega)]; omega
    · show (0 : Int) ≤ (nI (D + (H + nt x) / 24)).toInt
      rw [nI_toInt (by omega)]; omega
    · show (nI (D + (H + nt x) / 24)).toInt ≤ 999
      rw [nI_toInt (by omega)]; omega
  · rw [hN2]
    exact q.2.2.2.scal a (by decide) f2 (by decide) (s0.sub (by decide)) (up 8 (by decide) (by decide)) (fun j h1 _ => up j (by omega) (by omega))
  · subst hh2 hh1
    exact (((Same.rf.pI (fun _ z => absurd (z.2.2 (by decide)) (by decide))).pI (fun _ z => absurd (z.2.2 (by decide)) (by decide))).pI (fun hc => absurd hc (by decide))).pI (fun hc => absurd hc (by decide))
  · rw [hN2, up 6 (by decide) (by decide)]
    exact q3.fr a f2 (by decide)
/-! one sign -/
def SgOne (h : PH) (b : Nat) (N : Nat → Int32) (s : Nat) : Prop :=
  hI h 320 (14 * b + s) 0 = N (155 + 5 * s) ∧ hI h 321 (14 * b + s) 0 = N (156 + 5 * s) ∧ hI h 324 (14 * b + s) 0 = N (157 + 5 * s) ∧ hI h 323 (14 * b + s) 0 = N (158 + 5 * s) ∧
    hI h 322 (14 * b + s) 0 = (if N (156 + 5 * s) = 5 then N (159 + 5 * s) else -1000000005) ∧
    (0 ≤ (N (155 + 5 * s)).toInt ∧ (N (155 + 5 * s)).toInt < (N 3).toInt) ∧ rgI (N (156 + 5 * s)) 0 5 ∧ rgI (N (157 + 5 * s)) 0 6 ∧ rgI (N (158 + 5 * s)) 0 9999 ∧
    ∀ r : Nat, (r : Int) < (N (157 + 5 * s)).toInt → hI h 1728 (14 * b + s) r = N (225 + 12 * s + 2 * r) ∧ hI h 1792 (14 * b + s) r = N (226 + 12 * s + 2 * r) ∧ rgI (N (225 + 12 * s + 2 * r)) 0 13 ∧ rgI (N (226 + 12 * s + 2 * r)) 0 7
theorem HSigns.one {h : PH} {b : Nat} {N : Nat → Int32} (q : HSigns h b N) {s : Nat} (hs : (s : Int) < (N 6).toInt) : SgOne h b N s := q s hs
theorem SgOne.cong {h h' : PH} {b s : Nat} {N N' : Nat → Int32} (q : SgOne h b N s) (e : ∀ j, 155 + 5 * s ≤ j ∧ j < 160 + 5 * s ∨ 225 + 12 * s ≤ j ∧ j < 237 + 12 * s → N' j = N j) (h3 : (N 3).toInt ≤ (N' 3).toInt) (k : ∀ c, c ∈ signCs → ∀ j, hI h' c (14 * b + s) j = hI h c (14 * b + s) j) : SgOne h' b N' s := by
  obtain ⟨q1, q2, q3, q4, q5, q6, q7, q8, q9, q10⟩ := q
  unfold SgOne
  rw [e (155 + 5 * s) (by omega), e (156 + 5 * s) (by omega), e (157 + 5 * s) (by omega), e (158 + 5 * s) (by omega), e (159 + 5 * s) (by omega), k 320 (by decide), k 321 (by decide), k 322 (by decide), k 323 (by decide), k 324 (by decide)]
  refine ⟨q1, q2, q3, q4, q5, ⟨q6.1, by omega⟩, q7, q8, q9, fun r hr => ?_⟩
  obtain ⟨q8a, q8b⟩ := q8
  rw [e (225 + 12 * s + 2 * r) (by omega), e (226 + 12 * s + 2 * r) (by omega), k 1728 (by decide), k 1792 (by decide)]
  exact q10 r hr
def noSign : List Nat := wayCs ++ goalCs ++ [1344, 72, 73, 74, 75, 76, 77, 78, 79, 80] ++ trCols
/-- only signs change -/
theorem HRel.signs {h h2 : PH} {N N' : Nat → Int32} (q : HRel h 0 N) (a : SH h) (s : Same h h2 0 noSign) (e : ∀ j, j < 155 → N' j = N j) (hS : HSigns h2 0 N') : HRel h2 0 N' := by
  obtain ⟨q1, q2, q3, q4, q5, q6⟩ := q
  have h3 : (N 3).toInt ≤ (N' 3).toInt := by rw [e 3 (by decide)]; omega
  exact ⟨q1.of a (s.sub (by decide)) (fun j hj => e j (by omega)), q2.of (fun j hj => e j (by omega)), q3.cong a (by decide) q2.2.1.2 (e 4 (by decide)) (fun j _ h2 => e j (by omega)) h3 (s.sub (by decide)), q4.cong a (by decide) q2.2.2.1.2 (e 5 (by decide)) (fun j _ h2 => e j h2) h3 (s.sub (by decide)), hS, q6.cong a (by decide) q2.2.2.2.2.2.1.2 (e 7 (by decide)) (fun j _ h2 => e j (by omega)) h3 (s.sub (by decide))⟩
theorem notB1 {c i : Nat} (hc : c / 64 = 5 ∨ c / 64 = 27 ∨ c / 64 = 28) (hi : i < 14) : ¬ instB c 1 i := fun z => by
  have := z.2.1 hc
  omega
theorem notW1 {c i : Nat} (hc : c / 64 = 9) (hi : i < 20) : ¬ instB c 1 i := fun z => by
  have := z.1 hc
  omega
theorem pair_turns (m : Nat) (h : PH) (x1 x2 : Int32) (_ : m < 64) (r : R m h) : Pr (R (m + 1)) (X11_turns 0 x1 x2) (X12_turns 0 x1 x2) h := by
  have r0 := r
  obtain ⟨a, q, -, q3, -⟩ := r
  have s75 := q.2.2.1.1.2.2.2.1
  rcases sign_cases q x1 with z | ⟨z, s, hs, rfl⟩
  · refine r0.same (v := -1000000001) ?_ ?_
    · unfold X11_turns X11_turns_g0 X11_turns_f0
      rw [nnE (sh_640 a), X1_hasSign_eq, cI_some, s75, z, if_pos rfl]
    · unfold X12_turns X12_turns_g0 X12_turns_f0
      rw [isSign_wn a q, cI_some, z, if_pos rfl]
  · obtain ⟨e1, e2, e3, e4, e5, e6, -⟩ := q.sign hs
    obtain ⟨f1, f2, f3, f4, f5⟩ := q.signF hs
    rw [Nat.mul_zero, Nat.zero_add] at f2
    obtain ⟨S, hS, h14, hSn, hSi, -⟩ := q.signs
    have hsi : (s : Int) < (hI h 2624 0 6).toInt := by omega
    have o1 : ∀ z, SH z → hI z 2624 0 = hI h 2624 0 → X12_of5 0 (nI s) 1 z = some (some (.inl (hI h 2624 0 (156 + 5 * s))), z) := fun z az hz => of5_at (k := 1) az hz e6 (by decide) (by omega)
    rcases lit_cases (x := x2) (y := 5) (K := 5) rfl (by decide) with z2 | ⟨z2, k, hk, rfl⟩
    · refine r0.same (v := -1000000001) ?_ ?_
      · unfold X11_turns X11_turns_g0 X11_turns_f0
        rw [nnE (sh_640 a), X1_hasSign_eq, cI_some, s75, z, if_neg (by decide), isWithin_wn, cI_some, z2, if_pos rfl]
      · unfold X12_turns X12_turns_g0 X12_turns_f0
        rw [isSign_wn a q, cI_some, z, if_neg (by decide), in_wn5, cI_some, z2, if_pos rfl]
    · by_cases c5 : hI h 2624 0 (156 + 5 * s) = 5
      · refine r0.same (v := -1000000002) ?_ ?_
        · unfold X11_turns X11_turns_g0 X11_turns_f0
          rw [nnE (sh_640 a), X1_hasSign_eq, cI_some, s75, z, if_neg (by decide), isWithin_wn, cI_some, z2, if_neg (by decide), nnE (sh_640 a), nnE (sh_68 a 0 (by decide)), ixE (ln_18 a 0 (by decide)) rfl e6 (by decide), nnE (sh_1152_0 a s e6), f2, if_pos c5]
        · unfold X12_turns X12_turns_g0 X12_turns_f0
          rw [isSign_wn a q, cI_some, z, if_neg (by decide), in_wn5, cI_some, z2, if_neg (by decide), o1 h a rfl, cI_some, if_pos c5]
      · generalize hh1 : pI h 321 s 0 (nI k) = h1
        have a1 : SH h1 := by subst hh1; exact a
        have hN1 : hI h1 2624 0 = hI h 2624 0 := by
          subst hh1
          rw [off_now (by decide)]
        generalize hh2 : pI h1 2624 0 (156 + 5 * s) (nI k) = h2
        have f2' : Fr ([321, 2624], [], false) h h2 := by
          subst hh2 hh1
          exact (Fr.rf.pI (by decide)).pI (by decide)
        have hN2 : hI h2 2624 0 = updF (hI h 2624 0) (156 + 5 * s) (nI k) := by
          subst hh2
          rw [hI_upd, hN1]
        have s0 : Same h h2 0 noSign := by
          subst hh2 hh1
          exact (Same.rf.pI (fun hc => absurd hc (by decide))).pI (fun hc => absurd hc (by decide))
        have up : ∀ j, j ≠ 156 + 5 * s → updF (hI h 2624 0) (156 + 5 * s) (nI k) j = hI h 2624 0 j := fun j hj => if_neg hj
        have us : updF (hI h 2624 0) (156 + 5 * s) (nI k) (156 + 5 * s) = nI k := if_pos rfl
        have kk : (nI k).toInt = k := nI_toInt (by omega)
        have x0 : (155 : Int32) + 5 * nI s + 1 = nI (156 + 5 * s) := by
          rw [show (155 : Int32) = nI 155 from rfl, show (5 : Int32) = nI 5 from rfl, nI_mul, nI_add, nI_1]
          congr 1
          omega
        refine ⟨hI h 2624 0 (156 + 5 * s), h1, h2, ?_, ?_, r0.put f2' (by decide +kernel) (by decide +kernel) rfl ?_ ?_ ?_ ?_⟩
        · unfold X11_turns X11_turns_g0 X11_turns_f0
          rw [nnE (sh_640 a), X1_hasSign_eq, cI_some, s75, z, if_neg (by decide), isWithin_wn, cI_some, z2, if_neg (by decide), nnE (sh_640 a), nnE (sh_68 a 0 (by decide)), ixE (ln_18 a 0 (by decide)) rfl e6 (by decide), nnE (sh_1152_0 a s e6), f2, if_neg c5, nnE (sh_1152_0 a s e6), wr_eq, hh1]
        · unfold X12_turns X12_turns_g0 X12_turns_f0
          rw [X12_isSign_eq a1, hN1, inn_wn (by rw [hSi]; omega), cI_some, z, if_neg (by decide), in_wn5, cI_some, z2, if_neg (by decide), o1 h1 a1 hN1, cI_some, if_neg c5, nnE (sh_704 a1), ixE (ln_41 a1) x0 (show 156 + 5 * s < 1765 by omega) (by decide), wr_eq, hh2]
        · rw [hN2]
          refine q.2.2.1.signs a s0 (fun j hj => up j (by omega)) (fun t ht => ?_)
          rw [up 6 (by omega)] at ht
          by_cases ct : t = s
          · subst ct
            obtain ⟨p1, p2, p3, p4, p5, p6, p7, p8, p9, p10⟩ := q.2.2.1.2.2.2.2.1.one ht
            rw [us, up (155 + 5 * t) (by omega), up (157 + 5 * t) (by omega), up (158 + 5 * t) (by omega), up (159 + 5 * t) (by omega), up 3 (by omega), if_neg (show ¬ nI k = 5 from fun z => by have := (nI_eq (b := 5) (by omega) (by decide)).mp z; omega)]
            rw [if_neg c5] at p5
            rw [Nat.mul_zero, Nat.zero_add] at p1 p3 p4 p5 ⊢
            subst hh2 hh1
            refine ⟨?_, ?_, ?_, ?_, ?_, p6, ⟨by rw [kk]; omega, by rw [kk]; omega⟩, p8, p9, fun rr hrr => ?_⟩
            · rw [hI_off _ (by decide), hI_off _ (by decide)]; exact p1
            · rw [hI_off _ (by decide), hI_pI, if_pos ⟨rfl, rfl, rfl⟩]
            · rw [hI_off _ (by decide), hI_off _ (by decide)]; exact p3
            · rw [hI_off _ (by decide), hI_off _ (by decide)]; exact p4
            · rw [hI_off _ (by decide), hI_off _ (by decide)]; exact p5
            · rw [up (225 + 12 * t + 2 * rr) (by omega), up (226 + 12 * t + 2 * rr) (by omega), hI_off _ (by decide), hI_off _ (by decide), hI_off _ (by decide), hI_off _ (by decide)]
              have := p10 rr hrr
              rw [Nat.mul_zero, Nat.zero_add] at this
              exact this
          · have o := q.2.2.1.2.2.2.2.1.one ht
            refine o.cong (fun j hj => up j (by omega)) (by rw [up 3 (by omega)]; omega) (fun c hc j => ?_)
            subst hh2 hh1
            rw [Nat.mul_zero, Nat.zero_add, hI_pI, if_neg (fun z => by obtain ⟨z1, -⟩ := z; subst z1; exact absurd hc (by decide)), hI_pI, if_neg (fun z => ct z.2.1)]
        · rw [hN2]
          exact q.2.2.2.scal a (by decide) f2' (by decide) (s0.sub (by decide)) (up 8 (by omega)) (fun j h1 _ => up j (by omega))
        · subst hh2 hh1
          exact (Same.rf.pI (fun _ => notB1 (by decide) e6)).pI (fun hc => absurd hc (by decide))
        · rw [hN2, up 6 (by omega)]
          exact q3.fr a f2' (by decide)
