/-! pairs: shut, goal, choose -/
def noWay : List Nat := signCs ++ goalCs ++ [1344, 72, 73, 74, 75, 76, 77, 78, 79, 80] ++ trCols
theorem pair_shut (m : Nat) (h : PH) (x1 x2 : Int32) (hb : x2 = 0 ∨ x2 = 1) (_ : m < 64) (r : R m h) : Pr (R (m + 1)) (X11_shut 0 x1 x2) (X12_shut 0 x1 x2) h := by
  have r0 := r
  obtain ⟨a, q, -, q3, -⟩ := r
  obtain ⟨K, hK, h20, hKn, hKi, hK73⟩ := q.ways
  have hK0 : (0 : Int) ≤ (nI K).toInt := by rw [nI_toInt (by omega)]; omega
  rcases wn_cases (x := x1) (K := K) (by omega) with z | ⟨z, w, hw, rfl⟩
  · refine r0.same (v := -1000000001) ?_ ?_
    · unfold X11_shut X11_shut_g0 X11_shut_f0
      rw [nnE (sh_640 a), hK73, isWithin_wn, cI_some, z, if_pos rfl]
    · unfold X12_shut X12_shut_g0 X12_shut_f0
      rw [nnE (sh_704 a), ixE (ln_41 a) (show (4 : Int32) = nI 4 from rfl) (by decide) (by decide), hK, in_wnK hK0, cI_some, z, if_pos rfl]
  · have hw20 : w < 20 := by omega
    have hwi : (w : Int) < (hI h 2624 0 4).toInt := by omega
    obtain ⟨s1, s2, s3, s4, s5, s6⟩ := q.2.2.1.2.2.1.get hwi
    rw [Nat.mul_zero, Nat.zero_add] at s6
    generalize hh1 : pI h 581 w 0 x2 = h1
    have a1 : SH h1 := by subst hh1; exact a
    have hN1 : hI h1 2624 0 = hI h 2624 0 := by
      subst hh1
      rw [off_now (by decide)]
    generalize hh2 : pI h1 2624 0 (20 + 6 * w) x2 = h2
    have a2 : SH h2 := by subst hh2; exact a1
    have f2 : Fr ([581, 2624], [], false) h h2 := by
      subst hh2 hh1
      exact (Fr.rf.pI (by decide)).pI (by decide)
    have hN2 : hI h2 2624 0 = updF (hI h 2624 0) (20 + 6 * w) x2 := by
      subst hh2
      rw [hI_upd, hN1]
    have s0 : Same h h2 0 noWay := by
      subst hh2 hh1
      exact (Same.rf.pI (fun hc => absurd hc (by decide))).pI (fun hc => absurd hc (by decide))
    have up : ∀ j, j ≠ 20 + 6 * w → updF (hI h 2624 0) (20 + 6 * w) x2 j = hI h 2624 0 j := fun j hj => if_neg hj
    have us : updF (hI h 2624 0) (20 + 6 * w) x2 (20 + 6 * w) = x2 := if_pos rfl
    have x0 : (15 : Int32) + 6 * nI w + 5 = nI (20 + 6 * w) := by
      rw [show (15 : Int32) = nI 15 from rfl, show (6 : Int32) = nI 6 from rfl, show (5 : Int32) = nI 5 from rfl, nI_mul, nI_add, nI_add]
      congr 1
      omega
    have bz2 : ∀ f, bz x2 f = f := fun f => bz_ok hb
    have g40 : ∀ v, v = 0 ∨ v = 1 → X11_shut_g40 x2 (w + 1) v h = some (some (.inl v), h1) := fun v hv => by
      unfold X11_shut_g40 X11_shut_f40
      rw [nnE rfl, bz2, wr_eq, hh1, bit_eq hv, cI_some]
    have g51 : X12_shut_g51 0 (nI (20 + 6 * w)) (hI h 2624 0 (20 + 6 * w)) x2 (nI (20 + 6 * w)) 1 h1 = some (some (.inl (if hI h 2624 0 (20 + 6 * w) = x2 then 0 else 1)), h2) := by
      unfold X12_shut_g51 X12_shut_f51
      rw [nnE rfl, ixE (ln_41 a1) rfl (show 20 + 6 * w < 1765 by omega) (by decide), wr_eq, hh2, nnE (sh_704 a2), ixE (ln_41 a2) rfl (show 20 + 6 * w < 1765 by omega) (by decide), hN2, us]
      split <;> rfl
    refine ⟨if hI h 2624 0 (20 + 6 * w) = x2 then 0 else 1, h1, h2, ?_, ?_, r0.put f2 (by decide +kernel) (by decide +kernel) rfl ?_ ?_ ?_ ?_⟩
    · unfold X11_shut X11_shut_g0 X11_shut_f0
      rw [nnE (sh_640 a), hK73, isWithin_wn, cI_some, z, if_neg (by decide), nnE (sh_640 a), nnE (sh_64 a 0 (by decide)), ixE (ln_14 a 0 (by decide)) rfl hw20 (by decide), sh_896_0 a w hw20, nnE rfl, s6, g40 0 (Or.inl rfl), g40 1 (Or.inr rfl)]
      split <;> rfl
    · unfold X12_shut X12_shut_g0 X12_shut_f0
      rw [nnE (sh_704 a1), ixE (ln_41 a1) (show (4 : Int32) = nI 4 from rfl) (by decide) (by decide), hN1, hK, in_wnK hK0, cI_some, z, if_neg (by decide), nnE (sh_704 a1), x0, ixE (ln_41 a1) rfl (show 20 + 6 * w < 1765 by omega) (by decide), hN1, sh_704 a1]
      rcases hb with rfl | rfl
      · rw [if_pos rfl]; exact g51
      · rw [if_neg (by decide)]; exact g51
    · rw [hN2]
      obtain ⟨q1, q2, q3', q4, q5, q6⟩ := q.2.2.1
      have h3 : ((hI h 2624 0) 3).toInt ≤ (updF (hI h 2624 0) (20 + 6 * w) x2 3).toInt := by rw [up 3 (by omega)]; omega
      refine ⟨q1.of a (s0.sub (by decide)) (fun j hj => up j (by omega)), q2.of (fun j hj => up j (by omega)), ⟨fun v hv => ?_, fun p d hp hd => ?_⟩, q4.cong a (by decide) q2.2.2.1.2 (up 5 (by omega)) (fun j h1 h2 => up j (by omega)) h3 (s0.sub (by decide)), q5.cong a (by decide) q2.2.2.2.1.2 (up 6 (by omega)) (fun j h1 h2 => up j (by omega)) h3 (s0.sub (by decide)), q6.cong a (by decide) q2.2.2.2.2.2.1.2 (up 7 (by omega)) (fun j h1 h2 => up j (by omega)) h3 (s0.sub (by decide))⟩
      · rw [up 4 (by omega)] at hv
        obtain ⟨p1, p2, p3, p4, p5, p6, p7, p8⟩ := q3'.1 v hv
        rw [up (15 + 6 * v) (by omega), up (16 + 6 * v) (by omega), up (17 + 6 * v) (by omega), up (18 + 6 * v) (by omega), up (19 + 6 * v) (by omega), up 3 (by omega)]
        refine ⟨fun f hf => ?_, p2, p3, p4, p5, p6, p7, ?_⟩
        · subst hh2 hh1
          rw [Nat.mul_zero, Nat.zero_add, hI_pI, if_neg (fun z => by omega), hI_pI]
          by_cases c : 576 + f = 581 ∧ v = w
          · rw [if_pos ⟨c.1, c.2, rfl⟩, show 15 + 6 * v + f = 20 + 6 * w by omega, us]
          · rw [if_neg (fun z => c ⟨z.1, z.2.1⟩), up (15 + 6 * v + f) (by omega)]
            have := p1 f hf
            rw [Nat.mul_zero, Nat.zero_add] at this
            exact this
        · by_cases c : v = w
          · subst c
            rw [us]
            rcases hb with rfl | rfl
            · exact ⟨by decide, by decide⟩
            · exact ⟨by decide, by decide⟩
          · rw [up (20 + 6 * v) (by omega)]
            exact p8
      · have hl : ∀ v p d, leads (updF (hI h 2624 0) (20 + 6 * w) x2) v p d ↔ leads (hI h 2624 0) v p d := fun v p d => by
          unfold leads
          rw [up (15 + 6 * v) (by omega), up (16 + 6 * v) (by omega), up (17 + 6 * v) (by omega)]
        have e960 : hI h2 960 0 (8 * p + d) = hI h 960 0 (8 * p + d) := by
          subst hh2 hh1
          rw [hI_off _ (by decide), hI_off _ (by decide)]
        rw [e960, up 4 (by omega)]
        rcases q3'.2 p d hp hd with ⟨c1, c2⟩ | ⟨v, c1, c2, c3, c4⟩
        · exact Or.inl ⟨c1, fun v hv hh => c2 v hv ((hl v p d).mp hh)⟩
        · exact Or.inr ⟨v, c1, c2, (hl v p d).mpr c3, fun v2 h2 hh => c4 v2 h2 ((hl v2 p d).mp hh)⟩
    · rw [hN2]
      exact q.2.2.2.scal a (by decide) f2 (by decide) (s0.sub (by decide)) (up 8 (by omega)) (fun j h1 _ => up j (by omega))
    · subst hh2 hh1
      exact (Same.rf.pI (fun _ => notW1 (by decide) hw20)).pI (fun hc => absurd hc (by decide))
    · rw [hN2, up 6 (by omega)]
      exact q3.fr a f2 (by decide)
theorem group_in (x : Int32) (h : PH) : X12_in x (-1) 3 h = some (some (.inl (if x < -1 then 0 else if x < 4 then 1 else 0)), h) := by
  rw [X12_in_eq]
  have e3 : (3 : Int32).toInt = 3 := by decide
  have e4 : (4 : Int32).toInt = 4 := by decide
  by_cases c : x < -1
  · rw [if_pos c, if_pos c]
  · rw [if_neg c, if_neg c]
    by_cases d : x < 4
    · rw [if_pos d, if_neg]
      rw [i_lt, e4] at d
      rw [i_lt, e3]
      omega
    · rw [if_neg d, if_pos]
      rw [i_lt, e4] at d
      rw [i_lt, e3]
      omega
def noGoal : List Nat := signCs ++ wayCs ++ [1344, 72, 73, 75, 76, 77, 78, 79, 80] ++ trCols
theorem pair_goal (m : Nat) (h : PH) (x1 x2 : Int32) (_ : m < 64) (r : R m h) : Pr (R (m + 1)) (X11_goal 0 x1 x2) (X12_goal 0 x1 x2) h := by
  have r0 := r
  obtain ⟨a, q, -, q3, -⟩ := r
  obtain ⟨c1, c2, c3, c4, c5, c6, c7, c8, c9⟩ := q.2.2.1.1
  obtain ⟨G, hG, hG10, hGn, hGi, hG74⟩ := q.goals
  rcases place_cases q x1 with z | ⟨z, p, hp, rfl⟩
  · refine r0.same (v := -1000000001) ?_ ?_
    · unfold X11_goal X11_goal_g0 X11_goal_f0
      rw [nnE (sh_640 a), X1_hasPlace_eq, cI_some, c1, z, if_pos rfl]
    · unfold X12_goal X12_goal_g0 X12_goal_f0
      rw [isPlace_wn a q, cI_some, z, if_pos rfl]
  by_cases d1 : x2 < -1
  · refine r0.same (v := -1000000001) ?_ ?_
    · unfold X11_goal X11_goal_g0 X11_goal_f0
      rw [nnE (sh_640 a), X1_hasPlace_eq, cI_some, c1, z, if_neg (by decide), if_pos d1]
    · unfold X12_goal X12_goal_g0 X12_goal_f0
      rw [isPlace_wn a q, cI_some, z, if_neg (by decide), group_in, cI_some, if_pos d1, if_pos rfl]
  by_cases d2 : x2 < 4
  case neg =>
    refine r0.same (v := -1000000001) ?_ ?_
    · unfold X11_goal X11_goal_g0 X11_goal_f0
      rw [nnE (sh_640 a), X1_hasPlace_eq, cI_some, c1, z, if_neg (by decide), if_neg d1, if_neg d2]
    · unfold X12_goal X12_goal_g0 X12_goal_f0
      rw [isPlace_wn a q, cI_some, z, if_neg (by decide), group_in, cI_some, if_neg d1, if_neg d2, if_pos rfl]
  by_cases d3 : G < 10
  case neg =>
    have eG : G = 10 := by omega
    subst eG
    refine r0.same (v := -1000000003) ?_ ?_
    · unfold X11_goal X11_goal_g0 X11_goal_f0
      rw [nnE (sh_640 a), X1_hasPlace_eq, cI_some, c1, z, if_neg (by decide), if_neg d1, if_pos d2, nnE (sh_640 a), hG74, if_neg (by decide)]
    · unfold X12_goal X12_goal_g0 X12_goal_f0
      rw [isPlace_wn a q, cI_some, z, if_neg (by decide), group_in, cI_some, if_neg d1, if_pos d2, if_neg (by decide), nnE (sh_704 a), ixE (ln_41 a) (show (5 : Int32) = nI 5 from rfl) (by decide) (by decide), hG, if_pos (by decide)]
  have n12 := q.n12
  generalize hh1 : pI (pI (pI h 1024 0 G (nI p)) 1088 0 G x2) 74 0 0 (nI (G + 1)) = h1
  have a1 : SH h1 := by subst hh1; exact a
  have hN1 : hI h1 2624 0 = hI h 2624 0 := by
    subst hh1
    rw [off_now (by decide), off_now (by decide), off_now (by decide)]
  generalize hh2 : pI (pI (pI h1 2624 0 (135 + 2 * G) (nI p)) 2624 0 (136 + 2 * G) x2) 2624 0 5 (nI (G + 1)) = h2
  have f2 : Fr ([1024, 1088, 74, 2624], [], false) h h2 := by
    subst hh2 hh1
    exact (((((Fr.rf.pI (by decide)).pI (by decide)).pI (by decide)).pI (by decide)).pI (by decide)).pI (by decide)
  have hN2 : hI h2 2624 0 = updF (updF (updF (hI h 2624 0) (135 + 2 * G) (nI p)) (136 + 2 * G) x2) 5 (nI (G + 1)) := by
    subst hh2
    rw [hI_upd, hI_upd, hI_upd, hN1]
  have s0 : Same h h2 0 noGoal := by
    subst hh2 hh1
    exact (((((Same.rf.pI (fun hc => absurd hc (by decide))).pI (fun hc => absurd hc (by decide))).pI (fun hc => absurd hc (by decide))).pI (fun hc => absurd hc (by decide))).pI (fun hc => absurd hc (by decide))).pI (fun hc => absurd hc (by decide))
  have up : ∀ j, j ≠ 5 → j ≠ 135 + 2 * G → j ≠ 136 + 2 * G → updF (updF (updF (hI h 2624 0) (135 + 2 * G) (nI p)) (136 + 2 * G) x2) 5 (nI (G + 1)) j = hI h 2624 0 j := fun j h5 h6 h7 => (if_neg h5).trans ((if_neg h7).trans (if_neg h6))
  have u5 : updF (updF (updF (hI h 2624 0) (135 + 2 * G) (nI p)) (136 + 2 * G) x2) 5 (nI (G + 1)) 5 = nI (G + 1) := if_pos rfl
  have u135 : updF (updF (updF (hI h 2624 0) (135 + 2 * G) (nI p)) (136 + 2 * G) x2) 5 (nI (G + 1)) (135 + 2 * G) = nI p := (if_neg (by omega)).trans ((if_neg (by omega)).trans (if_pos rfl))
  have u136 : updF (updF (updF (hI h 2624 0) (135 + 2 * G) (nI p)) (136 + 2 * G) x2) 5 (nI (G + 1)) (136 + 2 * G) = x2 := (if_neg (by omega)).trans (if_pos rfl)
  have x0 : (135 : Int32) + 2 * nI G = nI (135 + 2 * G) := by rw [show (135 : Int32) = nI 135 from rfl, show (2 : Int32) = nI 2 from rfl, nI_mul, nI_add]
  have x1' : nI (135 + 2 * G) + 1 = nI (136 + 2 * G) := by rw [nI_1]; congr 1; omega
  refine ⟨nI G, h1, h2, ?_, ?_, r0.put f2 (by decide +kernel) (by decide +kernel) rfl ?_ ?_ ?_ ?_⟩
  · have y1 : hI (pI h 1024 0 G (nI p)) 74 0 0 = nI G := (hI_off h (by decide) _ _ _ _ _).trans hG74
    have y2 : hI (pI (pI h 1024 0 G (nI p)) 1088 0 G x2) 74 0 0 = nI G := (hI_off _ (by decide) _ _ _ _ _).trans y1
    have b1 : SH (pI h 1024 0 G (nI p)) := a
    have b2' : SH (pI (pI h 1024 0 G (nI p)) 1088 0 G x2) := a
    unfold X11_goal X11_goal_g0 X11_goal_f0
    rw [nnE (sh_640 a), X1_hasPlace_eq, cI_some, c1, z, if_neg (by decide), if_neg d1, if_pos d2, nnE (sh_640 a), hG74, if_pos (show nI G < 10 from nI_lt (b := 10) d3 (by decide)), nnE (sh_640 a), nnE (sh_640 a), nnE (sh_66 a 0 (by decide)), ixE (ln_16 a 0 (by decide)) hG74 d3 (by decide), wr_eq, nnE (sh_640 b1), nnE (sh_640 b1), nnE (sh_67 b1 0 (by decide)), ixE (ln_17 b1 0 (by decide)) y1 d3 (by decide), wr_eq, nnE (sh_640 b2'), nnE (sh_640 b2'), y2, nI_1, wr_eq, hh1]
  · have b1 : SH (pI h1 2624 0 (135 + 2 * G) (nI p)) := a1
    have b2' : SH (pI (pI h1 2624 0 (135 + 2 * G) (nI p)) 2624 0 (136 + 2 * G) x2) := a1
    have b3 : SH h2 := by subst hh2; exact a1
    have y1 : hI (pI h1 2624 0 (135 + 2 * G) (nI p)) 2624 0 5 = nI G := by rw [hI_pI, if_neg (fun z => by omega), hN1, hG]
    have y2 : hI (pI (pI h1 2624 0 (135 + 2 * G) (nI p)) 2624 0 (136 + 2 * G) x2) 2624 0 5 = nI G := by rw [hI_pI, if_neg (fun z => by omega), y1]
    unfold X12_goal X12_goal_g0 X12_goal_f0
    rw [X12_isPlace_eq a1, hN1, inn_wn (by have := q.2.2.1.2.1.1.1; exact this), cI_some, z, if_neg (by decide), group_in, cI_some, if_neg d1, if_pos d2, if_neg (by decide), nnE (sh_704 a1), ixE (ln_41 a1) (show (5 : Int32) = nI 5 from rfl) (by decide) (by decide), hN1, hG, if_neg (show ¬ nI G = 10 from fun z => by have := (nI_eq (b := 10) (by omega) (by decide)).mp z; omega), nnE (sh_704 a1), ixE (ln_41 a1) (show (5 : Int32) = nI 5 from rfl) (by decide) (by decide), hN1, hG, nnE (sh_704 a1), ixE (ln_41 a1) x0 (show 135 + 2 * G < 1765 by omega) (by decide), wr_eq, nnE (sh_704 b1), ixE (ln_41 b1) (show (5 : Int32) = nI 5 from rfl) (by decide) (by decide), y1, x0, x1', nnE (sh_704 b1), ixE (ln_41 b1) rfl (show 136 + 2 * G < 1765 by omega) (by decide), wr_eq, nnE (sh_704 b2'), ixE (ln_41 b2') (show (5 : Int32) = nI 5 from rfl) (by decide) (by decide), nnE (sh_704 b2'), ixE (ln_41 b2') (show (5 : Int32) = nI 5 from rfl) (by decide) (by decide), y2, nI_1, wr_eq, hh2, nnE (sh_704 b3), ixE (ln_41 b3) (show (5 : Int32) = nI 5 from rfl) (by decide) (by decide), hN2, u5, nI_pred]
  · rw [hN2]
    obtain ⟨q1, q2, q3', q4, q5, q6⟩ := q.2.2.1
    obtain ⟨g1, g2, g3, g4, g5, g6, g7, g8⟩ := q2
    have upS : ∀ j, j < 135 → j ≠ 5 → updF (updF (updF (hI h 2624 0) (135 + 2 * G) (nI p)) (136 + 2 * G) x2) 5 (nI (G + 1)) j = hI h 2624 0 j := fun j h1 h2 => up j h2 (by omega) (by omega)
    have h3 : ((hI h 2624 0) 3).toInt ≤ (updF (updF (updF (hI h 2624 0) (135 + 2 * G) (nI p)) (136 + 2 * G) x2) 5 (nI (G + 1)) 3).toInt := by rw [upS 3 (by decide) (by decide)]; omega
    refine ⟨?_, ?_, q3'.cong a (by decide) g2.2 (upS 4 (by decide) (by decide)) (fun j h1 h2 => upS j h2 (by omega)) h3 (s0.sub (by decide)), ?_, q5.cong a (by decide) g4.2 (upS 6 (by decide) (by decide)) (fun j h1 h2 => up j (by omega) (by omega) (by omega)) h3 (s0.sub (by decide)), q6.cong a (by decide) g6.2 (upS 7 (by decide) (by decide)) (fun j h1 h2 => upS j (by omega) (by omega)) h3 (s0.sub (by decide))⟩
    · unfold HScal
      rw [upS 3 (by decide) (by decide), upS 4 (by decide) (by decide), u5, upS 6 (by decide) (by decide), upS 8 (by decide) (by decide), upS 7 (by decide) (by decide), upS 1 (by decide) (by decide), upS 2 (by decide) (by decide), upS 0 (by decide) (by decide)]
      have b1 := a.b1 (show 0 < 2 by decide)
      rw [s0 72 (by decide) 0 0 b1 (instB_b (by decide)), s0 73 (by decide) 0 0 b1 (instB_b (by decide)), s0 75 (by decide) 0 0 b1 (instB_b (by decide)), s0 76 (by decide) 0 0 b1 (instB_b (by decide)), s0 77 (by decide) 0 0 b1 (instB_b (by decide)), s0 78 (by decide) 0 0 b1 (instB_b (by decide)), s0 79 (by decide) 0 0 b1 (instB_b (by decide)), s0 80 (by decide) 0 0 b1 (instB_b (by decide))]
      refine ⟨c1, c2, ?_, c4, c5, c6, c7, c8, c9⟩
      subst hh2 hh1
      rw [hI_off _ (by decide), hI_off _ (by decide), hI_off _ (by decide), hI_pI, if_pos ⟨rfl, rfl, rfl⟩]
    · unfold HRange
      rw [upS 3 (by decide) (by decide), upS 4 (by decide) (by decide), u5, upS 6 (by decide) (by decide), upS 8 (by decide) (by decide), upS 7 (by decide) (by decide), upS 1 (by decide) (by decide), upS 2 (by decide) (by decide)]
      exact ⟨g1, g2, ⟨by rw [nI_toInt (by omega)]; omega, by rw [nI_toInt (by omega)]; omega⟩, g4, g5, g6, g7, g8⟩
    · intro g hg
      rw [u5, nI_toInt (by omega)] at hg
      by_cases cg : g = G
      · subst cg
        rw [u135, u136, upS 3 (by decide) (by decide)]
        obtain ⟨L, hL, h12, hLn, hLi, -⟩ := q.places
        refine ⟨?_, ?_, ⟨by rw [nI_toInt (by omega)]; omega, by rw [nI_toInt (by omega)]; omega⟩, ?_⟩
        · subst hh2 hh1
          rw [hI_off _ (by decide), hI_off _ (by decide), hI_off _ (by decide), hI_off _ (by decide), hI_off _ (by decide), hI_pI, if_pos ⟨rfl, rfl, rfl⟩]
        · subst hh2 hh1
          rw [hI_off _ (by decide), hI_off _ (by decide), hI_off _ (by decide), hI_off _ (by decide), hI_pI, if_pos ⟨rfl, rfl, rfl⟩]
        · have em : (-1 : Int32).toInt = -1 := by decide
          have e4 : (4 : Int32).toInt = 4 := by decide
          rw [i_lt, em] at d1
          rw [i_lt, e4] at d2
          exact ⟨by omega, by omega⟩
      · obtain ⟨p1, p2, p3, p4⟩ := q4 g (by omega)
        rw [up (135 + 2 * g) (by omega) (by omega) (by omega), up (136 + 2 * g) (by omega) (by omega) (by omega), upS 3 (by decide) (by decide)]
        refine ⟨?_, ?_, p3, p4⟩
        · subst hh2 hh1
          rw [hI_off _ (by decide), hI_off _ (by decide), hI_off _ (by decide), hI_off _ (by decide), hI_off _ (by decide), hI_pI, if_neg (fun z => cg z.2.2)]
          exact p1
        · subst hh2 hh1
          rw [hI_off _ (by decide), hI_off _ (by decide), hI_off _ (by decide), hI_off _ (by decide), hI_pI, if_neg (fun z => cg z.2.2), hI_off _ (by decide)]
          exact p2
  · rw [hN2]
    exact q.2.2.2.scal a (by decide) f2 (by decide) (s0.sub (by decide)) (up 8 (by omega) (by omega) (by omega)) (fun j h1 _ => up j (by omega) (by omega) (by omega))
  · subst hh2 hh1
    exact (((((Same.rf.pI (fun _ z => absurd (z.2.2 (by decide)) (by decide))).pI (fun _ z => absurd (z.2.2 (by decide)) (by decide))).pI (fun _ z => absurd (z.2.2 (by decide)) (by decide))).pI (fun hc => absurd hc (by decide))).pI (fun hc => absurd hc (by decide))).pI (fun hc => absurd hc (by decide))
  · rw [hN2, up 6 (by omega) (by omega) (by omega)]
    exact q3.fr a f2 (by decide)
