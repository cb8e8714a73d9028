/-! pairs: choose, sign -/
def chB (N : Nat → Int32) (x : Int32) : Nat → Nat → Bool
  | 0, _ => false
  | k + 1, i => if N (9 + i) = x then true else chB N x k (i + 1)
def noCho : List Nat := signCs ++ wayCs ++ goalCs ++ [72, 73, 74, 75, 76, 78, 79, 80] ++ trCols
theorem Hs.chosen {h : PH} {b : Nat} {N : Nat → Int32} (q : Hs h b N) : ∃ K, N 7 = nI K ∧ K ≤ 6 ∧ nt (N 7) = K ∧ (N 7).toInt = K ∧ hI h 77 b 0 = nI K := by
  obtain ⟨K, e, hK⟩ := rg_nI (u := 6) q.2.2.1.2.1.2.2.2.2.2.1
  exact ⟨K, e, hK, by rw [e, nt_nI (by omega)], by rw [e, nI_toInt (by omega)], q.2.2.1.1.2.2.2.2.2.1.trans e⟩
theorem choose_c {h : PH} (q : Hs h 0 (hI h 2624 0)) {C : Nat} (hC : hI h 2624 0 7 = nI C) (hC6 : C ≤ 6) (x : Int32) : ∀ k i, i + k = C → ∃ n, X11_choose_fam n 0 x (nI i) h = bif chB (hI h 2624 0) x k i then some (some (.inl (-1000000002)), h) else if C < 6 then some (some (.inl (nI (C + 1))), pI (pI h 1344 0 C x) 77 0 0 (nI (C + 1))) else some (some (.inl (-1000000003)), h) := by
  have a := q.1
  have h77 : hI h 77 0 0 = nI C := q.2.2.1.1.2.2.2.2.2.1.trans hC
  have b1 : SH (pI h 1344 0 C x) := a
  have b2' : SH (pI (pI h 1344 0 C x) 77 0 0 (nI (C + 1))) := a
  have y1 : hI (pI h 1344 0 C x) 77 0 0 = nI C := (hI_off h (by decide) _ _ _ _ _).trans h77
  have y2 : hI (pI (pI h 1344 0 C x) 77 0 0 (nI (C + 1))) 77 0 0 = nI (C + 1) := by rw [hI_pI, if_pos ⟨rfl, rfl, rfl⟩]
  intro k
  induction k with
  | zero =>
    intro i e
    have hlt : ¬ nI i < nI C := nI_nlt (by omega) (by omega)
    refine ⟨1, ?_⟩
    show X11_choose_g16 _ 0 x (nI i) h = (if C < 6 then some (some (Sum.inl (nI (C + 1))), pI (pI h 1344 0 C x) 77 0 0 (nI (C + 1))) else some (some (Sum.inl (-1000000003)), h))
    unfold X11_choose_g16 X11_choose_f16
    rw [nnE (sh_640 a), h77, if_neg hlt, nnE (sh_640 a), h77]
    by_cases c : C < 6
    · rw [if_pos c, if_pos (show nI C < 6 from nI_lt (b := 6) c (by decide)), nnE (sh_640 a), nnE (sh_640 a), nnE (sh_71 a 0 (by decide)), ixE (ln_21 a 0 (by decide)) h77 c (by decide), wr_eq, nnE (sh_640 b1), nnE (sh_640 b1), y1, nI_1, wr_eq, nnE (sh_640 b2'), y2]
    · rw [if_neg c, if_neg (show ¬ nI C < 6 from nI_nlt (b := 6) (by omega) (by omega))]
  | succ k ih =>
    intro i e
    have hlt : nI i < nI C := nI_lt (by omega) (by omega)
    have hv : hI h 1344 0 i = hI h 2624 0 (9 + i) := (q.2.2.1.2.2.2.2.2 i (by rw [hC, nI_toInt (by omega)]; omega)).1
    obtain ⟨n, hn⟩ := ih (i + 1) (by omega)
    refine ⟨n + 1, ?_⟩
    show X11_choose_g16 (X11_choose_fam n) 0 x (nI i) h = bif (if hI h 2624 0 (9 + i) = x then true else chB (hI h 2624 0) x k (i + 1)) then _ else _
    unfold X11_choose_g16 X11_choose_f16
    rw [nnE (sh_640 a), h77, if_pos hlt, nnE (sh_640 a), nnE (sh_71 a 0 (by decide)), ixE (ln_21 a 0 (by decide)) rfl (show i < 6 by omega) (by decide), hv, nI_1]
    by_cases c : hI h 2624 0 (9 + i) = x
    · rw [if_pos c, if_pos c]
      rfl
    · rw [if_neg c, if_neg c]
      exact hn
theorem choose_m {h : PH} (a : SH h) {C : Nat} (hC : hI h 2624 0 7 = nI C) (hC6 : C ≤ 6) (x : Int32) : ∀ k i, i + k = C → ∃ n, X12_choose_fam n 0 x (nI i) h = bif chB (hI h 2624 0) x k i then some (some (.inl (-1000000002)), h) else if C < 6 then some (some (.inl (nI (C + 1))), pI (pI h 2624 0 (9 + C) x) 2624 0 7 (nI (C + 1))) else some (some (.inl (-1000000003)), h) := by
  have b1 : SH (pI h 2624 0 (9 + C) x) := a
  have b2' : SH (pI (pI h 2624 0 (9 + C) x) 2624 0 7 (nI (C + 1))) := a
  have y1 : hI (pI h 2624 0 (9 + C) x) 2624 0 7 = nI C := by rw [hI_pI, if_neg (fun z => by omega), hC]
  have y2 : hI (pI (pI h 2624 0 (9 + C) x) 2624 0 7 (nI (C + 1))) 2624 0 7 = nI (C + 1) := by rw [hI_pI, if_pos ⟨rfl, rfl, rfl⟩]
  have x9 : ∀ i, (9 : Int32) + nI i = nI (9 + i) := fun i => by rw [show (9 : Int32) = nI 9 from rfl, nI_add]
  intro k
  induction k with
  | zero =>
    intro i e
    have hlt : ¬ nI i < nI C := nI_nlt (by omega) (by omega)
    refine ⟨1, ?_⟩
    show X12_choose_g13 _ 0 x (nI i) h = (if C < 6 then some (some (Sum.inl (nI (C + 1))), pI (pI h 2624 0 (9 + C) x) 2624 0 7 (nI (C + 1))) else some (some (Sum.inl (-1000000003)), h))
    unfold X12_choose_g13 X12_choose_f13
    rw [nnE (sh_704 a), ixE (ln_41 a) (show (7 : Int32) = nI 7 from rfl) (by decide) (by decide), hC, if_neg hlt, nnE (sh_704 a), ixE (ln_41 a) (show (7 : Int32) = nI 7 from rfl) (by decide) (by decide), hC]
    by_cases c : C < 6
    · rw [if_pos c, if_neg (show ¬ nI C = 6 from fun z => by have := (nI_eq (b := 6) (by omega) (by decide)).mp z; omega), nnE (sh_704 a), ixE (ln_41 a) (show (7 : Int32) = nI 7 from rfl) (by decide) (by decide), hC, nnE (sh_704 a), ixE (ln_41 a) (x9 C) (show 9 + C < 1765 by omega) (by decide), wr_eq, nnE (sh_704 b1), ixE (ln_41 b1) (show (7 : Int32) = nI 7 from rfl) (by decide) (by decide), nnE (sh_704 b1), ixE (ln_41 b1) (show (7 : Int32) = nI 7 from rfl) (by decide) (by decide), y1, nI_1, wr_eq, nnE (sh_704 b2'), ixE (ln_41 b2') (show (7 : Int32) = nI 7 from rfl) (by decide) (by decide), y2]
    · have : C = 6 := by omega
      subst this
      rw [if_neg c, if_pos (by decide)]
  | succ k ih =>
    intro i e
    have hlt : nI i < nI C := nI_lt (by omega) (by omega)
    obtain ⟨n, hn⟩ := ih (i + 1) (by omega)
    refine ⟨n + 1, ?_⟩
    show X12_choose_g13 (X12_choose_fam n) 0 x (nI i) h = bif (if hI h 2624 0 (9 + i) = x then true else chB (hI h 2624 0) x k (i + 1)) then _ else _
    unfold X12_choose_g13 X12_choose_f13
    rw [nnE (sh_704 a), ixE (ln_41 a) (show (7 : Int32) = nI 7 from rfl) (by decide) (by decide), hC, if_pos hlt, nnE (sh_704 a), ixE (ln_41 a) (x9 i) (show 9 + i < 1765 by omega) (by decide), nI_1]
    by_cases c : hI h 2624 0 (9 + i) = x
    · rw [if_pos c, if_pos c]
      rfl
    · rw [if_neg c, if_neg c]
      exact hn
theorem pair_choose (m : Nat) (h : PH) (x : Int32) (_ : m < 64) (r : R m h) : Pr (R (m + 1)) (X11_choose 0 x) (X12_choose 0 x) h := by
  have r0 := r
  obtain ⟨a, q, -, q3, -⟩ := r
  obtain ⟨c1, c2, c3, c4, c5, c6, c7, c8, c9⟩ := q.2.2.1.1
  obtain ⟨C, hC, hC6, hCn, hCi, hC77⟩ := q.chosen
  rcases place_cases q x with z | ⟨z, p, hp, rfl⟩
  · refine r0.same (v := -1000000001) ?_ ?_
    · refine X11_choose_iff.mpr ⟨0, ?_⟩
      unfold X11_choose_g0 X11_choose_f0
      rw [nnE (sh_640 a), X1_hasPlace_eq, cI_some, c1, z, if_pos rfl]
    · refine X12_choose_iff.mpr ⟨0, ?_⟩
      unfold X12_choose_g0 X12_choose_f0
      rw [isPlace_wn a q, cI_some, z, if_pos rfl]
  · have n12 := q.n12
    have hc : ∃ n, X11_choose_g0 (X11_choose_fam n) 0 (nI p) h = bif chB (hI h 2624 0) (nI p) C 0 then some (some (.inl (-1000000002)), h) else if C < 6 then some (some (.inl (nI (C + 1))), pI (pI h 1344 0 C (nI p)) 77 0 0 (nI (C + 1))) else some (some (.inl (-1000000003)), h) := by
      obtain ⟨n, hn⟩ := choose_c q hC hC6 (nI p) C 0 (by omega)
      refine ⟨n, ?_⟩
      unfold X11_choose_g0 X11_choose_f0
      rw [nnE (sh_640 a), X1_hasPlace_eq, cI_some, c1, z, if_neg (by decide)]
      exact hn
    have hm : ∀ z', SH z' → hI z' 2624 0 = hI h 2624 0 → ∃ n, X12_choose_g0 (X12_choose_fam n) 0 (nI p) z' = bif chB (hI h 2624 0) (nI p) C 0 then some (some (.inl (-1000000002)), z') else if C < 6 then some (some (.inl (nI (C + 1))), pI (pI z' 2624 0 (9 + C) (nI p)) 2624 0 7 (nI (C + 1))) else some (some (.inl (-1000000003)), z') := fun z' az hz => by
      obtain ⟨n, hn⟩ := choose_m az (by rw [hz]; exact hC) hC6 (nI p) C 0 (by omega)
      rw [hz] at hn
      refine ⟨n, ?_⟩
      unfold X12_choose_g0 X12_choose_f0
      rw [X12_isPlace_eq az, hz, inn_wn (by have := q.2.2.1.2.1.1.1; exact this), cI_some, z, if_neg (by decide)]
      exact hn
    obtain ⟨n1, e1⟩ := hc
    cases cb : chB (hI h 2624 0) (nI p) C 0 with
    | true =>
      rw [cb] at e1
      obtain ⟨n2, e2⟩ := hm h a rfl
      rw [cb] at e2
      exact r0.same (v := -1000000002) (X11_choose_iff.mpr ⟨n1, e1⟩) (X12_choose_iff.mpr ⟨n2, e2⟩)
    | false =>
      by_cases d : C < 6
      case neg =>
        rw [cb, cond_false, if_neg d] at e1
        obtain ⟨n2, e2⟩ := hm h a rfl
        rw [cb, cond_false, if_neg d] at e2
        exact r0.same (v := -1000000003) (X11_choose_iff.mpr ⟨n1, e1⟩) (X12_choose_iff.mpr ⟨n2, e2⟩)
      rw [cb, cond_false, if_pos d] at e1
      generalize hh1 : pI (pI h 1344 0 C (nI p)) 77 0 0 (nI (C + 1)) = h1 at e1
      have a1 : SH h1 := by subst hh1; exact a
      have hN1 : hI h1 2624 0 = hI h 2624 0 := by
        subst hh1
        rw [off_now (by decide), off_now (by decide)]
      obtain ⟨n2, e2⟩ := hm h1 a1 hN1
      rw [cb, cond_false, if_pos d] at e2
      generalize hh2 : pI (pI h1 2624 0 (9 + C) (nI p)) 2624 0 7 (nI (C + 1)) = h2 at e2
      have f2 : Fr ([1344, 77, 2624], [], false) h h2 := by
        subst hh2 hh1
        exact (((Fr.rf.pI (by decide)).pI (by decide)).pI (by decide)).pI (by decide)
      have hN2 : hI h2 2624 0 = updF (updF (hI h 2624 0) (9 + C) (nI p)) 7 (nI (C + 1)) := by
        subst hh2
        rw [hI_upd, hI_upd, hN1]
      have s0 : Same h h2 0 noCho := by
        subst hh2 hh1
        exact (((Same.rf.pI (fun hc => absurd hc (by decide))).pI (fun hc => absurd hc (by decide))).pI (fun hc => absurd hc (by decide))).pI (fun hc => absurd hc (by decide))
      have up : ∀ j, j ≠ 7 → j ≠ 9 + C → updF (updF (hI h 2624 0) (9 + C) (nI p)) 7 (nI (C + 1)) j = hI h 2624 0 j := fun j h1 h2 => (if_neg h1).trans (if_neg h2)
      have u7 : updF (updF (hI h 2624 0) (9 + C) (nI p)) 7 (nI (C + 1)) 7 = nI (C + 1) := if_pos rfl
      have u9 : updF (updF (hI h 2624 0) (9 + C) (nI p)) 7 (nI (C + 1)) (9 + C) = nI p := (if_neg (by omega)).trans (if_pos rfl)
      refine ⟨nI (C + 1), h1, h2, X11_choose_iff.mpr ⟨n1, e1⟩, X12_choose_iff.mpr ⟨n2, e2⟩, r0.put f2 (by decide +kernel) (by decide +kernel) rfl ?_ ?_ ?_ ?_⟩
      · rw [hN2]
        obtain ⟨q1, q2, q3', q4, q5, q6⟩ := q.2.2.1
        obtain ⟨g1, g2, g3, g4, g5, g6, g7, g8⟩ := q2
        have h3 : ((hI h 2624 0) 3).toInt ≤ (updF (updF (hI h 2624 0) (9 + C) (nI p)) 7 (nI (C + 1)) 3).toInt := by rw [up 3 (by omega) (by omega)]; omega
        refine ⟨?_, ?_, q3'.cong a (by decide) g2.2 (up 4 (by omega) (by omega)) (fun j h1 h2 => up j (by omega) (by omega)) h3 (s0.sub (by decide)), q4.cong a (by decide) g3.2 (up 5 (by omega) (by omega)) (fun j h1 h2 => up j (by omega) (by omega)) h3 (s0.sub (by decide)), q5.cong a (by decide) g4.2 (up 6 (by omega) (by omega)) (fun j h1 h2 => up j (by omega) (by omega)) h3 (s0.sub (by decide)), ?_⟩
        · unfold HScal
          rw [up 3 (by omega) (by omega), up 4 (by omega) (by omega), up 5 (by omega) (by omega), up 6 (by omega) (by omega), up 8 (by omega) (by omega), u7, up 1 (by omega) (by omega), up 2 (by omega) (by omega), up 0 (by omega) (by omega)]
          have b1 := a.b1 (show 0 < 2 by decide)
          rw [s0 72 (by decide) 0 0 b1 (instB_b (by decide)), s0 73 (by decide) 0 0 b1 (instB_b (by decide)), s0 74 (by decide) 0 0 b1 (instB_b (by decide)), s0 75 (by decide) 0 0 b1 (instB_b (by decide)), s0 76 (by decide) 0 0 b1 (instB_b (by decide)), s0 78 (by decide) 0 0 b1 (instB_b (by decide)), s0 79 (by decide) 0 0 b1 (instB_b (by decide)), s0 80 (by decide) 0 0 b1 (instB_b (by decide))]
          refine ⟨c1, c2, c3, c4, c5, ?_, c7, c8, c9⟩
          subst hh2 hh1
          rw [hI_off _ (by decide), hI_off _ (by decide), hI_pI, if_pos ⟨rfl, rfl, rfl⟩]
        · unfold HRange
          rw [up 3 (by omega) (by omega), up 4 (by omega) (by omega), up 5 (by omega) (by omega), up 6 (by omega) (by omega), up 8 (by omega) (by omega), u7, up 1 (by omega) (by omega), up 2 (by omega) (by omega)]
          exact ⟨g1, g2, g3, g4, g5, ⟨by rw [nI_toInt (by omega)]; omega, by rw [nI_toInt (by omega)]; omega⟩, g7, g8⟩
        · intro k hk
          rw [u7, nI_toInt (by omega)] at hk
          by_cases ck : k = C
          · subst ck
            obtain ⟨L, hL, h12, hLn, hLi, -⟩ := q.places
            rw [u9, up 3 (by omega) (by omega)]
            refine ⟨?_, by rw [nI_toInt (by omega)]; omega, by rw [nI_toInt (by omega)]; omega⟩
            subst hh2 hh1
            rw [hI_off _ (by decide), hI_off _ (by decide), hI_off _ (by decide), hI_pI, if_pos ⟨rfl, rfl, rfl⟩]
          · obtain ⟨p1, p2⟩ := q6 k (by omega)
            rw [up (9 + k) (by omega) (by omega), up 3 (by omega) (by omega)]
            refine ⟨?_, p2⟩
            subst hh2 hh1
            rw [hI_off _ (by decide), hI_off _ (by decide), hI_off _ (by decide), hI_pI, if_neg (fun z => ck z.2.2)]
            exact p1
      · rw [hN2]
        exact q.2.2.2.scal a (by decide) f2 (by decide) (s0.sub (by decide)) (up 8 (by omega) (by omega)) (fun j h1 _ => up j (by omega) (by omega))
      · subst hh2 hh1
        exact (((Same.rf.pI (fun _ z => absurd (z.2.2 (by decide)) (by decide))).pI (fun _ z => absurd (z.2.2 (by decide)) (by decide))).pI (fun hc => absurd hc (by decide))).pI (fun hc => absurd hc (by decide))
      · rw [hN2, up 6 (by omega) (by omega)]
        exact q3.fr a f2 (by decide)
