def wbW : List Nat × List Nat × Bool := ([515, 1536, 1920, 1984, 516, 2048, 2112, 2176, 521, 523, 524, 525, 526, 527, 2240, 2304, 3264, 3328, 3392, 3456, 737, 731, 732, 733, 734, 3584, 3648], [193, 513], false)
theorem walk_both {m : Nat} {h : PH} (r : R m h) (hm : m < 64) {p g i : Nat} (hp : p < nt (hI h 2624 0 3)) (hg : g < nt (hI h 2624 0 5)) (hi : i < 2) : ∃ cn h2 h3 h5, X11_walkOf 0 (nI p) (nI g) (nI i) h = some (some (.inr (8, i + 1)), h2) ∧ WfE h2 i cn (wkP (hI h 2624 0) (nI i) g p) ∧ Hs h2 0 (hI h 2624 0) ∧ hI h2 2624 0 = hI h 2624 0 ∧ X12_looks 0 (nI i) h2 = some (none, h3) ∧ X12_walks 0 (nI p) (nI g) (pI h3 737 0 0 0) = some (none, h5) ∧ MfE h5 (wkP (hI h 2624 0) (nI i) g p) ∧ SH h5 ∧ R (m + 1) h5 := by
  have r0 := r
  obtain ⟨a, q, -, -, -, -, -, -, q8, -⟩ := r
  obtain ⟨x1, c, x2, x3, x4⟩ := q8 i hi
  obtain ⟨h2, e2, f2, o2, w2⟩ := walkOf_eq q hi x1 hg hp ⟨x3, x4⟩ (show c + 1 < 2 ^ 31 by omega)
  have qs2 := q.fr f2 (by decide +kernel) (by decide +kernel)
  have hN2 : hI h2 2624 0 = hI h 2624 0 := now_fr a f2 (by decide)
  have qs2' : Hs h2 0 (hI h2 2624 0) := by rw [hN2]; exact qs2
  obtain ⟨h3, e3, m3, f3⟩ := X12_walk_ready qs2.1 qs2' (nI i)
  rw [hN2] at m3
  obtain ⟨h5, e5, f5, w5⟩ := X12_walks_eq m3 q hg hp
  have fA : Fr wbW h h5 := ((f2.sub (by decide)).tr (f3.sub (by decide))).tr (f5.sub (by decide))
  have fB : Fr ([3264, 3328, 3392, 3456, 737, 731, 732, 733, 734, 3584, 3648], [], false) h2 h5 := (f3.sub (by decide)).tr (f5.sub (by decide))
  refine ⟨c + 1, h2, h3, h5, e2, w2, qs2, hN2, e3, e5, w5, m3.1.1.fr f5 (by decide), ?_⟩
  refine r0.keep fA (by decide +kernel) (by decide +kernel) rfl (fun w => ?_)
  have w2' : Wlk (m + 1) h2 := Wlk.walk w o2 (fun i' hi' => f2.1 192 i' 0 (by decide) (a.n3 hi')) w2.wc (k := 1) (by omega) (by omega)
  exact w2'.fr qs2.1 fB (by decide)
theorem X12_trip2 {h g : PH} {b : Nat} (a : SH h) (q : Hs g b (hI h 2624 0)) {x1 x2 x3 : Int32} (x4 : Int32) (hz : wn x1 (hI h 2624 0 3) = 0 ∨ wn x2 (hI h 2624 0 5) = 0 ∨ wn x3 2 = 0) : X12_walk 0 x1 x2 x3 x4 h = some (some (.inl (-1000000001)), h) ∧ X12_via 0 x1 x2 x3 x4 h = some (some (.inl (-1000000001)), h) := by
  unfold X12_walk X12_walk_g0 X12_walk_f0 X12_via X12_via_g0 X12_via_f0
  rw [isPlace_wn a q, cI_some, cI_some]
  rcases wn_01 x1 (hI h 2624 0 3) with e | e
  · rw [e, if_pos rfl, if_pos rfl]
    exact ⟨rfl, rfl⟩
  · rw [e, if_neg (by decide), if_neg (by decide), isGoal_wn a q, cI_some, cI_some]
    rcases wn_01 x2 (hI h 2624 0 5) with e2 | e2
    · rw [e2, if_pos rfl, if_pos rfl]
      exact ⟨rfl, rfl⟩
    · rw [e2, if_neg (by decide), if_neg (by decide), wheels_wn, cI_some, cI_some]
      have e3 : wn x3 2 = 0 := by
        rcases hz with c | c | c
        · rw [e] at c; cases c
        · rw [e2] at c; cases c
        · exact c
      rw [e3, if_pos rfl, if_pos rfl]
      exact ⟨rfl, rfl⟩
theorem in_wn5 (x : Int32) (h : PH) : X12_in x 0 4 h = some (some (.inl (wn x 5)), h) := by
  rw [in_inn, show (4 : Int32) = 5 - 1 by decide, inn_wn (by decide)]
theorem wkP_k (N : Nat → Int32) (x : Int32) (gl p : Nat) : (wkP N x gl p).2.2.2.2.2 (wkP N x gl p).2.2.1 = (wkP N x gl p).2.2.2.1 ∧ (wkP N x gl p).2.2.1 ≤ 60 := by
  have := wk_here (N := N) (P := fun v => passB N v x) (gp := gP N gl) (td := tdF noT (toF N x gl)) 60 p none 0 0 none [] (fun _ => p) rfl
  exact ⟨this.1, Nat.le_trans this.2 (by decide)⟩
theorem pair_walk (m : Nat) (h : PH) (x1 x2 x3 x4 : Int32) (hm : m < 64) (r : R m h) : Pr (R (m + 1)) (X11_walk 0 x1 x2 x3 x4) (X12_walk 0 x1 x2 x3 x4) h := by
  have r0 := r
  obtain ⟨a, q, -⟩ := r
  rcases trip_cases q rfl x1 x2 x3 with ⟨e, z⟩ | ⟨e, z1, z2, z3, p, g, i, hp, hg, hi, rfl, rfl, rfl⟩
  · refine ⟨-1000000001, h, h, ?_, (X12_trip2 a q x4 z).1, r0.mono⟩
    unfold X11_walk X11_walk_g0 X11_walk_f0
    rw [e, cI_some, if_pos rfl]
  · rcases wn_cases (x := x4) (K := 5) (by decide) with z4 | ⟨z4, k, hk, rfl⟩
    · have z4' : wn x4 5 = 0 := z4
      refine ⟨-1000000001, h, h, ?_, ?_, r0.mono⟩
      · unfold X11_walk X11_walk_g0 X11_walk_f0
        rw [e, cI_some, if_neg (by decide), isWithin_wn, cI_some, z4', if_pos rfl]
      · unfold X12_walk X12_walk_g0 X12_walk_f0
        rw [isPlace_wn a q, cI_some, z1, if_neg (by decide), isGoal_wn a q, cI_some, z2, if_neg (by decide), wheels_wn, cI_some, z3, if_neg (by decide), in_wn5, cI_some, z4', if_pos rfl]
    · have z4' : wn (nI k) 5 = 1 := z4
      obtain ⟨cn, h2, h3, h5, e2, w2, q2, hN2, e3, e5, w5, a5, r5⟩ := walk_both r0 hm hp hg hi
      have q2' : Hs h2 0 (hI h2 2624 0) := by rw [hN2]; exact q2
      have hk60 := wkP_k (hI h 2624 0) (nI i) g p
      have hcl : X11_walk 0 (nI p) (nI g) (nI i) (nI k) h = if nI k = 0 then some (some (.inl (hI h2 523 i 0)), h2) else if nI k = 1 then some (some (.inl (hI h2 524 i 0)), h2) else if nI k = 2 then some (some (.inl (hI h2 526 i 0)), h2) else if nI k = 3 then some (some (.inl (hI h2 525 i 0)), h2) else cI (X11_orNone (hI h2 527 i 0) h2) fun v13 h12 => some (some (.inl v13), h12) := by
        unfold X11_walk X11_walk_g0 X11_walk_f0
        rw [e, cI_some, if_neg (by decide), isWithin_wn, cI_some, z4', if_neg (by decide), e2, cR_some, nnE rfl, nnE rfl, nnE rfl, nnE rfl, nnE rfl]
      have hmo : X12_walk 0 (nI p) (nI g) (nI i) (nI k) h2 = if nI k = 0 then some (some (.inl (hI h5 731 0 0)), h5) else if nI k = 1 then some (some (.inl (hI h5 732 0 0)), h5) else if nI k = 2 then some (some (.inl (hI h5 3584 0 (wkP (hI h 2624 0) (nI i) g p).2.2.1)), h5) else if nI k = 3 then some (some (.inl (hI h5 733 0 0)), h5) else if hI h5 734 0 0 < 0 then some (some (.inl (-1000000005)), h5) else some (some (.inl (hI h5 734 0 0)), h5) := by
        unfold X12_walk X12_walk_g0 X12_walk_f0
        rw [isPlace_wn q2.1 q2', cI_some, hN2, z1, if_neg (by decide), isGoal_wn q2.1 q2', cI_some, hN2, z2, if_neg (by decide), wheels_wn, cI_some, z3, if_neg (by decide), in_wn5, cI_some, z4', if_neg (by decide), e3, cV_some, wr_eq, e5, cV_some, nnE (sh_735 a5), ixE (ln_56 a5) w5.2.2.1 (show (wkP (hI h 2624 0) (nI i) g p).2.2.1 < 120 by omega) (by decide)]
      have hk5 : k = 0 ∨ k = 1 ∨ k = 2 ∨ k = 3 ∨ k = 4 := by omega
      rcases hk5 with rfl | rfl | rfl | rfl | rfl
      · exact ⟨_, h2, h5, hcl.trans (by rw [if_pos (show nI 0 = 0 from rfl), w2.1]), hmo.trans (by rw [if_pos (show nI 0 = 0 from rfl), w5.1]), r5⟩
      · exact ⟨_, h2, h5, hcl.trans (by rw [if_neg (show ¬ nI 1 = 0 by decide), if_pos (show nI 1 = 1 from rfl), w2.2.1]), hmo.trans (by rw [if_neg (show ¬ nI 1 = 0 by decide), if_pos (show nI 1 = 1 from rfl), w5.2.1]), r5⟩
      · exact ⟨_, h2, h5, hcl.trans (by rw [if_neg (show ¬ nI 2 = 0 by decide), if_neg (show ¬ nI 2 = 1 by decide), if_pos (show nI 2 = 2 from rfl), w2.2.2.2.1]), hmo.trans (by rw [if_neg (show ¬ nI 2 = 0 by decide), if_neg (show ¬ nI 2 = 1 by decide), if_pos (show nI 2 = 2 from rfl), w5.2.2.2.2 _ (Nat.le_refl _), hk60.1]), r5⟩
      · exact ⟨_, h2, h5, hcl.trans (by rw [if_neg (show ¬ nI 3 = 0 by decide), if_neg (show ¬ nI 3 = 1 by decide), if_neg (show ¬ nI 3 = 2 by decide), if_pos (show nI 3 = 3 from rfl), w2.2.2.1]), hmo.trans (by rw [if_neg (show ¬ nI 3 = 0 by decide), if_neg (show ¬ nI 3 = 1 by decide), if_neg (show ¬ nI 3 = 2 by decide), if_pos (show nI 3 = 3 from rfl), w5.2.2.1]), r5⟩
      · have h14 : nt (hI h 2624 0 6) ≤ 14 := by
          obtain ⟨S, hS, h14, hSn, -⟩ := q.signs
          omega
        have lt : ∀ w, (wkP (hI h 2624 0) (nI i) g p).2.2.2.2.1 = some w → w < 2 ^ 31 := fun w hw => by
          have := wkP_fol q hw
          omega
        refine ⟨orV (wkP (hI h 2624 0) (nI i) g p).2.2.2.2.1, h2, h5, hcl.trans ?_, hmo.trans ?_, r5⟩
        · rw [if_neg (show ¬ nI 4 = 0 by decide), if_neg (show ¬ nI 4 = 1 by decide), if_neg (show ¬ nI 4 = 2 by decide), if_neg (show ¬ nI 4 = 3 by decide), w2.2.2.2.2.1, orNone_oI lt, cI_some]
        · rw [if_neg (show ¬ nI 4 = 0 by decide), if_neg (show ¬ nI 4 = 1 by decide), if_neg (show ¬ nI 4 = 2 by decide), if_neg (show ¬ nI 4 = 3 by decide), w5.2.2.2.1]
          cases c : (wkP (hI h 2624 0) (nI i) g p).2.2.2.2.1 with
          | none => rfl
          | some w =>
            rw [if_neg (oI_pos (lt w c))]
            rfl
theorem pair_via (m : Nat) (h : PH) (x1 x2 x3 x4 : Int32) (hm : m < 64) (r : R m h) : Pr (R (m + 1)) (X11_via 0 x1 x2 x3 x4) (X12_via 0 x1 x2 x3 x4) h := by
  have r0 := r
  obtain ⟨a, q, -⟩ := r
  rcases trip_cases q rfl x1 x2 x3 with ⟨e, z⟩ | ⟨e, z1, z2, z3, p, g, i, hp, hg, hi, rfl, rfl, rfl⟩
  · refine ⟨-1000000001, h, h, ?_, (X12_trip2 a q x4 z).2, r0.mono⟩
    unfold X11_via X11_via_g0 X11_via_f0
    rw [e, cI_some, if_pos rfl]
  · by_cases c0 : x4 < 0
    · refine ⟨-1000000001, h, h, ?_, ?_, r0.mono⟩
      · unfold X11_via X11_via_g0 X11_via_f0
        rw [e, cI_some, if_neg (by decide), if_pos c0]
      · unfold X12_via X12_via_g0 X12_via_f0
        rw [isPlace_wn a q, cI_some, z1, if_neg (by decide), isGoal_wn a q, cI_some, z2, if_neg (by decide), wheels_wn, cI_some, z3, if_neg (by decide), if_pos c0]
    · obtain ⟨k, hk, rfl⟩ := nI_of c0
      obtain ⟨cn, h2, h3, h5, e2, w2, q2, hN2, e3, e5, w5, a5, r5⟩ := walk_both r0 hm hp hg hi
      have q2' : Hs h2 0 (hI h2 2624 0) := by rw [hN2]; exact q2
      have hk60 := wkP_k (hI h 2624 0) (nI i) g p
      by_cases c1 : (wkP (hI h 2624 0) (nI i) g p).2.2.1 < k
      · have hlt : nI (wkP (hI h 2624 0) (nI i) g p).2.2.1 < nI k := nI_lt c1 hk
        refine ⟨-1000000005, h2, h5, ?_, ?_, r5⟩
        · unfold X11_via X11_via_g0 X11_via_f0
          rw [e, cI_some, if_neg (by decide), if_neg c0, e2, cR_some, nnE rfl, w2.2.2.1, if_pos hlt]
        · unfold X12_via X12_via_g0 X12_via_f0
          rw [isPlace_wn q2.1 q2', cI_some, hN2, z1, if_neg (by decide), isGoal_wn q2.1 q2', cI_some, hN2, z2, if_neg (by decide), wheels_wn, cI_some, z3, if_neg (by decide), if_neg c0, e3, cV_some, wr_eq, e5, cV_some, w5.2.2.1, if_pos hlt]
      · have hlt : ¬ nI (wkP (hI h 2624 0) (nI i) g p).2.2.1 < nI k := nI_nlt (by omega) (by omega)
        have hlt2 : nI k < Int32.ofNat 61 := nI_lt (b := 61) (by omega) (by decide)
        refine ⟨nI ((wkP (hI h 2624 0) (nI i) g p).2.2.2.2.2 k), h2, h5, ?_, ?_, r5⟩
        · unfold X11_via X11_via_g0 X11_via_f0
          rw [e, cI_some, if_neg (by decide), if_neg c0, e2, cR_some, nnE rfl, w2.2.2.1, if_neg hlt, nnE rfl, nnE (sh_522 q2.1 i hi), ln_36 q2.1 i hi, if_pos hlt2, nnE rfl, nnE (sh_522 q2.1 i hi), ixE (ln_36 q2.1 i hi) rfl (show k < 61 by omega) (by decide), w2.2.2.2.2.2.1 k (by omega)]
        · unfold X12_via X12_via_g0 X12_via_f0
          rw [isPlace_wn q2.1 q2', cI_some, hN2, z1, if_neg (by decide), isGoal_wn q2.1 q2', cI_some, hN2, z2, if_neg (by decide), wheels_wn, cI_some, z3, if_neg (by decide), if_neg c0, e3, cV_some, wr_eq, e5, cV_some, w5.2.2.1, if_neg hlt, nnE (sh_735 a5), ixE (ln_56 a5) rfl (show k < 120 by omega) (by decide), w5.2.2.2.2 k (by omega)]
