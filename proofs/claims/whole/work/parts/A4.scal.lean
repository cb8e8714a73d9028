/-! pairs: place, clear, seed, hours -/
def noScal : List Nat := wayCs ++ goalCs ++ signCs ++ [1344] ++ trCols
theorem HRel.scal {h h2 : PH} {N N' : Nat → Int32} (q : HRel h 0 N) (a : SH h) (s : Same h h2 0 noScal) (e4 : N' 4 = N 4) (e5 : N' 5 = N 5) (e6 : N' 6 = N 6) (e9 : ∀ j, 9 ≤ j → N' j = N j) (h3 : (N 3).toInt ≤ (N' 3).toInt) (h7 : (N' 7).toInt ≤ (N 7).toInt) (hs : HScal h2 0 N') (hr : HRange N') : HRel h2 0 N' := by
  obtain ⟨q1, q2, q3, q4, q5, q6⟩ := q
  refine ⟨hs, hr, q3.cong a (by decide) q2.2.1.2 e4 (fun j h1 _ => e9 j (by omega)) h3 (s.sub (by decide)), q4.cong a (by decide) q2.2.2.1.2 e5 (fun j h1 _ => e9 j (by omega)) h3 (s.sub (by decide)), q5.cong a (by decide) q2.2.2.2.1.2 e6 (fun j h1 _ => e9 j (by omega)) h3 (s.sub (by decide)), fun k hk => ?_⟩
  obtain ⟨c1, c2⟩ := q6 k (by omega)
  rw [e9 (9 + k) (by omega), s 1344 (by decide) 0 _ (a.n21 (by decide)) (instB_b (by decide))]
  exact ⟨c1, c2.1, by omega⟩
theorem TRel.scal {W : List Nat × List Nat × Bool} {h h2 : PH} {b : Nat} {N N' : Nat → Int32} (q : TRel h b N) (a : SH h) (hb : b < 2) (f : Fr W h h2) (hv : trRefs.all (fun c => !W.2.1.contains c) = true) (s : Same h h2 b trCols) (e8 : N' 8 = N 8) (e : ∀ j, 393 ≤ j → j < 1765 → N' j = N j) : TRel h2 b N' :=
  q.cong a hb e8 e s f.2.2.2.1 (fun c i j hc hi _ => f.2.1 c i j (ninW hv hc) hi) f.2.2.1
theorem off_now {h : PH} {c i j : Nat} {v : Int32} (hc : c ≠ 2624) : hI (pI h c i j v) 2624 0 = hI h 2624 0 := funext fun k => hI_off h (fun e => hc e.symm) _ _ _ _ _
theorem pair_place (m : Nat) (h : PH) (_ : m < 64) (r : R m h) : Pr (R (m + 1)) (X11_place 0) (X12_place 0) h := by
  have r0 := r
  obtain ⟨a, q, -, q3, -⟩ := r
  obtain ⟨K, hK, h12, hKn, hKi, hK72⟩ := q.places
  by_cases c : K < 12
  · have a1 : SH (pI h 72 0 0 (nI (K + 1))) := a
    have hN1 : hI (pI h 72 0 0 (nI (K + 1))) 2624 0 = hI h 2624 0 := off_now (by decide)
    generalize hh2 : pI (pI h 72 0 0 (nI (K + 1))) 2624 0 3 (nI (K + 1)) = h2
    have f2 : Fr ([72, 2624], [], false) h h2 := by
      subst hh2
      exact (Fr.rf.pI (by decide)).pI (by decide)
    have hN2 : hI h2 2624 0 = updF (hI h 2624 0) 3 (nI (K + 1)) := by
      subst hh2
      rw [hI_upd, hN1]
    have s0 : Same h h2 0 noScal := by
      subst hh2
      exact (Same.rf.pI (fun hc => absurd hc (by decide))).pI (fun hc => absurd hc (by decide))
    have hv : (nI (K + 1)).toInt = (K : Int) + 1 := by
      rw [nI_toInt (by omega)]
      omega
    have up : ∀ j, j ≠ 3 → updF (hI h 2624 0) 3 (nI (K + 1)) j = hI h 2624 0 j := fun j hj => if_neg hj
    have u3 : updF (hI h 2624 0) 3 (nI (K + 1)) 3 = nI (K + 1) := rfl
    refine ⟨nI K, pI h 72 0 0 (nI (K + 1)), h2, ?_, ?_, r0.put f2 (by decide +kernel) (by decide +kernel) rfl ?_ ?_ ?_ ?_⟩
    · rw [X11_place_eq a, hK72, if_pos (show nI K < 12 from nI_lt (b := 12) c (by decide)), nI_1]
    · rw [X12_place_eq a1, hN1, hK, if_neg (show ¬ nI K = 12 from fun z => by have := (nI_eq (b := 12) (by omega) (by decide)).mp z; omega), nI_1, nI_pred, hh2]
    · rw [hN2]
      refine q.2.2.1.scal a s0 (up 4 (by decide)) (up 5 (by decide)) (up 6 (by decide)) (fun j hj => up j (by omega)) (by rw [u3, hv]; omega) (by rw [up 7 (by decide)]; omega) ?_ ?_
      · obtain ⟨c1, c2, c3, c4, c5, c6, c7, c8, c9⟩ := q.2.2.1.1
        subst hh2
        refine ⟨?_, ?_, ?_, ?_, ?_, ?_, ?_, ?_, ?_⟩ <;> rw [hI_off _ (by decide)]
        · rw [hI_pI, if_pos ⟨rfl, rfl, rfl⟩]; rfl
        all_goals rw [hI_off _ (by decide)]; assumption
      · exact ⟨⟨by rw [u3, hv]; omega, by rw [u3, hv]; omega⟩, q.2.2.1.2.1.2⟩
    · rw [hN2]
      exact q.2.2.2.scal a (by decide) f2 (by decide) (s0.sub (by decide)) (up 8 (by decide)) (fun j h1 _ => up j (by omega))
    · subst hh2
      exact (Same.rf.pI (fun _ z => absurd (z.2.2 (by decide)) (by decide))).pI (fun hc => absurd hc (by decide))
    · rw [hN2, up 6 (by decide)]
      exact q3.fr a f2 (by decide)
  · have e12 : K = 12 := by omega
    subst e12
    refine r0.same (v := -1000000003) ?_ ?_
    · rw [X11_place_eq a, hK72, if_neg (by decide)]
    · rw [X12_place_eq a, hK, if_pos (by decide)]
theorem pair_seed (m : Nat) (h : PH) (x : Int32) (_ : m < 64) (r : R m h) : Pr (R (m + 1)) (X11_seed 0 x) (X12_seed 0 x) h := by
  have r0 := r
  obtain ⟨a, q, -, q3, -⟩ := r
  have a1 : SH (pI h 80 0 0 x) := a
  have hN1 : hI (pI h 80 0 0 x) 2624 0 = hI h 2624 0 := off_now (by decide)
  generalize hh2 : pI (pI h 80 0 0 x) 2624 0 0 x = h2
  have f2 : Fr ([80, 2624], [], false) h h2 := by
    subst hh2
    exact (Fr.rf.pI (by decide)).pI (by decide)
  have hN2 : hI h2 2624 0 = updF (hI h 2624 0) 0 x := by
    subst hh2
    rw [hI_upd, hN1]
  have s0 : Same h h2 0 noScal := by
    subst hh2
    exact (Same.rf.pI (fun hc => absurd hc (by decide))).pI (fun hc => absurd hc (by decide))
  have up : ∀ j, j ≠ 0 → updF (hI h 2624 0) 0 x j = hI h 2624 0 j := fun j hj => if_neg hj
  obtain ⟨c1, c2, c3, c4, c5, c6, c7, c8, c9⟩ := q.2.2.1.1
  refine ⟨hI h 2624 0 0, pI h 80 0 0 x, h2, by rw [X11_seed_eq a, c9], by rw [X12_seed_eq a1, hN1, hh2], r0.put f2 (by decide +kernel) (by decide +kernel) rfl ?_ ?_ ?_ ?_⟩
  · rw [hN2]
    refine q.2.2.1.scal a s0 (up 4 (by decide)) (up 5 (by decide)) (up 6 (by decide)) (fun j hj => up j (by omega)) (by rw [up 3 (by decide)]; omega) (by rw [up 7 (by decide)]; omega) ?_ q.2.2.1.2.1
    subst hh2
    refine ⟨?_, ?_, ?_, ?_, ?_, ?_, ?_, ?_, ?_⟩ <;> rw [hI_off _ (by decide)]
    case refine_9 => rw [hI_pI, if_pos ⟨rfl, rfl, rfl⟩]; rfl
    all_goals rw [hI_off _ (by decide)]; assumption
  · rw [hN2]
    exact q.2.2.2.scal a (by decide) f2 (by decide) (s0.sub (by decide)) (up 8 (by decide)) (fun j h1 _ => up j (by omega))
  · subst hh2
    exact (Same.rf.pI (fun _ z => absurd (z.2.2 (by decide)) (by decide))).pI (fun hc => absurd hc (by decide))
  · rw [hN2, up 6 (by decide)]
    exact q3.fr a f2 (by decide)
theorem pair_clear (m : Nat) (h : PH) (_ : m < 64) (r : R m h) : Pr (R (m + 1)) (X11_clear 0) (X12_clear 0) h := by
  have r0 := r
  obtain ⟨a, q, -, q3, -⟩ := r
  have a1 : SH (pI h 77 0 0 0) := a
  have hN1 : hI (pI h 77 0 0 0) 2624 0 = hI h 2624 0 := off_now (by decide)
  generalize hh2 : pI (pI h 77 0 0 0) 2624 0 7 0 = h2
  have f2 : Fr ([77, 2624], [], false) h h2 := by
    subst hh2
    exact (Fr.rf.pI (by decide)).pI (by decide)
  have hN2 : hI h2 2624 0 = updF (hI h 2624 0) 7 0 := by
    subst hh2
    rw [hI_upd, hN1]
  have s0 : Same h h2 0 noScal := by
    subst hh2
    exact (Same.rf.pI (fun hc => absurd hc (by decide))).pI (fun hc => absurd hc (by decide))
  have up : ∀ j, j ≠ 7 → updF (hI h 2624 0) 7 0 j = hI h 2624 0 j := fun j hj => if_neg hj
  have u7 : updF (hI h 2624 0) 7 0 7 = 0 := rfl
  obtain ⟨c1, c2, c3, c4, c5, c6, c7, c8, c9⟩ := q.2.2.1.1
  obtain ⟨g1, g2, g3, g4, g5, g6, g7, g8⟩ := q.2.2.1.2.1
  refine ⟨hI h 2624 0 7, pI h 77 0 0 0, h2, by rw [X11_clear_eq a, c6], by rw [X12_clear_eq a1, hN1, hh2], r0.put f2 (by decide +kernel) (by decide +kernel) rfl ?_ ?_ ?_ ?_⟩
  · rw [hN2]
    refine q.2.2.1.scal a s0 (up 4 (by decide)) (up 5 (by decide)) (up 6 (by decide)) (fun j hj => up j (by omega)) (by rw [up 3 (by decide)]; omega) (by rw [u7, i0]; exact g6.1) ?_ ⟨g1, g2, g3, g4, g5, ⟨by rw [u7, i0]; omega, by rw [u7, i0]; omega⟩, g7, g8⟩
    subst hh2
    refine ⟨?_, ?_, ?_, ?_, ?_, ?_, ?_, ?_, ?_⟩ <;> rw [hI_off _ (by decide)]
    case refine_6 => rw [hI_pI, if_pos ⟨rfl, rfl, rfl⟩]; rfl
    all_goals rw [hI_off _ (by decide)]; assumption
  · rw [hN2]
    exact q.2.2.2.scal a (by decide) f2 (by decide) (s0.sub (by decide)) (up 8 (by decide)) (fun j h1 _ => up j (by omega))
  · subst hh2
    exact (Same.rf.pI (fun _ z => absurd (z.2.2 (by decide)) (by decide))).pI (fun hc => absurd hc (by decide))
  · rw [hN2, up 6 (by decide)]
    exact q3.fr a f2 (by decide)
