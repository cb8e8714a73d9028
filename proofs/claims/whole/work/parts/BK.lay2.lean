def asH (h : PH) (T s : Nat) : PH := pCp (pI (pI h 256 T 0 (hI h 256 s 0)) 257 T 0 (hI h 257 s 0)) 1664 s 0 1664 T 0 24
theorem becomeAs5_eq {h : PH} (a : SH h) {T s : Nat} (hT : T < 9) (hs : s < 9) : X5_becomeAs T (s + 1) h = some (none, asH h T s) := by
  unfold X5_becomeAs X5_becomeAs_g0 X5_becomeAs_f0 asH
  have a1 : SH (pI h 256 T 0 (hI h 256 s 0)) := a
  rw [nnE rfl, wr_eq, nnE rfl, hI_off h (by decide), wr_eq, nnE rfl]
  have a2 : SH (pI (pI h 256 T 0 (hI h 256 s 0)) 257 T 0 (hI h 257 s 0)) := a
  rw [nnE (sh_258 a2 s hs), nnE (sh_258 a2 T hT), ln_26 a2 s hs, ln_26 a2 T hT]
  rfl
theorem pair_lay (m : Nat) (h : PH) (x1 x2 x3 : Int32) (_ : m < 64) (r : R m h) : Pr (R (m + 1)) (X11_lay 0 x1 x2 x3) (X12_lay 0 x1 x2 x3) h := by
  have r0 := r
  obtain ⟨a, q, -, -, q4, q5, q6, q7, -⟩ := r
  rcases lit_cases (x := x1) (y := 5) (K := 5) rfl (by decide) with z | ⟨z, t, ht, rfl⟩
  · refine r0.same (v := -1000000001) ?_ (X12_lay_iff.mpr ⟨0, ?_⟩)
    · unfold X11_lay X11_lay_g0 X11_lay_f0
      rw [isWithin_wn, cI_some, z, if_pos rfl]
    · unfold X12_lay_g0 X12_lay_f0
      rw [isSlot_wn, cI_some, z, if_pos rfl]
  obtain ⟨t1, t2, -⟩ := q6 t ht
  rcases lit_cases (x := x2) (y := 4) (K := 4) rfl (by decide) with z2 | ⟨z2, k, hk, rfl⟩
  · refine r0.same (v := -1000000001) ?_ (X12_lay_iff.mpr ⟨0, ?_⟩)
    · unfold X11_lay X11_lay_g0 X11_lay_f0
      rw [isWithin_wn, cI_some, z, if_neg (by decide), isWithin_wn, cI_some, z2, if_pos rfl]
    · unfold X12_lay_g0 X12_lay_f0
      rw [isSlot_wn, cI_some, z, if_neg (by decide), in_wn4, cI_some, z2, if_pos rfl]
  have hk4 : k = 1 ∨ k = 2 ∨ (k = 0 ∨ k = 3) := by omega
  rcases hk4 with rfl | rfl | hk03
  · -- a sign
    have z2 : wn 1 4 = 1 := z2
    show Pr (R (m + 1)) (X11_lay 0 (nI t) 1 x3) (X12_lay 0 (nI t) 1 x3) h
    rcases sign_cases q x3 with z3 | ⟨z3, s, hs, rfl⟩
    · refine r0.same (v := -1000000001) ?_ (X12_lay_iff.mpr ⟨0, ?_⟩)
      · unfold X11_lay X11_lay_g0 X11_lay_f0
        rw [isWithin_wn, cI_some, z, if_neg (by decide), isWithin_wn, cI_some, z2, if_neg (by decide), if_pos rfl, nnE (sh_640 a), X1_hasSign_eq, cI_some]
        obtain ⟨S, hS, h14, hSn, hSi, h75⟩ := q.signs
        rw [h75, ← hS, z3, if_pos rfl]
      · unfold X12_lay_g0 X12_lay_f0
        rw [isSlot_wn, cI_some, z, if_neg (by decide), in_wn4, cI_some, z2, if_neg (by decide), if_pos rfl, isSign_wn a q, cI_some, z3, if_pos rfl]
    obtain ⟨e1, e2, e3, e4, e5, e6, -⟩ := q.sign hs
    obtain ⟨f1, f2, f3, -⟩ := q.signF hs
    rw [Nat.mul_zero, Nat.zero_add] at f2 f3
    obtain ⟨S, hS, h14, hSn, hSi, h75⟩ := q.signs
    generalize hhc : pI (pI (pI h 384 t 0 1) 385 t 0 (hI h 2624 0 (156 + 5 * s))) 386 t 0 (nI (sR (hI h 2624 0) s)) = hc
    have fc : Fr lyW h hc := by
      subst hhc
      exact ((Fr.rf.pI (by decide)).pI (by decide)).pI (by decide)
    have ac : SH hc := a.fr fc (by decide)
    have hNc : hI hc 2624 0 = hI h 2624 0 := now_fr a fc (by decide)
    have qc : Hs hc 0 (hI hc 2624 0) := by
      rw [hNc]
      exact q.fr fc (by decide +kernel) (by decide +kernel)
    have o60 : hI hc 4160 0 t = hI h 4160 0 t := by
      subst hhc
      rw [hI_off _ (by decide), hI_off _ (by decide), hI_off _ (by decide)]
    obtain ⟨p1, p2, p3⟩ := lyH_at hc t 1 (hI h 2624 0 (156 + 5 * s)) (nI (sR (hI h 2624 0) s)) t
    rw [if_pos rfl] at p1 p2 p3
    have f2' : Fr ([4160, 4224, 4288, 4352], [], false) hc (lyH hc t 1 (hI h 2624 0 (156 + 5 * s)) (nI (sR (hI h 2624 0) s))) := ((Fr.rf.pI (by decide)).pI (by decide)).pI (by decide)
    have d4 : hI hc 384 t 0 = 1 ∧ hI hc 385 t 0 = hI h 2624 0 (156 + 5 * s) ∧ hI hc 386 t 0 = nI (sR (hI h 2624 0) s) := by
      subst hhc
      refine ⟨?_, ?_, ?_⟩
      · rw [hI_off _ (by decide), hI_off _ (by decide), hI_pI, if_pos ⟨rfl, rfl, rfl⟩]
      · rw [hI_off _ (by decide), hI_pI, if_pos ⟨rfl, rfl, rfl⟩]
      · rw [hI_pI, if_pos ⟨rfl, rfl, rfl⟩]
    refine ⟨hI h 4160 0 t, hc, lyH hc t 1 (hI h 2624 0 (156 + 5 * s)) (nI (sR (hI h 2624 0) s)), ?_, X12_lay_iff.mpr ⟨1, ?_⟩, lay_R r0 fc f2' ?_ ?_ ?_ ?_ ?_ ht⟩
    · unfold X11_lay X11_lay_g0 X11_lay_f0
      rw [isWithin_wn, cI_some, z, if_neg (by decide), isWithin_wn, cI_some, z2, if_neg (by decide), if_pos rfl, nnE (sh_640 a), X1_hasSign_eq, cI_some, h75, ← hS, z3, if_neg (by decide)]
      unfold X11_lay_g35 X11_lay_f35
      rw [if_neg (by decide)]
      unfold X11_lay_g51 X11_lay_f51
      rw [if_neg (by decide)]
      unfold X11_lay_g73 X11_lay_f73
      have a1 : SH (pI h 384 t 0 1) := a
      have a2 : SH (pI (pI h 384 t 0 1) 385 t 0 (hI h 2624 0 (156 + 5 * s))) := a
      rw [nnE (sh_647 a), ixE (ln_39 a) rfl ht (by decide), nnE (sh_2496 a t ht), nnE (sh_2496 a t ht), wr_eq, if_pos rfl, nnE (sh_640 a1), nnE (sh_68 a1 0 (by decide)), ixE (ln_18 a1 0 (by decide)) rfl e6 (by decide), nnE (sh_1152_0 a1 s e6), nnE (sh_2496 a t ht), wr_eq, hI_off h (by decide), f2, nnE (sh_640 a2), nnE (sh_68 a2 0 (by decide)), ixE (ln_18 a2 0 (by decide)) rfl e6 (by decide), nnE (sh_1152_0 a2 s e6), nnE (sh_2496 a t ht), wr_eq, hI_off _ (by decide), hI_off _ (by decide), f3, t1, hhc]
    · unfold X12_lay_g0 X12_lay_f0
      rw [isSlot_wn, cI_some, z, if_neg (by decide), in_wn4, cI_some, z2, if_neg (by decide), if_pos rfl, isSign_wn ac qc, cI_some, hNc, z3, if_neg (by decide)]
      unfold X12_lay_g29 X12_lay_f29
      rw [if_neg (by decide)]
      unfold X12_lay_g44 X12_lay_f44
      rw [if_neg (by decide)]
      refine lay_62 ac ht (k := 1) (A := hI h 2624 0 (156 + 5 * s)) (B := nI (sR (hI h 2624 0) s)) (fun g => ?_) (fun g => ?_) ?_
      · have a1 : SH (pI hc 4160 0 t 1) := ac
        rw [if_pos rfl, of5_1 a1 (N := hI h 2624 0) (by rw [off_now (by decide), hNc]) e6, cI_some]
      · have a2 : SH (pI (pI hc 4160 0 t 1) 4224 0 t (hI h 2624 0 (156 + 5 * s))) := ac
        rw [if_pos rfl, rowsOf_sR a2 (N := hI h 2624 0) (by rw [off_now (by decide), off_now (by decide), hNc]) q hs, cI_some]
      · rw [lay_end (by decide), o60]
    · intro c hc' t' ht'
      subst hhc
      rw [hI_pI, if_neg (fun z => ht' z.2.1), hI_pI, if_neg (fun z => ht' z.2.1), hI_pI, if_neg (fun z => ht' z.2.1)]
    · intro c hc' i j hi
      subst hhc
      rw [hI_off _ (by omega), hI_off _ (by omega), hI_off _ (by omega)]
    · intro c hc' t' ht'
      obtain ⟨v1, v2, v3⟩ := lyH_at hc t 1 (hI h 2624 0 (156 + 5 * s)) (nI (sR (hI h 2624 0) s)) t'
      rw [if_neg ht'] at v1 v2 v3
      rcases hc' with rfl | rfl | rfl
      · rw [v1]; subst hhc; rw [hI_off _ (by decide), hI_off _ (by decide), hI_off _ (by decide)]
      · rw [v2]; subst hhc; rw [hI_off _ (by decide), hI_off _ (by decide), hI_off _ (by decide)]
      · rw [v3]; subst hhc; rw [hI_off _ (by decide), hI_off _ (by decide), hI_off _ (by decide)]
    · intro i _
      rw [lyH_off _ _ _ _ _ (by decide) (by decide) (by decide)]
      subst hhc
      rw [hI_off _ (by decide), hI_off _ (by decide), hI_off _ (by decide)]
    · rw [p1, p2, p3, lyH_off _ _ _ _ _ (by decide) (by decide) (by decide), lyH_off _ _ _ _ _ (by decide) (by decide) (by decide), lyH_off _ _ _ _ _ (by decide) (by decide) (by decide), d4.1, d4.2.1, d4.2.2]
      exact ⟨rfl, ⟨by decide, by decide⟩, fun _ => ⟨rfl, rfl, e5⟩, fun z => absurd z (by decide), fun z => absurd z (by decide)⟩
  · -- a sheet
    have z2 : wn 2 4 = 1 := z2
    show Pr (R (m + 1)) (X11_lay 0 (nI t) 2 x3) (X12_lay 0 (nI t) 2 x3) h
    rcases lit_cases (x := x3) (y := 4) (K := 4) rfl (by decide) with z3 | ⟨z3, s, hs, rfl⟩
    · refine r0.same (v := -1000000001) ?_ (X12_lay_iff.mpr ⟨0, ?_⟩)
      · unfold X11_lay X11_lay_g0 X11_lay_f0
        rw [isWithin_wn, cI_some, z, if_neg (by decide), isWithin_wn, cI_some, z2, if_neg (by decide), if_neg (by decide)]
        unfold X11_lay_g35 X11_lay_f35
        rw [if_pos rfl, isWithin_wn, cI_some, z3, if_pos rfl]
      · unfold X12_lay_g0 X12_lay_f0
        rw [isSlot_wn, cI_some, z, if_neg (by decide), in_wn4, cI_some, z2, if_neg (by decide), if_neg (by decide)]
        unfold X12_lay_g29 X12_lay_f29
        rw [if_pos rfl, isSheet_wn, cI_some, z3, if_pos rfl]
    obtain ⟨s1, s2, s3, s4, s5⟩ := q5 s hs
    by_cases d : hI h 3968 0 s = -1
    · refine r0.same (v := -1000000011) ?_ (X12_lay_iff.mpr ⟨0, ?_⟩)
      · unfold X11_lay X11_lay_g0 X11_lay_f0
        rw [isWithin_wn, cI_some, z, if_neg (by decide), isWithin_wn, cI_some, z2, if_neg (by decide), if_neg (by decide)]
        unfold X11_lay_g35 X11_lay_f35
        rw [if_pos rfl, isWithin_wn, cI_some, z3, if_neg (by decide)]
        unfold X11_lay_g51 X11_lay_f51
        rw [if_pos rfl, nnE (sh_646 a), ixE (ln_38 a) rfl hs (by decide), nnE (sh_2432 a s hs), s1, if_pos d]
      · unfold X12_lay_g0 X12_lay_f0
        rw [isSlot_wn, cI_some, z, if_neg (by decide), in_wn4, cI_some, z2, if_neg (by decide), if_neg (by decide)]
        unfold X12_lay_g29 X12_lay_f29
        rw [if_pos rfl, isSheet_wn, cI_some, z3, if_neg (by decide)]
        unfold X12_lay_g44 X12_lay_f44
        rw [if_pos rfl, nnE (sh_745 a), ixE (ln_62 a) rfl hs (by decide), if_pos ((sort_neg s3).mpr d)]
    generalize hhc : asH (pI h 384 t 0 2) (4 + t) s = hc
    have fc : Fr lyW h hc := by
      subst hhc
      exact (((Fr.rf.pI (by decide)).pI (by decide)).pI (by decide)).pCp (by decide)
    have ac : SH hc := a.fr fc (by decide)
    have cO : ∀ c i j, c ≠ 384 → ¬ (c = 256 ∨ c = 257 ∨ c = 1664) ∨ i ≠ 4 + t → hI hc c i j = hI h c i j := fun c i j hc1 hc2 => by
      subst hhc
      unfold asH
      rw [hI_pCp, if_neg (by omega), hI_pI, if_neg (by omega), hI_pI, if_neg (by omega), hI_off _ hc1]
    have c384 : ∀ t', hI hc 384 t' 0 = if t' = t then 2 else hI h 384 t' 0 := fun t' => by
      subst hhc
      unfold asH
      rw [hI_pCp, if_neg (by omega), hI_off _ (by decide), hI_off _ (by decide), hI_pI]
      by_cases c : t' = t
      · rw [if_pos ⟨rfl, c, rfl⟩, if_pos c]
      · rw [if_neg (fun z => c z.2.1), if_neg c]
    have c257 : hI hc 257 (4 + t) 0 = hI h 4032 0 s := by
      subst hhc
      unfold asH
      rw [hI_pCp, if_neg (by omega), hI_pI, if_pos ⟨rfl, rfl, rfl⟩, hI_off _ (by decide), s2]
    have c1664 : ∀ j, j < 24 → hI hc 1664 (4 + t) j = hI h 4096 0 (24 * s + j) := fun j hj => by
      subst hhc
      unfold asH
      rw [hI_pCp, if_pos ⟨rfl, rfl, by omega, by omega⟩, hI_off _ (by decide), hI_off _ (by decide), hI_off _ (by decide), Nat.zero_add, Nat.sub_zero, s5 j hj]
    have o60 : hI hc 4160 0 t = hI h 4160 0 t := cO _ _ _ (by decide) (Or.inl (by decide))
    have al : SH (lyH hc t 2 (hI h 4032 0 s) 0) := ac
    obtain ⟨n, h', e1, f1, v1⟩ := lay_loop al ht hs (hI h 4160 0 t) 24 0 _ (by omega) Fr.rf (fun i => by rw [if_neg (by omega)])
    have f2' : Fr ([4160, 4224, 4288, 4352], [], false) hc h' := ((((Fr.rf.pI (by decide)).pI (by decide)).pI (by decide) : Fr ([4160, 4224, 4288, 4352], [], false) hc (lyH hc t 2 (hI h 4032 0 s) 0))).tr (f1.sub (by decide))
    have n65 : ∀ c, c = 4160 ∨ c = 4224 ∨ c = 4288 → ∀ j, hI h' c 0 j = hI (lyH hc t 2 (hI h 4032 0 s) 0) c 0 j := fun c hc' j => by
      rcases hc' with rfl | rfl | rfl
      · exact f1.1 4160 0 j (by decide) (al.nl (n := 5) (show (65, 0, 5) ∈ lnList by decide +kernel))
      · exact f1.1 4224 0 j (by decide) (al.nl (n := 5) (show (66, 0, 5) ∈ lnList by decide +kernel))
      · exact f1.1 4288 0 j (by decide) (al.nl (n := 5) (show (67, 0, 5) ∈ lnList by decide +kernel))
    obtain ⟨p1, p2, p3⟩ := lyH_at hc t 2 (hI h 4032 0 s) 0 t
    rw [if_pos rfl] at p1 p2 p3
    refine ⟨hI h 4160 0 t, hc, h', ?_, X12_lay_iff.mpr ⟨n, ?_⟩, lay_R r0 fc f2' ?_ ?_ ?_ ?_ ?_ ht⟩
    · unfold X11_lay X11_lay_g0 X11_lay_f0
      rw [isWithin_wn, cI_some, z, if_neg (by decide), isWithin_wn, cI_some, z2, if_neg (by decide), if_neg (by decide)]
      unfold X11_lay_g35 X11_lay_f35
      rw [if_pos rfl, isWithin_wn, cI_some, z3, if_neg (by decide)]
      unfold X11_lay_g51 X11_lay_f51
      rw [if_pos rfl, nnE (sh_646 a), ixE (ln_38 a) rfl hs (by decide), nnE (sh_2432 a s hs), s1, if_neg d]
      unfold X11_lay_g73 X11_lay_f73
      have a1 : SH (pI h 384 t 0 2) := a
      rw [nnE (sh_647 a), ixE (ln_39 a) rfl ht (by decide), nnE (sh_2496 a t ht), nnE (sh_2496 a t ht), wr_eq, if_neg (by decide), if_pos rfl, nnE (sh_2496 a t ht), nnE (sh_646 a1), ixE (ln_38 a1) rfl hs (by decide), nnE (show hR (pI h 384 t 0 2) 388 t 0 = (4 + t) + 1 by rw [sh_388 a1 t ht]; omega), sh_2432 a1 s hs, becomeAs5_eq a1 (by omega) (by omega), cV_some, t1, hhc]
    · unfold X12_lay_g0 X12_lay_f0
      rw [isSlot_wn, cI_some, z, if_neg (by decide), in_wn4, cI_some, z2, if_neg (by decide), if_neg (by decide)]
      unfold X12_lay_g29 X12_lay_f29
      rw [if_pos rfl, isSheet_wn, cI_some, z3, if_neg (by decide)]
      unfold X12_lay_g44 X12_lay_f44
      rw [if_pos rfl, nnE (sh_745 ac), ixE (ln_62 ac) rfl hs (by decide), cO 3968 0 s (by decide) (Or.inl (by decide)), if_neg (fun z => d ((sort_neg s3).mp z))]
      refine lay_62 ac ht (k := 2) (A := hI h 4032 0 s) (B := 0) (fun g => ?_) (fun g => ?_) ?_
      · have a1 : SH (pI hc 4160 0 t 2) := ac
        rw [if_neg (by decide), if_pos rfl, nnE (sh_746 a1), ixE (ln_63 a1) rfl hs (by decide), hI_off _ (by decide), cO 4032 0 s (by decide) (Or.inl (by decide))]
      · rw [if_neg (by decide)]
      · rw [o60]
        exact e1
    · intro c hc' t' ht'
      by_cases c0 : c = 384
      · subst c0
        rw [c384, if_neg ht']
      · exact cO c t' 0 c0 (Or.inl (by omega))
    · intro c hc' i j hi
      exact cO c i j (by omega) (Or.inr hi)
    · intro c hc' t' ht'
      obtain ⟨w1, w2, w3⟩ := lyH_at hc t 2 (hI h 4032 0 s) 0 t'
      rw [if_neg ht'] at w1 w2 w3
      rw [n65 c hc']
      rcases hc' with rfl | rfl | rfl
      · rw [w1]; exact cO _ _ _ (by decide) (Or.inl (by decide))
      · rw [w2]; exact cO _ _ _ (by decide) (Or.inl (by decide))
      · rw [w3]; exact cO _ _ _ (by decide) (Or.inl (by decide))
    · intro i hi
      rw [v1, if_neg hi, lyH_off _ _ _ _ _ (by decide) (by decide) (by decide)]
      exact cO _ _ _ (by decide) (Or.inl (by decide))
    · rw [n65 4160 (by omega), n65 4224 (by omega), p1, p2]
      refine ⟨?_, ⟨by decide, by decide⟩, fun z => absurd z (by decide), fun _ => ⟨?_, s4, fun k hk => ?_⟩, fun z => absurd z (by decide)⟩
      · rw [f2'.1 384 t 0 (by decide) (ac.k1 (k := 6) (n := 5) (by decide +kernel) ht), c384, if_pos rfl]
      · rw [f2'.1 257 (4 + t) 0 (by decide) (ac.n4 (by omega)), c257]
      · rw [f2'.1 1664 (4 + t) k (by decide) (ac.n26 (by omega)), c1664 k hk, v1, if_pos (by omega), lyH_off _ _ _ _ _ (by decide) (by decide) (by decide), cO 4096 0 _ (by decide) (Or.inl (by decide)), show 24 * t + k - 24 * t = k by omega]
  · -- nothing, or a number
    have hn1 : ¬ nI k = 1 := by rcases hk03 with rfl | rfl <;> decide
    have hn2 : ¬ nI k = 2 := by rcases hk03 with rfl | rfl <;> decide
    generalize hhc : pI (pI h 384 t 0 (nI k)) 387 t 0 x3 = hc
    have fc : Fr lyW h hc := by
      subst hhc
      exact (Fr.rf.pI (by decide)).pI (by decide)
    have ac : SH hc := a.fr fc (by decide)
    have cO : ∀ c i j, c ≠ 384 → c ≠ 387 → hI hc c i j = hI h c i j := fun c i j h1 h2 => by
      subst hhc
      rw [hI_off _ h2, hI_off _ h1]
    obtain ⟨p1, p2, p3⟩ := lyH_at hc t (nI k) x3 0 t
    rw [if_pos rfl] at p1 p2 p3
    have f2' : Fr ([4160, 4224, 4288, 4352], [], false) hc (lyH hc t (nI k) x3 0) := ((Fr.rf.pI (by decide)).pI (by decide)).pI (by decide)
    refine ⟨hI h 4160 0 t, hc, lyH hc t (nI k) x3 0, ?_, X12_lay_iff.mpr ⟨1, ?_⟩, lay_R r0 fc f2' ?_ ?_ ?_ ?_ ?_ ht⟩
    · unfold X11_lay X11_lay_g0 X11_lay_f0
      rw [isWithin_wn, cI_some, z, if_neg (by decide), isWithin_wn, cI_some, z2, if_neg (by decide), if_neg hn1]
      unfold X11_lay_g35 X11_lay_f35
      rw [if_neg hn2]
      unfold X11_lay_g51 X11_lay_f51
      rw [if_neg hn2]
      unfold X11_lay_g73 X11_lay_f73
      rw [nnE (sh_647 a), ixE (ln_39 a) rfl ht (by decide), nnE (sh_2496 a t ht), nnE (sh_2496 a t ht), wr_eq, if_neg hn1, if_neg hn2, nnE (sh_2496 a t ht), wr_eq, t1, hhc]
    · unfold X12_lay_g0 X12_lay_f0
      rw [isSlot_wn, cI_some, z, if_neg (by decide), in_wn4, cI_some, z2, if_neg (by decide), if_neg hn1]
      unfold X12_lay_g29 X12_lay_f29
      rw [if_neg hn2]
      unfold X12_lay_g44 X12_lay_f44
      rw [if_neg hn2]
      refine lay_62 ac ht (k := nI k) (A := x3) (B := 0) (fun g => ?_) (fun g => ?_) ?_
      · rw [if_neg hn1, if_neg hn2]
      · rw [if_neg hn1]
      · rw [lay_end hn2, cO 4160 0 t (by decide) (by decide)]
    · intro c hc' t' ht'
      subst hhc
      rw [hI_pI, if_neg (fun z => ht' z.2.1), hI_pI, if_neg (fun z => ht' z.2.1)]
    · intro c hc' i j hi
      exact cO c i j (by omega) (by omega)
    · intro c hc' t' ht'
      obtain ⟨w1, w2, w3⟩ := lyH_at hc t (nI k) x3 0 t'
      rw [if_neg ht'] at w1 w2 w3
      rcases hc' with rfl | rfl | rfl
      · rw [w1]; exact cO _ _ _ (by decide) (by decide)
      · rw [w2]; exact cO _ _ _ (by decide) (by decide)
      · rw [w3]; exact cO _ _ _ (by decide) (by decide)
    · intro i _
      rw [lyH_off _ _ _ _ _ (by decide) (by decide) (by decide)]
      exact cO _ _ _ (by decide) (by decide)
    · rw [p1, p2, lyH_off _ _ _ _ _ (by decide) (by decide) (by decide), lyH_off (c := 387) _ _ _ _ _ (by decide) (by decide) (by decide)]
      have e384 : hI hc 384 t 0 = nI k := by
        subst hhc
        rw [hI_off _ (by decide), hI_pI, if_pos ⟨rfl, rfl, rfl⟩]
      have e387 : hI hc 387 t 0 = x3 := by
        subst hhc
        rw [hI_pI, if_pos ⟨rfl, rfl, rfl⟩]
      refine ⟨e384, ?_, fun z => absurd z hn1, fun z => absurd z hn2, fun _ => e387⟩
      rcases hk03 with rfl | rfl
      · exact ⟨by decide, by decide⟩
      · exact ⟨by decide, by decide⟩
