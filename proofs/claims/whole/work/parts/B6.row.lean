/-! pair: row -/
def rwW : List Nat × List Nat × Bool := ([324, 1728, 1792], [], false)
def rnW : List Nat × List Nat × Bool := ([1, 2, 832, 324, 1728, 1792, 709, 2816, 2624], [], false)
/-- noted by both around a change of rows -/
theorem chg_four {h h1 h2 h3 h4 : PH} {N : Nat → Int32} (q : Hs h 0 N) (hNN : hI h 2624 0 = N) {n l : Nat} (hn : n ≤ 16) (hl : l < 16) (hk : ∀ k, k < n → ChgOne h (nt (N 6)) ((l + 16 - k) % 16) (n - 1 - k)) (u2 : Fr ntW h h1) (u3 : hI h1 1 0 0 = nI ((l + 1) % 16)) (u4 : hI h1 2 0 0 = nI (min (n + 1) 16)) (u5 : ∀ i j, i ≠ (l + 1) % 16 → hI h1 832 i j = hI h 832 i j) (u6 : NoteE h1 ((l + 1) % 16) N (nt (N 6))) (f12 : Fr rwW h1 h2) (v2 : Fr svM h2 h3) (v3 : hI h3 709 0 0 = nI (min (n + 1) 16)) (v4 : ∀ i, i < 14 → hI h3 2816 0 (182 * min n 15 + i) = hI h2 2624 0 (157 + 5 * i)) (v5 : ∀ i, i < 168 → hI h3 2816 0 (182 * min n 15 + 14 + i) = hI h2 2624 0 (225 + i)) (v6 : ∀ i, i < 182 * min n 15 → hI h3 2816 0 i = if n = 16 then hI h2 2816 0 (i + 182) else hI h2 2816 0 i) (f34 : Fr ([2624], [], false) h3 h4) : Chg h4 (nt (N 6)) ∧ Fr rnW h h4 ∧ SH h1 ∧ SH h2 ∧ SH h3 ∧ SH h4 := by
  have a := q.1
  have a1 : SH h1 := a.fr u2 (by decide +kernel)
  have a2 : SH h2 := a1.fr f12 (by decide +kernel)
  have a3 : SH h3 := a2.fr v2 (by decide +kernel)
  have a4 : SH h4 := a3.fr f34 (by decide +kernel)
  refine ⟨?_, (((u2.sub (by decide)).tr (f12.sub (by decide))).tr (v2.sub (by decide))).tr (f34.sub (by decide)), a1, a2, a3, a4⟩
  have hN2 : hI h2 2624 0 = N := (now_fr a1 f12 (by decide)).trans ((now_fr a u2 (by decide)).trans hNN)
  have g24 : Fr ([709, 2816, 2624], [], false) h2 h4 := (v2.sub (by decide)).tr (f34.sub (by decide))
  have n0 : ∀ y, SH y → 0 < hN y 0 := fun y ay => ay.k1 (k := 0) (n := 1) (by decide +kernel) (by decide)
  have g832 : ∀ i j, i < 16 → hI h4 832 i j = hI h1 832 i j := fun i j hi => (g24.1 832 i j (by decide) (a2.n13 hi)).trans (f12.1 832 i j (by decide) (a1.n13 hi))
  have g28 : ∀ j, hI h4 2816 0 j = hI h3 2816 0 j := fun j => f34.1 2816 0 j (by decide) a3.n44
  have o28 : ∀ j, hI h2 2816 0 j = hI h 2816 0 j := fun j => (f12.1 2816 0 j (by decide) a1.n44).trans (u2.1 2816 0 j (by decide) a.n44)
  have hm : (l + 1) % 16 < 16 := Nat.mod_lt _ (by decide)
  refine chg_step q hn hl hk ?_ ?_ ?_ (fun i j hi hne => by rw [g832 i j hi]; exact u5 i j hne) (fun t ht => ?_) (fun i hi => by rw [g28, v4 i hi, hN2]) (fun i hi => by rw [g28, v5 i hi, hN2]) (fun i hi => by rw [g28, v6 i hi, o28, o28])
  · exact (g24.1 1 0 0 (by decide) (n0 h2 a2)).trans ((f12.1 1 0 0 (by decide) (n0 h1 a1)).trans u3)
  · exact (g24.1 2 0 0 (by decide) (n0 h2 a2)).trans ((f12.1 2 0 0 (by decide) (n0 h1 a1)).trans u4)
  · exact (f34.1 709 0 0 (by decide) a3.n11).trans v3
  · obtain ⟨t1, t2⟩ := u6 t ht
    exact ⟨by rw [g832 _ _ hm]; exact t1, fun r' hr' => by rw [g832 _ _ hm]; exact t2 r' hr'⟩
/-- rows of signs changed, all else kept: the relation -/
theorem R.rows {m : Nat} {h g : PH} (r : R m h) (f : Fr rnW h g) (hC : Chg g (nt (hI h 2624 0 6))) (e : ∀ j, j < 155 ∨ 393 ≤ j → hI g 2624 0 j = hI h 2624 0 j) (k1 : ∀ c, c = 324 ∨ c = 1728 ∨ c = 1792 → ∀ i j, 14 ≤ i → i < 28 → hI g c i j = hI h c i j) (hS : HSigns g 0 (hI g 2624 0)) : R (m + 1) g := by
  have r0 := r
  obtain ⟨a, q, -⟩ := r
  refine r0.put f (by decide +kernel) (by decide +kernel) rfl ?_ ?_ ?_ ?_
  · exact q.2.2.1.signs a (Same.fr f (by decide)) (fun j hj => e j (by omega)) hS
  · exact q.2.2.2.scal a (by decide) f (by decide) (Same.fr f (by decide)) (e 8 (by omega)) (fun j h1 _ => e j (by omega))
  · intro c hc i j hi hb
    by_cases c1 : c = 324 ∨ c = 1728 ∨ c = 1792
    · have h5 : c / 64 = 5 ∨ c / 64 = 27 ∨ c / 64 = 28 := by omega
      have := hb.2.1 h5
      exact k1 c c1 i j (by omega) (by omega)
    · have e1 : ∀ c ∈ hsCols, ¬ (c = 324 ∨ c = 1728 ∨ c = 1792) → rnW.1.contains c = false := by decide
      exact f.1 c i j (e1 c hc c1) hi
  · rw [e 6 (by omega)]
    exact hC
/-- a sign of which nothing was changed -/
theorem SgOne.keep {h g : PH} {N N' : Nat → Int32} {t : Nat} (o : SgOne h 0 N t) (a : SH h) (f : Fr rnW h g) (ht : t < 14) (e : ∀ j, j < 155 ∨ 393 ≤ j → N' j = N j) (e5 : ∀ j, 155 + 5 * t ≤ j ∧ j < 160 + 5 * t ∨ 225 + 12 * t ≤ j ∧ j < 237 + 12 * t → N' j = N j) (k : ∀ c, c = 324 ∨ c = 1728 ∨ c = 1792 → ∀ j, hI g c t j = hI h c t j) : SgOne g 0 N' t := by
  refine o.cong e5 (by rw [e 3 (by omega)]; omega) (fun c hc j => ?_)
  rw [Nat.mul_zero, Nat.zero_add]
  by_cases c1 : c = 324 ∨ c = 1728 ∨ c = 1792
  · exact k c c1 j
  · have e1 : ∀ c ∈ signCs, ¬ (c = 324 ∨ c = 1728 ∨ c = 1792) → rnW.1.contains c = false ∧ c / 64 = 5 := by decide
    obtain ⟨z1, z2⟩ := e1 c hc c1
    exact f.1 c t j z1 (by rw [z2]; exact a.s1 (by omega))
def aRC (h : PH) (s n : Nat) (x y : Int32) : PH := pI (pI (pI h 1728 s n x) 1792 s n y) 324 s 0 (nI (n + 1))
def aRM (h : PH) (s n : Nat) (x y : Int32) : PH := pI (pI (pI h 2624 0 (225 + 12 * s + 2 * n) x) 2624 0 (226 + 12 * s + 2 * n) y) 2624 0 (157 + 5 * s) (nI (n + 1))
theorem addRow_eq {h : PH} (a : SH h) {s n : Nat} (hs : s < 28) (hn : n < 6) (h3 : hI h 324 s 0 = nI n) (x y : Int32) : X6_addRow s x y h = some (none, aRC h s n x y) := by
  have a1 : SH (pI h 1728 s n x) := a
  have y1 : hI (pI h 1728 s n x) 324 s 0 = nI n := (hI_off h (by decide) _ _ _ _ _).trans h3
  have y2 : hI (pI (pI h 1728 s n x) 1792 s n y) 324 s 0 = nI n := (hI_off _ (by decide) _ _ _ _ _).trans y1
  unfold X6_addRow X6_addRow_g0 X6_addRow_f0
  rw [h3, if_pos (show nI n < 6 from nI_lt (b := 6) hn (by decide)), nnE (sh_325 a s hs), ixE (ln_27 a s hs) rfl hn (by decide), wr_eq, nnE (sh_326 a1 s hs), ixE (ln_28 a1 s hs) y1 hn (by decide), wr_eq, y2, nI_1, wr_eq]
  rfl
theorem most_le {k : Int32} (hk : rgI k 0 5) : ∃ M, mostK k = nI M ∧ 1 ≤ M ∧ M ≤ 6 := by
  rcases kind_cases hk with rfl | rfl | rfl | rfl | rfl | rfl
  · exact ⟨4, by decide, by decide, by decide⟩
  · exact ⟨5, by decide, by decide, by decide⟩
  · exact ⟨2, by decide, by decide, by decide⟩
  · exact ⟨3, by decide, by decide, by decide⟩
  · exact ⟨6, by decide, by decide, by decide⟩
  · exact ⟨1, by decide, by decide, by decide⟩
theorem pair_row (m : Nat) (h : PH) (x1 x2 x3 : Int32) (_ : m < 64) (r : R m h) : Pr (R (m + 1)) (X11_row 0 x1 x2 x3) (X12_row 0 x1 x2 x3) h := by
  have r0 := r
  obtain ⟨a, q, -, q3, -⟩ := r
  have s75 := q.2.2.1.1.2.2.2.1
  rcases sign_cases q x1 with z | ⟨z, s, hs, rfl⟩
  · refine r0.same (v := -1000000001) ?_ ?_
    · unfold X11_row X11_row_g0 X11_row_f0
      rw [nnE (sh_640 a), X1_hasSign_eq, cI_some, s75, z, if_pos rfl]
    · unfold X12_row X12_row_g0 X12_row_f0
      rw [isSign_wn a q, cI_some, z, if_pos rfl]
  obtain ⟨e1, e2, e3, e4, e5, e6, -⟩ := q.sign hs
  obtain ⟨g1, g2, g3, g4, g5⟩ := q.signF hs
  rw [Nat.mul_zero, Nat.zero_add] at g2 g3
  obtain ⟨S, hS, h14, hSn, hSi, -⟩ := q.signs
  rcases lit_cases (x := x2) (y := 14) (K := 14) rfl (by decide) with z2 | ⟨z2, nm, hnm, rfl⟩
  · refine r0.same (v := -1000000001) ?_ ?_
    · unfold X11_row X11_row_g0 X11_row_f0
      rw [nnE (sh_640 a), X1_hasSign_eq, cI_some, s75, z, if_neg (by decide), isWithin_wn, cI_some, z2, if_pos rfl]
    · unfold X12_row X12_row_g0 X12_row_f0
      rw [isSign_wn a q, cI_some, z, if_neg (by decide), in_wn14, cI_some, z2, if_pos rfl]
  rcases lit_cases (x := x3) (y := 8) (K := 8) rfl (by decide) with z3 | ⟨z3, d, hd, rfl⟩
  · refine r0.same (v := -1000000001) ?_ ?_
    · unfold X11_row X11_row_g0 X11_row_f0
      rw [nnE (sh_640 a), X1_hasSign_eq, cI_some, s75, z, if_neg (by decide), isWithin_wn, cI_some, z2, if_neg (by decide), isWithin_wn, cI_some, z3, if_pos rfl]
    · unfold X12_row X12_row_g0 X12_row_f0
      rw [isSign_wn a q, cI_some, z, if_neg (by decide), in_wn14, cI_some, z2, if_neg (by decide), in_wn8, cI_some, z3, if_pos rfl]
  have o1 : ∀ y, SH y → hI y 2624 0 = hI h 2624 0 → X12_of5 0 (nI s) 1 y = some (some (.inl (hI h 2624 0 (156 + 5 * s))), y) := fun y ay hy => of5_at (k := 1) ay hy e6 (by decide) (by omega)
  obtain ⟨M, hM, hM1, hM6⟩ := most_le e5
  by_cases c : sR (hI h 2624 0) s < M
  case neg =>
    have hlt : ¬ nI (sR (hI h 2624 0) s) < nI M := nI_nlt (by omega) (by omega)
    refine r0.same (v := -1000000003) ?_ ?_
    · unfold X11_row X11_row_g0 X11_row_f0
      rw [nnE (sh_640 a), X1_hasSign_eq, cI_some, s75, z, if_neg (by decide), isWithin_wn, cI_some, z2, if_neg (by decide), isWithin_wn, cI_some, z3, if_neg (by decide), nnE (sh_640 a), nnE (sh_68 a 0 (by decide)), ixE (ln_18 a 0 (by decide)) rfl e6 (by decide), nnE (sh_1152_0 a s e6), nnE (sh_1152_0 a s e6), g2, mo3_eq e5, cI_some, g3, hM, if_neg hlt]
    · unfold X12_row X12_row_g0 X12_row_f0
      rw [isSign_wn a q, cI_some, z, if_neg (by decide), in_wn14, cI_some, z2, if_neg (by decide), in_wn8, cI_some, z3, if_neg (by decide), rowsOf_sR a rfl q hs, cI_some, o1 h a rfl, cI_some, X12_mostBy_eq, cI_some, hM, if_neg hlt]
  have hlt : nI (sR (hI h 2624 0) s) < nI M := nI_lt c (by omega)
  have hn6 : sR (hI h 2624 0) s < 6 := by omega
  obtain ⟨n, l, k1, k2, k3, k4, k5, k6⟩ := q3
  obtain ⟨h1, u1, u2, u3, u4, u5, u6⟩ := note_eq q k1 k2 k3 k5
  have a1 : SH h1 := a.fr u2 (by decide +kernel)
  have g31 : hI h1 324 s 0 = nI (sR (hI h 2624 0) s) := (u2.1 324 s 0 (by decide) (a.s1 (by omega))).trans g3
  have ead := addRow_eq a1 (show s < 28 by omega) hn6 g31 (nI nm) (nI d)
  generalize hh2 : aRC h1 s (sR (hI h 2624 0) s) (nI nm) (nI d) = h2 at ead
  have f12 : Fr rwW h1 h2 := by
    subst hh2
    exact ((Fr.rf.pI (by decide)).pI (by decide)).pI (by decide)
  have a2 : SH h2 := a1.fr f12 (by decide +kernel)
  have hN2 : hI h2 2624 0 = hI h 2624 0 := (now_fr a1 f12 (by decide)).trans (now_fr a u2 (by decide))
  have k42 : hI h2 709 0 0 = nI n := (f12.1 709 0 0 (by decide) a1.n11).trans ((u2.1 709 0 0 (by decide) a.n11).trans k4)
  obtain ⟨h3, v1, v2, v3, v4, v5, v6⟩ := saves_eq a2 k1 k42
  generalize hh4 : aRM h3 s (sR (hI h 2624 0) s) (nI nm) (nI d) = h4
  have f34 : Fr ([2624], [], false) h3 h4 := by
    subst hh4
    exact ((Fr.rf.pI (by decide)).pI (by decide)).pI (by decide)
  obtain ⟨hC, f4, -, -, a3, a4⟩ := chg_four q rfl k1 k2 k6 u2 u3 u4 u5 u6 f12 v2 v3 v4 v5 v6 f34
  have hN3 : hI h3 2624 0 = hI h 2624 0 := (now_fr a2 v2 (by decide)).trans hN2
  have hN4 : ∀ j, hI h4 2624 0 j = if j = 157 + 5 * s then nI (sR (hI h 2624 0) s + 1) else if j = 226 + 12 * s + 2 * sR (hI h 2624 0) s then nI d else if j = 225 + 12 * s + 2 * sR (hI h 2624 0) s then nI nm else hI h 2624 0 j := fun j => by
    subst hh4
    unfold aRM
    rw [hI_upd, hI_upd, hI_upd, hN3]
    rfl
  have c12 : ∀ c, c = 324 ∨ c = 1728 ∨ c = 1792 → ∀ i j, i < 28 → i ≠ s → hI h4 c i j = hI h c i j := fun c hc i j hi hne => by
    have e9 : ∀ c, c = 324 ∨ c = 1728 ∨ c = 1792 → svM.1.contains c = false ∧ ([2624] : List Nat).contains c = false ∧ ntW.1.contains c = false ∧ (c / 64 = 5 ∨ c / 64 = 27 ∨ c / 64 = 28) := by
      rintro c (rfl | rfl | rfl) <;> decide
    obtain ⟨z1, z2', z3', z4⟩ := e9 c hc
    have lt : ∀ y, SH y → i < hN y (c / 64) := fun y ay => by
      rcases z4 with w | w | w
      · rw [w]; exact ay.s1 hi
      · rw [w]; exact ay.n27 hi
      · rw [w]; exact ay.n28 hi
    rw [f34.1 c i j z2' (lt h3 a3), v2.1 c i j z1 (lt h2 a2)]
    subst hh2
    unfold aRC
    rw [hI_pI, if_neg (fun w => hne w.2.1), hI_pI, if_neg (fun w => hne w.2.1), hI_pI, if_neg (fun w => hne w.2.1)]
    exact u2.1 c i j z3' (lt h a)
  refine ⟨nI (sR (hI h 2624 0) s + 1), h2, h4, ?_, ?_, r0.rows f4 hC (fun j hj => ?_) (fun cc hc i j h1 h2 => c12 cc hc i j h2 (by omega)) (fun t ht => ?_)⟩
  · have g32 : hI h2 324 s 0 = nI (sR (hI h 2624 0) s + 1) := by
      subst hh2
      unfold aRC
      rw [hI_pI, if_pos ⟨rfl, rfl, rfl⟩]
    unfold X11_row X11_row_g0 X11_row_f0
    rw [nnE (sh_640 a), X1_hasSign_eq, cI_some, s75, z, if_neg (by decide), isWithin_wn, cI_some, z2, if_neg (by decide), isWithin_wn, cI_some, z3, if_neg (by decide), nnE (sh_640 a), nnE (sh_68 a 0 (by decide)), ixE (ln_18 a 0 (by decide)) rfl e6 (by decide), nnE (sh_1152_0 a s e6), nnE (sh_1152_0 a s e6), g2, mo3_eq e5, cI_some, g3, hM, if_pos hlt, nnE (sh_644 a), sh_640 a, u1, cV_some, nnE (sh_1152_0 a s e6), ead, cV_some, nnE (sh_1152_0 a s e6), g32]
  · have x0 : (155 : Int32) + 5 * nI s + 2 = nI (157 + 5 * s) := by
      rw [show (155 : Int32) = nI 155 from rfl, show (5 : Int32) = nI 5 from rfl, show (2 : Int32) = nI 2 from rfl, nI_mul, nI_add, nI_add]
      congr 1
      omega
    have b3 : SH (pI (pI h3 2624 0 (225 + 12 * s + 2 * sR (hI h 2624 0) s) (nI nm)) 2624 0 (226 + 12 * s + 2 * sR (hI h 2624 0) s) (nI d)) := a3
    unfold X12_row X12_row_g0 X12_row_f0
    rw [X12_isSign_eq a2, hN2, inn_wn (by rw [hSi]; omega), cI_some, z, if_neg (by decide), in_wn14, cI_some, z2, if_neg (by decide), in_wn8, cI_some, z3, if_neg (by decide), rowsOf_sR a2 hN2 q hs, cI_some, o1 h2 a2 hN2, cI_some, X12_mostBy_eq, cI_some, hM, if_pos hlt, v1, cV_some, setsRow_eq a3 e6 hn6, cV_some, nI_1, nnE (sh_704 b3), ixE (ln_41 b3) x0 (show 157 + 5 * s < 1765 by omega) (by decide), wr_eq, ← hh4]
    rfl
  · rw [hN4 j, if_neg (by omega), if_neg (by omega), if_neg (by omega)]
  · have h6 : hI h4 2624 0 6 = hI h 2624 0 6 := by rw [hN4 6, if_neg (by omega), if_neg (by omega), if_neg (by omega)]
    rw [h6] at ht
    have o := q.2.2.1.2.2.2.2.1.one ht
    by_cases ct : t = s
    · subst ct
      obtain ⟨p1, p2, p3, p4, p5, p6, p7, p8, p9, p10⟩ := o
      rw [Nat.mul_zero, Nat.zero_add] at p1 p2 p4 p5 ⊢
      have up : ∀ j, j ≠ 157 + 5 * t → j ≠ 226 + 12 * t + 2 * sR (hI h 2624 0) t → j ≠ 225 + 12 * t + 2 * sR (hI h 2624 0) t → hI h4 2624 0 j = hI h 2624 0 j := fun j w1 w2 w3 => by rw [hN4 j, if_neg w1, if_neg w2, if_neg w3]
      have u157 : hI h4 2624 0 (157 + 5 * t) = nI (sR (hI h 2624 0) t + 1) := by rw [hN4, if_pos rfl]
      have f5 : ∀ cc, cc = 320 ∨ cc = 321 ∨ cc = 322 ∨ cc = 323 → hI h4 cc t 0 = hI h cc t 0 := fun cc hc => by
        have e9 : ∀ c, c = 320 ∨ c = 321 ∨ c = 322 ∨ c = 323 → rnW.1.contains c = false ∧ c / 64 = 5 := by
          rintro c (rfl | rfl | rfl | rfl) <;> decide
        obtain ⟨z1, z2'⟩ := e9 cc hc
        exact f4.1 cc t 0 z1 (by rw [z2']; exact a.s1 (by omega))
      have n5 : ∀ y, SH y → t < hN y 5 := fun y ay => ay.s1 (by omega)
      have n27 : ∀ y, SH y → t < hN y 27 := fun y ay => ay.n27 (by omega)
      have n28 : ∀ y, SH y → t < hN y 28 := fun y ay => ay.n28 (by omega)
      have c324 : hI h4 324 t 0 = nI (sR (hI h 2624 0) t + 1) := by
        rw [f34.1 324 t 0 (by decide) (n5 h3 a3), v2.1 324 t 0 (by decide) (n5 h2 a2)]
        subst hh2
        unfold aRC
        rw [hI_pI, if_pos ⟨rfl, rfl, rfl⟩]
      have c1728 : ∀ j, hI h4 1728 t j = if j = sR (hI h 2624 0) t then nI nm else hI h 1728 t j := fun j => by
        rw [f34.1 1728 t j (by decide) (n27 h3 a3), v2.1 1728 t j (by decide) (n27 h2 a2)]
        subst hh2
        unfold aRC
        rw [hI_off _ (by decide), hI_off _ (by decide), hI_pI]
        by_cases w : j = sR (hI h 2624 0) t
        · rw [if_pos ⟨rfl, rfl, w⟩, if_pos w]
        · rw [if_neg (fun y => w y.2.2), if_neg w]
          exact u2.1 1728 t j (by decide) (n27 h a)
      have c1792 : ∀ j, hI h4 1792 t j = if j = sR (hI h 2624 0) t then nI d else hI h 1792 t j := fun j => by
        rw [f34.1 1792 t j (by decide) (n28 h3 a3), v2.1 1792 t j (by decide) (n28 h2 a2)]
        subst hh2
        unfold aRC
        rw [hI_off _ (by decide), hI_pI]
        by_cases w : j = sR (hI h 2624 0) t
        · rw [if_pos ⟨rfl, rfl, w⟩, if_pos w]
        · rw [if_neg (fun y => w y.2.2), if_neg w, hI_off _ (by decide)]
          exact u2.1 1792 t j (by decide) (n28 h a)
      rw [up (155 + 5 * t) (by omega) (by omega) (by omega), up (156 + 5 * t) (by omega) (by omega) (by omega), u157, up (158 + 5 * t) (by omega) (by omega) (by omega), up (159 + 5 * t) (by omega) (by omega) (by omega), up 3 (by omega) (by omega) (by omega), f5 320 (by omega), f5 321 (by omega), f5 322 (by omega), f5 323 (by omega), c324]
      refine ⟨p1, p2, rfl, p4, p5, p6, p7, ⟨by rw [nI_toInt (by omega)]; omega, by rw [nI_toInt (by omega)]; omega⟩, p9, fun r' hr' => ?_⟩
      rw [nI_toInt (by omega)] at hr'
      rw [c1728, c1792]
      by_cases w : r' = sR (hI h 2624 0) t
      · subst w
        have u225 : hI h4 2624 0 (225 + 12 * t + 2 * sR (hI h 2624 0) t) = nI nm := by rw [hN4, if_neg (by omega), if_neg (by omega), if_pos rfl]
        have u226 : hI h4 2624 0 (226 + 12 * t + 2 * sR (hI h 2624 0) t) = nI d := by rw [hN4, if_neg (by omega), if_pos rfl]
        rw [if_pos rfl, if_pos rfl, u225, u226]
        exact ⟨rfl, rfl, ⟨by rw [nI_toInt (by omega)]; omega, by rw [nI_toInt (by omega)]; omega⟩, ⟨by rw [nI_toInt (by omega)]; omega, by rw [nI_toInt (by omega)]; omega⟩⟩
      · have hr'' : (r' : Int) < (hI h 2624 0 (157 + 5 * t)).toInt := by rw [e3, nI_toInt (by omega)]; omega
        have := p10 r' hr''
        rw [Nat.mul_zero, Nat.zero_add] at this
        rw [if_neg w, if_neg w, up (225 + 12 * t + 2 * r') (by omega) (by omega) (by omega), up (226 + 12 * t + 2 * r') (by omega) (by omega) (by omega)]
        exact this
    · refine SgOne.keep o a f4 (by omega) (fun j hj => by rw [hN4 j, if_neg (by omega), if_neg (by omega), if_neg (by omega)]) (fun j hj => by rw [hN4 j, if_neg (by omega), if_neg (by omega), if_neg (by omega)]) (fun cc hc j => c12 cc hc t j (by omega) ct)
