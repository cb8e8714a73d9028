/-! a change is noted by both; pair: aim -/
theorem chg_step {h g : PH} {N : Nat → Int32} (q : Hs h 0 N) {n l : Nat} (hn : n ≤ 16) (hl : l < 16) (hk : ∀ k, k < n → ChgOne h (nt (N 6)) ((l + 16 - k) % 16) (n - 1 - k)) (g1 : hI g 1 0 0 = nI ((l + 1) % 16)) (g2 : hI g 2 0 0 = nI (min (n + 1) 16)) (g9 : hI g 709 0 0 = nI (min (n + 1) 16)) (gr : ∀ i j, i < 16 → i ≠ (l + 1) % 16 → hI g 832 i j = hI h 832 i j) (gn : NoteE g ((l + 1) % 16) N (nt (N 6))) (go : ∀ i, i < 14 → hI g 2816 0 (182 * min n 15 + i) = N (157 + 5 * i)) (gp : ∀ i, i < 168 → hI g 2816 0 (182 * min n 15 + 14 + i) = N (225 + i)) (gb : ∀ i, i < 182 * min n 15 → hI g 2816 0 i = if n = 16 then hI h 2816 0 (i + 182) else hI h 2816 0 i) : Chg g (nt (N 6)) := by
  refine ⟨min (n + 1) 16, (l + 1) % 16, by omega, Nat.mod_lt _ (by decide), g2, g9, g1, fun k hk' => ?_⟩
  obtain ⟨S, hS, h14, hSn, -⟩ := q.signs
  by_cases c : k = 0
  · subst c
    have er : ((l + 1) % 16 + 16 - 0) % 16 = (l + 1) % 16 := by omega
    have eb : min (n + 1) 16 - 1 - 0 = min n 15 := by omega
    rw [er, eb]
    intro s hs
    obtain ⟨-, -, e3, e4, -, e6, -⟩ := q.sign hs
    obtain ⟨n1, n2⟩ := gn s hs
    refine ⟨sR N s, e4, n1, ?_, fun r hr => ?_⟩
    · rw [go s e6, e3]
    · obtain ⟨m1, m2⟩ := q.nm hs hr
      obtain ⟨-, -, w3, w4, -⟩ := q.row hs hr
      refine ⟨nmN N s r, sA N s r, m2, w4, n2 r hr, ?_, ?_⟩
      · have := gp (12 * s + 2 * r) (by omega)
        rw [show 182 * min n 15 + 14 + 12 * s + 2 * r = 182 * min n 15 + 14 + (12 * s + 2 * r) by omega, this, show 225 + (12 * s + 2 * r) = 225 + 12 * s + 2 * r by omega, m1]
      · have := gp (12 * s + 2 * r + 1) (by omega)
        rw [show 182 * min n 15 + 15 + 12 * s + 2 * r = 182 * min n 15 + 14 + (12 * s + 2 * r + 1) by omega, this, show 225 + (12 * s + 2 * r + 1) = 226 + 12 * s + 2 * r by omega, w3]
  · have er : ((l + 1) % 16 + 16 - k) % 16 = (l + 16 - (k - 1)) % 16 := by omega
    have hne : (l + 16 - (k - 1)) % 16 ≠ (l + 1) % 16 := by omega
    rw [er]
    intro s hs
    obtain ⟨-, -, -, -, -, e6, -⟩ := q.sign hs
    obtain ⟨cnt, c1, c2, c3, c4⟩ := hk (k - 1) (by omega) s hs
    have old : ∀ j, j < 182 → hI g 2816 0 (182 * (min (n + 1) 16 - 1 - k) + j) = hI h 2816 0 (182 * (n - 1 - (k - 1)) + j) := fun j hj => by
      rw [gb _ (by omega)]
      by_cases d : n = 16
      · rw [if_pos d]
        congr 1
        omega
      · rw [if_neg d]
        congr 1
        omega
    refine ⟨cnt, c1, ?_, ?_, fun r hr => ?_⟩
    · rw [gr _ _ (Nat.mod_lt _ (by decide)) hne]; exact c2
    · rw [old s (by omega)]; exact c3
    · obtain ⟨nm, ar, d1, d2, d3, d4, d5⟩ := c4 r hr
      refine ⟨nm, ar, d1, d2, ?_, ?_, ?_⟩
      · rw [gr _ _ (Nat.mod_lt _ (by decide)) hne]; exact d3
      · rw [show 182 * (min (n + 1) 16 - 1 - k) + 14 + 12 * s + 2 * r = 182 * (min (n + 1) 16 - 1 - k) + (14 + 12 * s + 2 * r) by omega, old _ (by omega), show 182 * (n - 1 - (k - 1)) + (14 + 12 * s + 2 * r) = 182 * (n - 1 - (k - 1)) + 14 + 12 * s + 2 * r by omega]
        exact d4
      · rw [show 182 * (min (n + 1) 16 - 1 - k) + 15 + 12 * s + 2 * r = 182 * (min (n + 1) 16 - 1 - k) + (15 + 12 * s + 2 * r) by omega, old _ (by omega), show 182 * (n - 1 - (k - 1)) + (15 + 12 * s + 2 * r) = 182 * (n - 1 - (k - 1)) + 15 + 12 * s + 2 * r by omega]
        exact d5
theorem hasRow_eq {h : PH} (q : Hs h 0 (hI h 2624 0)) {s : Nat} (hs : s < nt (hI h 2624 0 6)) (hz : wn (nI s) (hI h 2624 0 6) = 1) (x : Int32) : X1_hasRow 0 (nI s) x h = some (some (.inl (wn x (nI (sR (hI h 2624 0) s)))), h) := by
  have a := q.1
  obtain ⟨-, -, -, -, -, e6, -⟩ := q.sign hs
  obtain ⟨-, -, f3, -⟩ := q.signF hs
  rw [Nat.mul_zero, Nat.zero_add] at f3
  unfold X1_hasRow X1_hasRow_g0 X1_hasRow_f0
  rw [X1_hasSign_eq, cI_some, q.2.2.1.1.2.2.2.1, hz, if_neg (by decide), nnE (sh_68 a 0 (by decide)), ixE (ln_18 a 0 (by decide)) rfl e6 (by decide), nnE (sh_1152_0 a s e6), f3, isWithin_wn, cI_some]
  rcases wn_01 x (nI (sR (hI h 2624 0) s)) with e | e
  · rw [e, if_pos rfl]; rfl
  · rw [e, if_neg (by decide)]; rfl
theorem hasRow_no {h : PH} (q : Hs h 0 (hI h 2624 0)) {x1 : Int32} (hz : wn x1 (hI h 2624 0 6) = 0) (x : Int32) : X1_hasRow 0 x1 x h = some (some (.inl 0), h) := by
  unfold X1_hasRow X1_hasRow_g0 X1_hasRow_f0
  rw [X1_hasSign_eq, cI_some, q.2.2.1.1.2.2.2.1, hz, if_pos rfl]
  rfl
theorem setsRow_eq {h : PH} (a : SH h) {s r : Nat} (hs : s < 14) (hr : r < 6) (x y : Int32) : X12_setsRow 0 (nI s) (nI r) x y h = some (none, pI (pI h 2624 0 (225 + 12 * s + 2 * r) x) 2624 0 (226 + 12 * s + 2 * r) y) := by
  have x1 : (225 : Int32) + 12 * nI s + 2 * nI r = nI (225 + 12 * s + 2 * r) := by rw [show (225 : Int32) = nI 225 from rfl, show (12 : Int32) = nI 12 from rfl, show (2 : Int32) = nI 2 from rfl, nI_mul, nI_mul, nI_add, nI_add]
  have x2 : nI (225 + 12 * s + 2 * r) + 1 = nI (226 + 12 * s + 2 * r) := by rw [nI_1]; congr 1; omega
  have a1 : SH (pI h 2624 0 (225 + 12 * s + 2 * r) x) := a
  unfold X12_setsRow X12_setsRow_g0 X12_setsRow_f0
  rw [x1, nnE (sh_704 a), ixE (ln_41 a) rfl (show 225 + 12 * s + 2 * r < 1765 by omega) (by decide), wr_eq, nnE (sh_704 a1), ixE (ln_41 a1) x2 (show 226 + 12 * s + 2 * r < 1765 by omega) (by decide), wr_eq]
theorem pair_aim (m : Nat) (h : PH) (x1 x2 x3 : Int32) (_ : m < 64) (r : R m h) : Pr (R (m + 1)) (X11_aim 0 x1 x2 x3) (X12_aim 0 x1 x2 x3) h := by
  have r0 := r
  obtain ⟨a, q, -, q3, -⟩ := r
  rcases sign_cases q x1 with z | ⟨z, s, hs, rfl⟩
  · refine r0.same (v := -1000000001) ?_ ?_
    · unfold X11_aim X11_aim_g0 X11_aim_f0
      rw [nnE (sh_640 a), hasRow_no q z, cI_some, if_pos rfl]
    · unfold X12_aim X12_aim_g0 X12_aim_f0
      rw [isSign_wn a q, cI_some, z, if_pos rfl]
  obtain ⟨e1, e2, e3, e4, e5, e6, -⟩ := q.sign hs
  have hR0 : (0 : Int) ≤ (nI (sR (hI h 2624 0) s)).toInt := by rw [nI_toInt (by omega)]; omega
  obtain ⟨S, hS, h14, hSn, hSi, -⟩ := q.signs
  rcases wn_cases (x := x2) (K := sR (hI h 2624 0) s) (by omega) with z2 | ⟨z2, rr, hrr, rfl⟩
  · refine r0.same (v := -1000000001) ?_ ?_
    · unfold X11_aim X11_aim_g0 X11_aim_f0
      rw [nnE (sh_640 a), hasRow_eq q hs z, cI_some, z2, if_pos rfl]
    · unfold X12_aim X12_aim_g0 X12_aim_f0
      rw [isSign_wn a q, cI_some, z, if_neg (by decide), rowsOf_sR a rfl q hs, cI_some, in_wnK hR0, cI_some, z2, if_pos rfl]
  rcases lit_cases (x := x3) (y := 8) (K := 8) rfl (by decide) with z3 | ⟨z3, d, hd, rfl⟩
  · refine r0.same (v := -1000000001) ?_ ?_
    · unfold X11_aim X11_aim_g0 X11_aim_f0
      rw [nnE (sh_640 a), hasRow_eq q hs z, cI_some, z2, if_neg (by decide), isWithin_wn, cI_some, z3, if_pos rfl]
    · unfold X12_aim X12_aim_g0 X12_aim_f0
      rw [isSign_wn a q, cI_some, z, if_neg (by decide), rowsOf_sR a rfl q hs, cI_some, in_wnK hR0, cI_some, z2, if_neg (by decide), in_wn8, cI_some, z3, if_pos rfl]
  obtain ⟨n, l, k1, k2, k3, k4, k5, k6⟩ := q3
  obtain ⟨h1, u1, u2, u3, u4, u5, u6⟩ := note_eq q k1 k2 k3 k5
  have q1 := q.fr u2 (by decide +kernel) (by decide +kernel)
  have a1 := q1.1
  obtain ⟨w1, w2, w3, w4, w5⟩ := q1.row hs hrr
  rw [Nat.mul_zero, Nat.zero_add] at w2
  have hN1 : hI h1 2624 0 = hI h 2624 0 := now_fr a u2 (by decide)
  generalize hh2 : pI h1 1792 s rr (nI d) = h2
  have a2 : SH h2 := by subst hh2; exact a1
  have f2 : Fr ([1, 2, 832, 1792], [], false) h h2 := by
    subst hh2
    exact (u2.sub (by decide)).pI (by decide)
  have hN2 : hI h2 2624 0 = hI h 2624 0 := now_fr a f2 (by decide)
  have n11 := a.n11
  have k42 : hI h2 709 0 0 = nI n := (f2.1 709 0 0 (by decide) n11).trans k4
  obtain ⟨h3, v1, v2, v3, v4, v5, v6⟩ := saves_eq a2 k1 k42
  have a3 : SH h3 := a2.fr v2 (by decide +kernel)
  have hN3 : hI h3 2624 0 = hI h 2624 0 := (now_fr a2 v2 (by decide)).trans hN2
  generalize hh4 : pI (pI h3 2624 0 (225 + 12 * s + 2 * rr) (hI h 2624 0 (225 + 12 * s + 2 * rr))) 2624 0 (226 + 12 * s + 2 * rr) (nI d) = h4
  have hN4 : hI h4 2624 0 = updF (hI h 2624 0) (226 + 12 * s + 2 * rr) (nI d) := by
    subst hh4
    rw [hI_upd, hI_upd, hN3]
    congr 1
    funext j
    unfold updF
    by_cases c : j = 225 + 12 * s + 2 * rr
    · rw [if_pos c, c]
    · rw [if_neg c]
  have f34 : Fr ([709, 2816, 2624], [], false) h2 h4 := by
    subst hh4
    exact ((v2.sub (by decide)).pI (by decide)).pI (by decide)
  have f4 : Fr ([1, 2, 832, 1792, 709, 2816, 2624], [], false) h h4 := (f2.sub (by decide)).tr (f34.sub (by decide))
  have up : ∀ j, j ≠ 226 + 12 * s + 2 * rr → updF (hI h 2624 0) (226 + 12 * s + 2 * rr) (nI d) j = hI h 2624 0 j := fun j hj => if_neg hj
  have us : updF (hI h 2624 0) (226 + 12 * s + 2 * rr) (nI d) (226 + 12 * s + 2 * rr) = nI d := if_pos rfl
  have s0 : Same h h4 0 noSign := Same.fr f4 (by decide)
  have c1792 : ∀ i, i < 28 → ∀ j, hI h4 1792 i j = if i = s ∧ j = rr then nI d else hI h 1792 i j := fun i hi j => by
    rw [f34.1 1792 i j (by decide) (a2.n28 hi)]
    subst hh2
    rw [hI_pI]
    by_cases c : i = s ∧ j = rr
    · rw [if_pos ⟨rfl, c⟩, if_pos c]
    · rw [if_neg (fun e => c e.2), if_neg c, u2.1 1792 i j (by decide) (a.n28 hi)]
  have kd : (nI d).toInt = d := nI_toInt (by omega)
  refine ⟨nI (sA (hI h 2624 0) s rr), h2, h4, ?_, ?_, r0.put f4 (by decide +kernel) (by decide +kernel) rfl ?_ ?_ ?_ ?_⟩
  · unfold X11_aim X11_aim_g0 X11_aim_f0
    rw [nnE (sh_640 a), hasRow_eq q hs z, cI_some, z2, if_neg (by decide), isWithin_wn, cI_some, z3, if_neg (by decide), nnE (sh_644 a), sh_640 a, u1, cV_some, nnE (sh_640 a1), nnE (sh_68 a1 0 (by decide)), ixE (ln_18 a1 0 (by decide)) rfl e6 (by decide), nnE (sh_1152_0 a1 s e6), nnE (sh_326 a1 s (by omega)), ixE (ln_28 a1 s (by omega)) rfl (show rr < 6 by omega) (by decide), nnE (sh_640 a1), nnE (sh_68 a1 0 (by decide)), ixE (ln_18 a1 0 (by decide)) rfl e6 (by decide), nnE (sh_1152_0 a1 s e6), nnE (sh_326 a1 s (by omega)), ixE (ln_28 a1 s (by omega)) rfl (show rr < 6 by omega) (by decide), wr_eq, hh2, w2]
  · unfold X12_aim X12_aim_g0 X12_aim_f0
    rw [X12_isSign_eq a2, hN2, inn_wn (by rw [hSi]; omega), cI_some, z, if_neg (by decide), rowsOf_sR a2 hN2 q hs, cI_some, in_wnK hR0, cI_some, z2, if_neg (by decide), in_wn8, cI_some, z3, if_neg (by decide), v1, cV_some, X12_arrowAt_eq a3 e6 (show rr < 6 by omega), cI_some, X12_nameAt_eq a3 e6 (show rr < 6 by omega), cI_some, hN3, setsRow_eq a3 e6 (show rr < 6 by omega), cV_some, hh4, w3]
  · rw [hN4]
    refine q.2.2.1.signs a s0 (fun j hj => up j (by omega)) (fun t ht => ?_)
    rw [up 6 (by omega)] at ht
    have o := q.2.2.1.2.2.2.2.1.one ht
    have ht14 : t < 14 := by omega
    have kc : ∀ c, c ∈ signCs → c ≠ 1792 → ∀ j, hI h4 c (14 * 0 + t) j = hI h c (14 * 0 + t) j := fun c hc hne j => by
      have e1 : ∀ c ∈ signCs, c ≠ 1792 → ([1, 2, 832, 1792, 709, 2816, 2624] : List Nat).contains c = false := by decide
      have e2 : ∀ c ∈ signCs, c / 64 = 5 ∨ c / 64 = 27 ∨ c / 64 = 28 := by decide
      refine f4.1 c _ j (e1 c hc hne) ?_
      rcases e2 c hc with z | z | z
      · rw [z]; exact a.s1 (by omega)
      · rw [z]; exact a.n27 (by omega)
      · rw [z]; exact a.n28 (by omega)
    obtain ⟨p1, p2, p3, p4, p5, p6, p7, p8, p9, p10⟩ := o
    rw [up (155 + 5 * t) (by omega), up (156 + 5 * t) (by omega), up (157 + 5 * t) (by omega), up (158 + 5 * t) (by omega), up (159 + 5 * t) (by omega), up 3 (by omega), kc 320 (by decide) (by decide), kc 321 (by decide) (by decide), kc 322 (by decide) (by decide), kc 323 (by decide) (by decide), kc 324 (by decide) (by decide)]
    refine ⟨p1, p2, p3, p4, p5, p6, p7, p8, p9, fun r' hr' => ?_⟩
    obtain ⟨p8a, p8b⟩ := p8
    obtain ⟨o1, o2, o3, o4⟩ := p10 r' hr'
    rw [up (225 + 12 * t + 2 * r') (by omega), kc 1728 (by decide) (by decide), c1792 _ (by omega)]
    refine ⟨o1, ?_, o3, ?_⟩
    · by_cases c : 14 * 0 + t = s ∧ r' = rr
      · rw [if_pos c, show 226 + 12 * t + 2 * r' = 226 + 12 * s + 2 * rr by omega, us]
      · rw [if_neg c, up (226 + 12 * t + 2 * r') (by omega)]
        exact o2
    · by_cases c : t = s ∧ r' = rr
      · rw [show 226 + 12 * t + 2 * r' = 226 + 12 * s + 2 * rr by omega, us]
        exact ⟨by rw [kd]; omega, by rw [kd]; omega⟩
      · rw [up (226 + 12 * t + 2 * r') (by omega)]
        exact o4
  · rw [hN4]
    exact q.2.2.2.scal a (by decide) f4 (by decide) (Same.fr f4 (by decide)) (up 8 (by omega)) (fun j e1 _ => up j (by omega))
  · intro c hc i j hi hb
    by_cases c1 : c = 1792
    · subst c1
      have := hb.2.1 (by decide)
      rw [c1792 i (by omega), if_neg (by omega)]
    · have e1 : ∀ c ∈ hsCols, c ≠ 1792 → ([1, 2, 832, 1792, 709, 2816, 2624] : List Nat).contains c = false := by decide
      exact f4.1 c i j (e1 c hc c1) hi
  · rw [hN4, up 6 (by omega)]
    have n0 : 0 < hN h1 0 := a1.k1 (k := 0) (n := 1) (by decide +kernel) (by decide)
    have n0' : 0 < hN h2 0 := a2.k1 (k := 0) (n := 1) (by decide +kernel) (by decide)
    have g832 : ∀ i j, i < 16 → hI h4 832 i j = hI h1 832 i j := fun i j hi => by
      rw [f34.1 832 i j (by decide) (a2.n13 hi)]
      subst hh2
      rw [hI_off _ (by decide)]
    have g1' : ∀ c, c = 1 ∨ c = 2 → hI h4 c 0 0 = hI h1 c 0 0 := fun c hc => by
      have e1 : ∀ c, c = 1 ∨ c = 2 → ([709, 2816, 2624] : List Nat).contains c = false ∧ c / 64 = 0 ∧ c ≠ 1792 := by
        rintro c (rfl | rfl) <;> decide
      obtain ⟨e2, e3, e4'⟩ := e1 c hc
      rw [f34.1 c 0 0 e2 (by rw [e3]; exact n0')]
      subst hh2
      rw [hI_off _ e4']
    have g28 : ∀ j, hI h4 2816 0 j = hI h3 2816 0 j := fun j => by
      subst hh4
      rw [hI_off _ (by decide), hI_off _ (by decide)]
    refine chg_step q k1 k2 k6 ((g1' 1 (Or.inl rfl)).trans u3) ((g1' 2 (Or.inr rfl)).trans u4) ?_ (fun i j hi hne => ?_) (fun t ht => ?_) (fun i hi => ?_) (fun i hi => ?_) (fun i hi => ?_)
    · subst hh4
      rw [hI_off _ (by decide), hI_off _ (by decide), v3]
    · rw [g832 i j hi]
      exact u5 i j hne
    · have hm : (l + 1) % 16 < 16 := Nat.mod_lt _ (by decide)
      obtain ⟨t1, t2⟩ := u6 t ht
      exact ⟨by rw [g832 _ _ hm]; exact t1, fun r' hr' => by rw [g832 _ _ hm]; exact t2 r' hr'⟩
    · rw [g28, v4 i hi, hN2]
    · rw [g28, v5 i hi, hN2]
    · have o28 : ∀ j, hI h2 2816 0 j = hI h 2816 0 j := fun j => f2.1 2816 0 j (by decide) a.n44
      rw [g28, v6 i hi, o28, o28]
