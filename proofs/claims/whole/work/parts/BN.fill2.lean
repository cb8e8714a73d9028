theorem pair_fill (m : Nat) (h : PH) (x1 x2 : Int32) (_ : m < 64) (r : R m h) : Pr (R (m + 1)) (X11_fill 0 x1 x2) (X12_fill 0 x1 x2) h := by
  have r0 := r
  obtain ⟨a, q, -, q3, -, q5, -⟩ := r
  obtain ⟨S, hS, h14, hSn, hSi, h75⟩ := q.signs
  rcases sign_cases q x1 with z | ⟨z, s, hs, rfl⟩
  · refine r0.same (v := -1000000001) ?_ (X12_fill_iff.mpr ⟨0, ?_⟩)
    · unfold X11_fill X11_fill_g0 X11_fill_f0
      rw [nnE (sh_640 a), X1_hasSign_eq, cI_some, h75, ← hS, z, if_pos rfl]
    · unfold X12_fill_g0 X12_fill_f0
      rw [isSign_wn a q, cI_some, z, if_pos rfl]
  obtain ⟨e1, e2, e3, e4, e5, e6, -⟩ := q.sign hs
  rcases lit_cases (x := x2) (y := 4) (K := 4) rfl (by decide) with z2 | ⟨z2, v, hv, rfl⟩
  · refine r0.same (v := -1000000001) ?_ (X12_fill_iff.mpr ⟨0, ?_⟩)
    · unfold X11_fill X11_fill_g0 X11_fill_f0
      rw [nnE (sh_640 a), X1_hasSign_eq, cI_some, h75, ← hS, z, if_neg (by decide), isWithin_wn, cI_some, z2, if_pos rfl]
    · unfold X12_fill_g0 X12_fill_f0
      rw [isSign_wn a q, cI_some, z, if_neg (by decide), isSheet_wn, cI_some, z2, if_pos rfl]
  obtain ⟨s1, s2, s3, s4, s5⟩ := q5 v hv
  by_cases d : hI h 3968 0 v = -1
  · refine r0.same (v := -1000000011) ?_ (X12_fill_iff.mpr ⟨0, ?_⟩)
    · unfold X11_fill X11_fill_g0 X11_fill_f0
      rw [nnE (sh_640 a), X1_hasSign_eq, cI_some, h75, ← hS, z, if_neg (by decide), isWithin_wn, cI_some, z2, if_neg (by decide), nnE (sh_646 a), ixE (ln_38 a) rfl hv (by decide), nnE (sh_2432 a v hv), s1, if_pos d]
    · unfold X12_fill_g0 X12_fill_f0
      rw [isSign_wn a q, cI_some, z, if_neg (by decide), isSheet_wn, cI_some, z2, if_neg (by decide), nnE (sh_745 a), ixE (ln_62 a) rfl hv (by decide), if_pos ((sort_neg s3).mpr d)]
  obtain ⟨sz, hsz, sz24⟩ := rg_nI (u := 24) s4
  obtain ⟨M, hM, hM1, hM6⟩ := most_le e5
  obtain ⟨n, l, k1, k2, k3, k4, k5, k6⟩ := q3
  obtain ⟨h1, u1, u2, u3, u4, u5, u6⟩ := note_eq q k1 k2 k3 k5
  have q1 := q.fr u2 (by decide +kernel) (by decide +kernel)
  have a1 : SH h1 := q1.1
  obtain ⟨-, f2, f3, -⟩ := q1.signF hs
  rw [Nat.mul_zero, Nat.zero_add] at f2 f3
  have w257 : hI h1 257 v 0 = nI sz := (u2.1 257 v 0 (by decide) (a.n4 (by omega))).trans (by rw [s2, hsz])
  have w64 : ∀ k, hI h1 1664 v k = hI h 1664 v k := fun k => u2.1 1664 v k (by decide) (a.n26 (by omega))
  generalize hh0 : pI h1 324 s 0 0 = g1
  have ag : SH g1 := by subst hh0; exact a1
  have fg : Fr rwW h1 g1 := by subst hh0; exact Fr.rf.pI (by decide)
  have gO : ∀ c i j, c ≠ 324 → hI g1 c i j = hI h1 c i j := fun c i j hc => by
    subst hh0
    rw [hI_off _ hc]
  have e64 : hI g1 1664 v = hI h1 1664 v := funext fun j => gO 1664 v j (by decide)
  obtain ⟨nn', h2, ead, fB, r1, r2, r3, r4⟩ := take_c ag (s := s) (v := v) (M := M) (sz := sz) (by omega) (by omega) hM6 (by rw [gO 257 v 0 (by decide), w257]) sz24 M 0 g1 (by omega) Fr.rf (by subst hh0; rw [hI_pI, if_pos ⟨rfl, rfl, rfl⟩]; rfl) (fun i => by rw [if_neg (by omega)]) (fun i => by rw [if_neg (by omega)]) (fun _ _ _ _ _ => rfl)
  have f12 : Fr rwW h1 h2 := fg.tr fB
  have a2 : SH h2 := a1.fr f12 (by decide +kernel)
  have hN2 : hI h2 2624 0 = hI h 2624 0 := (now_fr a1 f12 (by decide)).trans (now_fr a u2 (by decide))
  have k42 : hI h2 709 0 0 = nI n := (f12.1 709 0 0 (by decide) a1.n11).trans ((u2.1 709 0 0 (by decide) a.n11).trans k4)
  obtain ⟨h3, v1, v2, v3, v4, v5, v6⟩ := saves_eq a2 k1 k42
  have a3' : SH h3 := a2.fr v2 (by decide +kernel)
  have hN3 : hI h3 2624 0 = hI h 2624 0 := (now_fr a2 v2 (by decide)).trans hN2
  have fA3 : Fr ([1, 2, 832, 324, 1728, 1792, 709, 2816], [], false) h h3 := ((u2.sub (by decide)).tr (f12.sub (by decide))).tr (v2.sub (by decide))
  have w32 : hI h3 4032 0 v = nI sz := (fA3.1 4032 0 v (by decide) (a.nl (n := 4) (show (63, 0, 4) ∈ lnList by decide +kernel))).trans hsz
  have w96 : ∀ x, hI h3 4096 0 x = hI h 4096 0 x := fun x => fA3.1 4096 0 x (by decide) a.n64
  obtain ⟨zz, h4, em, f34, hN4'⟩ := take_m a3' hN3 (s := s) (v := v) (M := M) (sz := sz) e6 hv hM6 hM w32 sz24 M 0 h3 (by omega) Fr.rf (by
    rw [hN3]
    funext i
    unfold fiP
    rw [if_neg (by omega)])
  -- the two counts are one
  have ecn : ∀ j, j < 24 → hI g1 1664 v j = hI h3 4096 0 (24 * v + j) := fun j hj => by rw [e64, w64, w96, s5 j hj]
  have efl : ∀ k j, j + k ≤ M → flF sz M (hI g1 1664 v) k j = flF sz M (fun i => hI h3 4096 0 (24 * v + i)) k j := by
    intro k
    induction k with
    | zero => intro j _; rfl
    | succ k ih =>
      intro j hj
      have eb : flB sz M (hI g1 1664 v) j = flB sz M (fun i => hI h3 4096 0 (24 * v + i)) j := by
        unfold flB
        rw [ecn (2 * j) (by omega), ecn (2 * j + 1) (by omega)]
      show (bif flB sz M (hI g1 1664 v) j then flF sz M (hI g1 1664 v) k (j + 1) else j) = (bif flB sz M (fun i => hI h3 4096 0 (24 * v + i)) j then flF sz M (fun i => hI h3 4096 0 (24 * v + i)) k (j + 1) else j)
      rw [eb, ih (j + 1) (by omega)]
  rw [efl M 0 (by omega)] at r1 r2 r3
  have hc6 := flF_le sz M (fun i => hI h3 4096 0 (24 * v + i)) M 0
  have hok := fun i hi => flF_ok (sz := sz) (M := M) (f := fun i => hI h3 4096 0 (24 * v + i)) M 0 i (Nat.zero_le i) hi
  generalize hcn : flF sz M (fun i => hI h3 4096 0 (24 * v + i)) M 0 = cn at r1 r2 r3 em hN4' hc6 hok
  obtain ⟨hC, f4, -, -, a3, a4⟩ := chg_four q rfl k1 k2 k6 u2 u3 u4 u5 u6 f12 v2 v3 v4 v5 v6 f34
  have hN4 : ∀ j, hI h4 2624 0 j = if j = 157 + 5 * s then nI cn else if 225 + 12 * s ≤ j ∧ j < 225 + 12 * s + 2 * cn then hI h3 4096 0 (24 * v + (j - (225 + 12 * s))) else hI h 2624 0 j := fun j => by
    rw [hN4']
    rfl
  have nN : ∀ c, c = 324 ∨ c = 1728 ∨ c = 1792 → ∀ i, i < 28 → ∀ j, hI h4 c i j = hI h2 c i j ∧ hI h1 c i j = hI h c i j := fun c hc i hi j => by
    have e9 : ∀ c, c = 324 ∨ c = 1728 ∨ c = 1792 → svM.1.contains c = false ∧ ([2624] : List Nat).contains c = false ∧ ntW.1.contains c = false ∧ (c / 64 = 5 ∨ c / 64 = 27 ∨ c / 64 = 28) := by
      rintro c (rfl | rfl | rfl) <;> decide
    obtain ⟨z1, z2', z3', z4⟩ := e9 c hc
    have lt : ∀ y, SH y → i < hN y (c / 64) := fun y ay => by
      rcases z4 with w | w | w
      · rw [w]; exact ay.s1 hi
      · rw [w]; exact ay.n27 hi
      · rw [w]; exact ay.n28 hi
    exact ⟨(f34.1 c i j z2' (lt h3 a3)).trans (v2.1 c i j z1 (lt h2 a2)), u2.1 c i j z3' (lt h a)⟩
  have c12 : ∀ c, c = 324 ∨ c = 1728 ∨ c = 1792 → ∀ i j, i < 28 → i ≠ s → hI h4 c i j = hI h c i j := fun c hc i j hi hne => by
    rw [(nN c hc i hi j).1, r4 c hc i j hne, ← (nN c hc i hi j).2]
    subst hh0
    rw [hI_pI, if_neg (fun z => hne z.2.1)]
  refine ⟨nI cn, h2, h4, ?_, X12_fill_iff.mpr ⟨zz, ?_⟩, r0.rows f4 hC (fun j hj => ?_) (fun cc hc i j h1 h2 => c12 cc hc i j h2 (by omega)) (fun t ht => ?_)⟩
  · have etk : X6_takeRows s (v + 1) h1 = some (none, h2) := by
      refine X6_takeRows_iff.mpr ⟨nn', ?_⟩
      unfold X6_takeRows_g0 X6_takeRows_f0
      rw [f2, mo3_eq e5, cI_some, hM, wr_eq, hh0]
      exact ead
    unfold X11_fill X11_fill_g0 X11_fill_f0
    rw [nnE (sh_640 a), X1_hasSign_eq, cI_some, h75, ← hS, z, if_neg (by decide), isWithin_wn, cI_some, z2, if_neg (by decide), nnE (sh_646 a), ixE (ln_38 a) rfl hv (by decide), nnE (sh_2432 a v hv), s1, if_neg d, nnE (sh_644 a), sh_640 a, u1, cV_some, nnE (sh_640 a1), nnE (sh_68 a1 0 (by decide)), ixE (ln_18 a1 0 (by decide)) rfl e6 (by decide), nnE (sh_646 a1), ixE (ln_38 a1) rfl hv (by decide), nnE (sh_1152_0 a1 s e6), sh_2432 a1 v hv, etk, cV_some, nnE (sh_640 a2), nnE (sh_68 a2 0 (by decide)), ixE (ln_18 a2 0 (by decide)) rfl e6 (by decide), nnE (sh_1152_0 a2 s e6), r1]
  · have w68 : hI h2 3968 0 v = hI h 3968 0 v := (f12.1 3968 0 v (by decide) (a1.nl (n := 4) (show (62, 0, 4) ∈ lnList by decide +kernel))).trans (u2.1 3968 0 v (by decide) (a.nl (n := 4) (show (62, 0, 4) ∈ lnList by decide +kernel)))
    unfold X12_fill_g0 X12_fill_f0
    rw [X12_isSign_eq a2, hN2, inn_wn (by rw [hSi]; omega), cI_some, z, if_neg (by decide), isSheet_wn, cI_some, z2, if_neg (by decide), nnE (sh_745 a2), ixE (ln_62 a2) rfl hv (by decide), w68, if_neg (fun e => d ((sort_neg s3).mp e)), v1, cV_some]
    exact em
  · rw [hN4 j, if_neg (by omega), if_neg (by omega)]
  · have h6 : hI h4 2624 0 6 = hI h 2624 0 6 := by rw [hN4 6, if_neg (by omega), if_neg (by omega)]
    rw [h6] at ht
    have o := q.2.2.1.2.2.2.2.1.one ht
    by_cases ct : t = s
    · subst ct
      obtain ⟨p1, p2, p3, p4, p5, p6, p7, p8, p9, p10⟩ := o
      rw [Nat.mul_zero, Nat.zero_add] at p1 p2 p4 p5 ⊢
      have up : ∀ j, j ≠ 157 + 5 * t → j < 225 → hI h4 2624 0 j = hI h 2624 0 j := fun j w1 w2 => by rw [hN4 j, if_neg w1, if_neg (by omega)]
      have u157 : hI h4 2624 0 (157 + 5 * t) = nI cn := by rw [hN4, if_pos rfl]
      have f5 : ∀ cc, cc = 320 ∨ cc = 321 ∨ cc = 322 ∨ cc = 323 → hI h4 cc t 0 = hI h cc t 0 := fun cc hc => by
        have e9 : ∀ c, c = 320 ∨ c = 321 ∨ c = 322 ∨ c = 323 → rnW.1.contains c = false ∧ c / 64 = 5 := by
          rintro c (rfl | rfl | rfl | rfl) <;> decide
        obtain ⟨z1, z2'⟩ := e9 cc hc
        exact f4.1 cc t 0 z1 (by rw [z2']; exact a.s1 (by omega))
      rw [up (155 + 5 * t) (by omega) (by omega), up (156 + 5 * t) (by omega) (by omega), u157, up (158 + 5 * t) (by omega) (by omega), up (159 + 5 * t) (by omega) (by omega), up 3 (by omega) (by omega), f5 320 (by omega), f5 321 (by omega), f5 322 (by omega), f5 323 (by omega), (nN 324 (by omega) t (by omega) 0).1, r1]
      refine ⟨p1, p2, rfl, p4, p5, p6, p7, ⟨by rw [nI_toInt (by omega)]; omega, by rw [nI_toInt (by omega)]; omega⟩, p9, fun r' hr' => ?_⟩
      rw [nI_toInt (by omega)] at hr'
      have hr2 : r' < cn := by omega
      have hrg := flB_rg (hok r' hr2)
      have a28 : hI h4 1728 t r' = hI h3 4096 0 (24 * v + 2 * r') := by
        rw [(nN 1728 (by omega) t (by omega) r').1, r2, if_pos hr2, ecn _ (by omega)]
      have a29 : hI h4 1792 t r' = hI h3 4096 0 (24 * v + (2 * r' + 1)) := by
        rw [(nN 1792 (by omega) t (by omega) r').1, r3, if_pos hr2, ecn _ (by omega)]
      have n225 : hI h4 2624 0 (225 + 12 * t + 2 * r') = hI h3 4096 0 (24 * v + 2 * r') := by
        rw [hN4, if_neg (by omega), if_pos (by omega), show 225 + 12 * t + 2 * r' - (225 + 12 * t) = 2 * r' by omega]
      have n226 : hI h4 2624 0 (226 + 12 * t + 2 * r') = hI h3 4096 0 (24 * v + (2 * r' + 1)) := by
        rw [hN4, if_neg (by omega), if_pos (by omega), show 226 + 12 * t + 2 * r' - (225 + 12 * t) = 2 * r' + 1 by omega]
      rw [a28, a29, n225, n226]
      exact ⟨rfl, rfl, hrg.1, hrg.2⟩
    · refine SgOne.keep o a f4 (by omega) (fun j hj => by rw [hN4 j, if_neg (by omega), if_neg (by omega)]) (fun j hj => by rw [hN4 j, if_neg (by omega), if_neg (by omega)]) (fun cc hc j => c12 cc hc t j (by omega) ct)
