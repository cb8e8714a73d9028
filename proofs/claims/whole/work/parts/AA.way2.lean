/-! pair: way, the whole -/
def noWy : List Nat := signCs ++ goalCs ++ [1344, 72, 74, 75, 76, 77, 78, 79, 80] ++ trCols
theorem way_R {m : Nat} {h : PH} (r : R m h) {K p1 p2 d S T : Nat} (hK : hI h 2624 0 4 = nI K) (hK20 : K < 20) (h1 : p1 < nt (hI h 2624 0 3)) (h2 : p2 < nt (hI h 2624 0 3)) (hne : p1 ≠ p2) (hd : d < 8) (hS : S ≤ 3) (hT : 1 ≤ T ∧ T ≤ 30) (f1 : wO (hI h 2624 0) p1 d = none) (f2 : wO (hI h 2624 0) p2 ((d + 4) % 8) = none) : R (m + 1) (wyM (wyC h K p1 p2 d (nI S) (nI T)) K p1 p2 d (nI S) (nI T)) := by
  have r0 := r
  obtain ⟨a, q, -, q3, -⟩ := r
  obtain ⟨c1, c2, c3, c4, c5, c6, c7, c8, c9⟩ := q.2.2.1.1
  obtain ⟨g1, g2, g3, g4, g5, g6, g7, g8⟩ := q.2.2.1.2.1
  have hw := way_HWays q hK hK20 h1 h2 hne hd hS hT f1 f2
  have fr := (wyC_fr h K p1 p2 d (nI S) (nI T)).tr (wyM_fr (wyC h K p1 p2 d (nI S) (nI T)) K p1 p2 d (nI S) (nI T))
  have hN1 : hI (wyC h K p1 p2 d (nI S) (nI T)) 2624 0 = hI h 2624 0 := funext fun j => wyC_off h K p1 p2 d (nI S) (nI T) (by decide) 0 j
  have hN2 : hI (wyM (wyC h K p1 p2 d (nI S) (nI T)) K p1 p2 d (nI S) (nI T)) 2624 0 = wyN (hI h 2624 0) K p1 p2 d (nI S) (nI T) := by rw [wyM_now, hN1]
  have off : ∀ c, c ∉ [576, 577, 578, 579, 580, 581, 960, 73] → c ≠ 2624 → ∀ i j, hI (wyM (wyC h K p1 p2 d (nI S) (nI T)) K p1 p2 d (nI S) (nI T)) c i j = hI h c i j := fun c hc h26 i j => by
    rw [wyM_off _ _ _ _ _ _ _ h26, wyC_off _ _ _ _ _ _ _ hc]
  have s0 : Same h (wyM (wyC h K p1 p2 d (nI S) (nI T)) K p1 p2 d (nI S) (nI T)) 0 noWy := fun c hc i j _ _ => by
    have e1 : ∀ c ∈ noWy, c ∉ [576, 577, 578, 579, 580, 581, 960, 73] ∧ c ≠ 2624 := by decide
    exact off c (e1 c hc).1 (e1 c hc).2 i j
  have up : ∀ j, j ≠ 4 → j < 15 + 6 * K ∨ 21 + 6 * K ≤ j → wyN (hI h 2624 0) K p1 p2 d (nI S) (nI T) j = hI h 2624 0 j := fun j e1 e2 => wyN_up _ _ _ _ _ _ _ e1 e2
  have w4 := (wyN_at (hI h 2624 0) K p1 p2 d (nI S) (nI T)).1
  have h3 : ((hI h 2624 0) 3).toInt ≤ (wyN (hI h 2624 0) K p1 p2 d (nI S) (nI T) 3).toInt := by rw [up 3 (by omega) (by omega)]; omega
  refine r0.put fr (by decide +kernel) (by decide +kernel) rfl ?_ ?_ ?_ ?_
  · rw [hN2]
    refine ⟨?_, ?_, hw, q.2.2.1.2.2.2.1.cong a (by decide) g3.2 (up 5 (by omega) (by omega)) (fun j e1 e2 => up j (by omega) (by omega)) h3 (s0.sub (by decide)), q.2.2.1.2.2.2.2.1.cong a (by decide) g4.2 (up 6 (by omega) (by omega)) (fun j e1 e2 => up j (by omega) (by omega)) h3 (s0.sub (by decide)), q.2.2.1.2.2.2.2.2.cong a (by decide) g6.2 (up 7 (by omega) (by omega)) (fun j e1 e2 => up j (by omega) (by omega)) h3 (s0.sub (by decide))⟩
    · unfold HScal
      rw [up 3 (by omega) (by omega), w4, up 5 (by omega) (by omega), up 6 (by omega) (by omega), up 8 (by omega) (by omega), up 7 (by omega) (by omega), up 1 (by omega) (by omega), up 2 (by omega) (by omega), up 0 (by omega) (by omega)]
      rw [off 72 (by decide) (by decide), off 74 (by decide) (by decide), off 75 (by decide) (by decide), off 76 (by decide) (by decide), off 77 (by decide) (by decide), off 78 (by decide) (by decide), off 79 (by decide) (by decide), off 80 (by decide) (by decide)]
      refine ⟨c1, ?_, c3, c4, c5, c6, c7, c8, c9⟩
      rw [wyM_off _ _ _ _ _ _ _ (by decide)]
      exact (wyC_at h K p1 p2 d (nI S) (nI T)).2.2.2.2.2.2
    · unfold HRange
      rw [up 3 (by omega) (by omega), w4, up 5 (by omega) (by omega), up 6 (by omega) (by omega), up 8 (by omega) (by omega), up 7 (by omega) (by omega), up 1 (by omega) (by omega), up 2 (by omega) (by omega)]
      exact ⟨g1, ⟨by rw [nI_toInt (by omega)]; omega, by rw [nI_toInt (by omega)]; omega⟩, g3, g4, g5, g6, g7, g8⟩
  · rw [hN2]
    exact q.2.2.2.scal a (by decide) fr (by decide) (s0.sub (by decide)) (up 8 (by omega) (by omega)) (fun j e1 _ => up j (by omega) (by omega))
  · intro c hc i j _ hb
    rw [wyM_off _ _ _ _ _ _ _ (fun e => by rw [e] at hc; exact absurd hc (by decide))]
    by_cases c9' : c / 64 = 9
    · have := hb.1 c9'
      rw [wyC_oth _ _ _ _ _ _ _ c9' (by omega)]
    · by_cases c960 : c = 960
      · subst c960
        have : i = 1 := hb.2.2 (by decide)
        rw [wyC_960, if_neg (fun z => by omega)]
      · by_cases c73 : c = 73
        · subst c73
          have : i = 1 := hb.2.2 (by decide)
          subst this
          unfold wyC wyC1
          rw [hI_pI, if_neg (fun z => by omega), hI_off _ (by decide), hI_off _ (by decide), hI_off _ (by decide), hI_off _ (by decide), hI_off _ (by decide), hI_off _ (by decide), hI_off _ (by decide), hI_off _ (by decide)]
        · refine wyC_off _ _ _ _ _ _ _ (fun e => ?_) i j
          have e1 : ∀ c ∈ [576, 577, 578, 579, 580, 581, 960, 73], c / 64 = 9 ∨ c = 960 ∨ c = 73 := by decide
          rcases e1 c e with z | z | z
          · exact c9' z
          · exact c960 z
          · exact c73 z
  · rw [hN2, up 6 (by omega) (by omega)]
    exact q3.fr a fr (by decide)
theorem sort_c (x : Int32) (h : PH) : X11_isWaySort x h = some (some (.inl (if wn x 400 = 0 then 0 else if jrem x 100 < 1 then 0 else if 30 < jrem x 100 then 0 else 1)), h) := by
  unfold X11_isWaySort X11_isWaySort_g0 X11_isWaySort_f0
  rw [dv_ok (by decide), isWithin_wn, cI_some]
  by_cases c : wn x 400 = 0
  · rw [if_pos c, if_pos c]; rfl
  · rw [if_neg c, if_neg c]
    by_cases c1 : jrem x 100 < 1
    · rw [if_pos c1, if_pos c1]; rfl
    · rw [if_neg c1, if_neg c1]
      by_cases c2 : 30 < jrem x 100
      · rw [if_pos c2, if_pos c2]; rfl
      · rw [if_neg c2, if_neg c2]; rfl
theorem pair_way (m : Nat) (h : PH) (x1 x2 x3 x4 : Int32) (_ : m < 64) (r : R m h) : Pr (R (m + 1)) (X11_way 0 x1 x2 x3 x4) (X12_way 0 x1 x2 x3 x4) h := by
  have r0 := r
  obtain ⟨a, q, -⟩ := r
  obtain ⟨c1, c2, c3, c4, c5, c6, c7, c8, c9⟩ := q.2.2.1.1
  obtain ⟨K, hK, h20, hKn, hKi, hK73⟩ := q.ways
  have n12 := q.n12
  rcases place_cases q x1 with z | ⟨z, p1, hp1, rfl⟩
  · refine r0.same (v := -1000000001) ?_ ?_
    · unfold X11_way X11_way_g0 X11_way_f0
      rw [nnE (sh_640 a), X1_hasPlace_eq, cI_some, c1, z, if_pos rfl]
    · unfold X12_way X12_way_g0 X12_way_f0
      rw [isPlace_wn a q, cI_some, z, if_pos rfl]
  rcases place_cases q x2 with z2 | ⟨z2, p2, hp2, rfl⟩
  · refine r0.same (v := -1000000001) ?_ ?_
    · unfold X11_way X11_way_g0 X11_way_f0
      rw [nnE (sh_640 a), X1_hasPlace_eq, cI_some, c1, z, if_neg (by decide), nnE (sh_640 a), X1_hasPlace_eq, cI_some, c1, z2, if_pos rfl]
    · unfold X12_way X12_way_g0 X12_way_f0
      rw [isPlace_wn a q, cI_some, z, if_neg (by decide), isPlace_wn a q, cI_some, z2, if_pos rfl]
  have hC1 : ∀ v, X11_way 0 (nI p1) (nI p2) x3 x4 h = v ↔ (if nI p1 = nI p2 then some (some (.inl (-1000000001)), h) else if wn x3 8 = 0 then some (some (.inl (-1000000001)), h) else if (if wn x4 400 = 0 then (0 : Int32) else if jrem x4 100 < 1 then 0 else if 30 < jrem x4 100 then 0 else 1) = 0 then some (some (.inl (-1000000001)), h) else if nI K < 20 then (cI (X1_wayFrom 0 (nI p1) x3 h) fun v14 h13 => if v14 = (-1) then cI (X11_opposite x3 h13) fun v16 h15 => nn (hR h13 640 0 0) fun r17 => cI (X1_wayFrom r17 (nI p2) v16 h15) fun v19 h18 => if v19 = (-1) then nn (hR h18 640 0 0) fun r20 => cI (X1_addWay r20 (nI p1) (nI p2) x3 x4 h18) fun v22 h21 => some (some (.inl v22), h21) else some (some (.inl (-1000000002)), h18) else some (some (.inl (-1000000002)), h13)) else some (some (.inl (-1000000003)), h)) = v := fun v => by
    unfold X11_way X11_way_g0 X11_way_f0
    rw [nnE (sh_640 a), X1_hasPlace_eq, cI_some, c1, z, if_neg (by decide), nnE (sh_640 a), X1_hasPlace_eq, cI_some, c1, z2, if_neg (by decide), isWithin_wn, cI_some, sort_c, cI_some, nnE (sh_640 a), hK73, nnE (sh_640 a)]
  have hM1 : ∀ y, SH y → hI y 2624 0 = hI h 2624 0 → X12_way 0 (nI p1) (nI p2) x3 x4 y = (if nI p1 = nI p2 then some (some (.inl (-1000000001)), y) else if wn x3 8 = 0 then some (some (.inl (-1000000001)), y) else if x4 < 0 then some (some (.inl (-1000000001)), y) else if 3 < x4 / 100 then some (some (.inl (-1000000001)), y) else if (if jrem x4 100 < 1 then (0 : Int32) else if 30 < jrem x4 100 then 0 else 1) = 0 then some (some (.inl (-1000000001)), y) else if nI K = 20 then some (some (.inl (-1000000003)), y) else (cI (X12_wayFrom 0 (nI p1) x3 y) fun v12 h11 => if v12 < 0 then dv 8 <| cI (X12_wayFrom 0 (nI p2) (jrem (x3 + 4) 8) h11) fun v14 h13 => if v14 < 0 then (nn (hR h13 704 0 0) fun r15 => ix 4 (hL h13 41 r15) fun j16 => nn (hR h13 704 0 0) fun r17 => ix (15 + (6 * (hI h13 2624 r15 j16))) (hL h13 41 r17) fun j18 => wr (pI h13 2624 r17 j18 (nI p1)) fun h19 => nn (hR h19 704 0 0) fun r20 => ix ((15 + (6 * (hI h13 2624 r15 j16))) + 1) (hL h19 41 r20) fun j21 => wr (pI h19 2624 r20 j21 (nI p2)) fun h22 => nn (hR h22 704 0 0) fun r23 => ix ((15 + (6 * (hI h13 2624 r15 j16))) + 2) (hL h22 41 r23) fun j24 => wr (pI h22 2624 r23 j24 x3) fun h25 => dv 100 <| nn (hR h25 704 0 0) fun r26 => ix ((15 + (6 * (hI h13 2624 r15 j16))) + 3) (hL h25 41 r26) fun j27 => wr (pI h25 2624 r26 j27 (x4 / 100)) fun h28 => dv 100 <| nn (hR h28 704 0 0) fun r29 => ix ((15 + (6 * (hI h13 2624 r15 j16))) + 4) (hL h28 41 r29) fun j30 => wr (pI h28 2624 r29 j30 (jrem x4 100)) fun h31 => nn (hR h31 704 0 0) fun r32 => ix ((15 + (6 * (hI h13 2624 r15 j16))) + 5) (hL h31 41 r32) fun j33 => wr (pI h31 2624 r32 j33 0) fun h34 => nn (hR h34 704 0 0) fun r35 => ix 4 (hL h34 41 r35) fun j36 => nn (hR h34 704 0 0) fun r37 => ix 4 (hL h34 41 r37) fun j38 => wr (pI h34 2624 r37 j38 ((hI h34 2624 r35 j36) + 1)) fun h39 => nn (hR h39 704 0 0) fun r40 => ix 4 (hL h39 41 r40) fun j41 => some (some (.inl ((hI h39 2624 r40 j41) - 1)), h39)) else some (some (.inl (-1000000002)), h13) else some (some (.inl (-1000000002)), h11))) := fun y ay hy => by
    unfold X12_way X12_way_g0 X12_way_f0
    have pl : ∀ w, wn w (hI h 2624 0 3) = 1 → X12_isPlace 0 w y = some (some (.inl 1), y) := fun w hw => by
      rw [X12_isPlace_eq ay, hy, inn_wn (by have := q.2.2.1.2.1.1.1; exact this), hw]
    rw [pl _ z, cI_some, if_neg (by decide), pl _ z2, cI_some, if_neg (by decide), in_wn8, cI_some, dv_ok (by decide), dv_ok (by decide), X12_in_eq, cI_some, nnE (sh_704 ay), ixE (ln_41 ay) (show (4 : Int32) = nI 4 from rfl) (by decide) (by decide), hy, hK]
  by_cases e12 : p1 = p2
  · exact r0.same (v := -1000000001) ((hC1 _).mpr (by rw [if_pos (by rw [e12])])) (by rw [hM1 h a rfl, if_pos (by rw [e12])])
  have e12' : ¬ nI p1 = nI p2 := fun e => e12 ((nI_eq (by omega) (by omega)).mp e)
  rcases lit_cases (x := x3) (y := 8) (K := 8) rfl (by decide) with z3 | ⟨z3, d, hd, rfl⟩
  · exact r0.same (v := -1000000001) ((hC1 _).mpr (by rw [if_neg e12', if_pos z3])) (by rw [hM1 h a rfl, if_neg e12', if_pos z3])
  have z3' : ¬ wn (nI d) 8 = 0 := by rw [z3]; decide
  by_cases d4 : x4 < 0
  · have zw : wn x4 400 = 0 := if_pos d4
    exact r0.same (v := -1000000001) ((hC1 _).mpr (by rw [if_neg e12', if_neg z3', if_pos (by rw [if_pos zw])])) (by rw [hM1 h a rfl, if_neg e12', if_neg z3', if_pos d4])
  obtain ⟨X, hX, rfl⟩ := nI_of d4
  have ed : nI X / 100 = nI (X / 100) := by rw [show (100 : Int32) = nI 100 from rfl, pk_div hX (by decide) (by decide)]
  have er : jrem (nI X) 100 = nI (X % 100) := by
    unfold jrem
    rw [show (100 : Int32) = nI 100 from rfl]
    exact pk_rem hX (by decide) (by decide)
  by_cases d5 : X < 400
  case neg =>
    have zw : wn (nI X) 400 = 0 := by
      unfold wn
      rw [if_neg d4, if_neg (show ¬ nI X < 400 from nI_nlt (b := 400) (by omega) hX)]
    have h3 : (3 : Int32) < nI X / 100 := by
      rw [ed]
      exact nI_lt (a := 3) (by omega) (by omega)
    exact r0.same (v := -1000000001) ((hC1 _).mpr (by rw [if_neg e12', if_neg z3', if_pos (by rw [if_pos zw])])) (by rw [hM1 h a rfl, if_neg e12', if_neg z3', if_neg d4, if_pos h3])
  have zw : ¬ wn (nI X) 400 = 0 := by
    unfold wn
    rw [if_neg d4, if_pos (show nI X < 400 from nI_lt (b := 400) d5 (by decide))]
    decide
  have h3 : ¬ (3 : Int32) < nI X / 100 := by
    rw [ed]
    exact nI_nlt (b := X / 100) (a := 3) (by omega) (by decide)
  by_cases d6 : (if jrem (nI X) 100 < 1 then (0 : Int32) else if 30 < jrem (nI X) 100 then 0 else 1) = 0
  · exact r0.same (v := -1000000001) ((hC1 _).mpr (by rw [if_neg e12', if_neg z3', if_neg zw, if_pos d6])) (by rw [hM1 h a rfl, if_neg e12', if_neg z3', if_neg d4, if_neg h3, if_pos d6])
  have hT : 1 ≤ X % 100 ∧ X % 100 ≤ 30 := by
    rw [er] at d6
    constructor
    · by_cases c : X % 100 = 0
      · rw [c] at d6
        exact absurd (by decide) d6
      · omega
    · by_cases c : 30 < X % 100
      · rw [if_neg (show ¬ nI (X % 100) < 1 from nI_nlt (b := 1) (by omega) (by omega)), if_pos (show (30 : Int32) < nI (X % 100) from nI_lt (a := 30) c (by omega))] at d6
        exact absurd rfl d6
      · omega
  by_cases d7 : K < 20
  case neg =>
    have : K = 20 := by omega
    subst this
    exact r0.same (v := -1000000003) ((hC1 _).mpr (by rw [if_neg e12', if_neg z3', if_neg zw, if_neg d6, if_neg (by decide)])) (by rw [hM1 h a rfl, if_neg e12', if_neg z3', if_neg d4, if_neg h3, if_neg d6, if_pos (by decide)])
  have k20 : nI K < 20 := nI_lt (b := 20) d7 (by decide)
  have k20' : ¬ nI K = 20 := fun e => by have := (nI_eq (b := 20) (by omega) (by decide)).mp e; omega
  have wf : ∀ p e, p < 12 → e < 8 → X1_wayFrom 0 (nI p) (nI e) h = some (some (.inl (oI (wO (hI h 2624 0) p e))), h) := fun p e hp he => by
    rw [X1_wayFrom_eq a (by decide) hp he, q.2.2.1.2.2.1.lead hK h20 hp he, wfF_oI]
    unfold wO
    rw [hKn]
  have wm : ∀ y, SH y → hI y 2624 0 = hI h 2624 0 → ∀ p e, X12_wayFrom 0 (nI p) (nI e) y = some (some (.inl (oI (wO (hI h 2624 0) p e))), y) := fun y ay hy p e => by
    rw [X12_wayFrom_eq ay (nI p) (nI e) (K := K) (by rw [hy]; exact hK) h20, hy, wfF_oI]
    unfold wO
    rw [hKn]
  have lt : ∀ p e w, wO (hI h 2624 0) p e = some w → w < 2 ^ 31 := fun p e w hw => by
    have := wO_lt hw
    omega
  have e8 : jrem (nI d + 4) 8 = nI ((d + 4) % 8) := by
    unfold jrem
    rw [show (4 : Int32) = nI 4 from rfl, show (8 : Int32) = nI 8 from rfl, nI_add]
    exact pk_rem (by omega) (by decide) (by decide)
  cases w1 : wO (hI h 2624 0) p1 d with
  | some w =>
    exact r0.same (v := -1000000002) ((hC1 _).mpr (by rw [if_neg e12', if_neg z3', if_neg zw, if_neg d6, if_pos k20, wf p1 d (by omega) hd, cI_some, w1, if_neg (oI_ne (lt _ _ _ w1))])) (by rw [hM1 h a rfl, if_neg e12', if_neg z3', if_neg d4, if_neg h3, if_neg d6, if_neg k20', wm h a rfl, cI_some, w1, if_neg (oI_pos (lt _ _ _ w1))])
  | none =>
    cases w2 : wO (hI h 2624 0) p2 ((d + 4) % 8) with
    | some w =>
      exact r0.same (v := -1000000002) ((hC1 _).mpr (by rw [if_neg e12', if_neg z3', if_neg zw, if_neg d6, if_pos k20, wf p1 d (by omega) hd, cI_some, w1, if_pos (show oI none = -1 from rfl), opposite_nI hd, cI_some, nnE (sh_640 a), wf p2 _ (by omega) (by omega), cI_some, w2, if_neg (oI_ne (lt _ _ _ w2))])) (by rw [hM1 h a rfl, if_neg e12', if_neg z3', if_neg d4, if_neg h3, if_neg d6, if_neg k20', wm h a rfl, cI_some, w1, if_pos (show oI none < 0 by decide), dv_8, e8, wm h a rfl, cI_some, w2, if_neg (oI_pos (lt _ _ _ w2))])
    | none =>
      have a1 : SH (wyC h K p1 p2 d (nI (X / 100)) (nI (X % 100))) := a.fr (wyC_fr h K p1 p2 d (nI (X / 100)) (nI (X % 100))) (by decide)
      have hN1 : hI (wyC h K p1 p2 d (nI (X / 100)) (nI (X % 100))) 2624 0 = hI h 2624 0 := funext fun j => wyC_off h K p1 p2 d (nI (X / 100)) (nI (X % 100)) (by decide) 0 j
      refine ⟨nI K, wyC h K p1 p2 d (nI (X / 100)) (nI (X % 100)), wyM (wyC h K p1 p2 d (nI (X / 100)) (nI (X % 100))) K p1 p2 d (nI (X / 100)) (nI (X % 100)), (hC1 _).mpr ?_, ?_, way_R r0 hK d7 hp1 hp2 e12 hd (by omega) hT w1 w2⟩
      · rw [if_neg e12', if_neg z3', if_neg zw, if_neg d6, if_pos k20, wf p1 d (by omega) hd, cI_some, w1, if_pos (show oI none = -1 from rfl), opposite_nI hd, cI_some, nnE (sh_640 a), wf p2 _ (by omega) (by omega), cI_some, w2, if_pos (show oI none = -1 from rfl), nnE (sh_640 a), addWay_eq a hK73 d7 (by omega) (by omega) hd ed er, cI_some]
      · rw [hM1 _ a1 hN1, if_neg e12', if_neg z3', if_neg d4, if_neg h3, if_neg d6, if_neg k20', wm _ a1 hN1, cI_some, w1, if_pos (show oI none < 0 by decide), dv_8, e8, wm _ a1 hN1, cI_some, w2, if_pos (show oI none < 0 by decide)]
        exact wayM_eq a1 (by rw [hN1]; exact hK) d7 ed er
