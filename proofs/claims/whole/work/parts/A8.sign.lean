/-! pair: sign -/
def noSg2 : List Nat := wayCs ++ goalCs ++ [1344, 72, 73, 74, 76, 77, 78, 79, 80] ++ trCols
theorem HRel.signs2 {h h2 : PH} {N N' : Nat → Int32} (q : HRel h 0 N) (a : SH h) (s : Same h h2 0 noSg2) (e : ∀ j, j < 155 → j ≠ 6 → N' j = N j) (h75 : hI h2 75 0 0 = N' 6) (r6 : rgI (N' 6) 0 14) (hS : HSigns h2 0 N') : HRel h2 0 N' := by
  obtain ⟨q1, q2, q3, q4, q5, q6⟩ := q
  obtain ⟨c1, c2, c3, c4, c5, c6, c7, c8, c9⟩ := q1
  obtain ⟨g1, g2, g3, g4, g5, g6, g7, g8⟩ := q2
  have h3 : (N 3).toInt ≤ (N' 3).toInt := by rw [e 3 (by decide) (by decide)]; omega
  refine ⟨?_, ?_, q3.cong a (by decide) g2.2 (e 4 (by decide) (by decide)) (fun j _ h2 => e j (by omega) (by omega)) h3 (s.sub (by decide)), q4.cong a (by decide) g3.2 (e 5 (by decide) (by decide)) (fun j _ h2 => e j h2 (by omega)) h3 (s.sub (by decide)), hS, q6.cong a (by decide) g6.2 (e 7 (by decide) (by decide)) (fun j _ h2 => e j (by omega) (by omega)) h3 (s.sub (by decide))⟩
  · unfold HScal
    rw [e 3 (by decide) (by decide), e 4 (by decide) (by decide), e 5 (by decide) (by decide), e 8 (by decide) (by decide), e 7 (by decide) (by decide), e 1 (by decide) (by decide), e 2 (by decide) (by decide), e 0 (by decide) (by decide)]
    have b1 := a.b1 (show 0 < 2 by decide)
    rw [s 72 (by decide) 0 0 b1 (instB_b (by decide)), s 73 (by decide) 0 0 b1 (instB_b (by decide)), s 74 (by decide) 0 0 b1 (instB_b (by decide)), s 76 (by decide) 0 0 b1 (instB_b (by decide)), s 77 (by decide) 0 0 b1 (instB_b (by decide)), s 78 (by decide) 0 0 b1 (instB_b (by decide)), s 79 (by decide) 0 0 b1 (instB_b (by decide)), s 80 (by decide) 0 0 b1 (instB_b (by decide))]
    exact ⟨c1, c2, c3, h75, c5, c6, c7, c8, c9⟩
  · unfold HRange
    rw [e 3 (by decide) (by decide), e 4 (by decide) (by decide), e 5 (by decide) (by decide), e 8 (by decide) (by decide), e 7 (by decide) (by decide), e 1 (by decide) (by decide), e 2 (by decide) (by decide)]
    exact ⟨g1, g2, g3, r6, g5, g6, g7, g8⟩
theorem in_1_99 (x : Int32) (h : PH) : X12_in x 1 99 h = some (some (.inl (if x < 1 then 0 else if 99 < x then 0 else 1)), h) := X12_in_eq x 1 99 h
def sgC1 (h : PH) (S p k : Nat) (u2 : Int32) : PH := pI (pI (pI (pI (pI h 320 S 0 (nI p)) 321 S 0 (nI k)) 322 S 0 u2) 323 S 0 0) 324 S 0 0
def sgC2 (h : PH) (S p k : Nat) (u2 : Int32) : PH := pI (pI (sgC1 h S p k u2) 2 0 0 0) 75 0 0 (nI (S + 1))
def sgM4 (h : PH) (S p k : Nat) : PH := pI (pI (pI (pI h 2624 0 (155 + 5 * S) (nI p)) 2624 0 (156 + 5 * S) (nI k)) 2624 0 (157 + 5 * S) 0) 2624 0 (158 + 5 * S) 0
def sgM7 (h : PH) (S p k : Nat) (u : Int32) : PH := pI (pI (pI (sgM4 h S p k) 2624 0 (159 + 5 * S) u) 2624 0 6 (nI (S + 1))) 709 0 0 0
def sgN4 (N : Nat → Int32) (S p k : Nat) : Nat → Int32 := updF (updF (updF (updF N (155 + 5 * S) (nI p)) (156 + 5 * S) (nI k)) (157 + 5 * S) 0) (158 + 5 * S) 0
def sgN (N : Nat → Int32) (S p k : Nat) (u : Int32) : Nat → Int32 := updF (updF (sgN4 N S p k) (159 + 5 * S) u) 6 (nI (S + 1))
theorem sgC2_off (h : PH) (S p k : Nat) (u2 : Int32) {c : Nat} (hc : c ∉ [320, 321, 322, 323, 324, 2, 75]) (i j : Nat) : hI (sgC2 h S p k u2) c i j = hI h c i j := by
  have n : ∀ d, d ∈ [320, 321, 322, 323, 324, 2, 75] → c ≠ d := fun d hd e => hc (e ▸ hd)
  unfold sgC2 sgC1
  rw [hI_off _ (n 75 (by decide)), hI_off _ (n 2 (by decide)), hI_off _ (n 324 (by decide)), hI_off _ (n 323 (by decide)), hI_off _ (n 322 (by decide)), hI_off _ (n 321 (by decide)), hI_off _ (n 320 (by decide))]
theorem sgC2_oth (h : PH) (S p k : Nat) (u2 : Int32) {c t : Nat} (hc : c ∈ signCs) (ht : t ≠ S) (j : Nat) : hI (sgC2 h S p k u2) c t j = hI h c t j := by
  have n : ∀ d, d ∉ signCs → c ≠ d := fun d hd e => hd (e ▸ hc)
  unfold sgC2 sgC1
  rw [hI_off _ (n 75 (by decide)), hI_off _ (n 2 (by decide)), hI_pI, if_neg (fun z => ht z.2.1), hI_pI, if_neg (fun z => ht z.2.1), hI_pI, if_neg (fun z => ht z.2.1), hI_pI, if_neg (fun z => ht z.2.1), hI_pI, if_neg (fun z => ht z.2.1)]
theorem sgC2_at (h : PH) (S p k : Nat) (u2 : Int32) : hI (sgC2 h S p k u2) 320 S 0 = nI p ∧ hI (sgC2 h S p k u2) 321 S 0 = nI k ∧ hI (sgC2 h S p k u2) 322 S 0 = u2 ∧ hI (sgC2 h S p k u2) 323 S 0 = 0 ∧ hI (sgC2 h S p k u2) 324 S 0 = 0 ∧ hI (sgC2 h S p k u2) 75 0 0 = nI (S + 1) ∧ hI (sgC2 h S p k u2) 2 0 0 = 0 := by
  unfold sgC2 sgC1
  refine ⟨?_, ?_, ?_, ?_, ?_, ?_, ?_⟩
  · rw [hI_off _ (by decide), hI_off _ (by decide), hI_off _ (by decide), hI_off _ (by decide), hI_off _ (by decide), hI_off _ (by decide), hI_pI, if_pos ⟨rfl, rfl, rfl⟩]
  · rw [hI_off _ (by decide), hI_off _ (by decide), hI_off _ (by decide), hI_off _ (by decide), hI_off _ (by decide), hI_pI, if_pos ⟨rfl, rfl, rfl⟩]
  · rw [hI_off _ (by decide), hI_off _ (by decide), hI_off _ (by decide), hI_off _ (by decide), hI_pI, if_pos ⟨rfl, rfl, rfl⟩]
  · rw [hI_off _ (by decide), hI_off _ (by decide), hI_off _ (by decide), hI_pI, if_pos ⟨rfl, rfl, rfl⟩]
  · rw [hI_off _ (by decide), hI_off _ (by decide), hI_pI, if_pos ⟨rfl, rfl, rfl⟩]
  · rw [hI_pI, if_pos ⟨rfl, rfl, rfl⟩]
  · rw [hI_off _ (by decide), hI_pI, if_pos ⟨rfl, rfl, rfl⟩]
theorem sgM7_off (h : PH) (S p k : Nat) (u : Int32) {c : Nat} (h1 : c ≠ 2624) (h2 : c ≠ 709) (i j : Nat) : hI (sgM7 h S p k u) c i j = hI h c i j := by
  unfold sgM7 sgM4
  rw [hI_off _ h2, hI_off _ h1, hI_off _ h1, hI_off _ h1, hI_off _ h1, hI_off _ h1, hI_off _ h1]
theorem sgM4_now (h : PH) (S p k : Nat) : hI (sgM4 h S p k) 2624 0 = sgN4 (hI h 2624 0) S p k := by
  unfold sgM4 sgN4
  rw [hI_upd, hI_upd, hI_upd, hI_upd]
theorem sgM7_now (h : PH) (S p k : Nat) (u : Int32) : hI (sgM7 h S p k u) 2624 0 = sgN (hI h 2624 0) S p k u := by
  unfold sgM7 sgN
  rw [off_now (by decide), hI_upd, hI_upd, sgM4_now]
theorem sgN_up (N : Nat → Int32) (S p k : Nat) (u : Int32) {j : Nat} (h6 : j ≠ 6) (hj : j < 155 + 5 * S ∨ 160 + 5 * S ≤ j) : sgN N S p k u j = N j := by
  unfold sgN sgN4 updF
  rw [if_neg h6, if_neg (by omega), if_neg (by omega), if_neg (by omega), if_neg (by omega), if_neg (by omega)]
theorem sgN4_up (N : Nat → Int32) (S p k : Nat) {j : Nat} (hj : j < 155 + 5 * S ∨ 160 + 5 * S ≤ j) : sgN4 N S p k j = N j := by
  unfold sgN4 updF
  rw [if_neg (by omega), if_neg (by omega), if_neg (by omega), if_neg (by omega)]
theorem sgN_at (N : Nat → Int32) (S p k : Nat) (u : Int32) : sgN N S p k u 6 = nI (S + 1) ∧ sgN N S p k u (155 + 5 * S) = nI p ∧ sgN N S p k u (156 + 5 * S) = nI k ∧ sgN N S p k u (157 + 5 * S) = 0 ∧ sgN N S p k u (158 + 5 * S) = 0 ∧ sgN N S p k u (159 + 5 * S) = u := by
  unfold sgN sgN4 updF
  refine ⟨?_, ?_, ?_, ?_, ?_, ?_⟩
  · rw [if_pos rfl]
  · rw [if_neg (by omega), if_neg (by omega), if_neg (by omega), if_neg (by omega), if_neg (by omega), if_pos rfl]
  · rw [if_neg (by omega), if_neg (by omega), if_neg (by omega), if_neg (by omega), if_pos rfl]
  · rw [if_neg (by omega), if_neg (by omega), if_neg (by omega), if_pos rfl]
  · rw [if_neg (by omega), if_neg (by omega), if_pos rfl]
  · rw [if_neg (by omega), if_pos rfl]
theorem sgC2_fr (h : PH) (S p k : Nat) (u2 : Int32) : Fr ([320, 321, 322, 323, 324, 2, 75, 2624, 709], [], false) h (sgC2 h S p k u2) := ((((((Fr.rf.pI (by decide)).pI (by decide)).pI (by decide)).pI (by decide)).pI (by decide)).pI (by decide)).pI (by decide)
theorem sgM7_fr (h : PH) (S p k : Nat) (u : Int32) : Fr ([320, 321, 322, 323, 324, 2, 75, 2624, 709], [], false) h (sgM7 h S p k u) := ((((((Fr.rf.pI (by decide)).pI (by decide)).pI (by decide)).pI (by decide)).pI (by decide)).pI (by decide)).pI (by decide)
theorem sgC_call {h : PH} (a : SH h) {S p k : Nat} {x u2 : Int32} (h75 : hI h 75 0 0 = nI S) (hS14 : S < 14) (hk : k < 6) (hu2 : u2 = if k = 5 then hI h 79 0 0 + x else -1000000005) : X11_sign_g42 0 (nI p) (nI k) x h = some (some (.inl (nI S)), sgC2 h S p k u2) := by
  have k5 : nI k = 5 ↔ k = 5 := ⟨fun z => (nI_eq (b := 5) (by omega) (by decide)).mp z, fun z => by rw [z]; rfl⟩
  have g93 : X11_sign_g93 0 u2 (nI k) (nI p) (S + 1) h = some (some (.inl (nI S)), sgC2 h S p k u2) := by
    have hb : X6_begin S (nI p) (nI k) u2 h = some (none, sgC1 h S p k u2) := rfl
    have ab : SH (sgC1 h S p k u2) := a
    have hf : X0_forget 0 (sgC1 h S p k u2) = some (none, pI (sgC1 h S p k u2) 2 0 0 0) := rfl
    have a0 : SH (pI (sgC1 h S p k u2) 2 0 0 0) := ab
    have y0 : hI (pI (sgC1 h S p k u2) 2 0 0 0) 75 0 0 = nI S := by
      unfold sgC1
      rw [hI_off _ (by decide), hI_off _ (by decide), hI_off _ (by decide), hI_off _ (by decide), hI_off _ (by decide), hI_off _ (by decide), h75]
    unfold X11_sign_g93 X11_sign_f93
    rw [nnE rfl, hb, cV_some, nnE (sh_644 ab), hf, cV_some, nnE (sh_640 a0), nnE (sh_640 a0), y0, nI_1, wr_eq]
    rfl
  unfold X11_sign_g42 X11_sign_f42
  rw [nnE (sh_640 a), h75, if_pos (show nI S < 14 from nI_lt (b := 14) hS14 (by decide)), nnE (sh_640 a), nnE (sh_640 a), nnE (sh_68 a 0 (by decide)), ixE (ln_18 a 0 (by decide)) h75 hS14 (by decide), sh_1152_0 a S hS14, nnE (sh_640 a)]
  by_cases c : k = 5
  · rw [if_pos c] at hu2
    rw [if_pos (k5.mpr c), ← hu2]
    exact g93
  · rw [if_neg c] at hu2
    rw [if_neg (fun z => c (k5.mp z)), ← hu2]
    exact g93
theorem sgM_call {h : PH} (a : SH h) {S p k : Nat} {x u : Int32} (h6 : hI h 2624 0 6 = nI S) (hS14 : S < 14) (hk : k < 6) (hu : u = if k = 5 then hI h 2624 0 2 + x else 0) : X12_sign_g35 0 (nI p) (nI k) x h = some (some (.inl (nI S)), sgM7 h S p k u) := by
  have k5 : nI k = 5 ↔ k = 5 := ⟨fun z => (nI_eq (b := 5) (by omega) (by decide)).mp z, fun z => by rw [z]; rfl⟩
  have x0 : (155 : Int32) + 5 * nI S = nI (155 + 5 * S) := by rw [show (155 : Int32) = nI 155 from rfl, show (5 : Int32) = nI 5 from rfl, nI_mul, nI_add]
  have xk1 : nI (155 + 5 * S) + 1 = nI (156 + 5 * S) := by rw [show (1 : Int32) = nI 1 from rfl, nI_add]; congr 1; omega
  have xk2 : nI (155 + 5 * S) + 2 = nI (157 + 5 * S) := by rw [show (2 : Int32) = nI 2 from rfl, nI_add]; congr 1; omega
  have xk3 : nI (155 + 5 * S) + 3 = nI (158 + 5 * S) := by rw [show (3 : Int32) = nI 3 from rfl, nI_add]; congr 1; omega
  have xk4 : nI (155 + 5 * S) + 4 = nI (159 + 5 * S) := by rw [show (4 : Int32) = nI 4 from rfl, nI_add]; congr 1; omega
  have am4 : SH (sgM4 h S p k) := a
  have b1 : SH (pI h 2624 0 (155 + 5 * S) (nI p)) := a
  have b2' : SH (pI (pI h 2624 0 (155 + 5 * S) (nI p)) 2624 0 (156 + 5 * S) (nI k)) := a
  have b3 : SH (pI (pI (pI h 2624 0 (155 + 5 * S) (nI p)) 2624 0 (156 + 5 * S) (nI k)) 2624 0 (157 + 5 * S) 0) := a
  have m2 : hI (sgM4 h S p k) 2624 0 2 = hI h 2624 0 2 := by rw [sgM4_now, sgN4_up _ _ _ _ (by omega)]
  have b5 : SH (pI (sgM4 h S p k) 2624 0 (159 + 5 * S) u) := am4
  have y5 : hI (pI (sgM4 h S p k) 2624 0 (159 + 5 * S) u) 2624 0 6 = nI S := by
    rw [hI_pI, if_neg (fun z => by omega), sgM4_now, sgN4_up _ _ _ _ (by omega), h6]
  have a7 : SH (sgM7 h S p k u) := am4
  have g128 : X12_sign_g128 0 u (nI (159 + 5 * S)) 1 (sgM4 h S p k) = some (some (.inl (nI S)), sgM7 h S p k u) := by
    unfold X12_sign_g128 X12_sign_f128
    rw [nnE rfl, ixE (ln_41 am4) rfl (show 159 + 5 * S < 1765 by omega) (by decide), wr_eq, nnE (sh_704 b5), ixE (ln_41 b5) (show (6 : Int32) = nI 6 from rfl) (by decide) (by decide), nnE (sh_704 b5), ixE (ln_41 b5) (show (6 : Int32) = nI 6 from rfl) (by decide) (by decide), y5, nI_1, wr_eq, wr_eq]
    have e7 : pI (pI (pI (sgM4 h S p k) 2624 0 (159 + 5 * S) u) 2624 0 6 (nI (S + 1))) 709 0 0 0 = sgM7 h S p k u := rfl
    rw [e7, nnE (sh_704 a7), ixE (ln_41 a7) (show (6 : Int32) = nI 6 from rfl) (by decide) (by decide), sgM7_now, (sgN_at _ _ _ _ _).1, nI_pred]
  unfold X12_sign_g35 X12_sign_f35
  rw [nnE (sh_704 a), ixE (ln_41 a) (show (6 : Int32) = nI 6 from rfl) (by decide) (by decide), h6, if_neg (show ¬ nI S = 14 from fun z => by have := (nI_eq (b := 14) (by omega) (by decide)).mp z; omega), nnE (sh_704 a), ixE (ln_41 a) (show (6 : Int32) = nI 6 from rfl) (by decide) (by decide), h6, x0, nnE (sh_704 a), ixE (ln_41 a) rfl (show 155 + 5 * S < 1765 by omega) (by decide), wr_eq, nnE (sh_704 b1), ixE (ln_41 b1) xk1 (show 156 + 5 * S < 1765 by omega) (by decide), wr_eq, nnE (sh_704 b2'), ixE (ln_41 b2') xk2 (show 157 + 5 * S < 1765 by omega) (by decide), wr_eq, nnE (sh_704 b3), ixE (ln_41 b3) xk3 (show 158 + 5 * S < 1765 by omega) (by decide), wr_eq]
  have e4 : pI (pI (pI (pI h 2624 0 (155 + 5 * S) (nI p)) 2624 0 (156 + 5 * S) (nI k)) 2624 0 (157 + 5 * S) 0) 2624 0 (158 + 5 * S) 0 = sgM4 h S p k := rfl
  rw [e4, nnE (sh_704 am4), ixE (ln_41 am4) (show (2 : Int32) = nI 2 from rfl) (by decide) (by decide), m2, sh_704 am4, xk4]
  by_cases c : k = 5
  · rw [if_pos c] at hu
    rw [if_pos (k5.mpr c), ← hu]
    exact g128
  · rw [if_neg c] at hu
    rw [if_neg (fun z => c (k5.mp z)), ← hu]
    exact g128
theorem sign_add {m : Nat} {h : PH} (r : R m h) {p k S : Nat} {x u : Int32} (hp : p < nt (hI h 2624 0 3)) (hk : k < 6) (hS : hI h 2624 0 6 = nI S) (hS14 : S < 14) (hu : u = if k = 5 then hI h 2624 0 2 + x else 0) : ∃ h1 h2, X11_sign_g42 0 (nI p) (nI k) x h = some (some (.inl (nI S)), h1) ∧ SH h1 ∧ hI h1 2624 0 = hI h 2624 0 ∧ X12_sign_g35 0 (nI p) (nI k) x h1 = some (some (.inl (nI S)), h2) ∧ R (m + 1) h2 := by
  have r0 := r
  obtain ⟨a, q, -, q3, -⟩ := r
  obtain ⟨c1, c2, c3, c4, c5, c6, c7, c8, c9⟩ := q.2.2.1.1
  have n12 := q.n12
  have k5 : nI k = 5 ↔ k = 5 := ⟨fun z => (nI_eq (b := 5) (by omega) (by decide)).mp z, fun z => by rw [z]; rfl⟩
  generalize hu2 : (if k = 5 then hI h 79 0 0 + x else -1000000005) = u2
  have e1 := sgC_call (p := p) a (c4.trans hS) hS14 hk hu2.symm
  have f1 := sgC2_fr h S p k u2
  have a1 : SH (sgC2 h S p k u2) := a.fr f1 (by decide)
  have hN1 : hI (sgC2 h S p k u2) 2624 0 = hI h 2624 0 := funext fun j => sgC2_off h S p k u2 (by decide) 0 j
  have e2 := sgM_call (p := p) (x := x) (u := u) a1 (by rw [hN1]; exact hS) hS14 hk (by rw [hN1]; exact hu)
  have f2 := f1.tr (sgM7_fr (sgC2 h S p k u2) S p k u)
  have hN2 : hI (sgM7 (sgC2 h S p k u2) S p k u) 2624 0 = sgN (hI h 2624 0) S p k u := by rw [sgM7_now, hN1]
  obtain ⟨z1, z2, z3, z4, z5, z6, z7⟩ := sgC2_at h S p k u2
  obtain ⟨w1, w2, w3, w4, w5, w6⟩ := sgN_at (hI h 2624 0) S p k u
  have off : ∀ c, c ∉ [320, 321, 322, 323, 324, 2, 75, 2624, 709] → ∀ i j, hI (sgM7 (sgC2 h S p k u2) S p k u) c i j = hI h c i j := fun c hc i j => by
    rw [sgM7_off _ _ _ _ _ (fun e => hc (by rw [e]; decide)) (fun e => hc (by rw [e]; decide)), sgC2_off _ _ _ _ _ (fun e => hc (by revert e; simp; omega))]
  have s0 : Same h (sgM7 (sgC2 h S p k u2) S p k u) 0 noSg2 := fun c hc i j _ _ => off c (by
    have : ∀ c ∈ noSg2, c ∉ [320, 321, 322, 323, 324, 2, 75, 2624, 709] := by decide
    exact this c hc) i j
  refine ⟨_, _, e1, a1, hN1, e2, r0.put f2 (by decide +kernel) (by decide +kernel) rfl ?_ ?_ ?_ ?_⟩
  · rw [hN2]
    refine q.2.2.1.signs2 a s0 (fun j h1 h2 => sgN_up _ _ _ _ _ h2 (by omega)) ?_ ⟨by rw [w1, nI_toInt (by omega)]; omega, by rw [w1, nI_toInt (by omega)]; omega⟩ (fun t ht => ?_)
    · rw [w1, sgM7_off _ _ _ _ _ (by decide) (by decide), z6]
    · rw [w1, nI_toInt (by omega)] at ht
      by_cases ct : t = S
      · subst ct
        obtain ⟨L, hL, h12, hLn, hLi, -⟩ := q.places
        rw [w2, w3, w4, w5, w6, sgN_up _ _ _ _ _ (by omega) (by omega), Nat.mul_zero, Nat.zero_add, sgM7_off _ _ _ _ _ (by decide) (by decide), sgM7_off _ _ _ _ _ (by decide) (by decide), sgM7_off _ _ _ _ _ (by decide) (by decide), sgM7_off _ _ _ _ _ (by decide) (by decide), sgM7_off _ _ _ _ _ (by decide) (by decide), z1, z2, z3, z4, z5]
        refine ⟨rfl, rfl, rfl, rfl, ?_, ⟨by rw [nI_toInt (by omega)]; omega, by rw [nI_toInt (by omega)]; omega⟩, ⟨by rw [nI_toInt (by omega)]; omega, by rw [nI_toInt (by omega)]; omega⟩, ⟨by decide, by decide⟩, ⟨by decide, by decide⟩, fun rr hrr => by rw [i0] at hrr; omega⟩
        rw [← hu2, c8]
        by_cases c : k = 5
        · rw [if_pos c, if_pos (k5.mpr c), hu, if_pos c]
        · rw [if_neg c, if_neg (fun z => c (k5.mp z))]
      · have ht' : (t : Int) < (hI h 2624 0 6).toInt := by rw [hS, nI_toInt (by omega)]; omega
        have o := q.2.2.1.2.2.2.2.1.one ht'
        refine o.cong (fun j hj => sgN_up _ _ _ _ _ (by omega) (by omega)) (by rw [sgN_up _ _ _ _ _ (by omega) (by omega)]; omega) (fun c hc j => ?_)
        rw [Nat.mul_zero, Nat.zero_add, sgM7_off _ _ _ _ _ (fun e => by rw [e] at hc; exact absurd hc (by decide)) (fun e => by rw [e] at hc; exact absurd hc (by decide)), sgC2_oth _ _ _ _ _ hc ct]
  · rw [hN2]
    exact q.2.2.2.scal a (by decide) f2 (by decide) (s0.sub (by decide)) (sgN_up _ _ _ _ _ (by omega) (by omega)) (fun j h1 _ => sgN_up _ _ _ _ _ (by omega) (by omega))
  · intro c hc i j _ hb
    by_cases cs : c ∈ signCs
    · have hi : i ≠ S := fun e => by
        have h5 : ∀ c ∈ signCs, c / 64 = 5 ∨ c / 64 = 27 ∨ c / 64 = 28 := by decide
        have := hb.2.1 (h5 c cs)
        omega
      rw [sgM7_off _ _ _ _ _ (fun e => by rw [e] at cs; exact absurd cs (by decide)) (fun e => by rw [e] at cs; exact absurd cs (by decide)), sgC2_oth _ _ _ _ _ cs hi]
    · by_cases c75 : c = 75
      · subst c75
        have : i = 1 := hb.2.2 (by decide)
        subst this
        rw [sgM7_off _ _ _ _ _ (by decide) (by decide)]
        unfold sgC2 sgC1
        rw [hI_pI, if_neg (fun z => by omega), hI_off _ (by decide), hI_off _ (by decide), hI_off _ (by decide), hI_off _ (by decide), hI_off _ (by decide), hI_off _ (by decide)]
      · refine off c ?_ i j
        have : ∀ c ∈ hsCols, c ∉ signCs → c ≠ 75 → c ∉ [320, 321, 322, 323, 324, 2, 75, 2624, 709] := by decide
        exact this c hc cs c75
  · rw [hN2, w1]
    obtain ⟨n, l, -, t2, -, -, t5, -⟩ := q3
    refine ⟨0, l, by omega, t2, ?_, ?_, ?_, fun k hk => by omega⟩
    · rw [sgM7_off _ _ _ _ _ (by decide) (by decide), z7]
      rfl
    · unfold sgM7
      rw [hI_pI, if_pos ⟨rfl, rfl, rfl⟩]
      rfl
    · rw [off 1 (by decide)]
      exact t5
theorem pair_sign (m : Nat) (h : PH) (x1 x2 x3 : Int32) (_ : m < 64) (r : R m h) : Pr (R (m + 1)) (X11_sign 0 x1 x2 x3) (X12_sign 0 x1 x2 x3) h := by
  have r0 := r
  obtain ⟨a, q, -⟩ := r
  obtain ⟨c1, c2, c3, c4, c5, c6, c7, c8, c9⟩ := q.2.2.1.1
  obtain ⟨S, hS, h14, hSn, hSi, hS75⟩ := q.signs
  rcases place_cases q x1 with z | ⟨z, p, hp, rfl⟩
  · refine r0.same (v := -1000000001) ?_ ?_
    · unfold X11_sign X11_sign_g0 X11_sign_f0
      rw [nnE (sh_640 a), X1_hasPlace_eq, cI_some, c1, z, if_pos rfl]
    · unfold X12_sign X12_sign_g0 X12_sign_f0
      rw [isPlace_wn a q, cI_some, z, if_pos rfl]
  rcases lit_cases (x := x2) (y := 6) (K := 6) rfl (by decide) with z2 | ⟨z2, k, hk, rfl⟩
  · refine r0.same (v := -1000000001) ?_ ?_
    · unfold X11_sign X11_sign_g0 X11_sign_f0
      rw [nnE (sh_640 a), X1_hasPlace_eq, cI_some, c1, z, if_neg (by decide), isWithin_wn, cI_some, z2, if_pos rfl]
    · unfold X12_sign X12_sign_g0 X12_sign_f0
      rw [isPlace_wn a q, cI_some, z, if_neg (by decide), in_wn6, cI_some, z2, if_pos rfl]
  have k5 : nI k = 5 ↔ k = 5 := ⟨fun z => (nI_eq (b := 5) (by omega) (by decide)).mp z, fun z => by rw [z]; rfl⟩
  have hc0 : X11_sign 0 (nI p) (nI k) x3 h = if nI k = 5 then (if x3 < 1 then some (some (.inl (-1000000001)), h) else if 99 < x3 then some (some (.inl (-1000000001)), h) else X11_sign_g42 0 (nI p) (nI k) x3 h) else X11_sign_g42 0 (nI p) (nI k) x3 h := by
    unfold X11_sign X11_sign_g0 X11_sign_f0
    rw [nnE (sh_640 a), X1_hasPlace_eq, cI_some, c1, z, if_neg (by decide), isWithin_wn, cI_some, z2, if_neg (by decide)]
  have hm0 : ∀ y, SH y → hI y 2624 0 = hI h 2624 0 → X12_sign 0 (nI p) (nI k) x3 y = if nI k = 5 then (if (if x3 < 1 then (0 : Int32) else if 99 < x3 then 0 else 1) = 0 then some (some (.inl (-1000000001)), y) else X12_sign_g35 0 (nI p) (nI k) x3 y) else X12_sign_g35 0 (nI p) (nI k) x3 y := fun y ay hy => by
    unfold X12_sign X12_sign_g0 X12_sign_f0
    rw [X12_isPlace_eq ay, hy, inn_wn (by have := q.2.2.1.2.1.1.1; exact this), cI_some, z, if_neg (by decide), in_wn6, cI_some, z2, if_neg (by decide), in_1_99, cI_some]
  by_cases bad : k = 5 ∧ (x3 < 1 ∨ 99 < x3)
  · obtain ⟨b1, b2'⟩ := bad
    have hb : (if x3 < 1 then (0 : Int32) else if 99 < x3 then 0 else 1) = 0 := by
      by_cases d : x3 < 1
      · rw [if_pos d]
      · rw [if_neg d, if_pos (b2'.resolve_left d)]
    refine r0.same (v := -1000000001) ?_ ?_
    · rw [hc0, if_pos (k5.mpr b1)]
      by_cases d : x3 < 1
      · rw [if_pos d]
      · rw [if_neg d, if_pos (b2'.resolve_left d)]
    · rw [hm0 h a rfl, if_pos (k5.mpr b1), if_pos hb]
  · have hc1 : X11_sign 0 (nI p) (nI k) x3 h = X11_sign_g42 0 (nI p) (nI k) x3 h := by
      rw [hc0]
      by_cases d : k = 5
      · rw [if_pos (k5.mpr d), if_neg (fun e => bad ⟨d, Or.inl e⟩), if_neg (fun e => bad ⟨d, Or.inr e⟩)]
      · rw [if_neg (fun e => d (k5.mp e))]
    have hm1 : ∀ y, SH y → hI y 2624 0 = hI h 2624 0 → X12_sign 0 (nI p) (nI k) x3 y = X12_sign_g35 0 (nI p) (nI k) x3 y := fun y ay hy => by
      rw [hm0 y ay hy]
      by_cases d : k = 5
      · rw [if_pos (k5.mpr d), if_neg (fun e => bad ⟨d, Or.inl e⟩), if_neg (fun e => bad ⟨d, Or.inr e⟩), if_neg (by decide)]
      · rw [if_neg (fun e => d (k5.mp e))]
    by_cases dS : S < 14
    · obtain ⟨h1, h2, e1, a1, hN1, e2, r2⟩ := sign_add r0 (x := x3) hp hk hS dS rfl
      exact ⟨nI S, h1, h2, hc1.trans e1, (hm1 h1 a1 hN1).trans e2, r2⟩
    · have : S = 14 := by omega
      subst this
      refine r0.same (v := -1000000003) ?_ ?_
      · rw [hc1]
        unfold X11_sign_g42 X11_sign_f42
        rw [nnE (sh_640 a), hS75, if_neg (by decide)]
      · rw [hm1 h a rfl]
        unfold X12_sign_g35 X12_sign_f35
        rw [nnE (sh_704 a), ixE (ln_41 a) (show (6 : Int32) = nI 6 from rfl) (by decide) (by decide), hS, if_pos (by decide)]
