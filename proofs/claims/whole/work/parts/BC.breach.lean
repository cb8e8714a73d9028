/-! rows that break a law: the model's -/
theorem m15 (w : Nat) : (15 : Int32) + 6 * nI w = nI (15 + 6 * w) := by rw [show (15 : Int32) = nI 15 from rfl, show (6 : Int32) = nI 6 from rfl, nI_mul, nI_add]
theorem m16 (w : Nat) : (15 : Int32) + 6 * nI w + 1 = nI (16 + 6 * w) := by
  rw [m15, nI_1]
  congr 1
  omega
theorem of5_0 {h : PH} {N : Nat → Int32} (a : SH h) (hN : hI h 2624 0 = N) {s : Nat} (hs : s < 14) : X12_of5 0 (nI s) 0 h = some (some (.inl (N (155 + 5 * s))), h) := of5_at a hN hs (k := 0) (by decide) (Nat.add_zero _)
theorem of5_1 {h : PH} {N : Nat → Int32} (a : SH h) (hN : hI h 2624 0 = N) {s : Nat} (hs : s < 14) : X12_of5 0 (nI s) 1 h = some (some (.inl (N (156 + 5 * s))), h) := of5_at a hN hs (k := 1) (by decide) (by omega)
theorem waysAt_eq {h g : PH} {b : Nat} {N : Nat → Int32} (a : SH h) (hN : hI h 2624 0 = N) (q : Hs g b N) {p : Nat} (hp : p < 12) : X12_waysAt 0 (nI p) h = some (some (.inl (nI (wcN N p))), h) := by
  obtain ⟨K, hK, h20, hKn, hKi, -⟩ := q.ways
  have n12 := q.n12
  have key : ∀ k w c, w + k = K → ∃ n, X12_waysAt_fam n 0 (nI p) (nI c) (nI w) h = some (some (.inl (nI (c + cntF (atB N p) k w))), h) := by
    intro k
    induction k with
    | zero =>
      intro w c e
      refine ⟨1, ?_⟩
      show X12_waysAt_g4 (X12_waysAt_fam 0) 0 (nI p) (nI c) (nI w) h = _
      unfold X12_waysAt_g4 X12_waysAt_f4
      rw [nnE (sh_704 a), ixE (x := 4) (j := 4) (ln_41 a) rfl (by decide) (by decide), hN, hK, if_neg (nI_nlt (by omega) (by omega))]
      rfl
    | succ k ih =>
      intro w c e
      obtain ⟨e1, e2, -, -, g1, g2, -⟩ := q.way (show w < nt (N 4) by omega)
      obtain ⟨n, hn'⟩ := ih (w + 1) (c + (if atB N p w then 1 else 0)) (by omega)
      refine ⟨n + 1, ?_⟩
      show X12_waysAt_g4 (X12_waysAt_fam n) 0 (nI p) (nI c) (nI w) h = _
      unfold X12_waysAt_g4 X12_waysAt_f4 cntF
      rw [nnE (sh_704 a), ixE (x := 4) (j := 4) (ln_41 a) rfl (by decide) (by decide), hN, hK, if_pos (nI_lt (by omega) (by omega)), nnE (sh_704 a), ixE (ln_41 a) (m15 w) (by omega) (by decide), hN, e1, ← Nat.add_assoc]
      have s1 : X12_waysAt_g54 (X12_waysAt_fam n) 0 (nI p) (nI w) 1 (nI c) h = X12_waysAt_fam n 0 (nI p) (nI (c + 1)) (nI (w + 1)) h := by
        show X12_waysAt_fam n 0 (nI p) (nI c + 1) (nI w + 1) h = _
        rw [nI_1, nI_1]
      have s0 : X12_waysAt_g54 (X12_waysAt_fam n) 0 (nI p) (nI w) 0 (nI c) h = X12_waysAt_fam n 0 (nI p) (nI c) (nI (w + 1)) h := by
        show X12_waysAt_fam n 0 (nI p) (nI c + 0) (nI w + 1) h = _
        rw [nI_1, Int32.add_zero]
      by_cases c1 : wA N w = p
      · have e0 : atB N p w = true := by
          unfold atB
          rw [decide_eq_true c1]
          rfl
        rw [e0, if_pos rfl] at hn' ⊢
        rw [if_pos (show nI (wA N w) = nI p by rw [c1]), s1]
        exact hn'
      · rw [if_neg (fun z => c1 ((nI_eq (by omega) (by omega)).mp z)), nnE (sh_704 a), ixE (ln_41 a) (m16 w) (by omega) (by decide), hN, e2]
        by_cases c2 : wB N w = p
        · have e0 : atB N p w = true := by
            unfold atB
            rw [decide_eq_true c2, Bool.or_true]
          rw [e0, if_pos rfl] at hn' ⊢
          rw [if_pos (show nI (wB N w) = nI p by rw [c2]), s1]
          exact hn'
        · have e0 : atB N p w = false := by
            unfold atB
            rw [decide_eq_false c1, decide_eq_false c2]
            rfl
          rw [e0, if_neg (show ¬ false = true by decide)] at hn' ⊢
          rw [if_neg (fun z => c2 ((nI_eq (by omega) (by omega)).mp z)), s0]
          exact hn'
  obtain ⟨n, hn'⟩ := key K 0 0 (by omega)
  rw [Nat.zero_add] at hn'
  unfold wcN
  rw [hKn]
  exact X12_waysAt_iff.mpr ⟨n, hn'⟩
theorem gN_lo {h : PH} {b : Nat} {N : Nat → Int32} (q : Hs h b N) {x nm : Nat} (hn : nm < 10) : ¬ gN N x = some nm := fun e => by
  have := (gN_lt q e).2
  omega
theorem gN_hi {h : PH} {b : Nat} {N : Nat → Int32} (q : Hs h b N) {x nm : Nat} (hx : x < nt (N 5)) (h10 : 10 ≤ nm) (hn : nm < 14) : N (136 + 2 * x) = nI nm - 10 ↔ gN N x = some nm := by
  obtain ⟨-, -, -, -, g5, -⟩ := q.goal hx
  obtain ⟨u, v⟩ := g5
  have e1 : (nI nm - 10).toInt = (nm : Int) - 10 := by
    rw [i_sub (by rw [nI_toInt (by omega), show (10 : Int32).toInt = 10 by decide]; omega), nI_toInt (by omega)]
    rfl
  have em : (-1 : Int32).toInt = -1 := by decide
  unfold gN
  constructor
  · intro e
    have e2 : (N (136 + 2 * x)).toInt = (nm : Int) - 10 := by rw [e, e1]
    rw [if_pos ⟨hx, fun z => by rw [z, em] at e2; omega⟩]
    congr 1
    unfold nt
    omega
  · intro e
    by_cases c : x < nt (N 5) ∧ N (136 + 2 * x) ≠ -1
    · rw [if_pos c] at e
      have e2 := Option.some.inj e
      have : (N (136 + 2 * x)).toInt ≠ -1 := fun z => c.2 (Int32.toInt_inj.mp (by rw [z, em]))
      apply Int32.toInt_inj.mp
      rw [e1]
      unfold nt at e2
      omega
    · rw [if_neg c] at e
      cases e
theorem gN_ge {N : Nat → Int32} {x : Nat} (hx : nt (N 5) ≤ x) : gN N x = none := by
  unfold gN
  rw [if_neg (fun z => by omega)]
/-- what a row's name and a name have to do with each other -/
theorem on_s0 {h g : PH} {b : Nat} {N : Nat → Int32} (a : SH h) (hN : hI h 2624 0 = N) (q : Hs g b N) {nm v s r p : Nat} (hn : nm < 14) (hv : v < 14) (G) : (nn (hR h 704 0 0) fun r15 => ix 5 (hL h 41 r15) fun j16 => if nI nm < (hI h 2624 r15 j16) then cI (X12_groupOf 0 (nI nm) h) fun v18 h17 => if v18 < 0 then X12_goesOn_g133 G 0 (nI p) (nI nm) (nI s) (nI r) (nI v) 0 h17 else cI (X12_groupOf 0 (nI nm) h17) fun v20 h19 => if nI v = (10 + v20) then X12_goesOn_g133 G 0 (nI p) (nI nm) (nI s) (nI r) (nI v) 1 h19 else X12_goesOn_g133 G 0 (nI p) (nI nm) (nI s) (nI r) (nI v) 0 h19 else X12_goesOn_g133 G 0 (nI p) (nI nm) (nI s) (nI r) (nI v) 0 h) = X12_goesOn_g133 G 0 (nI p) (nI nm) (nI s) (nI r) (nI v) (b2 (decide (gN N nm = some v))) h := by
  obtain ⟨K, hK, h10, hKn, hKi, -⟩ := q.goals
  rw [nnE (sh_704 a), ixE (x := 5) (j := 5) (ln_41 a) rfl (by decide) (by decide), hN, hK]
  by_cases c : nm < K
  · obtain ⟨-, -, -, -, g5, g6⟩ := q.goal (show nm < nt (N 5) by omega)
    rw [if_pos (nI_lt c (by omega)), X12_groupOf_eq a g6, cI_some, hN]
    obtain ⟨u, v'⟩ := g5
    by_cases c2 : (N (136 + 2 * nm)).toInt < 0
    · have e0 : gN N nm = none := by
        unfold gN
        rw [if_neg]
        intro z
        apply z.2
        apply Int32.toInt_inj.mp
        have : (-1 : Int32).toInt = -1 := by decide
        omega
      rw [if_pos (by rw [i_lt, i0]; exact c2), e0]
      rfl
    · have e0 : gN N nm = some (10 + nt (N (136 + 2 * nm))) := by
        unfold gN
        rw [if_pos ⟨by omega, fun z => by rw [z] at c2; exact c2 (by decide)⟩]
      have e1 := nI_nt (x := N (136 + 2 * nm)) (by omega)
      have e2 : nt (N (136 + 2 * nm)) < 4 := by unfold nt; omega
      rw [if_neg (by rw [i_lt, i0]; exact c2), X12_groupOf_eq a g6, cI_some, hN, e0, e1, nt_nI (by omega), show (10 : Int32) = nI 10 from rfl, nI_add]
      by_cases c3 : v = 10 + nt (N (136 + 2 * nm))
      · rw [if_pos (by rw [c3]), decide_eq_true (by rw [c3])]
        rfl
      · rw [if_neg (fun z => c3 ((nI_eq (by omega) (by omega)).mp z)), decide_eq_false (fun z => c3 (Option.some.inj z).symm)]
        rfl
  · rw [if_neg (nI_nlt (by omega) (by omega)), gN_ge (show nt (N 5) ≤ nm by omega)]
    rfl
theorem on_133 {h g : PH} {b : Nat} {N : Nat → Int32} (a : SH h) (hN : hI h 2624 0 = N) (q : Hs g b N) {nm v s r p : Nat} (hn : nm < 14) (hv : v < 14) (G) (x : Int32) : X12_goesOn_g133 G 0 (nI p) (nI nm) (nI s) (nI r) (nI v) x h = X12_goesOn_g170 G 0 (nI p) (nI nm) (nI s) (nI r) (nI v) x (b2 (decide (gN N v = some nm))) h := by
  obtain ⟨K, hK, h10, hKn, hKi, -⟩ := q.goals
  unfold X12_goesOn_g133 X12_goesOn_f133
  by_cases c : nm < 10
  · rw [if_pos (show nI nm < 10 from nI_lt (b := 10) c (by decide)), decide_eq_false (gN_lo q c)]
    rfl
  · rw [if_neg (show ¬ nI nm < 10 from nI_nlt (b := 10) (by omega) (by omega)), nnE (sh_704 a), ixE (x := 5) (j := 5) (ln_41 a) rfl (by decide) (by decide), hN, hK]
    by_cases c2 : v < K
    · rw [if_pos (nI_lt c2 (by omega)), X12_groupOf_eq a (by omega), cI_some, hN]
      by_cases c3 : gN N v = some nm
      · rw [if_pos ((gN_hi q (by omega) (by omega) hn).mpr c3), decide_eq_true c3]
        rfl
      · rw [if_neg (fun z => c3 ((gN_hi q (by omega) (by omega) hn).mp z)), decide_eq_false c3]
        rfl
    · rw [if_neg (nI_nlt (by omega) (by omega)), gN_ge (show nt (N 5) ≤ v by omega)]
      rfl
theorem on_170 {g : PH} (h : PH) {b : Nat} {N : Nat → Int32} (q : Hs g b N) {nm s r p : Nat} (hn : nm < 14) (hv : nmN N s r < 14) (G) : X12_goesOn_g170 G 0 (nI p) (nI nm) (nI s) (nI r) (nI (nmN N s r)) (b2 (decide (gN N nm = some (nmN N s r)))) (b2 (decide (gN N (nmN N s r) = some nm))) h = bif onB N s nm r then some (some (.inl 1), h) else G.2.2 0 (nI p) (nI nm) (nI s) (nI (r + 1)) h := by
  obtain ⟨K, hK, h10, hKn, hKi, -⟩ := q.goals
  have nx : X12_goesOn_g189 G 0 (nI p) (nI nm) (nI s) (nI r) (b2 (decide (gN N (nmN N s r) = some nm))) h = bif decide (gN N (nmN N s r) = some nm) then some (some (.inl 1), h) else G.2.2 0 (nI p) (nI nm) (nI s) (nI (r + 1)) h := by
    unfold X12_goesOn_g189 X12_goesOn_f189
    cases decide (gN N (nmN N s r) = some nm) with
    | true =>
      rw [if_neg b2t, bz_ok (Or.inr rfl)]
      rfl
    | false =>
      rw [if_pos b2f, nI_1]
      rfl
  unfold X12_goesOn_g170 X12_goesOn_f170 onB
  by_cases c1 : nmN N s r = nm
  · rw [if_pos (by rw [c1]), bz_ok (Or.inr rfl), decide_eq_true c1]
    rfl
  · rw [if_neg (fun z => c1 ((nI_eq (by omega) (by omega)).mp z)), decide_eq_false c1, Bool.false_or]
    by_cases c : nm < 10
    · rw [if_pos (show nI nm < 10 from nI_lt (b := 10) c (by decide))]
      by_cases c2 : gN N nm = some (nmN N s r)
      · rw [decide_eq_true c2, if_neg b2t, bz_ok (Or.inr rfl), Bool.true_or]
        rfl
      · rw [decide_eq_false c2, if_pos b2f, Bool.false_or]
        exact nx
    · rw [if_neg (show ¬ nI nm < 10 from nI_nlt (b := 10) (by omega) (by omega)), decide_eq_false (p := gN N nm = some (nmN N s r)) (by rw [gN_ge (by omega)]; exact fun z => by cases z), Bool.false_or]
      exact nx
theorem goesOn_eq {h g : PH} {b : Nat} {N : Nat → Int32} (a : SH h) (hN : hI h 2624 0 = N) (q : Hs g b N) {nm p : Nat} (hn : nm < 14) (hp : p < 12) : X12_goesOn 0 (nI p) (nI nm) h = some (some (.inl (b2 (goB N nm p))), h) := by
  obtain ⟨K, hK, h10, hKn, hKi, -⟩ := q.goals
  obtain ⟨S, hS, h14, hSn, hSi, -⟩ := q.signs
  have n12 := q.n12
  have rows : ∀ s, s < S → sP N s = p → ∀ B, (∃ n, (X12_goesOn_fam n).2.1 0 (nI p) (nI nm) (nI (s + 1)) h = some (some (.inl (b2 B)), h)) → ∀ k r, r + k = sR N s → ∃ n, (X12_goesOn_fam n).2.2 0 (nI p) (nI nm) (nI s) (nI r) h = some (some (.inl (b2 (anyF (onB N s nm) k r || B))), h) := by
    intro s hs hsp B ⟨n0, hn0⟩ k
    obtain ⟨e1, e2, -, e4, -, e6, -⟩ := q.sign (show s < nt (N 6) by omega)
    induction k with
    | zero =>
      intro r e
      refine ⟨n0 + 1, ?_⟩
      show X12_goesOn_g68 (X12_goesOn_fam n0) 0 (nI p) (nI nm) (nI s) (nI r) h = _
      unfold X12_goesOn_g68 X12_goesOn_f68
      rw [rowsOf_sR a hN q (by omega), cI_some, if_neg (nI_nlt (by omega) (by omega))]
      show (X12_goesOn_fam n0).2.1 0 (nI p) (nI nm) (nI s + 1) h = _
      rw [nI_1, hn0]
      rfl
    | succ k ih =>
      intro r e
      obtain ⟨n, hn'⟩ := ih (r + 1) (by omega)
      obtain ⟨m1, m2⟩ := q.nm (show s < nt (N 6) by omega) (show r < sR N s by omega)
      refine ⟨n + 1, ?_⟩
      show X12_goesOn_g68 (X12_goesOn_fam n) 0 (nI p) (nI nm) (nI s) (nI r) h = _
      unfold X12_goesOn_g68 X12_goesOn_f68
      rw [rowsOf_sR a hN q (by omega), cI_some, if_pos (nI_lt (by omega) (by omega)), of5_0 a hN e6, cI_some, e1, if_pos (by rw [hsp]), X12_nameAt_eq a e6 (by omega), cI_some, hN, m1]
      refine (on_s0 a hN q hn m2 (X12_goesOn_fam n)).trans ?_
      rw [on_133 a hN q hn m2, on_170 h q hn m2, show anyF (onB N s nm) (k + 1) r = (onB N s nm r || anyF (onB N s nm) k (r + 1)) from rfl]
      cases onB N s nm r with
      | true => rfl
      | false =>
        rw [Bool.false_or]
        exact hn'
  have sgn : ∀ k s, s + k = S → ∃ n, (X12_goesOn_fam n).2.1 0 (nI p) (nI nm) (nI s) h = some (some (.inl (b2 (anyF (gsB N nm p) k s))), h) := by
    intro k
    induction k with
    | zero =>
      intro s e
      refine ⟨1, ?_⟩
      show X12_goesOn_g54 (X12_goesOn_fam 0) 0 (nI p) (nI nm) (nI s) h = _
      unfold X12_goesOn_g54 X12_goesOn_f54
      rw [nnE (sh_704 a), ixE (x := 6) (j := 6) (ln_41 a) rfl (by decide) (by decide), hN, hS, if_neg (nI_nlt (by omega) (by omega)), bz_ok (Or.inl rfl)]
      rfl
    | succ k ih =>
      intro s e
      obtain ⟨n1, hn1⟩ := ih (s + 1) (by omega)
      have hs : s < nt (N 6) := by omega
      obtain ⟨e1, e2, -, e4, -, e6, -⟩ := q.sign hs
      have out : ∃ n, (X12_goesOn_fam n).2.2 0 (nI p) (nI nm) (nI s) 0 h = some (some (.inl (b2 (anyF (gsB N nm p) (k + 1) s))), h) := by
        rw [show anyF (gsB N nm p) (k + 1) s = (gsB N nm p s || anyF (gsB N nm p) k (s + 1)) from rfl]
        by_cases c : sP N s = p
        · obtain ⟨n2, hn2⟩ := rows s (by omega) c _ ⟨n1, hn1⟩ (sR N s) 0 (by omega)
          refine ⟨n2, ?_⟩
          rw [show gsB N nm p s = anyF (onB N s nm) (sR N s) 0 by unfold gsB; rw [decide_eq_true c, Bool.true_and]]
          exact hn2
        · refine ⟨n1 + 1, ?_⟩
          rw [show gsB N nm p s = false by unfold gsB; rw [decide_eq_false c, Bool.false_and], Bool.false_or]
          show X12_goesOn_g68 (X12_goesOn_fam n1) 0 (nI p) (nI nm) (nI s) 0 h = _
          have s2 : X12_goesOn_g202 (X12_goesOn_fam n1) 0 (nI p) (nI nm) (nI s) h = some (some (.inl (b2 (anyF (gsB N nm p) k (s + 1)))), h) := by
            show (X12_goesOn_fam n1).2.1 0 (nI p) (nI nm) (nI s + 1) h = _
            rw [nI_1, hn1]
          unfold X12_goesOn_g68 X12_goesOn_f68
          rw [rowsOf_sR a hN q hs, cI_some]
          by_cases c2 : 0 < sR N s
          · rw [if_pos (show (0 : Int32) < nI (sR N s) from nI_lt (a := 0) c2 (by omega)), of5_0 a hN e6, cI_some, e1, if_neg (fun z => c ((nI_eq (by omega) (by omega)).mp z)), s2]
          · rw [if_neg (show ¬ (0 : Int32) < nI (sR N s) from nI_nlt (a := 0) (by omega) (by omega)), s2]
      obtain ⟨n, hn'⟩ := out
      refine ⟨n + 1, ?_⟩
      show X12_goesOn_g54 (X12_goesOn_fam n) 0 (nI p) (nI nm) (nI s) h = _
      unfold X12_goesOn_g54 X12_goesOn_f54
      rw [nnE (sh_704 a), ixE (x := 6) (j := 6) (ln_41 a) rfl (by decide) (by decide), hN, hS, if_pos (nI_lt (by omega) (by omega))]
      exact hn'
  have gls : ∀ k x, x + k = K → ∃ n, (X12_goesOn_fam n).1 0 (nI p) (nI nm) (nI x) h = some (some (.inl (b2 (anyF (thB N nm p) k x || anyF (gsB N nm p) S 0))), h) := by
    intro k
    induction k with
    | zero =>
      intro x e
      obtain ⟨n, hn'⟩ := sgn S 0 (by omega)
      refine ⟨n + 1, ?_⟩
      show X12_goesOn_g2 (X12_goesOn_fam n) 0 (nI p) (nI nm) (nI x) h = _
      unfold X12_goesOn_g2 X12_goesOn_f2
      rw [nnE (sh_704 a), ixE (x := 5) (j := 5) (ln_41 a) rfl (by decide) (by decide), hN, hK, if_neg (nI_nlt (by omega) (by omega))]
      exact hn'
    | succ k ih =>
      intro x e
      obtain ⟨n, hn'⟩ := ih (x + 1) (by omega)
      obtain ⟨g1, g2, -, -, g5, g6⟩ := q.goal (show x < nt (N 5) by omega)
      have nx : X12_goesOn_g46 (X12_goesOn_fam n) 0 (nI p) (nI nm) (nI x) h = some (some (.inl (b2 (anyF (thB N nm p) k (x + 1) || anyF (gsB N nm p) S 0))), h) := by
        show (X12_goesOn_fam n).1 0 (nI p) (nI nm) (nI x + 1) h = _
        rw [nI_1, hn']
      refine ⟨n + 1, ?_⟩
      show X12_goesOn_g2 (X12_goesOn_fam n) 0 (nI p) (nI nm) (nI x) h = _
      unfold X12_goesOn_g2 X12_goesOn_f2
      rw [nnE (sh_704 a), ixE (x := 5) (j := 5) (ln_41 a) rfl (by decide) (by decide), hN, hK, if_pos (nI_lt (by omega) (by omega)), X12_placeOf_eq a g6, cI_some, hN, g1, show anyF (thB N nm p) (k + 1) x = (thB N nm p x || anyF (thB N nm p) k (x + 1)) from rfl]
      have eT : thB N nm p x = (decide (gP N x = p) && (decide (x = nm) || decide (gN N x = some nm))) := rfl
      by_cases c1 : gP N x = p
      · rw [if_pos (by rw [c1]), eT, decide_eq_true c1, Bool.true_and]
        by_cases c2 : x = nm
        · rw [if_pos (by rw [c2]), bz_ok (Or.inr rfl), decide_eq_true c2]
          rfl
        · rw [if_neg (fun z => c2 ((nI_eq (by omega) (by omega)).mp z)), decide_eq_false c2, Bool.false_or]
          by_cases c : nm < 10
          · rw [if_pos (show nI nm < 10 from nI_lt (b := 10) c (by decide)), decide_eq_false (gN_lo q c), Bool.false_or]
            exact nx
          · rw [if_neg (show ¬ nI nm < 10 from nI_nlt (b := 10) (by omega) (by omega)), X12_groupOf_eq a g6, cI_some, hN]
            by_cases c3 : gN N x = some nm
            · rw [if_pos ((gN_hi q (by omega) (by omega) hn).mpr c3), decide_eq_true c3, bz_ok (Or.inr rfl)]
              rfl
            · rw [if_neg (fun z => c3 ((gN_hi q (by omega) (by omega) hn).mp z)), decide_eq_false c3, Bool.false_or]
              exact nx
      · rw [if_neg (fun z => c1 ((nI_eq (by omega) (by omega)).mp z)), eT, decide_eq_false c1, Bool.false_and, Bool.false_or]
        exact nx
  obtain ⟨n, hn'⟩ := gls K 0 (by omega)
  unfold goB
  rw [hKn, hSn]
  exact X12_goesOn_iff.mpr ⟨n, hn'⟩
theorem quarrels_eq {h g : PH} {b : Nat} {N : Nat → Int32} (a : SH h) (hN : hI h 2624 0 = N) (q : Hs g b N) {s r : Nat} (hs : s < nt (N 6)) (hr : r < sR N s) : X12_quarrels 0 (nI s) (nI r) h = some (some (.inl (b2 (quB N s r))), h) := by
  have n12 := q.n12
  obtain ⟨e1, e2, -, e4, -, e6, -⟩ := q.sign hs
  obtain ⟨-, -, g3, g4, -⟩ := q.row hs hr
  obtain ⟨m1, m2⟩ := q.nm hs hr
  have rows : ∀ t, t ≤ s → ∀ L, L ≤ sR N t → ∀ B, (∃ n, (X12_quarrels_fam n).1 0 (nI s) (nI r) (nI (sP N s)) (nI (t + 1)) h = some (some (.inl (b2 B)), h)) → ∀ k u, u + k = L → ∃ n, (X12_quarrels_fam n).2 0 (nI s) (nI r) (nI (sP N s)) (nI t) (nI L) (nI u) h = some (some (.inl (b2 ((decide (sP N t = sP N s) && anyF (qrB N t (nmN N s r) (sA N s r)) k u) || B))), h) := by
    intro t ht L hL B ⟨n0, hn0⟩ k
    have ht' : t < nt (N 6) := by omega
    obtain ⟨t1, t2, -, t4, -, t6, -⟩ := q.sign ht'
    induction k with
    | zero =>
      intro u e
      refine ⟨n0 + 1, ?_⟩
      show X12_quarrels_g37 (X12_quarrels_fam n0) 0 (nI s) (nI r) (nI (sP N s)) (nI t) (nI L) (nI u) h = _
      unfold X12_quarrels_g37 X12_quarrels_f37
      rw [if_neg (nI_nlt (by omega) (by omega)), nI_1, hn0, show anyF (qrB N t (nmN N s r) (sA N s r)) 0 u = false from rfl, Bool.and_false, Bool.false_or]
    | succ k ih =>
      intro u e
      obtain ⟨n, hn'⟩ := ih (u + 1) (by omega)
      have hu : u < sR N t := by omega
      obtain ⟨-, -, u3, u4, -⟩ := q.row ht' hu
      obtain ⟨v1, v2⟩ := q.nm ht' hu
      have nx : X12_quarrels_g91 (X12_quarrels_fam n) 0 (nI s) (nI r) (nI (sP N s)) (nI t) (nI L) (nI u) h = some (some (.inl (b2 ((decide (sP N t = sP N s) && anyF (qrB N t (nmN N s r) (sA N s r)) k (u + 1)) || B))), h) := by
        show (X12_quarrels_fam n).2 0 (nI s) (nI r) (nI (sP N s)) (nI t) (nI L) (nI u + 1) h = _
        rw [nI_1, hn']
      refine ⟨n + 1, ?_⟩
      show X12_quarrels_g37 (X12_quarrels_fam n) 0 (nI s) (nI r) (nI (sP N s)) (nI t) (nI L) (nI u) h = _
      unfold X12_quarrels_g37 X12_quarrels_f37
      rw [if_pos (nI_lt (by omega) (by omega)), of5_0 a hN t6, cI_some, t1, show anyF (qrB N t (nmN N s r) (sA N s r)) (k + 1) u = (qrB N t (nmN N s r) (sA N s r) u || anyF (qrB N t (nmN N s r) (sA N s r)) k (u + 1)) from rfl]
      by_cases c1 : sP N t = sP N s
      · rw [decide_eq_true c1, Bool.true_and] at nx ⊢
        rw [if_pos (by rw [c1]), X12_nameAt_eq a t6 (by omega), cI_some, hN, v1, X12_nameAt_eq a e6 (by omega), cI_some, hN, m1]
        by_cases c2 : nmN N t u = nmN N s r
        · rw [if_pos (by rw [c2]), X12_arrowAt_eq a t6 (by omega), cI_some, hN, u3, X12_arrowAt_eq a e6 (by omega), cI_some, hN, g3]
          by_cases c3 : sA N t u = sA N s r
          · rw [if_pos (by rw [c3]), show qrB N t (nmN N s r) (sA N s r) u = false by unfold qrB; rw [decide_eq_true c3, Bool.not_true, Bool.and_false], Bool.false_or]
            exact nx
          · rw [if_neg (fun z => c3 ((nI_eq (by omega) (by omega)).mp z)), bz_ok (Or.inr rfl), show qrB N t (nmN N s r) (sA N s r) u = true by unfold qrB; rw [decide_eq_false c3, decide_eq_true c2]; rfl]
            rfl
        · rw [if_neg (fun z => c2 ((nI_eq (by omega) (by omega)).mp z)), show qrB N t (nmN N s r) (sA N s r) u = false by unfold qrB; rw [decide_eq_false c2, Bool.false_and], Bool.false_or]
          exact nx
      · rw [decide_eq_false c1, Bool.false_and] at nx ⊢
        rw [if_neg (fun z => c1 ((nI_eq (by omega) (by omega)).mp z))]
        exact nx
  have sgn : ∀ k t, t + k = s → ∃ n, (X12_quarrels_fam n).1 0 (nI s) (nI r) (nI (sP N s)) (nI t) h = some (some (.inl (b2 (anyF (qsB N (sP N s) (nmN N s r) (sA N s r)) k t || anyF (qrB N s (nmN N s r) (sA N s r)) r 0))), h) := by
    intro k
    induction k with
    | zero =>
      intro t e
      have e' : t = s := by omega
      subst e'
      have fin : ∃ n, (X12_quarrels_fam n).1 0 (nI t) (nI r) (nI (sP N t)) (nI (t + 1)) h = some (some (.inl (b2 false)), h) := by
        refine ⟨1, ?_⟩
        show X12_quarrels_g10 (X12_quarrels_fam 0) 0 (nI t) (nI r) (nI (sP N t)) (nI (t + 1)) h = _
        unfold X12_quarrels_g10 X12_quarrels_f10
        rw [if_pos (nI_lt (by omega) (by omega)), bz_ok (Or.inl rfl)]
        rfl
      obtain ⟨n, hn'⟩ := rows t (Nat.le_refl _) r (by omega) false fin r 0 (by omega)
      refine ⟨n + 1, ?_⟩
      show X12_quarrels_g10 (X12_quarrels_fam n) 0 (nI t) (nI r) (nI (sP N t)) (nI t) h = _
      unfold X12_quarrels_g10 X12_quarrels_f10
      rw [if_neg (nI_nlt (by omega) (by omega)), if_pos rfl]
      rw [decide_eq_true rfl, Bool.true_and, Bool.or_false] at hn'
      exact hn'
    | succ k ih =>
      intro t e
      obtain ⟨n, hn'⟩ := rows t (by omega) (sR N t) (Nat.le_refl _) _ (ih (t + 1) (by omega)) (sR N t) 0 (by omega)
      refine ⟨n + 1, ?_⟩
      show X12_quarrels_g10 (X12_quarrels_fam n) 0 (nI s) (nI r) (nI (sP N s)) (nI t) h = _
      unfold X12_quarrels_g10 X12_quarrels_f10
      rw [if_neg (nI_nlt (by omega) (by omega)), if_neg (fun z => by have := (nI_eq (by omega) (by omega)).mp z; omega), rowsOf_sR a hN q (by omega), cI_some, show anyF (qsB N (sP N s) (nmN N s r) (sA N s r)) (k + 1) t = (qsB N (sP N s) (nmN N s r) (sA N s r) t || anyF (qsB N (sP N s) (nmN N s r) (sA N s r)) k (t + 1)) from rfl, Bool.or_assoc]
      exact hn'
  obtain ⟨n, hn'⟩ := sgn s 0 (by omega)
  refine X12_quarrels_iff.mpr ⟨n, ?_⟩
  unfold X12_quarrels_g0 X12_quarrels_f0
  rw [of5_0 a hN e6, cI_some, e1]
  exact hn'
theorem wayFrom_oI {h g : PH} {b : Nat} {N : Nat → Int32} (a : SH h) (hN : hI h 2624 0 = N) (q : Hs g b N) (p d : Nat) : X12_wayFrom 0 (nI p) (nI d) h = some (some (.inl (oI (wO N p d))), h) := by
  obtain ⟨K, hK, h20, hKn, hKi, -⟩ := q.ways
  rw [X12_wayFrom_eq a (nI p) (nI d) (K := K) (by rw [hN]; exact hK) h20, hN, wfF_oI]
  unfold wO
  rw [hKn]
theorem isBreach_eq {h g : PH} {b : Nat} {N : Nat → Int32} (a : SH h) (hN : hI h 2624 0 = N) (q : Hs g b N) {s r k : Nat} (hs : s < nt (N 6)) (hr : r < sR N s) (hk : 1 ≤ k ∧ k ≤ 4) : X12_isBreach 0 (nI s) (nI r) (nI k) h = some (some (.inl (b2 (brB N s r k))), h) := by
  have n12 := q.n12
  obtain ⟨K, hK, h20, hKn, hKi, -⟩ := q.ways
  obtain ⟨e1, e2, -, e4, e5, e6, -⟩ := q.sign hs
  obtain ⟨-, -, g3, g4, -⟩ := q.row hs hr
  obtain ⟨m1, m2⟩ := q.nm hs hr
  obtain ⟨M, hM, hM1, hM6⟩ := most_le e5
  unfold X12_isBreach X12_isBreach_g0 X12_isBreach_f0
  have hk' : k = 1 ∨ k = 2 ∨ k = 3 ∨ k = 4 := by omega
  rcases hk' with rfl | rfl | rfl | rfl
  · have eb : brB N s r 1 = !decide (r < M) := by
      unfold brB
      rw [if_pos rfl, hM, nt_nI (by omega)]
    rw [if_pos (by decide), of5_1 a hN e6, cI_some, X12_mostBy_eq, cI_some, hM, eb]
    by_cases c : r < M
    · rw [if_pos (nI_lt c (by omega)), bz_ok (Or.inl rfl), decide_eq_true c]
      rfl
    · rw [if_neg (nI_nlt (by omega) (by omega)), bz_ok (Or.inr rfl), decide_eq_false c]
      rfl
  · rw [if_neg (by decide), if_pos (by decide), quarrels_eq a hN q hs hr, cI_some, bz_ok (b2_01 _)]
    rfl
  · rw [if_neg (by decide), if_neg (by decide), of5_0 a hN e6, cI_some, X12_arrowAt_eq a e6 (by omega), cI_some, hN, e1, g3, wayFrom_oI a hN q, cI_some, if_pos (by decide)]
    unfold X12_isBreach_g64 X12_isBreach_f64
    rw [if_pos (by decide)]
    cases c : wO N (sP N s) (sA N s r) with
    | none =>
      have eb : brB N s r 3 = true := by
        unfold brB
        rw [c]
        rfl
      rw [if_pos (by decide), bz_ok (Or.inr rfl), eb]
      rfl
    | some w =>
      have eb : brB N s r 3 = false := by
        unfold brB
        rw [c]
        rfl
      have hw := wO_lt c
      rw [if_neg (oI_pos (t := w) (by omega)), bz_ok (Or.inl rfl), eb]
      rfl
  · rw [if_neg (by decide), if_neg (by decide), of5_0 a hN e6, cI_some, X12_arrowAt_eq a e6 (by omega), cI_some, hN, e1, g3, wayFrom_oI a hN q, cI_some, if_neg (by decide)]
    cases c : wO N (sP N s) (sA N s r) with
    | none =>
      have eb : brB N s r 4 = false := by
        unfold brB
        rw [c]
        rfl
      rw [if_pos (by decide)]
      unfold X12_isBreach_g64 X12_isBreach_f64
      rw [if_neg (by decide), bz_ok (Or.inl rfl), eb]
      rfl
    | some w =>
      have eb : brB N s r 4 = (decide (3 ≤ wcN N (oe N w (sP N s))) && !goB N (nmN N s r) (oe N w (sP N s))) := by
        unfold brB
        rw [c, if_neg (by decide), if_neg (by decide)]
        show (true && _) = _
        rw [Bool.true_and]
      rw [eb]
      have hw := wO_lt c
      have hoe := q.oeL hw (sP N s)
      have hw8 : wcN N (oe N w (sP N s)) ≤ 20 := Nat.le_trans (cnt_le _ _ _) (by omega)
      rw [if_neg (oI_pos (t := w) (by omega)), of5_0 a hN e6, cI_some, e1, show oI (some w) = nI w from rfl, otherEnd_eq a hN q hw (by omega), cI_some, waysAt_eq a hN q (by omega), cI_some]
      by_cases c2 : 3 ≤ wcN N (oe N w (sP N s))
      · rw [if_neg (show ¬ nI (wcN N (oe N w (sP N s))) < 3 from nI_nlt (b := 3) c2 (by omega)), X12_nameAt_eq a e6 (by omega), cI_some, hN, m1, goesOn_eq a hN q m2 (by omega), cI_some, decide_eq_true c2, Bool.true_and]
        cases goB N (nmN N s r) (oe N w (sP N s)) with
        | true => rw [if_neg b2t, bz_ok (Or.inl rfl)]; rfl
        | false => rw [if_pos b2f, bz_ok (Or.inr rfl)]; rfl
      · rw [if_pos (show nI (wcN N (oe N w (sP N s))) < 3 from nI_lt (b := 3) (by omega) (by decide)), bz_ok (Or.inl rfl), decide_eq_false c2, Bool.false_and]
        rfl
