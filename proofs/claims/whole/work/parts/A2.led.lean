/-! pairs: led, count -/
def ldV (N : Nat → Int32) : Option Nat → Int32
  | none => 0
  | some t => N (158 + 5 * t)
def ldF (N : Nat → Int32) : Nat → Nat → Option Nat → Option Nat
  | 0, _, best => best
  | k + 1, s, best => ldF N k (s + 1) (if ldV N best < N (158 + 5 * s) then some s else best)
theorem X11_led_eq {h : PH} (q : Hs h 0 (hI h 2624 0)) : X11_led 0 h = some (some (.inl (orV (ldF (hI h 2624 0) (nt (hI h 2624 0 6)) 0 none))), h) := by
  have a := q.1
  obtain ⟨S, hS, h14, hSn, hSi, hS75⟩ := q.signs
  have key : ∀ k s best, s + k = nt (hI h 2624 0 6) → ∃ n, X11_led_fam n 0 (orV best) (ldV (hI h 2624 0) best) (nI s) h = some (some (.inl (orV (ldF (hI h 2624 0) k s best))), h) := by
    intro k
    induction k with
    | zero =>
      intro s best e
      have hlt : ¬ nI s < nI S := nI_nlt (by omega) (by omega)
      refine ⟨1, ?_⟩
      show X11_led_g7 _ 0 (orV best) (ldV (hI h 2624 0) best) (nI s) h = _
      unfold X11_led_g7 X11_led_f7
      rw [nnE (sh_640 a), hS75, if_neg hlt]
      rfl
    | succ k ih =>
      intro s best e
      have hlt : nI s < nI S := nI_lt (by omega) (by omega)
      have hs : s < nt (hI h 2624 0 6) := by omega
      obtain ⟨-, -, -, -, -, e6, -⟩ := q.sign hs
      obtain ⟨f1, f2, f3, f4, f5⟩ := q.signF hs
      rw [Nat.mul_zero, Nat.zero_add] at f4
      obtain ⟨n, hn⟩ := ih (s + 1) (if ldV (hI h 2624 0) best < hI h 2624 0 (158 + 5 * s) then some s else best) (by omega)
      refine ⟨n + 1, ?_⟩
      show X11_led_g7 (X11_led_fam n) 0 (orV best) (ldV (hI h 2624 0) best) (nI s) h = _
      unfold X11_led_g7 X11_led_f7
      rw [nnE (sh_640 a), hS75, if_pos hlt, nnE (sh_640 a), nnE (sh_68 a 0 (by decide)), ixE (ln_18 a 0 (by decide)) rfl e6 (by decide), nnE (sh_1152_0 a s e6), f4, nnE (sh_640 a), nnE (sh_68 a 0 (by decide)), ixE (ln_18 a 0 (by decide)) rfl e6 (by decide), nnE (sh_1152_0 a s e6), f4]
      unfold X11_led_g49 X11_led_f49
      rw [nI_1]
      by_cases c : ldV (hI h 2624 0) best < hI h 2624 0 (158 + 5 * s)
      · rw [if_pos c] at hn ⊢
        show _ = some (some (Sum.inl (orV (ldF (hI h 2624 0) k (s + 1) (if ldV (hI h 2624 0) best < hI h 2624 0 (158 + 5 * s) then some s else best)))), h)
        rw [if_pos c]
        exact hn
      · rw [if_neg c] at hn ⊢
        show _ = some (some (Sum.inl (orV (ldF (hI h 2624 0) k (s + 1) (if ldV (hI h 2624 0) best < hI h 2624 0 (158 + 5 * s) then some s else best)))), h)
        rw [if_neg c]
        exact hn
  obtain ⟨n, hn⟩ := key (nt (hI h 2624 0 6)) 0 none (by omega)
  exact X11_led_iff.mpr ⟨n, hn⟩
theorem X12_led_eq {h : PH} (q : Hs h 0 (hI h 2624 0)) : X12_led 0 h = some (some (.inl (orV (ldF (hI h 2624 0) (nt (hI h 2624 0 6)) 0 none))), h) := by
  have a := q.1
  obtain ⟨S, hS, h14, hSn, hSi, hS75⟩ := q.signs
  have o3 : ∀ s, s < 14 → X12_of5 0 (nI s) 3 h = some (some (.inl (hI h 2624 0 (158 + 5 * s))), h) := fun s hs => of5_at (k := 3) a rfl hs (by decide) (by omega)
  have key : ∀ k s best, s + k = nt (hI h 2624 0 6) → (∀ t, best = some t → t < 14 ∧ 0 < hI h 2624 0 (158 + 5 * t)) → ∃ n, X12_led_fam n 0 (oI best) (nI s) h = some (some (.inl (orV (ldF (hI h 2624 0) k s best))), h) := by
    intro k
    induction k with
    | zero =>
      intro s best e hb
      have hlt : ¬ nI s < nI S := nI_nlt (by omega) (by omega)
      refine ⟨1, ?_⟩
      show X12_led_g4 _ 0 (oI best) (nI s) h = _
      unfold X12_led_g4 X12_led_f4
      rw [nnE (sh_704 a), ixE (ln_41 a) (show (6 : Int32) = nI 6 from rfl) (by decide) (by decide), hS, if_neg hlt]
      cases best with
      | none => rfl
      | some t =>
        have := (hb t rfl).1
        rw [if_neg (oI_pos (show t < 2 ^ 31 by omega))]
        rfl
    | succ k ih =>
      intro s best e hb
      have hlt : nI s < nI S := nI_lt (by omega) (by omega)
      have hs : s < nt (hI h 2624 0 6) := by omega
      obtain ⟨-, -, -, -, -, e6, e7⟩ := q.sign hs
      have hst : ldF (hI h 2624 0) (k + 1) s best = ldF (hI h 2624 0) k (s + 1) (if ldV (hI h 2624 0) best < hI h 2624 0 (158 + 5 * s) then some s else best) := rfl
      have head : ∀ G, X12_led_g4 G 0 (oI best) (nI s) h = if 0 < hI h 2624 0 (158 + 5 * s) then (if oI best < 0 then X12_led_g40 G 0 (nI s) h else cI (X12_of5 0 (oI best) 3 h) fun v6 h5 => if v6 < hI h 2624 0 (158 + 5 * s) then X12_led_g40 G 0 (nI s) h5 else X12_led_g44 G 0 (oI best) (nI s) h5) else X12_led_g44 G 0 (oI best) (nI s) h := fun G => by
        unfold X12_led_g4 X12_led_f4
        rw [nnE (sh_704 a), ixE (ln_41 a) (show (6 : Int32) = nI 6 from rfl) (by decide) (by decide), hS, if_pos hlt, o3 s e6, cI_some]
      have g40 : ∀ (G : Nat → Int32 → Int32 → PH → Option Rs), X12_led_g40 G 0 (nI s) h = G 0 (oI (some s)) (nI (s + 1)) h := fun G => by
        unfold X12_led_g40 X12_led_f40 X12_led_g45 X12_led_f45
        rw [nI_1]
        rfl
      have g44 : ∀ (G : Nat → Int32 → Int32 → PH → Option Rs), X12_led_g44 G 0 (oI best) (nI s) h = G 0 (oI best) (nI (s + 1)) h := fun G => by
        unfold X12_led_g44 X12_led_f44 X12_led_g45 X12_led_f45
        rw [nI_1]
      by_cases c : ldV (hI h 2624 0) best < hI h 2624 0 (158 + 5 * s)
      · have hpos : 0 < hI h 2624 0 (158 + 5 * s) := by
          cases best with
          | none => exact c
          | some t =>
            have h1 := (hb t rfl).2
            have c' : hI h 2624 0 (158 + 5 * t) < hI h 2624 0 (158 + 5 * s) := c
            rw [i_lt] at h1 c' ⊢
            omega
        rw [if_pos c] at hst
        obtain ⟨n, hn⟩ := ih (s + 1) (some s) (by omega) (fun t ht => by cases ht; exact ⟨e6, hpos⟩)
        refine ⟨n + 1, ?_⟩
        show X12_led_g4 (X12_led_fam n) 0 (oI best) (nI s) h = _
        rw [head, if_pos hpos, hst]
        cases best with
        | none =>
          rw [if_pos (show oI none < 0 by decide), g40]
          exact hn
        | some t =>
          have ht := (hb t rfl).1
          have c' : hI h 2624 0 (158 + 5 * t) < hI h 2624 0 (158 + 5 * s) := c
          rw [if_neg (oI_pos (show t < 2 ^ 31 by omega))]
          show cI (X12_of5 0 (nI t) 3 h) _ = _
          rw [o3 t ht, cI_some, if_pos c', g40]
          exact hn
      · rw [if_neg c] at hst
        obtain ⟨n, hn⟩ := ih (s + 1) best (by omega) hb
        refine ⟨n + 1, ?_⟩
        show X12_led_g4 (X12_led_fam n) 0 (oI best) (nI s) h = _
        rw [head, hst, g44]
        cases best with
        | none =>
          have c' : ¬ (0 : Int32) < hI h 2624 0 (158 + 5 * s) := c
          rw [if_neg c']
          exact hn
        | some t =>
          have ht := (hb t rfl).1
          have c' : ¬ hI h 2624 0 (158 + 5 * t) < hI h 2624 0 (158 + 5 * s) := c
          by_cases d : 0 < hI h 2624 0 (158 + 5 * s)
          · rw [if_pos d, if_neg (oI_pos (show t < 2 ^ 31 by omega))]
            show cI (X12_of5 0 (nI t) 3 h) _ = _
            rw [o3 t ht, cI_some, if_neg c', g44]
            exact hn
          · rw [if_neg d]
            exact hn
  obtain ⟨n, hn⟩ := key (nt (hI h 2624 0 6)) 0 none (by omega) (fun t ht => by cases ht)
  exact X12_led_iff.mpr ⟨n, hn⟩
theorem pair_led (m : Nat) (h : PH) (_ : m < 64) (r : R m h) : Pr (R (m + 1)) (X11_led 0) (X12_led 0) h := r.same (X11_led_eq r.2.1) (X12_led_eq r.2.1)
def smF (N : Nat → Int32) : Nat → Nat → Nat → Nat
  | 0, _, acc => acc
  | k + 1, s, acc => smF N k (s + 1) (acc + sR N s)
theorem X1_rowsOfAll_eq {h : PH} (q : Hs h 0 (hI h 2624 0)) : X1_rowsOfAll 0 h = some (some (.inl (nI (smF (hI h 2624 0) (nt (hI h 2624 0 6)) 0 0))), h) := by
  have a := q.1
  obtain ⟨S, hS, h14, hSn, hSi, hS75⟩ := q.signs
  have key : ∀ k s acc, s + k = nt (hI h 2624 0 6) → ∃ n, X1_rowsOfAll_fam n 0 (nI acc) (nI s) h = some (some (.inl (nI (smF (hI h 2624 0) k s acc))), h) := by
    intro k
    induction k with
    | zero =>
      intro s acc e
      have hlt : ¬ nI s < nI S := nI_nlt (by omega) (by omega)
      refine ⟨1, ?_⟩
      show X1_rowsOfAll_g4 _ 0 (nI acc) (nI s) h = _
      unfold X1_rowsOfAll_g4 X1_rowsOfAll_f4
      rw [hS75, if_neg hlt]
      rfl
    | succ k ih =>
      intro s acc e
      have hlt : nI s < nI S := nI_lt (by omega) (by omega)
      have hs : s < nt (hI h 2624 0 6) := by omega
      obtain ⟨-, -, -, -, -, e6, -⟩ := q.sign hs
      obtain ⟨f1, f2, f3, f4, f5⟩ := q.signF hs
      rw [Nat.mul_zero, Nat.zero_add] at f3
      obtain ⟨n, hn⟩ := ih (s + 1) (acc + sR (hI h 2624 0) s) (by omega)
      refine ⟨n + 1, ?_⟩
      show X1_rowsOfAll_g4 (X1_rowsOfAll_fam n) 0 (nI acc) (nI s) h = _
      unfold X1_rowsOfAll_g4 X1_rowsOfAll_f4
      rw [hS75, if_pos hlt, nnE (sh_68 a 0 (by decide)), ixE (ln_18 a 0 (by decide)) rfl e6 (by decide), nnE (sh_1152_0 a s e6), f3, nI_add, nI_1]
      exact hn
  obtain ⟨n, hn⟩ := key (nt (hI h 2624 0 6)) 0 0 (by omega)
  exact X1_rowsOfAll_iff.mpr ⟨n, hn⟩
theorem X12_allRows_eq {h : PH} (q : Hs h 0 (hI h 2624 0)) : X12_allRows 0 h = some (some (.inl (nI (smF (hI h 2624 0) (nt (hI h 2624 0 6)) 0 0))), h) := by
  have a := q.1
  obtain ⟨S, hS, h14, hSn, hSi, hS75⟩ := q.signs
  have key : ∀ k s acc, s + k = nt (hI h 2624 0 6) → ∃ n, X12_allRows_fam n 0 (nI acc) (nI s) h = some (some (.inl (nI (smF (hI h 2624 0) k s acc))), h) := by
    intro k
    induction k with
    | zero =>
      intro s acc e
      have hlt : ¬ nI s < nI S := nI_nlt (by omega) (by omega)
      refine ⟨1, ?_⟩
      show X12_allRows_g4 _ 0 (nI acc) (nI s) h = _
      unfold X12_allRows_g4 X12_allRows_f4
      rw [nnE (sh_704 a), ixE (ln_41 a) (show (6 : Int32) = nI 6 from rfl) (by decide) (by decide), hS, if_neg hlt]
      rfl
    | succ k ih =>
      intro s acc e
      have hlt : nI s < nI S := nI_lt (by omega) (by omega)
      have hs : s < nt (hI h 2624 0 6) := by omega
      obtain ⟨n, hn⟩ := ih (s + 1) (acc + sR (hI h 2624 0) s) (by omega)
      refine ⟨n + 1, ?_⟩
      show X12_allRows_g4 (X12_allRows_fam n) 0 (nI acc) (nI s) h = _
      unfold X12_allRows_g4 X12_allRows_f4
      rw [nnE (sh_704 a), ixE (ln_41 a) (show (6 : Int32) = nI 6 from rfl) (by decide) (by decide), hS, if_pos hlt, rowsOf_sR a rfl q hs, cI_some, nI_add, nI_1]
      exact hn
  obtain ⟨n, hn⟩ := key (nt (hI h 2624 0 6)) 0 0 (by omega)
  exact X12_allRows_iff.mpr ⟨n, hn⟩
theorem pair_count (m : Nat) (h : PH) (x1 : Int32) (_ : m < 64) (r : R m h) : Pr (R (m + 1)) (X11_count 0 x1) (X12_count 0 x1) h := by
  have r0 := r
  obtain ⟨a, q, -, q3, q4, -, -, q7, -⟩ := r
  obtain ⟨c1, c2, c3, c4, c5, c6, c7, c8, c9⟩ := q.2.2.1.1
  obtain ⟨n3, l3, -, -, d1, d2, -⟩ := q3
  obtain ⟨L4, -, d3, d4, -⟩ := q4
  obtain ⟨n7, -, d5, d6, -⟩ := q7
  have i41 : ∀ (k : Nat) (x : Int32), x = nI k → k < 1765 → (nn (hR h 704 0 0) fun r1 => ix x (hL h 41 r1) fun j2 => some (some (.inl (hI h 2624 r1 j2)), h) : Option Rs) = some (some (.inl (hI h 2624 0 k)), h) := fun k x hx hk => by
    rw [nnE (sh_704 a), ixE (ln_41 a) hx hk (by decide)]
  by_cases k0 : x1 = 0
  · subst k0
    refine r0.same (v := hI h 2624 0 3) ?_ ?_
    · unfold X11_count X11_count_g0 X11_count_f0
      rw [if_pos rfl, nnE (sh_640 a), c1]
    · unfold X12_count X12_count_g0 X12_count_f0
      rw [if_pos rfl, i41 3 3 rfl (by decide)]
  by_cases k1 : x1 = 1
  · subst k1
    refine r0.same (v := hI h 2624 0 4) ?_ ?_
    · unfold X11_count X11_count_g0 X11_count_f0
      rw [if_neg (by decide), if_pos rfl, nnE (sh_640 a), c2]
    · unfold X12_count X12_count_g0 X12_count_f0
      rw [if_neg (by decide), if_pos rfl, i41 4 4 rfl (by decide)]
  by_cases k2 : x1 = 2
  · subst k2
    refine r0.same (v := hI h 2624 0 5) ?_ ?_
    · unfold X11_count X11_count_g0 X11_count_f0
      rw [if_neg (by decide), if_neg (by decide), if_pos rfl, nnE (sh_640 a), c3]
    · unfold X12_count X12_count_g0 X12_count_f0
      rw [if_neg (by decide), if_neg (by decide), if_pos rfl, i41 5 5 rfl (by decide)]
  by_cases k3 : x1 = 3
  · subst k3
    refine r0.same (v := hI h 2624 0 6) ?_ ?_
    · unfold X11_count X11_count_g0 X11_count_f0
      rw [if_neg (by decide), if_neg (by decide), if_neg (by decide), if_pos rfl, nnE (sh_640 a), c4]
    · unfold X12_count X12_count_g0 X12_count_f0
      rw [if_neg (by decide), if_neg (by decide), if_neg (by decide), if_pos rfl, i41 6 6 rfl (by decide)]
  by_cases k4 : x1 = 4
  · subst k4
    refine r0.same (v := nI (smF (hI h 2624 0) (nt (hI h 2624 0 6)) 0 0)) ?_ ?_
    · unfold X11_count X11_count_g0 X11_count_f0
      rw [if_neg (by decide), if_neg (by decide), if_neg (by decide), if_neg (by decide), if_pos rfl, nnE (sh_640 a), X1_rowsOfAll_eq q, cI_some]
    · unfold X12_count X12_count_g0 X12_count_f0
      rw [if_neg (by decide), if_neg (by decide), if_neg (by decide), if_neg (by decide), if_pos rfl, X12_allRows_eq q, cI_some]
  by_cases k5 : x1 = 5
  · subst k5
    refine r0.same (v := hI h 2624 0 8) ?_ ?_
    · unfold X11_count X11_count_g0 X11_count_f0
      rw [if_neg (by decide), if_neg (by decide), if_neg (by decide), if_neg (by decide), if_neg (by decide), if_pos rfl, nnE (sh_640 a), c5]
    · unfold X12_count X12_count_g0 X12_count_f0
      rw [if_neg (by decide), if_neg (by decide), if_neg (by decide), if_neg (by decide), if_neg (by decide), if_pos rfl, i41 8 8 rfl (by decide)]
  by_cases k6 : x1 = 6
  · subst k6
    refine r0.same (v := hI h 2624 0 7) ?_ ?_
    · unfold X11_count X11_count_g0 X11_count_f0
      rw [if_neg (by decide), if_neg (by decide), if_neg (by decide), if_neg (by decide), if_neg (by decide), if_neg (by decide), if_pos rfl, nnE (sh_640 a), c6]
    · unfold X12_count X12_count_g0 X12_count_f0
      rw [if_neg (by decide), if_neg (by decide), if_neg (by decide), if_neg (by decide), if_neg (by decide), if_neg (by decide), if_pos rfl, i41 7 7 rfl (by decide)]
  by_cases k7 : x1 = 7
  · subst k7
    refine r0.same (v := nI n3) ?_ ?_
    · unfold X11_count X11_count_g0 X11_count_f0
      rw [if_neg (by decide), if_neg (by decide), if_neg (by decide), if_neg (by decide), if_neg (by decide), if_neg (by decide), if_neg (by decide), if_pos rfl, nnE (sh_644 a), d1]
    · unfold X12_count X12_count_g0 X12_count_f0
      rw [if_neg (by decide), if_neg (by decide), if_neg (by decide), if_neg (by decide), if_neg (by decide), if_neg (by decide), if_neg (by decide), if_pos rfl, d2]
  by_cases k8 : x1 = 8
  · subst k8
    refine r0.same (v := nI n7) ?_ ?_
    · unfold X11_count X11_count_g0 X11_count_f0
      rw [if_neg (by decide), if_neg (by decide), if_neg (by decide), if_neg (by decide), if_neg (by decide), if_neg (by decide), if_neg (by decide), if_neg (by decide), if_pos rfl, d5]
    · unfold X12_count X12_count_g0 X12_count_f0
      rw [if_neg (by decide), if_neg (by decide), if_neg (by decide), if_neg (by decide), if_neg (by decide), if_neg (by decide), if_neg (by decide), if_neg (by decide), if_pos rfl, d6]
  by_cases k9 : x1 = 9
  · subst k9
    refine r0.same (v := nI L4) ?_ ?_
    · unfold X11_count X11_count_g0 X11_count_f0
      rw [if_neg (by decide), if_neg (by decide), if_neg (by decide), if_neg (by decide), if_neg (by decide), if_neg (by decide), if_neg (by decide), if_neg (by decide), if_neg (by decide), if_pos rfl, nnE (sh_645 a), d3]
    · unfold X12_count X12_count_g0 X12_count_f0
      rw [if_neg (by decide), if_neg (by decide), if_neg (by decide), if_neg (by decide), if_neg (by decide), if_neg (by decide), if_neg (by decide), if_neg (by decide), if_neg (by decide), if_pos rfl, d4]
  by_cases k10 : x1 = 10
  · subst k10
    refine r0.same (v := hI h 2624 0 1) ?_ ?_
    · unfold X11_count X11_count_g0 X11_count_f0
      rw [if_neg (by decide), if_neg (by decide), if_neg (by decide), if_neg (by decide), if_neg (by decide), if_neg (by decide), if_neg (by decide), if_neg (by decide), if_neg (by decide), if_neg (by decide), if_pos rfl, nnE (sh_640 a), c7]
    · unfold X12_count X12_count_g0 X12_count_f0
      rw [if_neg (by decide), if_neg (by decide), if_neg (by decide), if_neg (by decide), if_neg (by decide), if_neg (by decide), if_neg (by decide), if_neg (by decide), if_neg (by decide), if_neg (by decide), if_pos rfl, i41 1 1 rfl (by decide)]
  by_cases k11 : x1 = 11
  · subst k11
    refine r0.same (v := hI h 2624 0 2) ?_ ?_
    · unfold X11_count X11_count_g0 X11_count_f0
      rw [if_neg (by decide), if_neg (by decide), if_neg (by decide), if_neg (by decide), if_neg (by decide), if_neg (by decide), if_neg (by decide), if_neg (by decide), if_neg (by decide), if_neg (by decide), if_neg (by decide), if_pos rfl, nnE (sh_640 a), c8]
    · unfold X12_count X12_count_g0 X12_count_f0
      rw [if_neg (by decide), if_neg (by decide), if_neg (by decide), if_neg (by decide), if_neg (by decide), if_neg (by decide), if_neg (by decide), if_neg (by decide), if_neg (by decide), if_neg (by decide), if_neg (by decide), if_pos rfl, i41 2 2 rfl (by decide)]
  by_cases k12 : x1 = 12
  · subst k12
    refine r0.same (v := hI h 2624 0 0) ?_ ?_
    · unfold X11_count X11_count_g0 X11_count_f0
      rw [if_neg (by decide), if_neg (by decide), if_neg (by decide), if_neg (by decide), if_neg (by decide), if_neg (by decide), if_neg (by decide), if_neg (by decide), if_neg (by decide), if_neg (by decide), if_neg (by decide), if_neg (by decide), if_pos rfl, nnE (sh_640 a), c9]
    · unfold X12_count X12_count_g0 X12_count_f0
      rw [if_neg (by decide), if_neg (by decide), if_neg (by decide), if_neg (by decide), if_neg (by decide), if_neg (by decide), if_neg (by decide), if_neg (by decide), if_neg (by decide), if_neg (by decide), if_neg (by decide), if_neg (by decide), if_pos rfl, i41 0 0 rfl (by decide)]
  refine r0.same (v := -1000000001) ?_ ?_
  · unfold X11_count X11_count_g0 X11_count_f0
    rw [if_neg k0, if_neg k1, if_neg k2, if_neg k3, if_neg k4, if_neg k5, if_neg k6, if_neg k7, if_neg k8, if_neg k9, if_neg k10, if_neg k11, if_neg k12]
  · unfold X12_count X12_count_g0 X12_count_f0
    rw [if_neg k0, if_neg k1, if_neg k2, if_neg k3, if_neg k4, if_neg k5, if_neg k6, if_neg k7, if_neg k8, if_neg k9, if_neg k10, if_neg k11, if_neg k12]
