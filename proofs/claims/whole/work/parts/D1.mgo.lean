/-! texts: the tape, word by word; the model -/
theorem letter_m {h : PH} {L j : Nat} {T : Nat → Nat} (a : SH h) (q : TmE h L T) (hj : j ≤ 96) : X12_isLetter 0 (nI j) h = some (some (.inl (b2 (isL T L j))), h) := by
  obtain ⟨q1, q2, q3⟩ := q
  unfold X12_isLetter X12_isLetter_g0 X12_isLetter_f0 isL
  by_cases c : j < L
  · obtain ⟨t1, t2⟩ := q3 j c
    rw [q2, if_pos (nI_lt c (by omega)), nnE (sh_710 a), ixE (ln_45 a) rfl (show j < 96 by omega) (by decide), nnE (sh_710 a), ixE (ln_45 a) rfl (show j < 96 by omega) (by decide), bz_ok (Or.inl rfl), bz_ok (Or.inr rfl), t2]
    by_cases d1 : T j < 97
    · rw [if_pos (show nI (T j) < 97 from nI_lt (b := 97) d1 (by decide)), decide_eq_false (by omega)]
      rfl
    · rw [if_neg (show ¬ nI (T j) < 97 from nI_nlt (b := 97) (by omega) (by omega))]
      by_cases d2 : 122 < T j
      · rw [if_pos (show 122 < nI (T j) from nI_lt (a := 122) d2 (by omega)), decide_eq_false (by omega)]
        rfl
      · rw [if_neg (show ¬ 122 < nI (T j) from nI_nlt (a := 122) (by omega) (by omega)), decide_eq_true (by omega)]
        rfl
  · rw [q2, if_neg (nI_nlt (by omega) (by omega)), bz_ok (Or.inl rfl), decide_eq_false (fun z => c z.1)]
    rfl
theorem figure_m {h : PH} {L j : Nat} {T : Nat → Nat} (a : SH h) (q : TmE h L T) (hj : j ≤ 96) : X12_isFigure 0 (nI j) h = some (some (.inl (b2 (isD T L j))), h) := by
  obtain ⟨q1, q2, q3⟩ := q
  unfold X12_isFigure X12_isFigure_g0 X12_isFigure_f0 isD
  by_cases c : j < L
  · obtain ⟨t1, t2⟩ := q3 j c
    rw [q2, if_pos (nI_lt c (by omega)), nnE (sh_710 a), ixE (ln_45 a) rfl (show j < 96 by omega) (by decide), nnE (sh_710 a), ixE (ln_45 a) rfl (show j < 96 by omega) (by decide), bz_ok (Or.inl rfl), bz_ok (Or.inr rfl), t2]
    by_cases d1 : T j < 48
    · rw [if_pos (show nI (T j) < 48 from nI_lt (b := 48) d1 (by decide)), decide_eq_false (by omega)]
      rfl
    · rw [if_neg (show ¬ nI (T j) < 48 from nI_nlt (b := 48) (by omega) (by omega))]
      by_cases d2 : 57 < T j
      · rw [if_pos (show 57 < nI (T j) from nI_lt (a := 57) d2 (by omega)), decide_eq_false (by omega)]
        rfl
      · rw [if_neg (show ¬ 57 < nI (T j) from nI_nlt (a := 57) (by omega) (by omega)), decide_eq_true (by omega)]
        rfl
  · rw [q2, if_neg (nI_nlt (by omega) (by omega)), bz_ok (Or.inl rfl), decide_eq_false (fun z => c z.1)]
    rfl
theorem nI_subN {a b : Nat} (h : b ≤ a) : nI a - nI b = nI (a - b) := by
  have e : nI a = nI (a - b) + nI b := by rw [nI_add, show a - b + b = a by omega]
  rw [e, Int32.add_sub_cancel]
/-- the number of k digits from s on -/
def nuF (T : Nat → Nat) (s : Nat) : Nat → Nat
  | 0 => 0
  | k + 1 => 10 * nuF T s k + T (s + k) - 48
theorem nu_step {T : Nat → Nat} {s k : Nat} (h : 48 ≤ T (s + k)) : (10 * nI (nuF T s k)) + nI (T (s + k)) - 48 = nI (nuF T s (k + 1)) := by
  show _ = nI (10 * nuF T s k + T (s + k) - 48)
  rw [show (10 : Int32) = nI 10 from rfl, nI_mul, nI_add]
  exact nI_subN (b := 48) (by omega)
theorem nu_lt {T : Nat → Nat} {s : Nat} : ∀ k, (∀ j, j < k → T (s + j) ≤ 57) → nuF T s k < 10 ^ k
  | 0, _ => show 0 < 10 ^ 0 by decide
  | k + 1, h => by
    have i := nu_lt k (fun j hj => h j (by omega))
    have := h k (by omega)
    show 10 * nuF T s k + T (s + k) - 48 < 10 ^ (k + 1)
    rw [Nat.pow_succ]
    omega
def tkM (u : Nat × Nat × Nat) : Int32 := if u.1 = 0 then 0 else if u.1 = 1 then 1 else if u.1 = 2 then (if u.2.2 - u.2.1 ≤ 4 then 2 else 4) else if u.1 = 4 then 4 else 3
def MtE (h : PH) (T : Nat → Nat) (u : Nat × Nat × Nat) : Prop := hI h 713 0 0 = nI u.2.1 ∧ hI h 712 0 0 = nI u.2.2 ∧ hI h 714 0 0 = tkM u ∧ (u.1 = 1 → hI h 715 0 0 = nI (T u.2.1)) ∧ (u.1 = 2 → u.2.2 - u.2.1 ≤ 4 → hI h 715 0 0 = nI (nuF T u.2.1 (u.2.2 - u.2.1))) ∧ (5 ≤ u.1 → hI h 715 0 0 = nI (u.1 - 5)) ∧ (u.1 = 1 ∨ u.1 = 2 → hI h 716 0 0 = nI u.2.2) ∧ (5 ≤ u.1 → ∀ s, u.2.2 ≤ s → s ≤ 96 → ¬ nI s = hI h 716 0 0)
def EdE (h : PH) (k b : Nat) : Prop := (wdB k = true → hI h 716 0 0 = nI b) ∧ (wdB k = false → ∀ s, b ≤ s → s ≤ 96 → ¬ nI s = hI h 716 0 0)
theorem MtE.ed {h : PH} {T : Nat → Nat} {u : Nat × Nat × Nat} (q : MtE h T u) (hk : u.1 = 1 ∨ u.1 = 2 ∨ 5 ≤ u.1) : EdE h u.1 u.2.2 := by
  obtain ⟨-, -, -, -, -, -, q7, q8⟩ := q
  unfold EdE wdB
  refine ⟨fun z => q7 (of_decide_eq_true z), fun z => q8 ?_⟩
  have := of_decide_eq_false z
  omega
def gmW : List Nat × List Nat × Bool := ([712, 713, 714, 715, 716], [], false)
theorem go_letters {h0 : PH} {L s : Nat} {T : Nat → Nat} (a0 : SH h0) (q0 : TmE h0 L T) (h713 : hI h0 713 0 0 = nI s) (hs : s < L) (x : Bool) : ∀ k j h, j + k = L → Fr ([712], [], false) h0 h → hI h 712 0 0 = nI j → ∃ n h', (X12_go_fam n).2.1 0 (b2 x) h = some (none, h') ∧ Fr gmW h0 h' ∧ hI h' 713 0 0 = nI s ∧ hI h' 712 0 0 = nI (skF (isL T L) k j) ∧ hI h' 714 0 0 = (bif x then 4 else 1) ∧ hI h' 715 0 0 = nI (T s) ∧ hI h' 716 0 0 = nI (skF (isL T L) k j) := by
  have hL := q0.1
  have fin : ∀ n j h, Fr ([712], [], false) h0 h → hI h 712 0 0 = nI j → j ≤ 96 → isL T L j = false → ∃ h', (X12_go_fam (n + 1)).2.1 0 (b2 x) h = some (none, h') ∧ Fr gmW h0 h' ∧ hI h' 713 0 0 = nI s ∧ hI h' 712 0 0 = nI j ∧ hI h' 714 0 0 = (bif x then 4 else 1) ∧ hI h' 715 0 0 = nI (T s) ∧ hI h' 716 0 0 = nI j := fun n j h f v hj d => by
    have a : SH h := a0.fr f (by decide)
    have q := q0.fr a0 f (by decide) (by decide)
    have e713 : hI h 713 0 0 = nI s := (f.1 713 0 0 (by decide) a0.n11).trans h713
    obtain ⟨t1, t2⟩ := q.2.2 s hs
    generalize hw : (bif x then (4 : Int32) else 1) = w
    have g127 : X12_go_g127 (X12_go_fam n) 0 w 0 h = some (none, pI (pI (pI h 714 0 0 w) 715 0 0 (nI (T s))) 716 0 0 (nI j)) := by
      have b1 : SH (pI h 714 0 0 w) := a
      unfold X12_go_g127 X12_go_f127
      rw [wr_eq, nnE (sh_710 b1), hI_off _ (by decide), e713, ixE (ln_45 b1) rfl (show s < 96 by omega) (by decide), hI_off _ (by decide), t2, wr_eq, hI_off _ (by decide), hI_off _ (by decide), v, wr_eq]
    refine ⟨pI (pI (pI h 714 0 0 w) 715 0 0 (nI (T s))) 716 0 0 (nI j), ?_, (((f.sub (by decide)).pI (by decide)).pI (by decide)).pI (by decide), ?_, ?_, ?_, ?_, ?_⟩
    · show X12_go_g93 (X12_go_fam n) 0 (b2 x) h = _
      unfold X12_go_g93 X12_go_f93
      rw [v, letter_m a q hj, cI_some, d, if_pos (show b2 false = 0 from rfl)]
      cases x with
      | false =>
        rw [if_pos (show b2 false = 0 from rfl)]
        rw [← hw] at g127 ⊢
        exact g127
      | true =>
        rw [if_neg (show ¬ b2 true = 0 by decide)]
        rw [← hw] at g127 ⊢
        exact g127
    · rw [hI_off _ (by decide), hI_off _ (by decide), hI_off _ (by decide), e713]
    · rw [hI_off _ (by decide), hI_off _ (by decide), hI_off _ (by decide), v]
    · rw [hI_off _ (by decide), hI_off _ (by decide), hI_pI, if_pos ⟨rfl, rfl, rfl⟩]
    · rw [hI_off _ (by decide), hI_pI, if_pos ⟨rfl, rfl, rfl⟩]
    · rw [hI_pI, if_pos ⟨rfl, rfl, rfl⟩]
  intro k
  induction k with
  | zero =>
    intro j h e f v
    obtain ⟨h', y⟩ := fin 0 j h f v (by omega) (decide_eq_false (by omega))
    exact ⟨1, h', y⟩
  | succ k ih =>
    intro j h e f v
    rw [skF_s]
    cases d : isL T L j with
    | false =>
      obtain ⟨h', y⟩ := fin 0 j h f v (by omega) d
      exact ⟨1, h', y⟩
    | true =>
      have a : SH h := a0.fr f (by decide)
      have q := q0.fr a0 f (by decide) (by decide)
      obtain ⟨n, h', y1, y2⟩ := ih (j + 1) (pI h 712 0 0 (nI (j + 1))) (by omega) (f.pI (by decide)) (by rw [hI_pI, if_pos ⟨rfl, rfl, rfl⟩])
      refine ⟨n + 1, h', ?_, y2⟩
      show X12_go_g93 (X12_go_fam n) 0 (b2 x) h = _
      unfold X12_go_g93 X12_go_f93
      rw [v, letter_m a q (by omega), cI_some, d, if_neg (show ¬ b2 true = 0 by decide), v, nI_1, wr_eq]
      exact y1
theorem go_digits {h0 : PH} {L s : Nat} {T : Nat → Nat} (a0 : SH h0) (q0 : TmE h0 L T) (h713 : hI h0 713 0 0 = nI s) (hs : s < L) (x : Bool) : ∀ k j h, j + k = L → s ≤ j → Fr ([712, 715], [], false) h0 h → hI h 712 0 0 = nI j → (j - s ≤ 4 → hI h 715 0 0 = nI (nuF T s (j - s))) → ∃ n h', (X12_go_fam n).2.2 0 (b2 x) h = some (none, h') ∧ Fr gmW h0 h' ∧ hI h' 713 0 0 = nI s ∧ hI h' 712 0 0 = nI (skF (isD T L) k j) ∧ hI h' 714 0 0 = (bif x then 4 else if skF (isD T L) k j - s ≤ 4 then 2 else 4) ∧ (skF (isD T L) k j - s ≤ 4 → hI h' 715 0 0 = nI (nuF T s (skF (isD T L) k j - s))) ∧ hI h' 716 0 0 = nI (skF (isD T L) k j) := by
  have hL := q0.1
  have fin : ∀ n j h, Fr ([712, 715], [], false) h0 h → hI h 712 0 0 = nI j → j ≤ 96 → s ≤ j → (j - s ≤ 4 → hI h 715 0 0 = nI (nuF T s (j - s))) → isD T L j = false → ∃ h', (X12_go_fam (n + 1)).2.2 0 (b2 x) h = some (none, h') ∧ Fr gmW h0 h' ∧ hI h' 713 0 0 = nI s ∧ hI h' 712 0 0 = nI j ∧ hI h' 714 0 0 = (bif x then 4 else if j - s ≤ 4 then 2 else 4) ∧ (j - s ≤ 4 → hI h' 715 0 0 = nI (nuF T s (j - s))) ∧ hI h' 716 0 0 = nI j := fun n j h f v hj hsj hv d => by
    have a : SH h := a0.fr f (by decide)
    have q := q0.fr a0 f (by decide) (by decide)
    have e713 : hI h 713 0 0 = nI s := (f.1 713 0 0 (by decide) a0.n11).trans h713
    have g261 : ∀ w, X12_go_g261 (X12_go_fam n) 0 w 0 h = some (none, pI (pI h 714 0 0 w) 716 0 0 (nI j)) := fun w => by
      unfold X12_go_g261 X12_go_f261
      rw [wr_eq, hI_off _ (by decide), v, wr_eq]
    refine ⟨pI (pI h 714 0 0 (bif x then 4 else if j - s ≤ 4 then 2 else 4)) 716 0 0 (nI j), ?_, ((f.sub (by decide)).pI (by decide)).pI (by decide), ?_, ?_, ?_, ?_, ?_⟩
    · show X12_go_g170 (X12_go_fam n) 0 (b2 x) h = _
      unfold X12_go_g170 X12_go_f170
      rw [v, figure_m a q hj, cI_some, d, if_pos (show b2 false = 0 from rfl), v, e713, nI_subN hsj]
      cases x with
      | false =>
        rw [if_pos (show b2 false = 0 from rfl), cond_false]
        by_cases c : j - s ≤ 4
        · rw [if_pos c, if_neg (show ¬ 4 < nI (j - s) from nI_nlt (a := 4) c (by omega)), g261]
        · rw [if_neg c, if_pos (show 4 < nI (j - s) from nI_lt (a := 4) (by omega) (by omega)), g261]
      | true =>
        rw [if_neg (show ¬ b2 true = 0 by decide), cond_true, g261]
    · rw [hI_off _ (by decide), hI_off _ (by decide), e713]
    · rw [hI_off _ (by decide), hI_off _ (by decide), v]
    · rw [hI_off _ (by decide), hI_pI, if_pos ⟨rfl, rfl, rfl⟩]
    · intro c
      rw [hI_off _ (by decide), hI_off _ (by decide)]
      exact hv c
    · rw [hI_pI, if_pos ⟨rfl, rfl, rfl⟩]
  intro k
  induction k with
  | zero =>
    intro j h e hsj f v hv
    obtain ⟨h', y⟩ := fin 0 j h f v (by omega) hsj hv (decide_eq_false (by omega))
    exact ⟨1, h', y⟩
  | succ k ih =>
    intro j h e hsj f v hv
    rw [skF_s]
    cases d : isD T L j with
    | false =>
      obtain ⟨h', y⟩ := fin 0 j h f v (by omega) hsj hv d
      exact ⟨1, h', y⟩
    | true =>
      have a : SH h := a0.fr f (by decide)
      have q := q0.fr a0 f (by decide) (by decide)
      have e713 : hI h 713 0 0 = nI s := (f.1 713 0 0 (by decide) a0.n11).trans h713
      have d' := of_decide_eq_true d
      obtain ⟨t1, t2⟩ := q.2.2 j d'.1
      have g222 : ∀ n w, X12_go_g222 (X12_go_fam n) 0 (b2 x) w 0 h = (X12_go_fam n).2.2 0 (b2 x) (pI (pI h 715 0 0 w) 712 0 0 (nI (j + 1))) := fun n w => by
        unfold X12_go_g222 X12_go_f222
        rw [wr_eq, hI_off _ (by decide), v, nI_1, wr_eq]
      have pre : ∀ n, (X12_go_fam (n + 1)).2.2 0 (b2 x) h = (X12_go_fam n).2.2 0 (b2 x) (pI (pI h 715 0 0 (if j - s < 4 then nI (nuF T s (j + 1 - s)) else hI h 715 0 0)) 712 0 0 (nI (j + 1))) := fun n => by
        show X12_go_g170 (X12_go_fam n) 0 (b2 x) h = _
        unfold X12_go_g170 X12_go_f170
        rw [v, figure_m a q (by omega), cI_some, d, if_neg (show ¬ b2 true = 0 by decide), v, e713, nI_subN hsj]
        by_cases c : j - s < 4
        · have es : T j = T (s + (j - s)) := by rw [show s + (j - s) = j by omega]
          rw [if_pos (show nI (j - s) < 4 from nI_lt (b := 4) c (by decide)), nnE (sh_710 a), ixE (ln_45 a) rfl (show j < 96 by omega) (by decide), t2, hv (by omega), es, nu_step (by rw [← es]; omega), if_pos c, g222, show j + 1 - s = j - s + 1 by omega]
        · rw [if_neg (show ¬ nI (j - s) < 4 from nI_nlt (b := 4) (by omega) (by omega)), if_neg c, g222]
      obtain ⟨n, h', y1, y2⟩ := ih (j + 1) (pI (pI h 715 0 0 (if j - s < 4 then nI (nuF T s (j + 1 - s)) else hI h 715 0 0)) 712 0 0 (nI (j + 1))) (by omega) (by omega) ((f.pI (by decide)).pI (by decide)) (by rw [hI_pI, if_pos ⟨rfl, rfl, rfl⟩]) (fun c => by
        rw [hI_off _ (by decide), hI_pI, if_pos ⟨rfl, rfl, rfl⟩, if_pos (by omega)])
      refine ⟨n + 1, h', ?_, y2⟩
      rw [pre]
      exact y1
theorem go_m {h : PH} {L k b : Nat} {T : Nat → Nat} (a : SH h) (q : TmE h L T) (h2 : hI h 712 0 0 = nI b) (hb : b ≤ L) (ed : EdE h k b) : ∃ h', X12_go 0 h = some (none, h') ∧ MtE h' T (lkF T L k b) ∧ Fr gmW h h' := by
  have hL := q.1
  have loop : ∀ d j y, j + d = L → Fr ([712], [], false) h y → hI y 712 0 0 = nI j → ∃ h', Fr ([712], [], false) h h' ∧ hI h' 712 0 0 = nI (skF (spB T) d j) ∧ ∀ n, ∃ n', (X12_go_fam n').1 0 y = X12_go_g38 (X12_go_fam n) 0 h' := by
    intro d
    induction d with
    | zero =>
      intro j y e f v
      have qy := q.fr a f (by decide) (by decide)
      refine ⟨y, f, v, fun n => ⟨n + 1, ?_⟩⟩
      show X12_go_g0 (X12_go_fam n) 0 y = _
      unfold X12_go_g0 X12_go_f0
      rw [v, qy.2.1, if_neg (nI_nlt (by omega) (by omega))]
    | succ d ih =>
      intro j y e f v
      have ay : SH y := a.fr f (by decide)
      have qy := q.fr a f (by decide) (by decide)
      obtain ⟨t1, t2⟩ := qy.2.2 j (by omega)
      have pre : ∀ n, (X12_go_fam (n + 1)).1 0 y = if T j = 32 then (X12_go_fam n).1 0 (pI y 712 0 0 (nI (j + 1))) else X12_go_g38 (X12_go_fam n) 0 y := fun n => by
        show X12_go_g0 (X12_go_fam n) 0 y = _
        unfold X12_go_g0 X12_go_f0
        rw [v, qy.2.1, if_pos (nI_lt (by omega) (by omega)), nnE (sh_710 ay), ixE (ln_45 ay) rfl (show j < 96 by omega) (by decide), t2, wr_eq, nI_1]
        by_cases c : T j = 32
        · rw [if_pos c, if_pos (show nI (T j) = 32 by rw [c]; rfl)]
        · rw [if_neg c, if_neg (show ¬ nI (T j) = 32 from fun z => c ((nI_eq (b := 32) (by omega) (by omega)).mp z))]
      rw [skF_s]
      unfold spB
      by_cases c : T j = 32
      · obtain ⟨h', y1, y2, y3⟩ := ih (j + 1) (pI y 712 0 0 (nI (j + 1))) (by omega) (f.pI (by decide)) (by rw [hI_pI, if_pos ⟨rfl, rfl, rfl⟩])
        refine ⟨h', y1, ?_, fun n => ?_⟩
        · rw [decide_eq_true c]
          exact y2
        · obtain ⟨n', y4⟩ := y3 n
          exact ⟨n' + 1, by rw [pre, if_pos c, y4]⟩
      · refine ⟨y, f, ?_, fun n => ⟨n + 1, by rw [pre, if_neg c]⟩⟩
        rw [decide_eq_false c]
        exact v
  obtain ⟨h5, f5, y3, run⟩ := loop (L - b) b h (by omega) Fr.rf h2
  have g := skF_ge (spB T) (L - b) b
  have es : skF (spB T) (L - b) b = lkS T L b := rfl
  rw [es] at g y3
  have a5 : SH h5 := a.fr f5 (by decide)
  have q5 := q.fr a f5 (by decide) (by decide)
  have e716 : hI h5 716 0 0 = hI h 716 0 0 := f5.1 716 0 0 (by decide) a.n11
  generalize hh6 : pI h5 713 0 0 (nI (lkS T L b)) = h6
  have f6 : Fr gmW h5 h6 := by
    subst hh6
    exact Fr.rf.pI (by decide)
  have f06 : Fr gmW h h6 := (f5.sub (by decide)).tr f6
  have a6 : SH h6 := a5.fr f6 (by decide)
  have q6 := q5.fr a5 f6 (by decide) (by decide)
  have e713 : hI h6 713 0 0 = nI (lkS T L b) := by
    subst hh6
    rw [hI_pI, if_pos ⟨rfl, rfl, rfl⟩]
  have e712 : hI h6 712 0 0 = nI (lkS T L b) := by
    subst hh6
    exact (hI_off _ (by decide) _ _ _ _ _).trans y3
  have e716' : hI h6 716 0 0 = hI h 716 0 0 := by
    subst hh6
    exact (hI_off _ (by decide) _ _ _ _ _).trans e716
  -- is it glued to the word before?
  generalize hx : decide (wdB k = true ∧ lkS T L b = b) = x
  have hxx : (nI (lkS T L b) = hI h 716 0 0) ↔ x = true := by
    rw [← hx, decide_eq_true_iff]
    cases cw : wdB k with
    | true =>
      rw [ed.1 cw, nI_eq (by omega) (by omega)]
      exact ⟨fun z => ⟨rfl, z⟩, fun z => z.2⟩
    | false => exact ⟨fun z => absurd z (ed.2 cw _ g.1 (by omega)), fun z => by cases z.1⟩
  have s38 : ∀ n, X12_go_g38 (X12_go_fam n) 0 h5 = X12_go_g62 (X12_go_fam n) 0 (b2 x) h6 := fun n => by
    unfold X12_go_g38 X12_go_f38
    rw [wr_eq, y3, hh6, e713, e716']
    cases x with
    | true =>
      rw [if_pos (hxx.mpr rfl)]
      rfl
    | false =>
      rw [if_neg (fun z => by cases hxx.mp z)]
      rfl
  suffices hh : ∃ n h', X12_go_g62 (X12_go_fam n) 0 (b2 x) h6 = some (none, h') ∧ MtE h' T (lkF T L k b) ∧ Fr gmW h h' by
    obtain ⟨n, h', z1, z2, z3⟩ := hh
    obtain ⟨n', z4⟩ := run n
    exact ⟨h', X12_go_iff.mpr ⟨n', by rw [z4, s38, z1]⟩, z2, z3⟩
  by_cases c : lkS T L b < L
  · have ne : ¬ nI (lkS T L b) = nI L := fun z => by
      have := (nI_eq (by omega) (by omega)).mp z
      omega
    have pre : ∀ n, X12_go_g62 (X12_go_fam n) 0 (b2 x) h6 = bif isL T L (lkS T L b) then (X12_go_fam n).2.1 0 (b2 x) h6 else bif isD T L (lkS T L b) then (X12_go_fam n).2.2 0 (b2 x) (pI h6 715 0 0 0) else some (none, pI (pI (pI h6 714 0 0 3) 715 0 0 (nI (T (lkS T L b)))) 712 0 0 (nI (lkS T L b + 1))) := fun n => by
      obtain ⟨t1, t2⟩ := q6.2.2 _ c
      have b1 : SH (pI h6 714 0 0 3) := a6
      unfold X12_go_g62 X12_go_f62
      rw [e713, q6.2.1, if_neg ne, letter_m a6 q6 (by omega), cI_some, e713, figure_m a6 q6 (by omega), cI_some, wr_eq, wr_eq, nnE (sh_710 b1), hI_off _ (by decide), e713, ixE (ln_45 b1) rfl (show lkS T L b < 96 by omega) (by decide), hI_off _ (by decide), t2, wr_eq, hI_off _ (by decide), hI_off _ (by decide), e712, nI_1, wr_eq]
      cases isL T L (lkS T L b) with
      | true => rfl
      | false => cases isD T L (lkS T L b) <;> rfl
    have kx : ∀ w : Nat, (if wdB k = true ∧ lkS T L b = b then 4 else w) = (bif x then 4 else w) := fun w => by
      rw [← hx]
      by_cases d : wdB k = true ∧ lkS T L b = b
      · rw [if_pos d, decide_eq_true d]
        rfl
      · rw [if_neg d, decide_eq_false d]
        rfl
    unfold lkF
    rw [if_pos c, kx, kx]
    cases d1 : isL T L (lkS T L b) with
    | true =>
      obtain ⟨n, h', w1, w2, w3, w4, w5, w6, w7⟩ := go_letters a6 q6 e713 c x (L - lkS T L b) (lkS T L b) h6 (by omega) Fr.rf e712
      refine ⟨n, h', ?_, ?_, f06.tr w2⟩
      · rw [pre, d1]
        exact w1
      · rw [cond_true]
        cases x with
        | true => exact ⟨w3, w4, w5, fun z => absurd z (show ¬ 4 = 1 by decide), fun z => absurd z (show ¬ 4 = 2 by decide), fun z => absurd z (show ¬ 5 ≤ 4 by decide), fun _ => w7, fun z => absurd z (show ¬ 5 ≤ 4 by decide)⟩
        | false => exact ⟨w3, w4, w5, fun _ => w6, fun z => absurd z (show ¬ 1 = 2 by decide), fun z => absurd z (show ¬ 5 ≤ 1 by decide), fun _ => w7, fun z => absurd z (show ¬ 5 ≤ 1 by decide)⟩
    | false =>
      rw [cond_false]
      cases d2 : isD T L (lkS T L b) with
      | true =>
        have f7 : Fr ([712, 715], [], false) h6 (pI h6 715 0 0 0) := Fr.rf.pI (by decide)
        obtain ⟨n, h', w1, w2, w3, w4, w5, w6, w7⟩ := go_digits a6 q6 e713 c x (L - lkS T L b) (lkS T L b) (pI h6 715 0 0 0) (by omega) (Nat.le_refl _) f7 ((hI_off _ (by decide) _ _ _ _ _).trans e712) (fun _ => by
          rw [hI_pI, if_pos ⟨rfl, rfl, rfl⟩, Nat.sub_self]
          rfl)
        refine ⟨n, h', ?_, ?_, f06.tr w2⟩
        · rw [pre, d1, d2]
          exact w1
        · rw [cond_true]
          cases x with
          | true => exact ⟨w3, w4, w5, fun z => absurd z (show ¬ 4 = 1 by decide), fun z => absurd z (show ¬ 4 = 2 by decide), fun z => absurd z (show ¬ 5 ≤ 4 by decide), fun _ => w7, fun z => absurd z (show ¬ 5 ≤ 4 by decide)⟩
          | false => exact ⟨w3, w4, w5, fun z => absurd z (show ¬ 2 = 1 by decide), fun _ z => w6 z, fun z => absurd z (show ¬ 5 ≤ 2 by decide), fun _ => w7, fun z => absurd z (show ¬ 5 ≤ 2 by decide)⟩
      | false =>
        obtain ⟨t1, t2⟩ := q6.2.2 _ c
        rw [cond_false]
        refine ⟨0, pI (pI (pI h6 714 0 0 3) 715 0 0 (nI (T (lkS T L b)))) 712 0 0 (nI (lkS T L b + 1)), ?_, ⟨?_, ?_, ?_, ?_, ?_, ?_, ?_, ?_⟩, ((f06.pI (by decide)).pI (by decide)).pI (by decide)⟩
        · rw [pre, d1, d2]
          rfl
        · rw [hI_off _ (by decide), hI_off _ (by decide), hI_off _ (by decide), e713]
        · rw [hI_pI, if_pos ⟨rfl, rfl, rfl⟩]
        · rw [hI_off _ (by decide), hI_off _ (by decide), hI_pI, if_pos ⟨rfl, rfl, rfl⟩]
          show (3 : Int32) = tkM (5 + T (lkS T L b), lkS T L b, lkS T L b + 1)
          unfold tkM
          rw [if_neg (show ¬ 5 + T (lkS T L b) = 0 by omega), if_neg (show ¬ 5 + T (lkS T L b) = 1 by omega), if_neg (show ¬ 5 + T (lkS T L b) = 2 by omega), if_neg (show ¬ 5 + T (lkS T L b) = 4 by omega)]
        · intro z
          have z : 5 + T (lkS T L b) = 1 := z
          omega
        · intro z
          have z : 5 + T (lkS T L b) = 2 := z
          omega
        · intro _
          rw [hI_off _ (by decide), hI_pI, if_pos ⟨rfl, rfl, rfl⟩]
          show nI (T (lkS T L b)) = nI (5 + T (lkS T L b) - 5)
          rw [show 5 + T (lkS T L b) - 5 = T (lkS T L b) by omega]
        · intro z
          have z : 5 + T (lkS T L b) = 1 ∨ 5 + T (lkS T L b) = 2 := z
          omega
        · intro _ s hs1 hs2
          have hs1 : lkS T L b + 1 ≤ s := hs1
          rw [hI_off _ (by decide), hI_off _ (by decide), hI_off _ (by decide), e716']
          cases cw : wdB k with
          | true =>
            rw [ed.1 cw]
            intro z
            have := (nI_eq (by omega) (by omega)).mp z
            omega
          | false => exact ed.2 cw s (by omega) hs2
  · have eL : lkS T L b = L := by omega
    refine ⟨0, pI h6 714 0 0 0, ?_, ?_, f06.pI (by decide)⟩
    · unfold X12_go_g62 X12_go_f62
      rw [e713, q6.2.1, eL, if_pos rfl, wr_eq]
    · unfold lkF
      rw [if_neg c]
      refine ⟨(hI_off _ (by decide) _ _ _ _ _).trans e713, (hI_off _ (by decide) _ _ _ _ _).trans e712, by rw [hI_pI, if_pos ⟨rfl, rfl, rfl⟩]; rfl, fun z => absurd z (show ¬ 0 = 1 by decide), fun z => absurd z (show ¬ 0 = 2 by decide), fun z => absurd z (show ¬ 5 ≤ 0 by decide), fun z => absurd z (show ¬ (0 = 1 ∨ 0 = 2) by decide), fun z => absurd z (show ¬ 5 ≤ 0 by decide)⟩
