/-! texts: the tape, word by word; the class -/
theorem byt : ∀ k, k < 256 → ((nI k - 128) &&& 255) = nI ((k + 128) % 256) ∧ ((k + 128) % 256 < 128 → nI k - 128 = nI ((k + 128) % 256)) ∧ (128 ≤ (k + 128) % 256 → nI k - 128 < 0) := by decide +kernel
theorem byte_ok {x : Int32} (h : rgI x (-128) 127) : ∃ c, c < 256 ∧ (x &&& 255) = nI c ∧ (c < 128 → x = nI c) ∧ (128 ≤ c → x < 0) := by
  obtain ⟨h1, h2⟩ := h
  have e : x = nI (x.toInt + 128).toNat - 128 := by
    have e1 : (nI (x.toInt + 128).toNat).toInt = x.toInt + 128 := by
      rw [nI_toInt (by omega)]
      omega
    have e2 : (128 : Int32).toInt = 128 := by decide
    rw [i_eq, i_sub (by rw [e1, e2]; omega), e1, e2]
    omega
  obtain ⟨k1, k2, k3⟩ := byt (x.toInt + 128).toNat (by omega)
  rw [← e] at k1 k2 k3
  exact ⟨_, Nat.mod_lt _ (by decide), k1, k2, k3⟩
def TpE (h : PH) (L : Nat) (T : Nat → Nat) : Prop := L ≤ 96 ∧ hI h 129 0 0 = nI L ∧ ∀ j, j < L → T j < 256 ∧ (hI h 1408 0 j &&& 255) = nI (T j) ∧ (T j < 128 → hI h 1408 0 j = nI (T j)) ∧ (128 ≤ T j → hI h 1408 0 j < 0)
def TmE (h : PH) (L : Nat) (T : Nat → Nat) : Prop := L ≤ 96 ∧ hI h 711 0 0 = nI L ∧ ∀ j, j < L → T j < 256 ∧ hI h 2880 0 j = nI (T j)
theorem Tape.tp {h : PH} (q : Tape h) : ∃ L T, TpE h L T ∧ TmE h L T := by
  obtain ⟨L, q1, q2, q3, q4⟩ := q
  have key : ∀ j, j < L → nt (hI h 2880 0 j) < 256 ∧ hI h 2880 0 j = nI (nt (hI h 2880 0 j)) ∧ (hI h 1408 0 j &&& 255) = nI (nt (hI h 2880 0 j)) ∧ (nt (hI h 2880 0 j) < 128 → hI h 1408 0 j = nI (nt (hI h 2880 0 j))) ∧ (128 ≤ nt (hI h 2880 0 j) → hI h 1408 0 j < 0) := fun j hj => by
    obtain ⟨e1, e2⟩ := q4 j hj
    obtain ⟨c, c1, c2, c3, c4⟩ := byte_ok e2
    rw [e1, c2, nt_nI (by omega)]
    exact ⟨c1, rfl, rfl, c3, c4⟩
  exact ⟨L, fun j => nt (hI h 2880 0 j), ⟨q1, q2, fun j hj => ⟨(key j hj).1, (key j hj).2.2⟩⟩, ⟨q1, q3, fun j hj => ⟨(key j hj).1, (key j hj).2.1⟩⟩⟩
theorem SH.n22 {h : PH} (a : SH h) : 0 < hN h 22 := a.nl (n := 96) (show (22, 0, 96) ∈ lnList by decide +kernel)
theorem SH.n45 {h : PH} (a : SH h) : 0 < hN h 45 := a.nl (n := 96) (show (45, 0, 96) ∈ lnList by decide +kernel)
theorem SH.n2 {h : PH} (a : SH h) : 0 < hN h 2 := a.k1 (k := 2) (n := 1) (by decide +kernel) (by decide)
theorem TpE.fr {W : List Nat × List Nat × Bool} {h h' : PH} {L : Nat} {T : Nat → Nat} (q : TpE h L T) (a : SH h) (f : Fr W h h') (h1 : W.1.contains 129 = false) (h2 : W.1.contains 1408 = false) : TpE h' L T := by
  obtain ⟨q1, q2, q3⟩ := q
  refine ⟨q1, (f.1 129 0 0 h1 a.n2).trans q2, fun j hj => ?_⟩
  rw [f.1 1408 0 j h2 a.n22]
  exact q3 j hj
theorem TmE.fr {W : List Nat × List Nat × Bool} {h h' : PH} {L : Nat} {T : Nat → Nat} (q : TmE h L T) (a : SH h) (f : Fr W h h') (h1 : W.1.contains 711 = false) (h2 : W.1.contains 2880 = false) : TmE h' L T := by
  obtain ⟨q1, q2, q3⟩ := q
  refine ⟨q1, (f.1 711 0 0 h1 a.n11).trans q2, fun j hj => ?_⟩
  rw [f.1 2880 0 j h2 a.n45]
  exact q3 j hj
theorem cmp_lt {x : Int32} {c k : Nat} (hk : k < 128) (h1 : c < 128 → x = nI c) (h2 : 128 ≤ c → x < 0) : x < nI k ↔ ¬ (k ≤ c ∧ c < 128) := by
  by_cases d : c < 128
  · rw [h1 d, i_lt, nI_toInt (by omega), nI_toInt (by omega)]
    omega
  · have z := h2 (by omega)
    rw [i_lt, i0] at z
    rw [i_lt, nI_toInt (by omega)]
    omega
theorem cmp_gt {x : Int32} {c k : Nat} (hk : k < 128) (h1 : c < 128 → x = nI c) (h2 : 128 ≤ c → x < 0) : nI k < x ↔ (k < c ∧ c < 128) := by
  by_cases d : c < 128
  · rw [h1 d, i_lt, nI_toInt (by omega), nI_toInt (by omega)]
    omega
  · have z := h2 (by omega)
    rw [i_lt, i0] at z
    rw [i_lt, nI_toInt (by omega)]
    omega
theorem cmp_eq {x : Int32} {c k : Nat} (hk : k < 128) (h1 : c < 128 → x = nI c) (h2 : 128 ≤ c → x < 0) : x = nI k ↔ c = k := by
  by_cases d : c < 128
  · rw [h1 d, nI_eq (by omega) (by omega)]
  · have z := h2 (by omega)
    rw [i_lt, i0] at z
    rw [i_eq, nI_toInt (by omega)]
    omega
def isL (T : Nat → Nat) (L j : Nat) : Bool := decide (j < L ∧ 97 ≤ T j ∧ T j ≤ 122)
def isD (T : Nat → Nat) (L j : Nat) : Bool := decide (j < L ∧ 48 ≤ T j ∧ T j ≤ 57)
theorem letter_c {h : PH} {L j : Nat} {T : Nat → Nat} (a : SH h) (q : TpE h L T) (hj : j ≤ 96) : X3_isLetter 0 (nI j) h = some (some (.inl (b2 (isL T L j))), h) := by
  obtain ⟨q1, q2, q3⟩ := q
  unfold X3_isLetter X3_isLetter_g0 X3_isLetter_f0 isL
  by_cases c : j < L
  · obtain ⟨t1, -, t2, t3⟩ := q3 j c
    rw [q2, if_pos (nI_lt c (by omega)), nnE (sh_128 a), ixE (ln_22 a) rfl (show j < 96 by omega) (by decide), nnE (sh_128 a), ixE (ln_22 a) rfl (show j < 96 by omega) (by decide), bz_ok (Or.inl rfl), bz_ok (Or.inr rfl)]
    by_cases d1 : hI h 1408 0 j < 97
    · have := (cmp_lt (k := 97) (by decide) t2 t3).mp d1
      rw [if_pos d1, decide_eq_false (by omega)]
      rfl
    · have e1 : ¬ ¬ (97 ≤ T j ∧ T j < 128) := fun z => d1 ((cmp_lt (k := 97) (by decide) t2 t3).mpr z)
      rw [if_neg d1]
      by_cases d2 : 122 < hI h 1408 0 j
      · have := (cmp_gt (k := 122) (by decide) t2 t3).mp d2
        rw [if_pos d2, decide_eq_false (by omega)]
        rfl
      · have e2 : ¬ (122 < T j ∧ T j < 128) := fun z => d2 ((cmp_gt (k := 122) (by decide) t2 t3).mpr z)
        rw [if_neg d2, decide_eq_true (by omega)]
        rfl
  · rw [q2, if_neg (nI_nlt (by omega) (by omega)), bz_ok (Or.inl rfl), decide_eq_false (fun z => c z.1)]
    rfl
theorem digit_c {h : PH} {L j : Nat} {T : Nat → Nat} (a : SH h) (q : TpE h L T) (hj : j ≤ 96) : X3_isDigit 0 (nI j) h = some (some (.inl (b2 (isD T L j))), h) := by
  obtain ⟨q1, q2, q3⟩ := q
  unfold X3_isDigit X3_isDigit_g0 X3_isDigit_f0 isD
  by_cases c : j < L
  · obtain ⟨t1, -, t2, t3⟩ := q3 j c
    rw [q2, if_pos (nI_lt c (by omega)), nnE (sh_128 a), ixE (ln_22 a) rfl (show j < 96 by omega) (by decide), nnE (sh_128 a), ixE (ln_22 a) rfl (show j < 96 by omega) (by decide), bz_ok (Or.inl rfl), bz_ok (Or.inr rfl)]
    by_cases d1 : hI h 1408 0 j < 48
    · have := (cmp_lt (k := 48) (by decide) t2 t3).mp d1
      rw [if_pos d1, decide_eq_false (by omega)]
      rfl
    · have e1 : ¬ ¬ (48 ≤ T j ∧ T j < 128) := fun z => d1 ((cmp_lt (k := 48) (by decide) t2 t3).mpr z)
      rw [if_neg d1]
      by_cases d2 : 57 < hI h 1408 0 j
      · have := (cmp_gt (k := 57) (by decide) t2 t3).mp d2
        rw [if_pos d2, decide_eq_false (by omega)]
        rfl
      · have e2 : ¬ (57 < T j ∧ T j < 128) := fun z => d2 ((cmp_gt (k := 57) (by decide) t2 t3).mpr z)
        rw [if_neg d2, decide_eq_true (by omega)]
        rfl
  · rw [q2, if_neg (nI_nlt (by omega) (by omega)), bz_ok (Or.inl rfl), decide_eq_false (fun z => c z.1)]
    rfl
def skF (p : Nat → Bool) : Nat → Nat → Nat
  | 0, j => j
  | k + 1, j => bif p j then skF p k (j + 1) else j
theorem skF_s (p : Nat → Bool) (k j : Nat) : skF p (k + 1) j = bif p j then skF p k (j + 1) else j := rfl
theorem skF_ge (p : Nat → Bool) : ∀ k j, j ≤ skF p k j ∧ skF p k j ≤ j + k := by
  intro k
  induction k with
  | zero => intro j; exact ⟨Nat.le_refl _, Nat.le_refl _⟩
  | succ k ih =>
    intro j
    rw [skF_s]
    cases p j with
    | false => exact ⟨Nat.le_refl _, by show j ≤ j + (k + 1); omega⟩
    | true =>
      have := ih (j + 1)
      exact ⟨by show j ≤ skF p k (j + 1); omega, by show skF p k (j + 1) ≤ j + (k + 1); omega⟩
theorem skF_in (p : Nat → Bool) : ∀ k j i, j ≤ i → i < skF p k j → p i = true := by
  intro k
  induction k with
  | zero => intro j i h1 h2; have h2 : i < j := h2; omega
  | succ k ih =>
    intro j i h1 h2
    rw [skF_s] at h2
    cases c : p j with
    | false =>
      rw [c] at h2
      have h2 : i < j := h2
      omega
    | true =>
      rw [c] at h2
      by_cases d : i = j
      · rw [d]
        exact c
      · exact ih (j + 1) i (by omega) h2
def spB (T : Nat → Nat) (j : Nat) : Bool := decide (T j = 32)
def wdB (k : Nat) : Bool := decide (k = 1 ∨ k = 2)
/-- the word or sign that comes next: its kind, its first byte, the byte behind its last -/
def lkS (T : Nat → Nat) (L b : Nat) : Nat := skF (spB T) (L - b) b
def lkF (T : Nat → Nat) (L k b : Nat) : Nat × Nat × Nat :=
  if lkS T L b < L then
    bif isL T L (lkS T L b) then (if wdB k = true ∧ lkS T L b = b then 4 else 1, lkS T L b, skF (isL T L) (L - lkS T L b) (lkS T L b))
    else bif isD T L (lkS T L b) then (if wdB k = true ∧ lkS T L b = b then 4 else 2, lkS T L b, skF (isD T L) (L - lkS T L b) (lkS T L b))
    else (5 + T (lkS T L b), lkS T L b, lkS T L b + 1)
  else (0, lkS T L b, lkS T L b)
def tkC (k : Nat) : Int32 := if k = 0 then -1 else if k = 1 then -2 else if k = 2 then -3 else if k = 4 then -4 else nI (k - 5)
def okK (k : Nat) : Prop := k = 0 ∨ k = 1 ∨ k = 2 ∨ k = 4 ∨ (5 ≤ k ∧ k < 261)
def CtE (h : PH) (u : Nat × Nat × Nat) : Prop := hI h 130 0 0 = tkC u.1 ∧ hI h 131 0 0 = nI u.2.1 ∧ hI h 132 0 0 = nI u.2.2
def lkW : List Nat × List Nat × Bool := ([130, 131, 132], [], false)
/-- what a word is, in its place -/
def okU (L : Nat) (u : Nat × Nat × Nat) : Prop := okK u.1 ∧ u.2.1 ≤ u.2.2 ∧ u.2.2 ≤ L ∧ (u.1 = 0 → u.2.1 = L) ∧ (u.1 ≠ 0 → u.2.1 < u.2.2)
theorem lkF_ok {T : Nat → Nat} {L : Nat} (hT : ∀ j, j < L → T j < 256) (k : Nat) {b : Nat} (hb : b ≤ L) : okU L (lkF T L k b) ∧ b ≤ (lkF T L k b).2.1 := by
  have g := skF_ge (spB T) (L - b) b
  have es : skF (spB T) (L - b) b = lkS T L b := rfl
  rw [es] at g
  unfold lkF
  by_cases c : lkS T L b < L
  · rw [if_pos c]
    have tw : ∀ p : Nat → Bool, p (lkS T L b) = true → lkS T L b < skF p (L - lkS T L b) (lkS T L b) ∧ skF p (L - lkS T L b) (lkS T L b) ≤ L := fun p hp => by
      have g2 := skF_ge p (L - lkS T L b) (lkS T L b)
      refine ⟨?_, by omega⟩
      have e1 : L - lkS T L b = (L - lkS T L b - 1) + 1 := by omega
      rw [e1, skF_s, hp]
      have g3 := skF_ge p (L - lkS T L b - 1) (lkS T L b + 1)
      show lkS T L b < skF p (L - lkS T L b - 1) (lkS T L b + 1)
      omega
    cases d1 : isL T L (lkS T L b) with
    | true =>
      obtain ⟨t1, t2⟩ := tw _ d1
      by_cases w : wdB k = true ∧ lkS T L b = b
      · rw [cond_true, if_pos w]
        exact ⟨⟨Or.inr (Or.inr (Or.inr (Or.inl rfl))), Nat.le_of_lt t1, t2, fun z => absurd (show 4 = 0 from z) (by decide), fun _ => t1⟩, g.1⟩
      · rw [cond_true, if_neg w]
        exact ⟨⟨Or.inr (Or.inl rfl), Nat.le_of_lt t1, t2, fun z => absurd (show 1 = 0 from z) (by decide), fun _ => t1⟩, g.1⟩
    | false =>
      rw [cond_false]
      cases d2 : isD T L (lkS T L b) with
      | true =>
        obtain ⟨t1, t2⟩ := tw _ d2
        by_cases w : wdB k = true ∧ lkS T L b = b
        · rw [cond_true, if_pos w]
          exact ⟨⟨Or.inr (Or.inr (Or.inr (Or.inl rfl))), Nat.le_of_lt t1, t2, fun z => absurd (show 4 = 0 from z) (by decide), fun _ => t1⟩, g.1⟩
        · rw [cond_true, if_neg w]
          exact ⟨⟨Or.inr (Or.inr (Or.inl rfl)), Nat.le_of_lt t1, t2, fun z => absurd (show 2 = 0 from z) (by decide), fun _ => t1⟩, g.1⟩
      | false =>
        rw [cond_false]
        have := hT _ c
        exact ⟨⟨Or.inr (Or.inr (Or.inr (Or.inr ⟨by show 5 ≤ 5 + T (lkS T L b); omega, by show 5 + T (lkS T L b) < 261; omega⟩))), by show lkS T L b ≤ lkS T L b + 1; omega, by show lkS T L b + 1 ≤ L; omega, fun z => absurd (show 5 + T (lkS T L b) = 0 from z) (by omega), fun _ => by show lkS T L b < lkS T L b + 1; omega⟩, g.1⟩
  · rw [if_neg c]
    exact ⟨⟨Or.inl rfl, Nat.le_refl _, by show lkS T L b ≤ L; omega, fun _ => by show lkS T L b = L; omega, fun z => absurd rfl z⟩, g.1⟩
theorem look_word {h0 : PH} {L s : Nat} {T : Nat → Nat} (a0 : SH h0) (q0 : TpE h0 L T) (h131 : hI h0 131 0 0 = nI s) (we : Int32) (lt : Bool) (hlt : isL T L s = lt) (hs : s ≤ L) : ∃ h', X3_lookAtWord 0 we (pI h0 132 0 0 (nI s)) = some (none, h') ∧ hI h' 131 0 0 = nI s ∧ hI h' 132 0 0 = nI (skF (bif lt then isL T L else isD T L) (L - s) s) ∧ hI h' 130 0 0 = (if nI s = we then -4 else bif lt then -2 else -3) ∧ Fr lkW h0 h' := by
  have hL := q0.1
  have loop : ∀ k j h, j + k = L → Fr ([132], [], false) h0 h → hI h 132 0 0 = nI j → ∃ n h', X3_lookAtWord_fam n 0 we (b2 lt) h = X3_lookAtWord_f62 X3_lookAtWord_f87 0 we (b2 lt) h' ∧ Fr ([132], [], false) h0 h' ∧ hI h' 132 0 0 = nI (skF (bif lt then isL T L else isD T L) k j) := by
    intro k
    induction k with
    | zero =>
      intro j h e f v
      have q := q0.fr a0 f (by decide) (by decide)
      refine ⟨1, h, ?_, f, v⟩
      show X3_lookAtWord_g9 (X3_lookAtWord_fam 0) 0 we (b2 lt) h = _
      unfold X3_lookAtWord_g9 X3_lookAtWord_f9
      rw [v, q.2.1, if_neg (nI_nlt (by omega) (by omega))]
      rfl
    | succ k ih =>
      intro j h e f v
      have a : SH h := a0.fr f (by decide)
      have q := q0.fr a0 f (by decide) (by decide)
      have pre : ∀ n, X3_lookAtWord_fam (n + 1) 0 we (b2 lt) h = bif (bif lt then isL T L else isD T L) j then X3_lookAtWord_fam n 0 we (b2 lt) (pI h 132 0 0 (nI (j + 1))) else X3_lookAtWord_f62 X3_lookAtWord_f87 0 we (b2 lt) h := fun n => by
        show X3_lookAtWord_g9 (X3_lookAtWord_fam n) 0 we (b2 lt) h = _
        unfold X3_lookAtWord_g9 X3_lookAtWord_f9
        have g49 : X3_lookAtWord_g49 (X3_lookAtWord_fam n) 0 we (b2 lt) h = X3_lookAtWord_fam n 0 we (b2 lt) (pI h 132 0 0 (nI (j + 1))) := by
          unfold X3_lookAtWord_g49 X3_lookAtWord_f49
          rw [wr_eq, v, nI_1]
        have g62 : X3_lookAtWord_g62 (X3_lookAtWord_fam n) 0 we (b2 lt) h = X3_lookAtWord_f62 X3_lookAtWord_f87 0 we (b2 lt) h := rfl
        rw [v, q.2.1, if_pos (nI_lt (by omega) (by omega)), digit_c a q (by omega), cI_some, letter_c a q (by omega), cI_some, g49, g62]
        cases lt with
        | false =>
          rw [if_pos (show b2 false = 0 from rfl)]
          show (if b2 (isD T L j) = 0 then _ else _) = bif isD T L j then _ else _
          cases isD T L j <;> rfl
        | true =>
          rw [if_neg (show ¬ b2 true = 0 by decide)]
          show (if b2 (isL T L j) = 0 then _ else _) = bif isL T L j then _ else _
          cases isL T L j <;> rfl
      rw [skF_s]
      cases c : (bif lt then isL T L else isD T L) j with
      | false =>
        refine ⟨1, h, ?_, f, v⟩
        rw [pre, c]
        rfl
      | true =>
        obtain ⟨n, h', y1, y2, y3⟩ := ih (j + 1) (pI h 132 0 0 (nI (j + 1))) (by omega) (f.pI (by decide)) (by rw [hI_pI, if_pos ⟨rfl, rfl, rfl⟩])
        refine ⟨n + 1, h', ?_, y2, y3⟩
        rw [pre, c]
        exact y1
  have f1 : Fr ([132], [], false) h0 (pI h0 132 0 0 (nI s)) := Fr.rf.pI (by decide)
  have a1 : SH (pI h0 132 0 0 (nI s)) := a0
  have q1 := q0.fr a0 f1 (by decide) (by decide)
  obtain ⟨n, h', y1, y2, y3⟩ := loop (L - s) s (pI h0 132 0 0 (nI s)) (by omega) f1 (by rw [hI_pI, if_pos ⟨rfl, rfl, rfl⟩])
  have e131 : hI h' 131 0 0 = nI s := (y2.1 131 0 0 (by decide) a0.n2).trans h131
  refine ⟨pI h' 130 0 0 (if nI s = we then -4 else bif lt then -2 else -3), X3_lookAtWord_iff.mpr ⟨n, ?_⟩, (hI_off _ (by decide) _ _ _ _ _).trans e131, (hI_off _ (by decide) _ _ _ _ _).trans y3, by rw [hI_pI, if_pos ⟨rfl, rfl, rfl⟩], (y2.sub (by decide)).pI (by decide)⟩
  unfold X3_lookAtWord_g0 X3_lookAtWord_f0
  rw [hI_off _ (by decide), h131, letter_c a1 q1 (by omega), cI_some, hlt, y1]
  unfold X3_lookAtWord_f62 X3_lookAtWord_f87
  rw [e131]
  by_cases c : nI s = we
  · rw [if_pos c, if_pos c, wr_eq]
  · rw [if_neg c, if_neg c, wr_eq, wr_eq]
    cases lt <;> rfl
theorem tkC_w {k : Nat} (hk : okK k) : (tkC k = -2 ↔ k = 1) ∧ (tkC k = -3 ↔ k = 2) := by
  rcases hk with rfl | rfl | rfl | rfl | ⟨h1, h2⟩
  · decide
  · decide
  · decide
  · decide
  · unfold tkC
    rw [if_neg (by omega), if_neg (by omega), if_neg (by omega), if_neg (by omega)]
    have n1 : ∀ z : Int32, z < 0 → ¬ nI (k - 5) = z := fun z hz e => by
      rw [← e] at hz
      exact nI_pos (by omega) hz
    exact ⟨⟨fun z => absurd z (n1 _ (by decide)), fun z => by omega⟩, ⟨fun z => absurd z (n1 _ (by decide)), fun z => by omega⟩⟩
theorem look_c {h : PH} {L k b : Nat} {T : Nat → Nat} (a : SH h) (q : TpE h L T) (hk : okK k) (h1 : hI h 130 0 0 = tkC k) (h2 : hI h 132 0 0 = nI b) (hb : b ≤ L) : ∃ h', X3_look 0 h = some (none, h') ∧ CtE h' (lkF T L k b) ∧ Fr lkW h h' := by
  have hL := q.1
  generalize hwe : (bif wdB k then nI b else (-1 : Int32)) = we
  have loop : ∀ d j y, j + d = L → Fr lkW h y → hI y 131 0 0 = nI j → ∃ n h', X3_look_fam n 0 we y = X3_look_f73 X3_isLetter X3_isDigit (X3_look_f122 X3_lookAtWord) 0 we h' ∧ Fr lkW h h' ∧ hI h' 131 0 0 = nI (skF (spB T) d j) := by
    intro d
    induction d with
    | zero =>
      intro j y e f v
      have qy := q.fr a f (by decide) (by decide)
      refine ⟨1, y, ?_, f, v⟩
      show X3_look_g35 (X3_look_fam 0) 0 we y = _
      unfold X3_look_g35 X3_look_f35
      rw [v, qy.2.1, if_neg (nI_nlt (by omega) (by omega))]
      rfl
    | succ d ih =>
      intro j y e f v
      have ay : SH y := a.fr f (by decide)
      have qy := q.fr a f (by decide) (by decide)
      obtain ⟨t1, -, t2, t3⟩ := qy.2.2 j (by omega)
      have ce : hI y 1408 0 j = 32 ↔ T j = 32 := cmp_eq (k := 32) (by decide) t2 t3
      have pre : ∀ n, X3_look_fam (n + 1) 0 we y = if T j = 32 then X3_look_fam n 0 we (pI y 131 0 0 (nI (j + 1))) else X3_look_f73 X3_isLetter X3_isDigit (X3_look_f122 X3_lookAtWord) 0 we y := fun n => by
        show X3_look_g35 (X3_look_fam n) 0 we y = _
        unfold X3_look_g35 X3_look_f35
        rw [v, qy.2.1, if_pos (nI_lt (by omega) (by omega)), nnE (sh_128 ay), ixE (ln_22 ay) rfl (show j < 96 by omega) (by decide), wr_eq, nI_1]
        by_cases c : T j = 32
        · rw [if_pos c, if_pos (ce.mpr c)]
        · rw [if_neg c, if_neg (fun z => c (ce.mp z))]
          rfl
      rw [skF_s]
      unfold spB
      by_cases c : T j = 32
      · obtain ⟨n, h', y1, y2, y3⟩ := ih (j + 1) (pI y 131 0 0 (nI (j + 1))) (by omega) (f.pI (by decide)) (by rw [hI_pI, if_pos ⟨rfl, rfl, rfl⟩])
        refine ⟨n + 1, h', ?_, y2, ?_⟩
        · rw [pre, if_pos c]
          exact y1
        · rw [decide_eq_true c]
          exact y3
      · refine ⟨1, y, ?_, f, ?_⟩
        · rw [pre, if_neg c]
        · rw [decide_eq_false c]
          exact v
  have f1 : Fr lkW h (pI h 131 0 0 (nI b)) := Fr.rf.pI (by decide)
  obtain ⟨n, h5, y1, y2, y3⟩ := loop (L - b) b (pI h 131 0 0 (nI b)) (by omega) f1 (by rw [hI_pI, if_pos ⟨rfl, rfl, rfl⟩])
  have start : X3_look_g0 (X3_look_fam n) 0 h = X3_look_fam n 0 we (pI h 131 0 0 (nI b)) := by
    have g26 : ∀ s0, X3_look_g26 (X3_look_fam n) 0 s0 h = X3_look_fam n 0 s0 (pI h 131 0 0 (nI b)) := fun s0 => by
      unfold X3_look_g26 X3_look_f26
      rw [wr_eq, h2]
    have g18 : X3_look_g18 (X3_look_fam n) 0 h = X3_look_fam n 0 (nI b) (pI h 131 0 0 (nI b)) := by
      unfold X3_look_g18 X3_look_f18
      rw [h2, g26]
    unfold X3_look_g0 X3_look_f0
    rw [g18, g26, h1]
    obtain ⟨k1, k2⟩ := tkC_w hk
    unfold wdB at hwe
    by_cases c1 : k = 1
    · rw [decide_eq_true (Or.inl c1)] at hwe
      rw [if_pos (k1.mpr c1), ← hwe]
      rfl
    · rw [if_neg (fun z => c1 (k1.mp z))]
      by_cases c2 : k = 2
      · rw [decide_eq_true (Or.inr c2)] at hwe
        rw [if_pos (k2.mpr c2), ← hwe]
        rfl
      · rw [decide_eq_false (fun z => z.elim c1 c2)] at hwe
        rw [if_neg (fun z => c2 (k2.mp z)), ← hwe]
        rfl
  have a5 : SH h5 := a.fr y2 (by decide)
  have q5 := q.fr a y2 (by decide) (by decide)
  have g := skF_ge (spB T) (L - b) b
  have es : skF (spB T) (L - b) b = lkS T L b := rfl
  rw [es] at g y3
  have a6 : SH (pI h5 132 0 0 (nI (lkS T L b))) := a5
  have f6 : Fr lkW h5 (pI h5 132 0 0 (nI (lkS T L b))) := Fr.rf.pI (by decide)
  have q6 := q5.fr a5 f6 (by decide) (by decide)
  have e131 : hI (pI h5 132 0 0 (nI (lkS T L b))) 131 0 0 = nI (lkS T L b) := (hI_off _ (by decide) _ _ _ _ _).trans y3
  have f06 := y2.tr f6
  suffices hh : ∃ h', X3_look_f73 X3_isLetter X3_isDigit (X3_look_f122 X3_lookAtWord) 0 we h5 = some (none, h') ∧ CtE h' (lkF T L k b) ∧ Fr lkW h h' by
    obtain ⟨h', z1, z2, z3⟩ := hh
    exact ⟨h', X3_look_iff.mpr ⟨n, by rw [start, y1, z1]⟩, z2, z3⟩
  unfold lkF X3_look_f73
  have wq : (nI (lkS T L b) = we) ↔ (wdB k = true ∧ lkS T L b = b) := by
    rw [← hwe]
    cases wdB k with
    | false =>
      refine ⟨fun z => ?_, fun z => by cases z.1⟩
      have z : nI (lkS T L b) = -1 := z
      exact absurd (show nI (lkS T L b) < 0 by rw [z]; decide) (nI_pos (by omega))
    | true =>
      rw [cond_true, nI_eq (by omega) (by omega)]
      exact ⟨fun z => ⟨rfl, z⟩, fun z => z.2⟩
  by_cases c : lkS T L b < L
  · rw [if_pos c, wr_eq, y3, e131, q6.2.1, if_pos (nI_lt c (by omega)), letter_c a6 q6 (by omega), cI_some]
    cases d1 : isL T L (lkS T L b) with
    | true =>
      obtain ⟨h', w1, w2, w3, w4, w5⟩ := look_word a5 q5 y3 we true d1 (by omega)
      rw [if_neg (show ¬ b2 true = 0 by decide), cond_true]
      unfold X3_look_f122
      rw [w1, cV_some]
      refine ⟨h', rfl, ⟨?_, w2, w3⟩, y2.tr w5⟩
      rw [w4]
      by_cases w : wdB k = true ∧ lkS T L b = b
      · rw [if_pos w, if_pos (wq.mpr w)]
        rfl
      · rw [if_neg w, if_neg (fun z => w (wq.mp z))]
        rfl
    | false =>
      rw [if_pos (show b2 false = 0 from rfl), cond_false, e131, digit_c a6 q6 (by omega), cI_some]
      cases d2 : isD T L (lkS T L b) with
      | true =>
        obtain ⟨h', w1, w2, w3, w4, w5⟩ := look_word a5 q5 y3 we false d1 (by omega)
        rw [if_neg (show ¬ b2 true = 0 by decide), cond_true]
        unfold X3_look_f122
        rw [w1, cV_some]
        refine ⟨h', rfl, ⟨?_, w2, w3⟩, y2.tr w5⟩
        rw [w4]
        by_cases w : wdB k = true ∧ lkS T L b = b
        · rw [if_pos w, if_pos (wq.mpr w)]
          rfl
        · rw [if_neg w, if_neg (fun z => w (wq.mp z))]
          rfl
      | false =>
        obtain ⟨t1, t2, -, -⟩ := q6.2.2 _ c
        rw [if_pos (show b2 false = 0 from rfl), cond_false, nnE (sh_128 a6), ixE (ln_22 a6) e131 (show lkS T L b < 96 by omega) (by decide), t2, wr_eq, hI_off _ (by decide), e131, nI_1, wr_eq]
        refine ⟨_, rfl, ⟨?_, ?_, ?_⟩, (f06.pI (by decide)).pI (by decide)⟩
        · rw [hI_off _ (by decide), hI_pI, if_pos ⟨rfl, rfl, rfl⟩]
          show nI (T (lkS T L b)) = tkC (5 + T (lkS T L b))
          unfold tkC
          rw [if_neg (by omega), if_neg (by omega), if_neg (by omega), if_neg (by omega), show 5 + T (lkS T L b) - 5 = T (lkS T L b) by omega]
        · rw [hI_off _ (by decide), hI_off _ (by decide), e131]
        · rw [hI_pI, if_pos ⟨rfl, rfl, rfl⟩]
  · rw [if_neg c, wr_eq, y3, e131, q6.2.1, if_neg (nI_nlt (by omega) (by omega)), wr_eq]
    refine ⟨_, rfl, ⟨by rw [hI_pI, if_pos ⟨rfl, rfl, rfl⟩]; rfl, (hI_off _ (by decide) _ _ _ _ _).trans e131, ?_⟩, f06.pI (by decide)⟩
    rw [hI_off _ (by decide), hI_pI, if_pos ⟨rfl, rfl, rfl⟩]
