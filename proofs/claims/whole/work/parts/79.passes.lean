/-! ways that pass, signs that are lit and obeyed -/
theorem nx0 (f : Nat → Option Rs) : ix 0 1765 f = f 0 := ix_nI (show 0 < 1765 by decide) (by decide) f
theorem nx1 (f : Nat → Option Rs) : ix 1 1765 f = f 1 := ix_nI (show 1 < 1765 by decide) (by decide) f
theorem nx2 (f : Nat → Option Rs) : ix 2 1765 f = f 2 := ix_nI (show 2 < 1765 by decide) (by decide) f
theorem nx3 (f : Nat → Option Rs) : ix 3 1765 f = f 3 := ix_nI (show 3 < 1765 by decide) (by decide) f
theorem nx4 (f : Nat → Option Rs) : ix 4 1765 f = f 4 := ix_nI (show 4 < 1765 by decide) (by decide) f
theorem nx5 (f : Nat → Option Rs) : ix 5 1765 f = f 5 := ix_nI (show 5 < 1765 by decide) (by decide) f
theorem nx6 (f : Nat → Option Rs) : ix 6 1765 f = f 6 := ix_nI (show 6 < 1765 by decide) (by decide) f
theorem nx7 (f : Nat → Option Rs) : ix 7 1765 f = f 7 := ix_nI (show 7 < 1765 by decide) (by decide) f
theorem nx8 (f : Nat → Option Rs) : ix 8 1765 f = f 8 := ix_nI (show 8 < 1765 by decide) (by decide) f
theorem fx0 (f : Nat → Option Rs) : ix 0 4 f = f 0 := ix_nI (show 0 < 4 by decide) (by decide) f
theorem fx1 (f : Nat → Option Rs) : ix 1 4 f = f 1 := ix_nI (show 1 < 4 by decide) (by decide) f
theorem fx2 (f : Nat → Option Rs) : ix 2 4 f = f 2 := ix_nI (show 2 < 4 by decide) (by decide) f
theorem fx3 (f : Nat → Option Rs) : ix 3 4 f = f 3 := ix_nI (show 3 < 4 by decide) (by decide) f
def nt (x : Int32) : Nat := x.toInt.toNat
theorem nt_nI {n : Nat} (hn : n < 2 ^ 31) : nt (nI n) = n := by
  unfold nt
  rw [nI_toInt hn]
  omega
def b2 (b : Bool) : Int32 := bif b then 1 else 0
theorem b2_01 (b : Bool) : b2 b = 0 ∨ b2 b = 1 := by cases b; exact Or.inl rfl; exact Or.inr rfl
theorem bz0 (f : Option Rs) : bz 0 f = f := rfl
theorem bz1 (f : Option Rs) : bz 1 f = f := rfl
theorem HWays.get {h : PH} {b : Nat} {N : Nat → Int32} (q : HWays h b N) {w : Nat} (hw : (w : Int) < (N 4).toInt) : hI h 576 (20 * b + w) 0 = N (15 + 6 * w) ∧ hI h 577 (20 * b + w) 0 = N (16 + 6 * w) ∧ hI h 578 (20 * b + w) 0 = N (17 + 6 * w) ∧ hI h 579 (20 * b + w) 0 = N (18 + 6 * w) ∧ hI h 580 (20 * b + w) 0 = N (19 + 6 * w) ∧ hI h 581 (20 * b + w) 0 = N (20 + 6 * w) := by
  obtain ⟨q1, -⟩ := q.1 w hw
  have e : ∀ k, 15 + 6 * w + k = 15 + k + 6 * w := fun k => by omega
  refine ⟨q1 0 (by decide), ?_, ?_, ?_, ?_, ?_⟩
  · have := q1 1 (by decide); rw [e] at this; exact this
  · have := q1 2 (by decide); rw [e] at this; exact this
  · have := q1 3 (by decide); rw [e] at this; exact this
  · have := q1 4 (by decide); rw [e] at this; exact this
  · have := q1 5 (by decide); rw [e] at this; exact this
def gateB (N : Nat → Int32) (x : Int32) : Bool := match cntO N 1 (nt (N 8)) with
  | none => !decide (N 1 < 6) && !decide (21 < N 1)
  | some t => !decide (txV N t (fa4 (N 1) (N 2) x 0) = 0)
def passT (N : Nat → Int32) (w : Nat) : Bool := if N (18 + 6 * w) = 3 then gateB N (N (19 + 6 * w)) else true
def passB (N : Nat → Int32) (w : Nat) (x : Int32) : Bool := if N (20 + 6 * w) = 1 then false else if N (18 + 6 * w) = 1 ∧ x = 1 then false else passT N w
def litT (N : Nat → Int32) (x : Int32) : Bool := match cntO N 0 (nt (N 8)) with
  | none => !decide (N 1 < 18) || decide (N 1 < 6)
  | some t => !decide (txV N t (fa4 (N 1) (N 2) x 0) = 0)
def litB (N : Nat → Int32) (s : Nat) : Bool := if N (156 + 5 * s) = 5 then decide (N 2 < N (159 + 5 * s)) else if N (156 + 5 * s) = 3 then litT N (N (157 + 5 * s)) else true
def obeyB (N : Nat → Int32) (s : Nat) (x : Int32) : Bool := match cntO N 2 (nt (N 8)) with
  | none => true
  | some t => !decide (txV N t (fa4 (N (156 + 5 * s)) (seenK (N (156 + 5 * s))) x (N 1)) = 0)
theorem X1_passes_t {h : PH} (a : SH h) {b : Nat} (hb : b < 2) {N : Nat → Int32} (hr : HRel h b N) (ht : TRel h b N) {w : Nat} (hw : (w : Int) < (N 4).toInt) : ∃ h', X1_passes_g22 b (20 * b + w + 1) h = some (some (.inl (b2 (passT N w))), h') := by
  obtain ⟨s1, s2, s3, s4, s5, s6⟩ := hr.2.2.1.get hw
  obtain ⟨c1, c2, c3, c4, c5, c6, c7, c8, c9⟩ := hr.1
  obtain ⟨K, t1, t2, t3, t4⟩ := ht
  unfold X1_passes_g22 X1_passes_f22 passT
  rw [nn_succ, s4]
  by_cases k3 : N (18 + 6 * w) = 3
  · rw [if_pos k3, if_pos k3, show (1 : Int32) = nI 1 from rfl, textFor_eq a hb (c5.trans t1) t2 (show 1 < 3 by decide) (t4 1 (by decide)), cR_some]
    unfold gateB
    rw [t1, nt_nI (by omega), show (1 : Int32) = nI 1 from rfl]
    cases e : cntO N (nI 1) K with
    | none =>
      simp only [if_true, c7]
      by_cases d1 : N 1 < 6
      · exact ⟨h, by simp [d1, bz0, b2]⟩
      · by_cases d2 : 21 < N 1
        · exact ⟨h, by simp [d1, d2, bz0, b2]⟩
        · exact ⟨h, by simp [d1, d2, bz1, b2, nI]⟩
    | some t =>
      obtain ⟨T, r1, h', e', -⟩ := value_eq (t3 t (cntO_lt e).1) (N 1) (N 2) (N (19 + 6 * w)) 0
      refine ⟨h', ?_⟩
      simp only [r1, if_neg (Nat.succ_ne_zero T), nn_succ, s5, c7, c8, e', cI_some]
      by_cases d : txV N t (fa4 (N 1) (N 2) (N (19 + 6 * w)) 0) = 0
      · simp [d, bz0, b2]
      · simp [d, bz1, b2, nI]
  · rw [if_neg k3, if_neg k3]
    exact ⟨h, rfl⟩
theorem rg01 {x : Int32} (h : rgI x 0 1) : x = 0 ∨ x = 1 := by
  obtain ⟨h1, h2⟩ := h
  rw [i_eq, i_eq, i0, i1]
  omega
theorem X1_passes_eq {h : PH} (a : SH h) {b : Nat} (hb : b < 2) {N : Nat → Int32} (hr : HRel h b N) (ht : TRel h b N) {w : Nat} (hw : (w : Int) < (N 4).toInt) (x : Int32) : ∃ h', X1_passes b (20 * b + w + 1) x h = some (some (.inl (b2 (passB N w x))), h') ∧ Fr X1_passes_W h h' := by
  have key : ∃ h', X1_passes b (20 * b + w + 1) x h = some (some (.inl (b2 (passB N w x))), h') := by
    obtain ⟨s1, s2, s3, s4, s5, s6⟩ := hr.2.2.1.get hw
    have r1 : rgI (N (20 + 6 * w)) 0 1 := (hr.2.2.1.1 w hw).2.2.2.2.2.2.2
    obtain ⟨h', e⟩ := X1_passes_t a hb hr ht hw
    unfold X1_passes X1_passes_g0 X1_passes_f0 passB
    rw [nn_succ, nn_succ, s6, s4]
    rcases rg01 r1 with k | k
    · rw [if_pos k, if_neg (show ¬ N (20 + 6 * w) = 1 by rw [k]; decide)]
      by_cases d1 : N (18 + 6 * w) = 1
      · by_cases d2 : x = 1
        · exact ⟨h, by simp [d1, d2, bz0, b2]⟩
        · exact ⟨h', by simp [d1, d2, e]⟩
      · exact ⟨h', by simp [d1, e]⟩
    · rw [if_neg (show ¬ N (20 + 6 * w) = 0 by rw [k]; decide), if_pos k]
      exact ⟨h, rfl⟩
  obtain ⟨h', e⟩ := key
  exact ⟨h', e, X1_passes_fr b (20 * b + w + 1) x h _ e⟩
theorem X1_isLit_eq {h : PH} (a : SH h) {b : Nat} (hb : b < 2) {N : Nat → Int32} (hr : HRel h b N) (ht : TRel h b N) {s : Nat} (hs : (s : Int) < (N 6).toInt) : ∃ h', X1_isLit b (14 * b + s + 1) h = some (some (.inl (b2 (litB N s))), h') ∧ Fr X1_isLit_W h h' := by
  have key : ∃ h', X1_isLit b (14 * b + s + 1) h = some (some (.inl (b2 (litB N s))), h') := by
    obtain ⟨s1, s2, s3, s4, s5, -⟩ := hr.2.2.2.2.1 s hs
    obtain ⟨c1, c2, c3, c4, c5, c6, c7, c8, c9⟩ := hr.1
    obtain ⟨K, t1, t2, t3, t4⟩ := ht
    unfold X1_isLit X1_isLit_g0 X1_isLit_f0 litB
    simp only [nn_succ, s2, s5, s3]
    by_cases k5 : N (156 + 5 * s) = 5
    · rw [if_pos k5, if_pos k5, if_pos k5, c8]
      by_cases d : N 2 < N (159 + 5 * s)
      · exact ⟨h, by simp [d, bz1, b2]⟩
      · exact ⟨h, by simp [d, bz0, b2]⟩
    · rw [if_neg k5, if_neg k5]
      by_cases k3 : N (156 + 5 * s) = 3
      · rw [if_pos k3, if_pos k3, show (0 : Int32) = nI 0 from rfl, textFor_eq a hb (c5.trans t1) t2 (show 0 < 3 by decide) (t4 0 (by decide)), cR_some]
        unfold litT
        rw [t1, nt_nI (by omega), show (0 : Int32) = nI 0 from rfl]
        cases e : cntO N (nI 0) K with
        | none =>
          simp only [if_true, c7]
          by_cases d1 : N 1 < 18 <;> by_cases d2 : N 1 < 6 <;> exact ⟨h, by simp [d1, d2, bz0, bz1, b2, nI]⟩
        | some t =>
          obtain ⟨T, r1, h', e', -⟩ := value_eq (t3 t (cntO_lt e).1) (N 1) (N 2) (N (157 + 5 * s)) 0
          rw [show (0 : Int32) = nI 0 from rfl] at e'
          refine ⟨h', ?_⟩
          simp only [r1, if_neg (Nat.succ_ne_zero T), nn_succ, s3, c7, c8, e', cI_some]
          by_cases d : txV N t (fa4 (N 1) (N 2) (N (157 + 5 * s)) 0) = 0
          · simp [show nI 0 = (0 : Int32) from rfl, d, bz0, b2]
          · simp [show nI 0 = (0 : Int32) from rfl, d, bz1, b2]
      · rw [if_neg k3, if_neg k3]
        exact ⟨h, rfl⟩
  obtain ⟨h', e⟩ := key
  exact ⟨h', e, X1_isLit_fr b (14 * b + s + 1) h _ e⟩
theorem X1_isObeyed_eq {h : PH} (a : SH h) {b : Nat} (hb : b < 2) {N : Nat → Int32} (hr : HRel h b N) (ht : TRel h b N) {s : Nat} (hs : (s : Int) < (N 6).toInt) (x : Int32) : ∃ h', X1_isObeyed b (14 * b + s + 1) x h = some (some (.inl (b2 (obeyB N s x))), h') ∧ Fr X1_isObeyed_W h h' := by
  have key : ∃ h', X1_isObeyed b (14 * b + s + 1) x h = some (some (.inl (b2 (obeyB N s x))), h') := by
    obtain ⟨s1, s2, s3, s4, s5, s6, s7, -⟩ := hr.2.2.2.2.1 s hs
    obtain ⟨c1, c2, c3, c4, c5, c6, c7, c8, c9⟩ := hr.1
    obtain ⟨K, t1, t2, t3, t4⟩ := ht
    unfold X1_isObeyed X1_isObeyed_g0 X1_isObeyed_f0 obeyB
    rw [show (2 : Int32) = nI 2 from rfl, textFor_eq a hb (c5.trans t1) t2 (show 2 < 3 by decide) (t4 2 (by decide)), cR_some, t1, nt_nI (by omega)]
    cases e : cntO N (nI 2) K with
    | none => exact ⟨h, rfl⟩
    | some t =>
      obtain ⟨T, r1, h', e', -⟩ := value_eq (t3 t (cntO_lt e).1) (N (156 + 5 * s)) (seenK (N (156 + 5 * s))) x (N 1)
      refine ⟨h', ?_⟩
      simp only [r1, if_neg (Nat.succ_ne_zero T), nn_succ, s2, se3_eq s7, cI_some, c7, e']
      by_cases d : txV N t (fa4 (N (156 + 5 * s)) (seenK (N (156 + 5 * s))) x (N 1)) = 0
      · simp [d, bz0, b2]
      · simp [d, bz1, b2]
  obtain ⟨h', e⟩ := key
  exact ⟨h', e, X1_isObeyed_fr b (14 * b + s + 1) x h _ e⟩
