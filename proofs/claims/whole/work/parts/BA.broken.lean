/-! rows that break a law: the class's -/
def anyF (f : Nat → Bool) : Nat → Nat → Bool
  | 0, _ => false
  | k + 1, i => f i || anyF f k (i + 1)
def cntF (f : Nat → Bool) : Nat → Nat → Nat
  | 0, _ => 0
  | k + 1, i => (if f i then 1 else 0) + cntF f k (i + 1)
theorem wnE1 {x K : Nat} (hx : x < K) (hK : K < 2 ^ 31) : wn (nI x) (nI K) = 1 := by
  unfold wn
  rw [if_neg (show ¬ nI x < 0 from nI_nlt (b := 0) (by omega) (by omega)), if_pos (nI_lt hx hK)]
theorem wnE0 {x K : Nat} (hx : K ≤ x) (hK : x < 2 ^ 31) : wn (nI x) (nI K) = 0 := by
  unfold wn
  rw [if_neg (show ¬ nI x < 0 from nI_nlt (b := 0) (by omega) (by omega)), if_neg (nI_nlt hx hK)]
/-- the name of a goal's group -/
def gN (N : Nat → Int32) (x : Nat) : Option Nat := if x < nt (N 5) ∧ N (136 + 2 * x) ≠ -1 then some (10 + nt (N (136 + 2 * x))) else none
theorem gN_lt {h : PH} {b : Nat} {N : Nat → Int32} (q : Hs h b N) {x k : Nat} (e : gN N x = some k) : k < 14 ∧ 10 ≤ k := by
  unfold gN at e
  by_cases c : x < nt (N 5) ∧ N (136 + 2 * x) ≠ -1
  · rw [if_pos c] at e
    obtain ⟨-, -, -, -, g5, -⟩ := q.goal c.1
    obtain ⟨u, v⟩ := g5
    cases e
    unfold nt
    omega
  · rw [if_neg c] at e
    cases e
theorem gN_eq {h : PH} {b : Nat} {N : Nat → Int32} (q : Hs h b N) {x k : Nat} (hk : k < 14) : oI (gN N x) = nI k ↔ gN N x = some k := by
  cases e : gN N x with
  | none =>
    constructor
    · intro c
      have : oI (some k) = -1 := c.symm
      exact absurd this (oI_ne (by omega))
    · intro c; cases c
  | some v =>
    have := (gN_lt q e).1
    constructor
    · intro c
      have := (nI_eq (by omega) (by omega)).mp c
      rw [this]
    · intro c
      cases c
      rfl
theorem groupName_eq {h : PH} {N : Nat → Int32} (q : Hs h 0 N) {x : Nat} (hx : x < 14) : X2_groupName 1 (nI x) h = some (some (.inl (oI (gN N x))), h) := by
  obtain ⟨K, hK, h10, hKn, hKi, h74⟩ := q.goals
  have a := q.1
  unfold X2_groupName X2_groupName_g0 X2_groupName_f0
  rw [nnE rfl, X1_hasGoal_eq, cI_some, h74]
  by_cases c : x < K
  · obtain ⟨g1, g2, g3, g4, g5, g6⟩ := q.goal (show x < nt (N 5) by omega)
    rw [wnE1 c (by omega), if_neg (by decide), nnE rfl, nnE (sh_67 a 0 (by decide)), ixE (ln_17 a 0 (by decide)) rfl g6 (by decide), g4]
    unfold gN
    by_cases c2 : N (136 + 2 * x) = -1
    · rw [if_pos c2, if_neg (fun z => z.2 c2)]
      rfl
    · rw [if_neg c2, if_pos ⟨by omega, c2⟩]
      show X2_groupName_f23 1 (nI x) 1 h = _
      have e0 : 0 ≤ (N (136 + 2 * x)).toInt := by
        obtain ⟨u, v⟩ := g5
        rcases Int.lt_or_le (N (136 + 2 * x)).toInt 0 with w | w
        · exfalso
          apply c2
          apply Int32.toInt_inj.mp
          have : (-1 : Int32).toInt = -1 := by decide
          omega
        · exact w
      unfold X2_groupName_f23
      rw [if_neg (by decide), nnE rfl, nnE (sh_67 a 0 (by decide)), ixE (ln_17 a 0 (by decide)) rfl g6 (by decide), g4, nI_nt e0, nt_nI (by obtain ⟨u, v⟩ := g5; unfold nt; omega), show (10 : Int32) = nI 10 from rfl, nI_add]
      rfl
  · rw [wnE0 (by omega) (by omega), if_pos rfl]
    unfold gN
    rw [if_neg (fun z => by omega)]
    rfl
/-- the name is a goal's of this place -/
def thB (N : Nat → Int32) (nm p : Nat) (g : Nat) : Bool := decide (gP N g = p) && (decide (g = nm) || decide (gN N g = some nm))
theorem isThere_eq {h : PH} {N : Nat → Int32} (q : Hs h 0 N) {nm p : Nat} (hn : nm < 14) (hp : p < 12) : X2_isThere 1 (nI nm) (nI p) h = some (some (.inl (b2 (anyF (thB N nm p) (nt (N 5)) 0))), h) := by
  obtain ⟨K, hK, h10, hKn, hKi, h74⟩ := q.goals
  have a := q.1
  have n12 := q.n12
  have key : ∀ k g, g + k = K → ∃ n, X2_isThere_fam n 1 (nI nm) (nI p) (nI g) h = some (some (.inl (b2 (anyF (thB N nm p) k g))), h) := by
    intro k
    induction k with
    | zero =>
      intro g e
      refine ⟨1, ?_⟩
      show X2_isThere_g2 (X2_isThere_fam 0) 1 (nI nm) (nI p) (nI g) h = _
      unfold X2_isThere_g2 X2_isThere_f2
      rw [nnE rfl, h74, if_neg (nI_nlt (by omega) (by omega)), bz_ok (Or.inl rfl)]
      rfl
    | succ k ih =>
      intro g e
      obtain ⟨n, hn'⟩ := ih (g + 1) (by omega)
      obtain ⟨g1, g2, g3, g4, g5, g6⟩ := q.goal (show g < nt (N 5) by omega)
      refine ⟨n + 1, ?_⟩
      show X2_isThere_g2 (X2_isThere_fam n) 1 (nI nm) (nI p) (nI g) h = _
      unfold X2_isThere_g2 X2_isThere_f2 anyF thB
      rw [nnE rfl, h74, if_pos (nI_lt (by omega) (by omega)), nnE rfl, nnE (sh_66 a 0 (by decide)), ixE (ln_16 a 0 (by decide)) rfl g6 (by decide), g3]
      by_cases c : gP N g = p
      · rw [if_pos (by rw [c])]
        by_cases c2 : g = nm
        · rw [if_pos (by rw [c2]), bz_ok (Or.inr rfl)]
          subst c2
          simp [c, b2]
        · rw [if_neg (fun z => c2 ((nI_eq (by omega) (by omega)).mp z)), groupName_eq q (by omega), cI_some]
          by_cases c3 : gN N g = some nm
          · rw [if_pos ((gN_eq q hn).mpr c3), bz_ok (Or.inr rfl)]
            simp [c, c3, b2]
          · rw [if_neg (fun z => c3 ((gN_eq q hn).mp z))]
            simp only [c, c2, c3, decide_true, decide_false, Bool.or_false, Bool.and_false, Bool.false_or]
            show X2_isThere_fam n 1 (nI nm) (nI p) (nI g + 1) h = _
            rw [nI_1]
            exact hn'
      · rw [if_neg (fun z => c ((nI_eq (by omega) (by omega)).mp z))]
        simp only [c, decide_false, Bool.false_and, Bool.false_or]
        show X2_isThere_fam n 1 (nI nm) (nI p) (nI g + 1) h = _
        rw [nI_1]
        exact hn'
  obtain ⟨n, hn'⟩ := key K 0 (by omega)
  rw [hKn]
  exact X2_isThere_iff.mpr ⟨n, hn'⟩
/-- a row's name goes on with a name -/
def onB (N : Nat → Int32) (s nm : Nat) (r : Nat) : Bool := decide (nmN N s r = nm) || decide (gN N nm = some (nmN N s r)) || decide (gN N (nmN N s r) = some nm)
theorem goesOnAt_eq {h : PH} {N : Nat → Int32} (q : Hs h 0 N) {s nm : Nat} (hs : s < nt (N 6)) (hn : nm < 14) : X2_goesOnAt 1 (s + 1) (nI nm) h = some (some (.inl (b2 (anyF (onB N s nm) (sR N s) 0))), h) := by
  obtain ⟨-, -, f3, -⟩ := q.signF hs
  obtain ⟨-, -, -, e4, -, e6, -⟩ := q.sign hs
  rw [Nat.mul_zero, Nat.zero_add] at f3
  have a := q.1
  have key : ∀ k r, r + k = sR N s → ∃ n, X2_goesOnAt_fam n 1 (s + 1) (nI nm) (nI r) h = some (some (.inl (b2 (anyF (onB N s nm) k r))), h) := by
    intro k
    induction k with
    | zero =>
      intro r e
      refine ⟨1, ?_⟩
      show X2_goesOnAt_g2 (X2_goesOnAt_fam 0) 1 (s + 1) (nI nm) (nI r) h = _
      unfold X2_goesOnAt_g2 X2_goesOnAt_f2
      rw [nnE rfl, f3, if_neg (nI_nlt (by omega) (by omega)), bz_ok (Or.inl rfl)]
      rfl
    | succ k ih =>
      intro r e
      obtain ⟨n, hn'⟩ := ih (r + 1) (by omega)
      have hr : r < sR N s := by omega
      obtain ⟨g1, -⟩ := q.row hs hr
      obtain ⟨m1, m2⟩ := q.nm hs hr
      rw [Nat.mul_zero, Nat.zero_add, m1] at g1
      refine ⟨n + 1, ?_⟩
      show X2_goesOnAt_g2 (X2_goesOnAt_fam n) 1 (s + 1) (nI nm) (nI r) h = _
      unfold X2_goesOnAt_g2 X2_goesOnAt_f2 anyF onB
      rw [nnE rfl, f3, if_pos (nI_lt (by omega) (by omega)), nnE rfl, nnE (sh_325 a s (by omega)), ixE (ln_27 a s (by omega)) rfl (show r < 6 by omega) (by decide), g1]
      by_cases c1 : nmN N s r = nm
      · rw [if_pos (by rw [c1]), bz_ok (Or.inr rfl)]
        simp [c1, b2]
      · rw [if_neg (fun z => c1 ((nI_eq (by omega) (by omega)).mp z)), groupName_eq q hn, cI_some]
        by_cases c2 : gN N nm = some (nmN N s r)
        · rw [if_pos ((gN_eq q m2).mpr c2), bz_ok (Or.inr rfl)]
          simp [c2, b2]
        · rw [if_neg (fun z => c2 ((gN_eq q m2).mp z)), groupName_eq q m2, cI_some]
          by_cases c3 : gN N (nmN N s r) = some nm
          · rw [if_pos ((gN_eq q hn).mpr c3), bz_ok (Or.inr rfl)]
            simp [c3, b2]
          · rw [if_neg (fun z => c3 ((gN_eq q hn).mp z))]
            simp only [c1, c2, c3, decide_false, Bool.or_false, Bool.false_or]
            show X2_goesOnAt_fam n 1 (s + 1) (nI nm) (nI r + 1) h = _
            rw [nI_1]
            exact hn'
  obtain ⟨n, hn'⟩ := key (sR N s) 0 (by omega)
  exact X2_goesOnAt_iff.mpr ⟨n, hn'⟩
/-- ways at a place -/
def atB (N : Nat → Int32) (p w : Nat) : Bool := decide (wA N w = p) || decide (wB N w = p)
def wcN (N : Nat → Int32) (p : Nat) : Nat := cntF (atB N p) (nt (N 4)) 0
theorem waysFrom_eq {h : PH} {N : Nat → Int32} (q : Hs h 0 N) {p : Nat} (hp : p < 12) : X1_waysFrom 0 (nI p) h = some (some (.inl (nI (cntF (fun d => (wO N p d).isSome) 8 0))), h) := by
  obtain ⟨K, hK, h20, hKn, hKi, -⟩ := q.ways
  have a := q.1
  have key : ∀ k d c, d + k = 8 → ∃ n, X1_waysFrom_fam n 0 (nI p) (nI c) (nI d) h = some (some (.inl (nI (c + cntF (fun d => (wO N p d).isSome) k d))), h) := by
    intro k
    induction k with
    | zero =>
      intro d c e
      refine ⟨1, ?_⟩
      show X1_waysFrom_g4 (X1_waysFrom_fam 0) 0 (nI p) (nI c) (nI d) h = _
      unfold X1_waysFrom_g4 X1_waysFrom_f4
      rw [if_neg (show ¬ nI d < 8 from nI_nlt (b := 8) (by omega) (by omega))]
      rfl
    | succ k ih =>
      intro d c e
      have e1 : hI h 960 0 (8 * p + d) = oI (wO N p d) := by
        rw [q.2.2.1.2.2.1.lead hK h20 hp (by omega), wfF_oI]
        unfold wO
        rw [hKn]
      obtain ⟨n, hn'⟩ := ih (d + 1) (c + (if (wO N p d).isSome then 1 else 0)) (by omega)
      refine ⟨n + 1, ?_⟩
      show X1_waysFrom_g4 (X1_waysFrom_fam n) 0 (nI p) (nI c) (nI d) h = _
      unfold X1_waysFrom_g4 X1_waysFrom_f4 cntF
      rw [if_pos (show nI d < 8 from nI_lt (b := 8) (by omega) (by decide)), X1_wayFrom_eq a (by decide) hp (by omega), cI_some, e1, ← Nat.add_assoc]
      cases c2 : wO N p d with
      | none =>
        rw [c2] at hn'
        rw [if_pos (show oI none = -1 from rfl)]
        show cI (X11_bit 0 h) (fun v4 h3 => X1_waysFrom_fam n 0 (nI p) (nI c + v4) (nI d + 1) h3) = _
        rw [show X11_bit 0 h = some (some (.inl 0), h) from rfl, cI_some, nI_1, show nI c + 0 = nI c from Int32.add_zero _]
        exact hn'
      | some w =>
        rw [c2] at hn'
        have := wO_lt c2
        rw [if_neg (oI_ne (by omega))]
        show cI (X11_bit 1 h) (fun v4 h3 => X1_waysFrom_fam n 0 (nI p) (nI c + v4) (nI d + 1) h3) = _
        rw [show X11_bit 1 h = some (some (.inl 1), h) from rfl, cI_some, nI_1, nI_1]
        exact hn'
  obtain ⟨n, hn'⟩ := key 8 0 0 (by omega)
  rw [Nat.zero_add] at hn'
  exact X1_waysFrom_iff.mpr ⟨n, hn'⟩
