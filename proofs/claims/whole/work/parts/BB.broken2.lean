/-! ways at a place are counted by direction or by way; quarrels; broken rows of the class -/
theorem cnt_add {f g : Nat → Bool} {d0 : Nat} (h0 : f d0 = false) (h1 : g d0 = true) (h2 : ∀ d, d ≠ d0 → g d = f d) : ∀ k i, cntF g k i = cntF f k i + (if i ≤ d0 ∧ d0 < i + k then 1 else 0)
  | 0, i => by
    unfold cntF
    rw [if_neg (by omega)]
  | k + 1, i => by
    unfold cntF
    rw [cnt_add h0 h1 h2 k (i + 1)]
    by_cases c : i = d0
    · subst c
      rw [h0, h1, if_neg (show ¬ (i + 1 ≤ i ∧ i < i + 1 + k) by omega), if_pos (show i ≤ i ∧ i < i + (k + 1) by omega)]
      simp
      omega
    · rw [h2 i c]
      by_cases c2 : i + 1 ≤ d0 ∧ d0 < i + 1 + k
      · rw [if_pos c2, if_pos (show i ≤ d0 ∧ d0 < i + (k + 1) by omega), Nat.add_assoc]
      · rw [if_neg c2, if_neg (show ¬ (i ≤ d0 ∧ d0 < i + (k + 1)) by omega), Nat.add_assoc]
theorem cnt_congr {f g : Nat → Bool} : ∀ k i, (∀ d, i ≤ d → d < i + k → g d = f d) → cntF g k i = cntF f k i
  | 0, _, _ => rfl
  | k + 1, i, e => by
    unfold cntF
    rw [cnt_congr k (i + 1) (fun d a b => e d (by omega) (by omega)), e i (by omega) (by omega)]
theorem cnt_last (f : Nat → Bool) : ∀ k i, cntF f (k + 1) i = cntF f k i + (if f (i + k) then 1 else 0)
  | 0, i => by
    show (if f i then 1 else 0) + 0 = 0 + (if f (i + 0) then 1 else 0)
    rw [Nat.add_zero, Nat.add_comm, Nat.add_zero]
    rfl
  | k + 1, i => by
    have := cnt_last f k (i + 1)
    rw [show i + (k + 1) = i + 1 + k by omega]
    show (if f i then 1 else 0) + cntF f (k + 1) (i + 1) = (if f i then 1 else 0) + cntF f k (i + 1) + _
    rw [this]
    omega
theorem cnt_zero {f : Nat → Bool} (h : ∀ d, f d = false) : ∀ k i, cntF f k i = 0
  | 0, _ => rfl
  | k + 1, i => by
    unfold cntF
    rw [cnt_zero h k (i + 1), h i]
    rfl
def ldQ (N : Nat → Int32) (w p d : Nat) : Bool := (decide (wA N w = p) && decide (wD N w = d)) || (decide (wB N w = p) && decide ((wD N w + 4) % 8 = d))
theorem ldQ_iff {N : Nat → Int32} {w p d : Nat} : ldQ N w p d = true ↔ ldN N w p d := by
  unfold ldQ ldN
  simp
theorem ldQ_no {N : Nat → Int32} {w p d : Nat} (h : ¬ ldN N w p d) : ldQ N w p d = false := by
  cases c : ldQ N w p d with
  | false => rfl
  | true => exact absurd (ldQ_iff.mp c) h
theorem wc_eq {h : PH} {N : Nat → Int32} (q : Hs h 0 N) {p : Nat} (hp : p < 12) : cntF (fun d => (wO N p d).isSome) 8 0 = wcN N p := by
  have key : ∀ K, K ≤ nt (N 4) → cntF (fun d => anyF (fun w => ldQ N w p d) K 0) 8 0 = cntF (atB N p) K 0 := by
    have al : ∀ (f : Nat → Bool) k i, anyF f (k + 1) i = (anyF f k i || f (i + k)) := by
      intro f k
      induction k with
      | zero =>
        intro i
        show (f i || false) = (false || f i)
        cases f i <;> rfl
      | succ k ih =>
        intro i
        show (f i || anyF f (k + 1) (i + 1)) = ((f i || anyF f k (i + 1)) || f (i + (k + 1)))
        rw [ih (i + 1), show i + 1 + k = i + (k + 1) by omega, Bool.or_assoc]
    have am : ∀ (f : Nat → Bool) k i, anyF f k i = true → ∃ j, i ≤ j ∧ j < i + k ∧ f j = true := by
      intro f k
      induction k with
      | zero => intro i e; cases e
      | succ k ih =>
        intro i e
        have e' : (f i || anyF f k (i + 1)) = true := e
        cases c : f i with
        | true => exact ⟨i, by omega, by omega, c⟩
        | false =>
          rw [c, Bool.false_or] at e'
          obtain ⟨j, a, b, d⟩ := ih (i + 1) e'
          exact ⟨j, by omega, by omega, d⟩
    intro K
    induction K with
    | zero => intro _; exact cnt_zero (fun d => rfl) 8 0
    | succ K ih =>
      intro hK
      rw [cnt_last (atB N p) K 0, ← ih (by omega), Nat.zero_add]
      obtain ⟨-, -, -, -, g1, g2, g3, g4, -⟩ := q.way (show K < nt (N 4) by omega)
      have un : ∀ d, d < 8 → ldN N K p d → anyF (fun w => ldQ N w p d) K 0 = false := fun d hd hl => by
        cases c : anyF (fun w => ldQ N w p d) K 0 with
        | false => rfl
        | true =>
          obtain ⟨j, a, b, e⟩ := am _ _ _ c
          have e1 := wO_un q hp hd (show j < nt (N 4) by omega) (ldQ_iff.mp e)
          have e2 := wO_un q hp hd (show K < nt (N 4) by omega) hl
          rw [e1] at e2
          cases e2
          omega
      have go : ∀ d0, d0 < 8 → ldN N K p d0 → (∀ d, d < 8 → ldN N K p d → d = d0) → cntF (fun d => anyF (fun w => ldQ N w p d) (K + 1) 0) 8 0 = cntF (fun d => anyF (fun w => ldQ N w p d) K 0) 8 0 + 1 := fun d0 hd0 hl hu => by
        rw [cnt_congr (f := fun d => if d = d0 then true else anyF (fun w => ldQ N w p d) K 0) 8 0 (fun d _ hd => by
          show anyF (fun w => ldQ N w p d) (K + 1) 0 = _
          rw [al, Nat.zero_add]
          by_cases c : d = d0
          · subst c
            rw [if_pos rfl, ldQ_iff.mpr hl, Bool.or_true]
          · rw [if_neg c, ldQ_no (fun z => c (hu d (by omega) z)), Bool.or_false])]
        rw [cnt_add (f := fun d => anyF (fun w => ldQ N w p d) K 0) (un d0 hd0 hl) (if_pos rfl) (fun d hd => if_neg hd) 8 0, if_pos (by omega)]
      by_cases c1 : wA N K = p
      · have : atB N p K = true := by unfold atB; simp [c1]
        rw [this, if_pos rfl]
        exact go (wD N K) g4 (Or.inl ⟨c1, rfl⟩) (fun d hd hl => by unfold ldN at hl; omega)
      · by_cases c2 : wB N K = p
        · have : atB N p K = true := by unfold atB; simp [c2]
          rw [this, if_pos rfl]
          exact go ((wD N K + 4) % 8) (Nat.mod_lt _ (by decide)) (Or.inr ⟨c2, rfl⟩) (fun d hd hl => by unfold ldN at hl; omega)
        · have : atB N p K = false := by unfold atB; simp [c1, c2]
          rw [this]
          refine (cnt_congr 8 0 (fun d _ hd => ?_) : _ = cntF (fun d => anyF (fun w => ldQ N w p d) K 0) 8 0)
          show anyF (fun w => ldQ N w p d) (K + 1) 0 = _
          rw [al, Nat.zero_add, ldQ_no (fun z => by unfold ldN at z; omega), Bool.or_false]
  unfold wcN
  rw [← key (nt (N 4)) (Nat.le_refl _)]
  refine cnt_congr 8 0 (fun d _ hd => ?_)
  have am : ∀ (f : Nat → Bool) k i j, i ≤ j → j < i + k → f j = true → anyF f k i = true := by
    intro f k
    induction k with
    | zero => intro i j a b; omega
    | succ k ih =>
      intro i j a b e
      show (f i || anyF f k (i + 1)) = true
      by_cases c : i = j
      · rw [c, e, Bool.true_or]
      · rw [ih (i + 1) j (by omega) (by omega) e, Bool.or_true]
  have am2 : ∀ (f : Nat → Bool) k i, anyF f k i = true → ∃ j, i ≤ j ∧ j < i + k ∧ f j = true := by
    intro f k
    induction k with
    | zero => intro i e; cases e
    | succ k ih =>
      intro i e
      have e' : (f i || anyF f k (i + 1)) = true := e
      cases c : f i with
      | true => exact ⟨i, by omega, by omega, c⟩
      | false =>
        rw [c, Bool.false_or] at e'
        obtain ⟨j, a, b, d⟩ := ih (i + 1) e'
        exact ⟨j, by omega, by omega, d⟩
  show (wO N p d).isSome = anyF (fun w => ldQ N w p d) (nt (N 4)) 0
  cases c : wO N p d with
  | some w =>
    rw [am (fun w => ldQ N w p d) _ _ w (by omega) (by have := wO_lt c; omega) (ldQ_iff.mpr (wO_ld q hp (by omega) c))]
    rfl
  | none =>
    cases c2 : anyF (fun w => ldQ N w p d) (nt (N 4)) 0 with
    | false => rfl
    | true =>
      obtain ⟨j, a, b, e⟩ := am2 _ _ _ c2
      have := wO_un q hp (show d < 8 by omega) (show j < nt (N 4) by omega) (ldQ_iff.mp e)
      rw [this] at c
      cases c
theorem cnt_le (f : Nat → Bool) : ∀ k i, cntF f k i ≤ k
  | 0, _ => Nat.le_refl _
  | k + 1, i => by
    unfold cntF
    have := cnt_le f k (i + 1)
    split <;> omega
/-- a name goes on at a place -/
def gsB (N : Nat → Int32) (nm p s : Nat) : Bool := decide (sP N s = p) && anyF (onB N s nm) (sR N s) 0
def goB (N : Nat → Int32) (nm p : Nat) : Bool := anyF (thB N nm p) (nt (N 5)) 0 || anyF (gsB N nm p) (nt (N 6)) 0
theorem isDropped_eq {h : PH} {N : Nat → Int32} (q : Hs h 0 N) {nm p : Nat} (hn : nm < 14) (hp : p < 12) : X2_isDropped 1 (nI nm) (nI p) h = some (some (.inl (b2 (decide (3 ≤ wcN N p) && !goB N nm p))), h) := by
  obtain ⟨S, hS, h14, hSn, hSi, h75⟩ := q.signs
  have a := q.1
  have n12 := q.n12
  have hw8 : wcN N p ≤ 8 := by rw [← wc_eq q hp]; exact cnt_le _ _ _
  have key : ∀ k s, s + k = S → ∃ n, X2_isDropped_fam n 1 (nI nm) (nI p) (nI s) h = some (some (.inl (b2 (!anyF (gsB N nm p) k s))), h) := by
    intro k
    induction k with
    | zero =>
      intro s e
      refine ⟨1, ?_⟩
      show X2_isDropped_g22 (X2_isDropped_fam 0) 1 (nI nm) (nI p) (nI s) h = _
      unfold X2_isDropped_g22 X2_isDropped_f22
      rw [nnE rfl, h75, if_neg (nI_nlt (by omega) (by omega)), bz_ok (Or.inr rfl)]
      rfl
    | succ k ih =>
      intro s e
      obtain ⟨n, hn'⟩ := ih (s + 1) (by omega)
      have hs : s < nt (N 6) := by omega
      obtain ⟨f1, -⟩ := q.signF hs
      obtain ⟨-, e2, -, -, -, e6, -⟩ := q.sign hs
      rw [Nat.mul_zero, Nat.zero_add] at f1
      refine ⟨n + 1, ?_⟩
      show X2_isDropped_g22 (X2_isDropped_fam n) 1 (nI nm) (nI p) (nI s) h = _
      unfold X2_isDropped_g22 X2_isDropped_f22 anyF gsB
      rw [nnE rfl, h75, if_pos (nI_lt (by omega) (by omega)), nnE rfl, nnE (sh_68 a 0 (by decide)), ixE (ln_18 a 0 (by decide)) rfl e6 (by decide), sh_1152_0 a s e6, nnE rfl, f1]
      have nx : X2_isDropped_fam n 1 (nI nm) (nI p) (nI s + 1) h = some (some (.inl (b2 (!anyF (gsB N nm p) k (s + 1)))), h) := by
        rw [nI_1]
        exact hn'
      by_cases c : sP N s = p
      · rw [if_pos (by rw [c]), goesOnAt_eq q hs hn, cI_some]
        cases c2 : anyF (onB N s nm) (sR N s) 0 with
        | true =>
          rw [if_neg b2t, bz_ok (Or.inl rfl)]
          simp [c, b2]
        | false =>
          rw [if_pos b2f]
          simp only [c, decide_true, Bool.and_false, Bool.false_or]
          exact nx
      · rw [if_neg (fun z => c ((nI_eq (by omega) (by omega)).mp z))]
        simp only [c, decide_false, Bool.false_and, Bool.false_or]
        exact nx
  unfold goB
  by_cases c : 3 ≤ wcN N p
  · rw [decide_eq_true c, Bool.true_and]
    cases c2 : anyF (thB N nm p) (nt (N 5)) 0 with
    | true =>
      refine X2_isDropped_iff.mpr ⟨0, ?_⟩
      unfold X2_isDropped_g0 X2_isDropped_f0
      rw [nnE rfl, waysFrom_eq q hp, cI_some, wc_eq q hp, if_neg (show ¬ nI (wcN N p) < 3 from nI_nlt (b := 3) c (by omega)), isThere_eq q hn hp, cI_some, c2, if_neg b2t, bz_ok (Or.inl rfl)]
      rfl
    | false =>
      obtain ⟨n, hn'⟩ := key S 0 (by omega)
      refine X2_isDropped_iff.mpr ⟨n, ?_⟩
      unfold X2_isDropped_g0 X2_isDropped_f0
      rw [nnE rfl, waysFrom_eq q hp, cI_some, wc_eq q hp, if_neg (show ¬ nI (wcN N p) < 3 from nI_nlt (b := 3) c (by omega)), isThere_eq q hn hp, cI_some, c2, if_pos b2f, Bool.false_or, hSn]
      exact hn'
  · rw [decide_eq_false c, Bool.false_and]
    refine X2_isDropped_iff.mpr ⟨0, ?_⟩
    unfold X2_isDropped_g0 X2_isDropped_f0
    rw [nnE rfl, waysFrom_eq q hp, cI_some, wc_eq q hp, if_pos (show nI (wcN N p) < 3 from nI_lt (b := 3) (by omega) (by decide)), bz_ok (Or.inl rfl)]
    rfl
/-- rows of a sign that quarrel -/
def qrB (N : Nat → Int32) (t nm ar : Nat) (r : Nat) : Bool := decide (nmN N t r = nm) && !decide (sA N t r = ar)
def qsB (N : Nat → Int32) (p nm ar : Nat) (t : Nat) : Bool := decide (sP N t = p) && anyF (qrB N t nm ar) (sR N t) 0
def quB (N : Nat → Int32) (s r : Nat) : Bool := anyF (qsB N (sP N s) (nmN N s r) (sA N s r)) s 0 || anyF (qrB N s (nmN N s r) (sA N s r)) r 0
theorem quarrels6_eq {h : PH} {N : Nat → Int32} (q : Hs h 0 N) {t nm ar L : Nat} (ht : t < nt (N 6)) (hn : nm < 14) (ha : ar < 8) (hL : L ≤ sR N t) : X6_quarrels t (nI nm) (nI ar) (nI L) h = some (some (.inl (b2 (anyF (qrB N t nm ar) L 0))), h) := by
  obtain ⟨-, -, f3, -⟩ := q.signF ht
  obtain ⟨-, -, -, e4, -, e6, -⟩ := q.sign ht
  rw [Nat.mul_zero, Nat.zero_add] at f3
  have a := q.1
  have key : ∀ k r, r + k = L → ∃ n, X6_quarrels_fam n t (nI nm) (nI ar) (nI L) (nI r) h = some (some (.inl (b2 (anyF (qrB N t nm ar) k r))), h) := by
    intro k
    induction k with
    | zero =>
      intro r e
      refine ⟨1, ?_⟩
      show X6_quarrels_g3 (X6_quarrels_fam 0) t (nI nm) (nI ar) (nI L) (nI r) h = _
      unfold X6_quarrels_g3 X6_quarrels_f3
      rw [if_neg (nI_nlt (by omega) (by omega)), bz_ok (Or.inl rfl)]
      rfl
    | succ k ih =>
      intro r e
      obtain ⟨n, hn'⟩ := ih (r + 1) (by omega)
      have hr : r < sR N t := by omega
      obtain ⟨g1, g2, -, g4, -⟩ := q.row ht hr
      obtain ⟨m1, m2⟩ := q.nm ht hr
      rw [Nat.mul_zero, Nat.zero_add] at g1 g2
      rw [m1] at g1
      refine ⟨n + 1, ?_⟩
      show X6_quarrels_g3 (X6_quarrels_fam n) t (nI nm) (nI ar) (nI L) (nI r) h = _
      unfold X6_quarrels_g3 X6_quarrels_f3 anyF qrB
      have nx : X6_quarrels_fam n t (nI nm) (nI ar) (nI L) (nI r + 1) h = some (some (.inl (b2 (anyF (qrB N t nm ar) k (r + 1)))), h) := by
        rw [nI_1]
        exact hn'
      rw [if_pos (nI_lt (by omega) (by omega)), f3, if_pos (nI_lt (by omega) (by omega)), nnE (sh_325 a t (by omega)), ixE (ln_27 a t (by omega)) rfl (show r < 6 by omega) (by decide), g1]
      by_cases c1 : nmN N t r = nm
      · rw [if_pos (by rw [c1]), nnE (sh_326 a t (by omega)), ixE (ln_28 a t (by omega)) rfl (show r < 6 by omega) (by decide), g2]
        by_cases c2 : sA N t r = ar
        · rw [if_pos (by rw [c2])]
          simp only [c1, c2, decide_true, Bool.not_true, Bool.and_false, Bool.false_or]
          exact nx
        · rw [if_neg (fun z => c2 ((nI_eq (by omega) (by omega)).mp z)), bz_ok (Or.inr rfl)]
          simp [c1, c2, b2]
      · rw [if_neg (fun z => c1 ((nI_eq (by omega) (by omega)).mp z))]
        simp only [c1, decide_false, Bool.false_and, Bool.false_or]
        exact nx
  obtain ⟨n, hn'⟩ := key L 0 (by omega)
  exact X6_quarrels_iff.mpr ⟨n, hn'⟩
theorem isQuarrel_eq {h : PH} {N : Nat → Int32} (q : Hs h 0 N) {s r : Nat} (hs : s < nt (N 6)) (hr : r < sR N s) : X2_isQuarrel 1 (nI s) (nI r) h = some (some (.inl (b2 (quB N s r))), h) := by
  obtain ⟨f1, -⟩ := q.signF hs
  obtain ⟨-, e2, -, e4, -, e6, -⟩ := q.sign hs
  obtain ⟨S, hS, h14, hSn, hSi, h75⟩ := q.signs
  have n12 := q.n12
  obtain ⟨g1, g2, -, g4, -⟩ := q.row hs hr
  obtain ⟨m1, m2⟩ := q.nm hs hr
  rw [Nat.mul_zero, Nat.zero_add] at f1 g1 g2
  rw [m1] at g1
  have a := q.1
  have key : ∀ k t, t + k = s → ∃ n, X2_isQuarrel_fam n 1 (nI s) (nI r) (s + 1) (nI t) h = some (some (.inl (b2 (anyF (qsB N (sP N s) (nmN N s r) (sA N s r)) k t || anyF (qrB N s (nmN N s r) (sA N s r)) r 0))), h) := by
    intro k
    induction k with
    | zero =>
      intro t e
      refine ⟨1, ?_⟩
      show X2_isQuarrel_g10 (X2_isQuarrel_fam 0) 1 (nI s) (nI r) (s + 1) (nI t) h = _
      unfold X2_isQuarrel_g10 X2_isQuarrel_f10
      rw [if_neg (nI_nlt (by omega) (by omega)), nnE rfl, nnE (sh_325 a s (by omega)), ixE (ln_27 a s (by omega)) rfl (show r < 6 by omega) (by decide), nnE rfl, nnE (sh_326 a s (by omega)), ixE (ln_28 a s (by omega)) rfl (show r < 6 by omega) (by decide), nnE rfl, g1, g2, quarrels6_eq q hs m2 g4 (by omega), cI_some, bz_ok (b2_01 _)]
      rfl
    | succ k ih =>
      intro t e
      obtain ⟨n, hn'⟩ := ih (t + 1) (by omega)
      have ht : t < nt (N 6) := by omega
      obtain ⟨t1, -, t3, -⟩ := q.signF ht
      obtain ⟨-, u2, -, u4, -, u6, -⟩ := q.sign ht
      rw [Nat.mul_zero, Nat.zero_add] at t1 t3
      refine ⟨n + 1, ?_⟩
      show X2_isQuarrel_g10 (X2_isQuarrel_fam n) 1 (nI s) (nI r) (s + 1) (nI t) h = _
      unfold X2_isQuarrel_g10 X2_isQuarrel_f10
      rw [show anyF (qsB N (sP N s) (nmN N s r) (sA N s r)) (k + 1) t = (qsB N (sP N s) (nmN N s r) (sA N s r) t || anyF (qsB N (sP N s) (nmN N s r) (sA N s r)) k (t + 1)) from rfl]
      have nx : X2_isQuarrel_fam n 1 (nI s) (nI r) (s + 1) (nI t + 1) h = some (some (.inl (b2 (anyF (qsB N (sP N s) (nmN N s r) (sA N s r)) k (t + 1) || anyF (qrB N s (nmN N s r) (sA N s r)) r 0))), h) := by
        rw [nI_1]
        exact hn'
      rw [if_pos (nI_lt (by omega) (by omega)), nnE rfl, nnE (sh_68 a 0 (by decide)), ixE (ln_18 a 0 (by decide)) rfl u6 (by decide), sh_1152_0 a t u6, nnE rfl, nnE rfl, t1, f1]
      by_cases c1 : sP N t = sP N s
      · rw [if_pos (by rw [c1]), nnE rfl, nnE (sh_325 a s (by omega)), ixE (ln_27 a s (by omega)) rfl (show r < 6 by omega) (by decide), nnE rfl, nnE (sh_326 a s (by omega)), ixE (ln_28 a s (by omega)) rfl (show r < 6 by omega) (by decide), nnE rfl, nnE rfl, g1, g2, t3, quarrels6_eq q ht m2 g4 (Nat.le_refl _), cI_some]
        cases c2 : anyF (qrB N t (nmN N s r) (sA N s r)) (sR N t) 0 with
        | true =>
          rw [if_neg b2t, bz_ok (Or.inr rfl)]
          have : qsB N (sP N s) (nmN N s r) (sA N s r) t = true := by unfold qsB; rw [c2, decide_eq_true c1]; rfl
          rw [this]
          rfl
        | false =>
          rw [if_pos b2f]
          have : qsB N (sP N s) (nmN N s r) (sA N s r) t = false := by unfold qsB; rw [c2, Bool.and_false]
          rw [this, Bool.false_or]
          exact nx
      · rw [if_neg (fun z => c1 ((nI_eq (by omega) (by omega)).mp z))]
        have : qsB N (sP N s) (nmN N s r) (sA N s r) t = false := by unfold qsB; rw [decide_eq_false c1, Bool.false_and]
        rw [this, Bool.false_or]
        exact nx
  obtain ⟨n, hn'⟩ := key s 0 (by omega)
  refine X2_isQuarrel_iff.mpr ⟨n, ?_⟩
  unfold X2_isQuarrel_g0 X2_isQuarrel_f0
  rw [nnE rfl, nnE (sh_68 a 0 (by decide)), ixE (ln_18 a 0 (by decide)) rfl e6 (by decide), sh_1152_0 a s e6]
  exact hn'
/-- a row breaks a law -/
def brB (N : Nat → Int32) (s r k : Nat) : Bool := if k = 1 then !decide (r < nt (mostK (N (156 + 5 * s)))) else if k = 2 then quB N s r else match wO N (sP N s) (sA N s r) with
  | none => decide (k = 3)
  | some w => decide (k = 4) && (decide (3 ≤ wcN N (oe N w (sP N s))) && !goB N (nmN N s r) (oe N w (sP N s)))
theorem isBroken_eq {h : PH} {N : Nat → Int32} (q : Hs h 0 N) {s r k : Nat} (hs : s < nt (N 6)) (hr : r < sR N s) (hk : 1 ≤ k ∧ k ≤ 4) : X2_isBroken 1 (nI s) (nI r) (nI k) h = some (some (.inl (b2 (brB N s r k))), h) := by
  obtain ⟨f1, f2, -⟩ := q.signF hs
  obtain ⟨-, e2, -, e4, e5, e6, -⟩ := q.sign hs
  obtain ⟨K, hK, h20, hKn, hKi, -⟩ := q.ways
  have n12 := q.n12
  obtain ⟨g1, g2, -, g4, -⟩ := q.row hs hr
  obtain ⟨m1, m2⟩ := q.nm hs hr
  rw [Nat.mul_zero, Nat.zero_add] at f1 f2 g1 g2
  rw [m1] at g1
  have a := q.1
  obtain ⟨M, hM, hM1, hM6⟩ := most_le e5
  have e1 : hI h 960 0 (8 * sP N s + sA N s r) = oI (wO N (sP N s) (sA N s r)) := by
    rw [q.2.2.1.2.2.1.lead hK h20 (by omega) g4, wfF_oI]
    unfold wO
    rw [hKn]
  unfold X2_isBroken X2_isBroken_g0 X2_isBroken_f0
  rw [nnE rfl, nnE (sh_68 a 0 (by decide)), ixE (ln_18 a 0 (by decide)) rfl e6 (by decide), sh_1152_0 a s e6, nnE rfl, nnE rfl, nnE (sh_326 a s (by omega)), ixE (ln_28 a s (by omega)) rfl (show r < 6 by omega) (by decide), nnE rfl, f1, g2, X1_wayFrom_eq a (by decide) (by omega) g4, cI_some, e1]
  have hk' : k = 1 ∨ k = 2 ∨ k = 3 ∨ k = 4 := by omega
  rcases hk' with rfl | rfl | rfl | rfl
  · have eb : brB N s r 1 = !decide (r < M) := by
      unfold brB
      rw [if_pos rfl, hM, nt_nI (by omega)]
    rw [if_pos (by decide), nnE rfl, f2, mo3_eq e5, cI_some, hM, eb]
    by_cases c : r < M
    · rw [if_pos (nI_lt c (by omega)), bz_ok (Or.inl rfl), decide_eq_true c]
      rfl
    · rw [if_neg (nI_nlt (by omega) (by omega)), bz_ok (Or.inr rfl), decide_eq_false c]
      rfl
  · rw [if_neg (by decide), if_pos (by decide), isQuarrel_eq q hs hr, cI_some, bz_ok (b2_01 _)]
    rfl
  · rw [if_neg (by decide), if_neg (by decide), if_pos (by decide)]
    cases c : wO N (sP N s) (sA N s r) with
    | none =>
      have eb : brB N s r 3 = true := by
        unfold brB
        rw [c]
        rfl
      rw [if_pos (show oI none = -1 from rfl), bz_ok (Or.inr rfl), eb]
      rfl
    | some w =>
      have eb : brB N s r 3 = false := by
        unfold brB
        rw [c]
        rfl
      have hw := wO_lt c
      rw [if_neg (oI_ne (t := w) (by omega)), bz_ok (Or.inl rfl), eb]
      rfl
  · rw [if_neg (by decide), if_neg (by decide), if_neg (by decide), if_pos (by decide)]
    cases c : wO N (sP N s) (sA N s r) with
    | none =>
      have eb : brB N s r 4 = false := by
        unfold brB
        rw [c]
        rfl
      rw [if_pos (show oI none = -1 from rfl), bz_ok (Or.inl rfl), eb]
      rfl
    | some w =>
      have eb : brB N s r 4 = (true && (decide (3 ≤ wcN N (oe N w (sP N s))) && !goB N (nmN N s r) (oe N w (sP N s)))) := by
        unfold brB
        rw [c]
        rfl
      rw [eb]
      have hw := wO_lt c
      have hoe := q.oeL hw (sP N s)
      have hend := endFrom_eq q hw (show sP N s < 12 by omega)
      rw [Nat.mul_zero, Nat.zero_add] at hend
      rw [if_neg (oI_ne (t := w) (by omega)), nnE rfl, nnE (sh_325 a s (by omega)), ixE (ln_27 a s (by omega)) rfl (show r < 6 by omega) (by decide), nnE rfl, nnE (sh_64 a 0 (by decide)), ixE (x := oI (some w)) (ln_14 a 0 (by decide)) rfl (show w < 20 by omega) (by decide), nnE rfl, sh_896_0 a w (by omega), nnE rfl, f1, hend, cI_some, g1, isDropped_eq q m2 (by omega), cI_some]
      rw [Bool.true_and]
      cases (decide (3 ≤ wcN N (oe N w (sP N s))) && !goB N (nmN N s r) (oe N w (sP N s))) with
      | true => rw [if_neg b2t, bz_ok (Or.inr rfl)]; rfl
      | false => rw [if_pos b2f, bz_ok (Or.inl rfl)]; rfl
