/-! rows of signs, both ways -/
def sP (N : Nat → Int32) (s : Nat) : Nat := nt (N (155 + 5 * s))
def sR (N : Nat → Int32) (s : Nat) : Nat := nt (N (157 + 5 * s))
def sA (N : Nat → Int32) (s r : Nat) : Nat := nt (N (226 + 12 * s + 2 * r))
theorem Hs.sign {h : PH} {b : Nat} {N : Nat → Int32} (q : Hs h b N) {s : Nat} (hs : s < nt (N 6)) : N (155 + 5 * s) = nI (sP N s) ∧ sP N s < nt (N 3) ∧ N (157 + 5 * s) = nI (sR N s) ∧ sR N s ≤ 6 ∧ rgI (N (156 + 5 * s)) 0 5 ∧ s < 14 ∧ rgI (N (158 + 5 * s)) 0 9999 := by
  obtain ⟨K, hK, h14, hKn, hKi, -⟩ := q.signs
  obtain ⟨L, hL, h12, hLn, hLi, -⟩ := q.places
  obtain ⟨-, -, -, -, -, r6, r7, r8, r9, -⟩ := q.2.2.1.2.2.2.2.1 s (by omega)
  obtain ⟨r8a, r8b⟩ := r8
  refine ⟨nI_nt r6.1, ?_, nI_nt r8a, ?_, r7, by omega, r9⟩
  · unfold sP nt at *
    omega
  · unfold sR nt
    omega
theorem Hs.signF {h : PH} {b : Nat} {N : Nat → Int32} (q : Hs h b N) {s : Nat} (hs : s < nt (N 6)) : hI h 320 (14 * b + s) 0 = nI (sP N s) ∧ hI h 321 (14 * b + s) 0 = N (156 + 5 * s) ∧ hI h 324 (14 * b + s) 0 = nI (sR N s) ∧ hI h 323 (14 * b + s) 0 = N (158 + 5 * s) ∧ hI h 322 (14 * b + s) 0 = (if N (156 + 5 * s) = 5 then N (159 + 5 * s) else -1000000005) := by
  obtain ⟨K, hK, h14, hKn, hKi, -⟩ := q.signs
  obtain ⟨r1, r2, r3, r4, r5, -⟩ := q.2.2.1.2.2.2.2.1 s (by omega)
  obtain ⟨e1, -, e3, -⟩ := q.sign hs
  exact ⟨r1.trans e1, r2, r3.trans e3, r4, r5⟩
theorem Hs.row {h : PH} {b : Nat} {N : Nat → Int32} (q : Hs h b N) {s r : Nat} (hs : s < nt (N 6)) (hr : r < sR N s) : hI h 1728 (14 * b + s) r = N (225 + 12 * s + 2 * r) ∧ hI h 1792 (14 * b + s) r = nI (sA N s r) ∧ N (226 + 12 * s + 2 * r) = nI (sA N s r) ∧ sA N s r < 8 ∧ rgI (N (225 + 12 * s + 2 * r)) 0 13 := by
  obtain ⟨K, hK, h14, hKn, hKi, -⟩ := q.signs
  obtain ⟨-, -, -, -, -, -, -, r8, -, r10⟩ := q.2.2.1.2.2.2.2.1 s (by omega)
  obtain ⟨r8a, r8b⟩ := r8
  obtain ⟨d1, d2, d3, d4⟩ := r10 r (by unfold sR nt at hr; omega)
  obtain ⟨d4a, d4b⟩ := d4
  have e : N (226 + 12 * s + 2 * r) = nI (sA N s r) := nI_nt d4a
  refine ⟨d1, d2.trans e, e, ?_, d3⟩
  unfold sA nt
  omega
def frF (N : Nat → Int32) (s : Nat) (name : Int32) : Nat → Nat → Option Nat
  | 0, _ => none
  | k + 1, r => if N (225 + 12 * s + 2 * r) = name then some r else frF N s name k (r + 1)
theorem frF_s (N : Nat → Int32) (s : Nat) (name : Int32) (k r : Nat) : frF N s name (k + 1) r = if N (225 + 12 * s + 2 * r) = name then some r else frF N s name k (r + 1) := rfl
theorem b2f : b2 false = 0 := rfl
theorem b2t : ¬ b2 true = 0 := by decide
theorem oI_pos {t : Nat} (ht : t < 2 ^ 31) : ¬ oI (some t) < 0 := nI_pos ht
theorem oI_ne {t : Nat} (ht : t < 2 ^ 31) : ¬ oI (some t) = -1 := fun e => by
  have := (oI_m1 (o := some t) (fun w hw => by cases hw; exact ht)).mp e
  cases this
/-- the first row of a name -/
def frO (N : Nat → Int32) (s : Nat) (name : Int32) : Option Nat := frF N s name (sR N s) 0
theorem frF_lt {N : Nat → Int32} {s : Nat} {name : Int32} : ∀ {k r v : Nat}, frF N s name k r = some v → r ≤ v ∧ v < r + k
  | 0, r, v, e => by cases e
  | k + 1, r, v, e => by
    unfold frF at e
    split at e
    · cases e
      omega
    · have := frF_lt e
      omega
theorem frO_lt {N : Nat → Int32} {s : Nat} {name : Int32} {v : Nat} (e : frO N s name = some v) : v < sR N s := by
  have := (frF_lt e).2
  omega
theorem firstRowOf_eq {h : PH} {b : Nat} {N : Nat → Int32} (q : Hs h b N) {s : Nat} (hs : s < nt (N 6)) (name : Int32) : X6_firstRowOf (14 * b + s) name h = some (some (.inl (oI (frO N s name))), h) := by
  have a := q.1
  have hb := q.2.1
  obtain ⟨e1, e2, e3, e4, e5, e6, -⟩ := q.sign hs
  obtain ⟨f1, f2, f3, f4, f5⟩ := q.signF hs
  have key : ∀ k r, r + k = sR N s → ∃ n, X6_firstRowOf_fam n (14 * b + s) name (nI r) h = some (some (.inl (oI (frF N s name k r))), h) := by
    intro k
    induction k with
    | zero =>
      intro r e
      have hlt : ¬ nI r < nI (sR N s) := nI_nlt (by omega) (by omega)
      refine ⟨1, ?_⟩
      show X6_firstRowOf_g2 _ (14 * b + s) name (nI r) h = _
      unfold X6_firstRowOf_g2 X6_firstRowOf_f2
      rw [f3, if_neg hlt]
      rfl
    | succ k ih =>
      intro r e
      obtain ⟨n, hn⟩ := ih (r + 1) (by omega)
      have hlt : nI r < nI (sR N s) := nI_lt (by omega) (by omega)
      obtain ⟨r1, -⟩ := q.row hs (r := r) (by omega)
      refine ⟨n + 1, ?_⟩
      show X6_firstRowOf_g2 (X6_firstRowOf_fam n) (14 * b + s) name (nI r) h = _
      unfold X6_firstRowOf_g2 X6_firstRowOf_f2
      rw [f3, if_pos hlt, nnE (sh_325 a _ (show 14 * b + s < 28 by omega)), ixE (ln_27 a _ (show 14 * b + s < 28 by omega)) rfl (show r < 6 by omega) (by decide), r1, nI_1, hn]
      rw [frF_s]
      split <;> rfl
  obtain ⟨n, hn⟩ := key (sR N s) 0 (by omega)
  exact X6_firstRowOf_iff.mpr ⟨n, hn⟩
theorem rowsOf_sR {h g : PH} {b : Nat} {N : Nat → Int32} (a : SH h) (hN : hI h 2624 0 = N) (q : Hs g b N) {s : Nat} (hs : s < nt (N 6)) : X12_rowsOf 0 (nI s) h = some (some (.inl (nI (sR N s))), h) := by
  obtain ⟨e1, e2, e3, e4, e5, e6, -⟩ := q.sign hs
  rw [X12_rowsOf_eq a e6, hN, show 155 + 5 * s + 2 = 157 + 5 * s by omega, e3]
theorem of5_at {h : PH} {N : Nat → Int32} (a : SH h) (hN : hI h 2624 0 = N) {s k j : Nat} (hs : s < 14) (hk : k < 5) (hj : 155 + 5 * s + k = j) : X12_of5 0 (nI s) (nI k) h = some (some (.inl (N j)), h) := by
  rw [X12_of5_eq a hs hk, hN, hj]
theorem rowOf_eq {h g : PH} {b : Nat} {N : Nat → Int32} (a : SH h) (hN : hI h 2624 0 = N) (q : Hs g b N) {s : Nat} (hs : s < nt (N 6)) (name : Int32) : X12_rowOf 0 (nI s) name h = some (some (.inl (oI (frO N s name))), h) := by
  obtain ⟨e1, e2, e3, e4, e5, e6, -⟩ := q.sign hs
  have key : ∀ k r, r + k = sR N s → ∃ n, X12_rowOf_fam n 0 (nI s) name (nI r) h = some (some (.inl (oI (frF N s name k r))), h) := by
    intro k
    induction k with
    | zero =>
      intro r e
      have hlt : ¬ nI r < nI (sR N s) := nI_nlt (by omega) (by omega)
      refine ⟨1, ?_⟩
      show X12_rowOf_g2 _ 0 (nI s) name (nI r) h = _
      unfold X12_rowOf_g2 X12_rowOf_f2
      rw [rowsOf_sR a hN q hs, cI_some, if_neg hlt]
      rfl
    | succ k ih =>
      intro r e
      obtain ⟨n, hn⟩ := ih (r + 1) (by omega)
      have hlt : nI r < nI (sR N s) := nI_lt (by omega) (by omega)
      refine ⟨n + 1, ?_⟩
      show X12_rowOf_g2 (X12_rowOf_fam n) 0 (nI s) name (nI r) h = _
      unfold X12_rowOf_g2 X12_rowOf_f2
      rw [rowsOf_sR a hN q hs, cI_some, if_pos hlt, X12_nameAt_eq a e6 (show r < 6 by omega), cI_some, hN, nI_1, hn]
      rw [frF_s]
      split <;> rfl
  obtain ⟨n, hn⟩ := key (sR N s) 0 (by omega)
  exact X12_rowOf_iff.mpr ⟨n, hn⟩
/-! which sign is read first, the model's way -/
def sgC (N : Nat → Int32) (x : Int32) (p : Nat) (name : Int32) (s : Nat) : Bool := decide (sP N s = p) && readB N x s && (frO N s name).isSome
def sgB (N : Nat → Int32) (s : Nat) : Option Nat → Bool
  | none => true
  | some t => decide (seenK (N (156 + 5 * t)) < seenK (N (156 + 5 * s)))
def sgF (N : Nat → Int32) (x : Int32) (p : Nat) (name : Int32) : Nat → Nat → Option Nat → Option Nat
  | 0, _, best => best
  | k + 1, s, best => sgF N x p name k (s + 1) (bif sgC N x p name s && sgB N s best then some s else best)
def sgO (N : Nat → Int32) (x : Int32) (p : Nat) (name : Int32) : Option Nat := sgF N x p name (nt (N 6)) 0 none
section
variable {h g : PH} {b : Nat} {N : Nat → Int32} {x : Int32} {p : Nat} {name : Int32} {s : Nat} {G : Nat → Int32 → Int32 → Int32 → Int32 → PH → Option Rs}
theorem sg_53 (a : SH h) (hN : hI h 2624 0 = N) (hs : s < 14) {best : Option Nat} (hb : ∀ t, best = some t → t < 14) (c : Bool) : X12_signWith_g53 G 0 (nI p) name (oI best) (nI s) (b2 c) h = G 0 (nI p) name (oI (bif c && sgB N s best then some s else best)) (nI (s + 1)) h := by
  unfold X12_signWith_g53 X12_signWith_f53
  cases c with
  | false =>
    rw [if_pos b2f]
    unfold X12_signWith_g91 X12_signWith_f91 X12_signWith_g92 X12_signWith_f92
    rw [nI_1]
    rfl
  | true =>
    rw [if_neg b2t]
    cases best with
    | none =>
      rw [if_pos (by decide)]
      unfold X12_signWith_g86 X12_signWith_f86 X12_signWith_g92 X12_signWith_f92
      rw [nI_1]
      rfl
    | some t =>
      have ht := hb t rfl
      rw [if_neg (oI_pos (show t < 2 ^ 31 by omega)), show (1 : Int32) = nI 1 from rfl, of5_at a hN hs (by decide) (show 155 + 5 * s + 1 = 156 + 5 * s by omega), cI_some, X12_seenBy_eq, cI_some]
      show cI (X12_of5 0 (nI t) (nI 1) h) _ = _
      rw [of5_at a hN ht (by decide) (show 155 + 5 * t + 1 = 156 + 5 * t by omega), cI_some, X12_seenBy_eq, cI_some]
      by_cases d : seenK (N (156 + 5 * t)) < seenK (N (156 + 5 * s))
      · rw [if_pos d]
        unfold X12_signWith_g86 X12_signWith_f86 X12_signWith_g92 X12_signWith_f92
        rw [nI_1]
        simp [sgB, d, oI]
      · rw [if_neg d]
        unfold X12_signWith_g91 X12_signWith_f91 X12_signWith_g92 X12_signWith_f92
        rw [nI_1]
        simp [sgB, d]
theorem sg_turn (a : SH h) (hN : hI h 2624 0 = N) (q : Hs g b N) (hs : s < nt (N 6)) (hp : p < 12) (hrd : hI h 3456 0 s = b2 (readB N x s)) {best : Option Nat} (hb : ∀ t, best = some t → t < 14) : X12_signWith_g5 G 0 (nI p) name (oI best) (nI s) h = G 0 (nI p) name (oI (bif sgC N x p name s && sgB N s best then some s else best)) (nI (s + 1)) h := by
  obtain ⟨K, hK, h14, hKn, hKi, -⟩ := q.signs
  obtain ⟨e1, e2, e3, e4, e5, e6, -⟩ := q.sign hs
  have n12 := q.n12
  have hlt : nI s < N 6 := by rw [hK]; exact nI_lt (by omega) (by omega)
  have o0 : X12_of5 0 (nI s) 0 h = some (some (.inl (N (155 + 5 * s))), h) := of5_at (k := 0) a hN e6 (by decide) (by omega)
  unfold X12_signWith_g5 X12_signWith_f5
  rw [nnE (sh_704 a), ixE (ln_41 a) (show (6 : Int32) = nI 6 from rfl) (by decide) (by decide), hN, if_pos hlt, o0, cI_some, e1]
  unfold sgC
  by_cases c : sP N s = p
  · rw [if_pos (by rw [c]), nnE (sh_729 a), ixE (ln_54 a) rfl e6 (by decide), hrd, decide_eq_true c]
    cases cr : readB N x s with
    | false =>
      rw [if_pos b2f]
      exact sg_53 a hN e6 hb false
    | true =>
      rw [if_neg b2t, rowOf_eq a hN q hs, cI_some]
      cases cf : frO N s name with
      | none =>
        rw [if_pos (by decide)]
        exact sg_53 a hN e6 hb false
      | some r =>
        have hr := frO_lt cf
        rw [if_neg (oI_pos (show r < 2 ^ 31 by omega))]
        exact sg_53 a hN e6 hb true
  · rw [if_neg (fun z => c ((nI_eq (by omega) (by omega)).mp z)), decide_eq_false c]
    exact sg_53 a hN e6 hb false
end
theorem signWith_eq {h g : PH} {b : Nat} {N : Nat → Int32} {x : Int32} (a : SH h) (hN : hI h 2624 0 = N) (q : Hs g b N) {p : Nat} (hp : p < 12) (hrd : ∀ s, s < nt (N 6) → hI h 3456 0 s = b2 (readB N x s)) (name : Int32) : X12_signWith 0 (nI p) name h = some (some (.inl (oI (sgO N x p name))), h) := by
  obtain ⟨K, hK, h14, hKn, hKi, -⟩ := q.signs
  have key : ∀ k s best, s + k = nt (N 6) → (∀ t, best = some t → t < 14) → ∃ n, X12_signWith_fam n 0 (nI p) name (oI best) (nI s) h = some (some (.inl (oI (sgF N x p name k s best))), h) := by
    intro k
    induction k with
    | zero =>
      intro s best e hb
      have hlt : ¬ nI s < N 6 := by rw [hK]; exact nI_nlt (by omega) (by omega)
      refine ⟨1, ?_⟩
      show X12_signWith_g5 _ 0 (nI p) name (oI best) (nI s) h = _
      unfold X12_signWith_g5 X12_signWith_f5
      rw [nnE (sh_704 a), ixE (ln_41 a) (show (6 : Int32) = nI 6 from rfl) (by decide) (by decide), hN, if_neg hlt]
      rfl
    | succ k ih =>
      intro s best e hb
      obtain ⟨n, hn⟩ := ih (s + 1) (bif sgC N x p name s && sgB N s best then some s else best) (by omega) (fun t ht => by
        cases c : (sgC N x p name s && sgB N s best) with
        | false => rw [c] at ht; exact hb t ht
        | true => rw [c] at ht; cases ht; omega)
      exact ⟨n + 1, (sg_turn a hN q (by omega) hp (hrd s (by omega)) hb).trans hn⟩
  obtain ⟨n, hn⟩ := key (nt (N 6)) 0 none (by omega) (fun t ht => by cases ht)
  exact X12_signWith_iff.mpr ⟨n, hn⟩
