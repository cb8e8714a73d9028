/-! fewest: bits -/
theorem bit12 : ∀ a, a < 64 → ∀ b, b < 64 → ∀ p, p < 12 → ((jshr (nI (64 * a + b)) (nI p) &&& 1) = 1 ↔ (64 * a + b).testBit p = true) := by decide +kernel
theorem bitN {m p : Nat} (hm : m < 4096) (hp : p < 12) : (jshr (nI m) (nI p) &&& 1) = 1 ↔ m.testBit p = true := by
  have e := bit12 (m / 64) (by omega) (m % 64) (by omega) p hp
  rw [Nat.div_add_mod] at e
  exact e
theorem shl12 : ∀ c, c < 12 → jshl 1 (nI c) = nI (2 ^ c) := by decide +kernel
theorem nI_or (a b : Nat) : nI a ||| nI b = nI (a ||| b) := by
  apply Int32.toBitVec_inj.mp
  show BitVec.ofNat 32 a ||| BitVec.ofNat 32 b = BitVec.ofNat 32 (a ||| b)
  exact BitVec.ofNat_or.symm
def pc6 (s : Nat) : Nat := s % 2 + s / 2 % 2 + s / 4 % 2 + s / 8 % 2 + s / 16 % 2 + s / 32 % 2
def bcF (x : Int32) : Int32 :=
  let v1 := (((x - ((jushr x 1) &&& 1431655765)) &&& 858993459) + ((jushr (x - ((jushr x 1) &&& 1431655765)) 2) &&& 858993459))
  let v2 := (((v1 + (jushr v1 4)) &&& 252645135) + (jushr ((v1 + (jushr v1 4)) &&& 252645135) 8))
  ((v2 + (jushr v2 16)) &&& 63)
theorem bcF_eq : ∀ s, s < 64 → bcF (nI s) = nI (pc6 s) := by decide +kernel
theorem bitCount_eq {s : Nat} (hs : s < 64) (h : PH) : J6_bitCount_0f7a4 (nI s) h = some (some (.inl (nI (pc6 s))), h) := by
  rw [← bcF_eq s hs]
  rfl
theorem ones_s (n s k : Nat) (hk : k < 6) (v : Int32) (h : PH) : X12_ones_fam (n + 1) (nI s) v (nI k) h = X12_ones_fam n (nI s) (v + (jshr (nI s) (nI k) &&& 1)) (nI (k + 1)) h := by
  show X12_ones_g4 (X12_ones_fam n) (nI s) v (nI k) h = _
  unfold X12_ones_g4 X12_ones_f4
  rw [if_pos (show nI k < 6 from nI_lt (b := 6) hk (by decide)), nI_1]
theorem ones_e (n s : Nat) (v : Int32) (h : PH) : X12_ones_fam (n + 1) (nI s) v (nI 6) h = some (some (.inl v), h) := by
  show X12_ones_g4 (X12_ones_fam n) (nI s) v (nI 6) h = _
  unfold X12_ones_g4 X12_ones_f4
  rw [if_neg (show ¬ nI 6 < 6 from nI_nlt (b := 6) (by omega) (by omega))]
theorem ones_v : ∀ s, s < 64 → (0 : Int32) + (jshr (nI s) (nI 0) &&& 1) + (jshr (nI s) (nI 1) &&& 1) + (jshr (nI s) (nI 2) &&& 1) + (jshr (nI s) (nI 3) &&& 1) + (jshr (nI s) (nI 4) &&& 1) + (jshr (nI s) (nI 5) &&& 1) = nI (pc6 s) := by decide +kernel
theorem ones_eq {s : Nat} (hs : s < 64) (h : PH) : X12_ones (nI s) h = some (some (.inl (nI (pc6 s))), h) := by
  refine X12_ones_iff.mpr ⟨7, ?_⟩
  show X12_ones_fam 7 (nI s) 0 (nI 0) h = _
  rw [ones_s _ _ _ (by decide), ones_s _ _ _ (by decide), ones_s _ _ _ (by decide), ones_s _ _ _ (by decide), ones_s _ _ _ (by decide), ones_s _ _ _ (by decide), ones_e, ← ones_v s hs]
def cP (N : Nat → Int32) (k : Nat) : Nat := nt (N (9 + k))
theorem Hs.cho {h : PH} {b : Nat} {N : Nat → Int32} (q : Hs h b N) {k : Nat} (hk : k < nt (N 7)) : N (9 + k) = nI (cP N k) ∧ cP N k < nt (N 3) ∧ hI h 1344 b k = nI (cP N k) := by
  obtain ⟨K, e1, e2, e3, e4, -⟩ := q.chosen
  obtain ⟨Z, z1, z2, z3, z4, -⟩ := q.places
  obtain ⟨u1, u2, u3⟩ := q.2.2.1.2.2.2.2.2 k (by omega)
  have w := nI_nt u2
  refine ⟨w, ?_, u1.trans w⟩
  unfold cP nt
  omega
def ledB (N : Nat → Int32) (set : Nat) : Nat → Nat → Bool
  | 0, _ => false
  | k + 1, p => ledB N set k p || (set.testBit k && decide (cP N k = p))
def lmN (N : Nat → Int32) (set : Nat) : Nat → Nat
  | 0 => 0
  | k + 1 => lmN N set k ||| (if set.testBit k = true then 2 ^ cP N k else 0)
theorem lm_bit (N : Nat → Int32) (set p : Nat) : ∀ k, (lmN N set k).testBit p = ledB N set k p
  | 0 => Nat.zero_testBit p
  | k + 1 => by
    show (lmN N set k ||| (if set.testBit k = true then 2 ^ cP N k else 0)).testBit p = (ledB N set k p || (set.testBit k && decide (cP N k = p)))
    rw [Nat.testBit_or, lm_bit N set p k]
    congr 1
    cases set.testBit k with
    | false =>
      rw [if_neg (by decide)]
      exact Nat.zero_testBit p
    | true =>
      rw [if_pos rfl, Nat.testBit_two_pow]
      rfl
theorem lm_lt {N : Nat → Int32} {set : Nat} : ∀ {k : Nat}, (∀ j, j < k → cP N j < 12) → lmN N set k < 4096
  | 0, _ => show 0 < 4096 by decide
  | k + 1, h => by
    have i1 : lmN N set k < 2 ^ 12 := lm_lt (fun j hj => h j (by omega))
    refine Nat.or_lt_two_pow (n := 12) i1 ?_
    by_cases c : set.testBit k = true
    · rw [if_pos c]
      exact Nat.pow_lt_pow_right (by decide) (h k (by omega))
    · rw [if_neg c]
      decide
theorem led_lt {N : Nat → Int32} {set p : Nat} : ∀ {k : Nat}, ledB N set k p = true → ∃ j, j < k ∧ cP N j = p
  | 0, h => by cases h
  | k + 1, h => by
    have h : (ledB N set k p || (set.testBit k && decide (cP N k = p))) = true := h
    rw [Bool.or_eq_true] at h
    rcases h with c | c
    · obtain ⟨j, h1, h2⟩ := led_lt c
      exact ⟨j, by omega, h2⟩
    · rw [Bool.and_eq_true] at c
      exact ⟨k, by omega, of_decide_eq_true c.2⟩
/-- the signs that are thought of, with a set of the chosen places -/
def thS (N : Nat → Int32) (hd : Nat → Option Nat) (set k p : Nat) : Option Nat := bif ledB N set k p then hd p else none
/-- whether all arrive who can -/
def arF (D A : Nat → Bool) : Nat → Nat → Bool
  | 0, _ => true
  | k + 1, p => bif D p then (bif A p then arF D A k (p + 1) else false) else arF D A k (p + 1)
theorem arF_s (D A : Nat → Bool) (k p : Nat) : arF D A (k + 1) p = bif D p then (bif A p then arF D A k (p + 1) else false) else arF D A k (p + 1) := rfl
