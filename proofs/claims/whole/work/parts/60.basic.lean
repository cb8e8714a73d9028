/-! ===== the mathematics on the pure machine ===== -/
/-- places a .. b of a cell are all v -/
def pFl (h : PH) (c i a b : Nat) (v : Int32) : PH := (fun c' i' j' => if c' = c ∧ i' = i ∧ a ≤ j' ∧ j' < b then v else hI h c' i' j', h.2)
theorem hI_pFl (h : PH) (c i a b : Nat) (v : Int32) (c' i' j' : Nat) : hI (pFl h c i a b v) c' i' j' = if c' = c ∧ i' = i ∧ a ≤ j' ∧ j' < b then v else hI h c' i' j' := rfl
theorem hR_pFl (h : PH) (c i a b : Nat) (v : Int32) : hR (pFl h c i a b v) = hR h := rfl
theorem hL_pFl (h : PH) (c i a b : Nat) (v : Int32) : hL (pFl h c i a b v) = hL h := rfl
theorem hN_pFl (h : PH) (c i a b : Nat) (v : Int32) : hN (pFl h c i a b v) = hN h := rfl
theorem pFl_nil (h : PH) (c i a : Nat) (v : Int32) : pFl h c i a a v = h := by
  refine Prod.ext (funext fun c' => funext fun i' => funext fun j' => ?_) rfl
  show (if c' = c ∧ i' = i ∧ a ≤ j' ∧ j' < a then v else hI h c' i' j') = hI h c' i' j'
  rw [if_neg (by omega)]
theorem pFl_cons (h : PH) {c i a b : Nat} (hab : a < b) (v : Int32) : pFl (pI h c i a v) c i (a + 1) b v = pFl h c i a b v := by
  refine Prod.ext (funext fun c' => funext fun i' => funext fun j' => ?_) rfl
  show (if c' = c ∧ i' = i ∧ a + 1 ≤ j' ∧ j' < b then v else if c' = c ∧ i' = i ∧ j' = a then v else hI h c' i' j') = if c' = c ∧ i' = i ∧ a ≤ j' ∧ j' < b then v else hI h c' i' j'
  by_cases h1 : c' = c ∧ i' = i
  · obtain ⟨rfl, rfl⟩ := h1
    by_cases h2 : a + 1 ≤ j' ∧ j' < b
    · rw [if_pos ⟨rfl, rfl, h2.1, h2.2⟩, if_pos ⟨rfl, rfl, by omega, h2.2⟩]
    · rw [if_neg (by omega)]
      by_cases h3 : j' = a
      · rw [if_pos ⟨rfl, rfl, h3⟩, if_pos ⟨rfl, rfl, by omega, by omega⟩]
      · rw [if_neg (by omega), if_neg (by omega)]
  · rw [if_neg (by omega), if_neg (by omega), if_neg (by omega)]
theorem ix_nI {j n : Nat} (h : j < n) (hn : n < 2 ^ 31) (f : Nat → Option Rs) : ix (nI j) n f = f j := by
  unfold ix
  rw [if_neg (nI_in h hn), nI_clamp (by omega)]
theorem ix_at {x : Int32} {n : Nat} (hx : 0 ≤ x.toInt) (hn : x.toInt < n) (f : Nat → Option Rs) : ix x n f = f x.toInt.toNat := by
  unfold ix
  rw [if_neg]
  · rfl
  · rintro (h | h)
    · have h1 : x.toInt < (0 : Int32).toInt := Int32.lt_iff_toInt_lt.mp h
      have h2 : (0 : Int32).toInt = 0 := by decide
      omega
    · have : n ≤ x.toInt.toNat := h
      omega
theorem nn_succ (r : Nat) (f : Nat → Option Rs) : nn (r + 1) f = f r := rfl
theorem wr_eq (h : PH) (f : PH → Option Rs) : wr h f = f h := rfl
theorem wi_eq (v : Int32) (f : Int32 → Option Rs) : wi v f = f v := rfl
theorem cI_some (v : Int32) (h : PH) (f : Int32 → PH → Option Rs) : cI (some (some (.inl v), h)) f = f v h := rfl
theorem cV_some (h : PH) (f : PH → Option Rs) : cV (some (none, h)) f = f h := rfl
theorem J7_fill_53178_15_loop {i N : Nat} {v : Int32} (hN31 : N < 2 ^ 31) : ∀ (k j : Nat) (h : PH), j + k = N → hL h 15 i = N → ∃ n, J7_fill_53178_15_fam n (i + 1) v (nI j) (nI N) h = some (none, pFl h 960 i j N v)
  | 0, j, h, e, hl => by
    refine ⟨1, ?_⟩
    have : j = N := by omega
    subst this
    show (if nI j < nI j then _ else some (none, h)) = _
    rw [if_neg (nI_nlt (Nat.le_refl _) hN31), pFl_nil]
  | k + 1, j, h, e, hl => by
    obtain ⟨n, hn⟩ := J7_fill_53178_15_loop hN31 k (j + 1) (pI h 960 i j v) (by omega) hl
    refine ⟨n + 1, ?_⟩
    show (if nI j < nI N then ix (nI j) (hL h 15 i) (fun j3 => J7_fill_53178_15_fam n (i + 1) v (nI j + 1) (nI N) (pI h 960 i j3 v)) else _) = _
    rw [if_pos (nI_lt (by omega) hN31), hl, ix_nI (by omega) hN31, nI_1, hn, pFl_cons h (by omega)]
theorem J7_fill_53178_15_eq {i N : Nat} {v : Int32} {h : PH} (hl : hL h 15 i = N) (hN31 : N < 2 ^ 31) : J7_fill_53178_15 (i + 1) v h = some (none, pFl h 960 i 0 N v) := by
  obtain ⟨n, hn⟩ := J7_fill_53178_15_loop (v := v) hN31 N 0 h (by omega) hl
  refine J7_fill_53178_15_iff.mpr ⟨n, ?_⟩
  show J7_fill_53178_15_fam n (i + 1) v 0 (Int32.ofNat (hL h 15 i)) h = _
  rw [hl]
  exact hn
theorem J7_fill_53178_20_loop {i N : Nat} {v : Int32} (hN31 : N < 2 ^ 31) : ∀ (k j : Nat) (h : PH), j + k = N → hL h 20 i = N → ∃ n, J7_fill_53178_20_fam n (i + 1) v (nI j) (nI N) h = some (none, pFl h 1280 i j N v)
  | 0, j, h, e, hl => by
    refine ⟨1, ?_⟩
    have : j = N := by omega
    subst this
    show (if nI j < nI j then _ else some (none, h)) = _
    rw [if_neg (nI_nlt (Nat.le_refl _) hN31), pFl_nil]
  | k + 1, j, h, e, hl => by
    obtain ⟨n, hn⟩ := J7_fill_53178_20_loop hN31 k (j + 1) (pI h 1280 i j v) (by omega) hl
    refine ⟨n + 1, ?_⟩
    show (if nI j < nI N then ix (nI j) (hL h 20 i) (fun j3 => J7_fill_53178_20_fam n (i + 1) v (nI j + 1) (nI N) (pI h 1280 i j3 v)) else _) = _
    rw [if_pos (nI_lt (by omega) hN31), hl, ix_nI (by omega) hN31, nI_1, hn, pFl_cons h (by omega)]
theorem J7_fill_53178_20_eq {i N : Nat} {v : Int32} {h : PH} (hl : hL h 20 i = N) (hN31 : N < 2 ^ 31) : J7_fill_53178_20 (i + 1) v h = some (none, pFl h 1280 i 0 N v) := by
  obtain ⟨n, hn⟩ := J7_fill_53178_20_loop (v := v) hN31 N 0 h (by omega) hl
  refine J7_fill_53178_20_iff.mpr ⟨n, ?_⟩
  show J7_fill_53178_20_fam n (i + 1) v 0 (Int32.ofNat (hL h 20 i)) h = _
  rw [hl]
  exact hn
theorem J7_fill_53178_32_loop {i N : Nat} {v : Int32} (hN31 : N < 2 ^ 31) : ∀ (k j : Nat) (h : PH), j + k = N → hL h 32 i = N → ∃ n, J7_fill_53178_32_fam n (i + 1) v (nI j) (nI N) h = some (none, pFl h 2048 i j N v)
  | 0, j, h, e, hl => by
    refine ⟨1, ?_⟩
    have : j = N := by omega
    subst this
    show (if nI j < nI j then _ else some (none, h)) = _
    rw [if_neg (nI_nlt (Nat.le_refl _) hN31), pFl_nil]
  | k + 1, j, h, e, hl => by
    obtain ⟨n, hn⟩ := J7_fill_53178_32_loop hN31 k (j + 1) (pI h 2048 i j v) (by omega) hl
    refine ⟨n + 1, ?_⟩
    show (if nI j < nI N then ix (nI j) (hL h 32 i) (fun j3 => J7_fill_53178_32_fam n (i + 1) v (nI j + 1) (nI N) (pI h 2048 i j3 v)) else _) = _
    rw [if_pos (nI_lt (by omega) hN31), hl, ix_nI (by omega) hN31, nI_1, hn, pFl_cons h (by omega)]
theorem J7_fill_53178_32_eq {i N : Nat} {v : Int32} {h : PH} (hl : hL h 32 i = N) (hN31 : N < 2 ^ 31) : J7_fill_53178_32 (i + 1) v h = some (none, pFl h 2048 i 0 N v) := by
  obtain ⟨n, hn⟩ := J7_fill_53178_32_loop (v := v) hN31 N 0 h (by omega) hl
  refine J7_fill_53178_32_iff.mpr ⟨n, ?_⟩
  show J7_fill_53178_32_fam n (i + 1) v 0 (Int32.ofNat (hL h 32 i)) h = _
  rw [hl]
  exact hn
theorem J7_fill_53178_34_loop {i N : Nat} {v : Int32} (hN31 : N < 2 ^ 31) : ∀ (k j : Nat) (h : PH), j + k = N → hL h 34 i = N → ∃ n, J7_fill_53178_34_fam n (i + 1) v (nI j) (nI N) h = some (none, pFl h 2176 i j N v)
  | 0, j, h, e, hl => by
    refine ⟨1, ?_⟩
    have : j = N := by omega
    subst this
    show (if nI j < nI j then _ else some (none, h)) = _
    rw [if_neg (nI_nlt (Nat.le_refl _) hN31), pFl_nil]
  | k + 1, j, h, e, hl => by
    obtain ⟨n, hn⟩ := J7_fill_53178_34_loop hN31 k (j + 1) (pI h 2176 i j v) (by omega) hl
    refine ⟨n + 1, ?_⟩
    show (if nI j < nI N then ix (nI j) (hL h 34 i) (fun j3 => J7_fill_53178_34_fam n (i + 1) v (nI j + 1) (nI N) (pI h 2176 i j3 v)) else _) = _
    rw [if_pos (nI_lt (by omega) hN31), hl, ix_nI (by omega) hN31, nI_1, hn, pFl_cons h (by omega)]
theorem J7_fill_53178_34_eq {i N : Nat} {v : Int32} {h : PH} (hl : hL h 34 i = N) (hN31 : N < 2 ^ 31) : J7_fill_53178_34 (i + 1) v h = some (none, pFl h 2176 i 0 N v) := by
  obtain ⟨n, hn⟩ := J7_fill_53178_34_loop (v := v) hN31 N 0 h (by omega) hl
  refine J7_fill_53178_34_iff.mpr ⟨n, ?_⟩
  show J7_fill_53178_34_fam n (i + 1) v 0 (Int32.ofNat (hL h 34 i)) h = _
  rw [hl]
  exact hn
/-! whole numbers out of ints -/
theorem i0 : (0 : Int32).toInt = 0 := by decide
theorem i1 : (1 : Int32).toInt = 1 := by decide
theorem i_lt {a b : Int32} : a < b ↔ a.toInt < b.toInt := Int32.lt_iff_toInt_lt
theorem i_le {a b : Int32} : a ≤ b ↔ a.toInt ≤ b.toInt := Int32.le_iff_toInt_le
theorem i_eq {a b : Int32} : a = b ↔ a.toInt = b.toInt := Int32.toInt_inj.symm
theorem i_rng (a : Int32) : -2147483648 ≤ a.toInt ∧ a.toInt < 2147483648 := ⟨Int32.le_toInt a, Int32.toInt_lt a⟩
theorem i_add {a b : Int32} (h : -2147483648 ≤ a.toInt + b.toInt ∧ a.toInt + b.toInt < 2147483648) : (a + b).toInt = a.toInt + b.toInt := by
  rw [Int32.toInt_add]
  exact Int.bmod_eq_of_le (by omega) (by omega)
theorem i_sub {a b : Int32} (h : -2147483648 ≤ a.toInt - b.toInt ∧ a.toInt - b.toInt < 2147483648) : (a - b).toInt = a.toInt - b.toInt := by
  rw [Int32.toInt_sub]
  exact Int.bmod_eq_of_le (by omega) (by omega)
theorem i_mul {a b : Int32} (h : -2147483648 ≤ a.toInt * b.toInt ∧ a.toInt * b.toInt < 2147483648) : (a * b).toInt = a.toInt * b.toInt := by
  rw [Int32.toInt_mul]
  exact Int.bmod_eq_of_le (by omega) (by omega)
theorem i_of {a : Int32} (h : 0 ≤ a.toInt) : a = nI a.toInt.toNat := by
  have := i_rng a
  rw [i_eq, nI_toInt (by omega)]
  omega
