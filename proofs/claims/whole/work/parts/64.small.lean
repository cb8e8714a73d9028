/-! small calls, exactly -/
def wn (x n : Int32) : Int32 := if x < 0 then 0 else if x < n then 1 else 0
def inn (x l u : Int32) : Int32 := if x < l then 0 else if u < x then 0 else 1
theorem wn_01 (x n : Int32) : wn x n = 0 ∨ wn x n = 1 := by
  unfold wn
  split
  · exact Or.inl rfl
  · split
    · exact Or.inr rfl
    · exact Or.inl rfl
theorem inn_01 (x l u : Int32) : inn x l u = 0 ∨ inn x l u = 1 := by
  unfold inn
  split
  · exact Or.inl rfl
  · split
    · exact Or.inl rfl
    · exact Or.inr rfl
/-- both ways to ask whether a number is within a count -/
theorem inn_wn {x n : Int32} (hn : 0 ≤ n.toInt) : inn x 0 (n - 1) = wn x n := by
  have e : (n - 1).toInt = n.toInt - 1 := by
    have := i_rng n
    rw [i_sub (by rw [i1]; omega), i1]
  unfold inn wn
  by_cases c : x < 0
  · rw [if_pos c, if_pos c]
  · rw [if_neg c, if_neg c]
    by_cases d : x < n
    · rw [if_pos d, if_neg]
      rw [i_lt] at d ⊢
      omega
    · rw [if_neg d, if_pos]
      rw [i_lt] at d ⊢
      omega
theorem nI_mul (a b : Nat) : nI a * nI b = nI (a * b) := (Int32.ofNat_mul a b).symm
theorem bz_ok {y : Int32} {f : Option Rs} (h : y = 0 ∨ y = 1) : bz y f = f := by
  unfold bz
  rw [if_pos h]
theorem isWithin_wn (x n : Int32) (h : PH) : X11_isWithin x n h = some (some (.inl (wn x n)), h) := X11_isWithin_eq x n h
theorem in_inn (x l u : Int32) (h : PH) : X12_in x l u h = some (some (.inl (inn x l u)), h) := X12_in_eq x l u h
theorem X1_hasPlace_eq (t : Nat) (x : Int32) (h : PH) : X1_hasPlace t x h = some (some (.inl (wn x (hI h 72 t 0))), h) := by
  simp only [X1_hasPlace, X1_hasPlace_g0, X1_hasPlace_f0, isWithin_wn, cI_some, bz_ok (wn_01 _ _)]
theorem X1_hasGoal_eq (t : Nat) (x : Int32) (h : PH) : X1_hasGoal t x h = some (some (.inl (wn x (hI h 74 t 0))), h) := by
  simp only [X1_hasGoal, X1_hasGoal_g0, X1_hasGoal_f0, isWithin_wn, cI_some, bz_ok (wn_01 _ _)]
theorem X1_hasSign_eq (t : Nat) (x : Int32) (h : PH) : X1_hasSign t x h = some (some (.inl (wn x (hI h 75 t 0))), h) := by
  simp only [X1_hasSign, X1_hasSign_g0, X1_hasSign_f0, isWithin_wn, cI_some, bz_ok (wn_01 _ _)]
theorem now_at {h : PH} (a : SH h) {x : Int32} {j : Nat} (hx : x = nI j) (hj : j < 1765) (f : Nat → Nat → Option Rs) : nn (hR h 704 0 0) (fun r => ix x (hL h 41 r) (f r)) = f 0 j := by
  rw [sh_704 a, nn_one, ln_41 a, hx, ix_nI hj (by decide)]
theorem X12_isPlace_eq {h : PH} (a : SH h) (x : Int32) : X12_isPlace 0 x h = some (some (.inl (inn x 0 (hI h 2624 0 3 - 1))), h) := by
  unfold X12_isPlace X12_isPlace_g0 X12_isPlace_f0
  rw [now_at a (x := 3) (j := 3) rfl (by decide)]
  simp only [in_inn, cI_some, bz_ok (inn_01 _ _ _)]
theorem X12_isGoal_eq {h : PH} (a : SH h) (x : Int32) : X12_isGoal 0 x h = some (some (.inl (inn x 0 (hI h 2624 0 5 - 1))), h) := by
  unfold X12_isGoal X12_isGoal_g0 X12_isGoal_f0
  rw [now_at a (x := 5) (j := 5) rfl (by decide)]
  simp only [in_inn, cI_some, bz_ok (inn_01 _ _ _)]
theorem X12_isSign_eq {h : PH} (a : SH h) (x : Int32) : X12_isSign 0 x h = some (some (.inl (inn x 0 (hI h 2624 0 6 - 1))), h) := by
  unfold X12_isSign X12_isSign_g0 X12_isSign_f0
  rw [now_at a (x := 6) (j := 6) rfl (by decide)]
  simp only [in_inn, cI_some, bz_ok (inn_01 _ _ _)]
theorem X12_of5_eq {h : PH} (a : SH h) {s k : Nat} (hs : s < 14) (hk : k < 5) : X12_of5 0 (nI s) (nI k) h = some (some (.inl (hI h 2624 0 (155 + 5 * s + k))), h) := by
  unfold X12_of5 X12_of5_g0 X12_of5_f0
  rw [now_at a (j := 155 + 5 * s + k) (by rw [show (155 : Int32) = nI 155 from rfl, show (5 : Int32) = nI 5 from rfl, nI_mul, nI_add, nI_add]) (by omega)]
theorem X12_rowsOf_eq {h : PH} (a : SH h) {s : Nat} (hs : s < 14) : X12_rowsOf 0 (nI s) h = some (some (.inl (hI h 2624 0 (155 + 5 * s + 2))), h) := by
  unfold X12_rowsOf X12_rowsOf_g0 X12_rowsOf_f0
  rw [show (2 : Int32) = nI 2 from rfl, X12_of5_eq a hs (by decide), cI_some]
theorem X12_nameAt_eq {h : PH} (a : SH h) {s r : Nat} (hs : s < 14) (hr : r < 6) : X12_nameAt 0 (nI s) (nI r) h = some (some (.inl (hI h 2624 0 (225 + 12 * s + 2 * r))), h) := by
  unfold X12_nameAt X12_nameAt_g0 X12_nameAt_f0
  rw [now_at a (j := 225 + 12 * s + 2 * r) (by rw [show (225 : Int32) = nI 225 from rfl, show (12 : Int32) = nI 12 from rfl, show (2 : Int32) = nI 2 from rfl, nI_mul, nI_mul, nI_add, nI_add]) (by omega)]
