theorem ix_lit {x : Int32} {n : Nat} {f : Nat → Option Rs} (h : ¬ (x < 0 ∨ n ≤ x.toNatClampNeg)) : ix x n f = f x.toNatClampNeg := by
  unfold ix
  rw [if_neg h]
theorem ix_k {x : Int32} {n j : Nat} {f : Nat → Option Rs} (hx : x.toInt = j) (hj : j < n) : ix x n f = f j := by
  rw [ix_at (by omega) (by omega)]
  congr 1
  omega
theorem t_place {h : PH} (a1 : hR h 640 0 0 = 1) (a2 : hR h 704 0 0 = 1) (a3 : hL h 41 0 = 1765) (e : hI h 72 0 0 = hI h 2624 0 3) (r : 0 ≤ (hI h 2624 0 3).toInt ∧ (hI h 2624 0 3).toInt ≤ 12) :
    ∃ v h1 h2, X11_place 0 h = some (some (.inl v), h1) ∧ X12_place 0 h1 = some (some (.inl v), h2) ∧ hI h2 72 0 0 = hI h2 2624 0 3 := by
  by_cases hc : hI h 2624 0 3 = 12
  · refine ⟨-1000000003, h, h, ?_, ?_, e⟩
    · simp [X11_place, X11_place_g0, X11_place_f0, nn, a1, e, hc]
    · simp [X12_place, X12_place_g0, X12_place_f0, nn, a2, a3, ix, hc]
  · have hl : hI h 2624 0 3 < 12 := by
      rw [i_lt]
      rw [i_eq] at hc
      have : (12 : Int32).toInt = 12 := by decide
      omega
    refine ⟨hI h 2624 0 3, pI h 72 0 0 (hI h 2624 0 3 + 1), pI (pI h 72 0 0 (hI h 2624 0 3 + 1)) 2624 0 3 (hI h 2624 0 3 + 1), ?_, ?_, ?_⟩
    · simp [X11_place, X11_place_g0, X11_place_f0, nn, wr, a1, e, hl]
    · simp [X12_place, X12_place_g0, X12_place_f0, nn, a2, a3, ix, hc, wr, hI_pI, hR_pI, show ∀ (h : PH) (c i j : Nat) (v : Int32), hL (pI h c i j v) = hL h from fun _ _ _ _ _ => rfl]
    · simp [hI_pI]
