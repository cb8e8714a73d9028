theorem dir_cases {k : Int32} (h : rgI k 0 7) : k = 0 ∨ k = 1 ∨ k = 2 ∨ k = 3 ∨ k = 4 ∨ k = 5 ∨ k = 6 ∨ k = 7 := by
  obtain ⟨h1, h2⟩ := h
  have e2 : (2 : Int32).toInt = 2 := by decide
  have e3 : (3 : Int32).toInt = 3 := by decide
  have e4 : (4 : Int32).toInt = 4 := by decide
  have e5 : (5 : Int32).toInt = 5 := by decide
  have e6 : (6 : Int32).toInt = 6 := by decide
  have e7 : (7 : Int32).toInt = 7 := by decide
  simp only [i_eq, i0, i1, e2, e3, e4, e5, e6, e7]
  omega
theorem jrem48 {x : Int32} (h : rgI x 0 7) : (jrem (x + 4) 8).toInt = (x.toInt + 4) % 8 := by
  rcases dir_cases h with rfl | rfl | rfl | rfl | rfl | rfl | rfl | rfl <;> decide
theorem ldB_iff {N : Nat → Int32} {p d w : Nat} (hp : p < 12) (hd : d < 8) (hr : rgI (N (17 + 6 * w)) 0 7) : ldB N (nI p) (nI d) w = true ↔ leads N w p d := by
  unfold ldB leads
  simp only [Bool.or_eq_true, Bool.and_eq_true, decide_eq_true_eq, i_eq, jrem48 hr, nI_toInt (show p < 2 ^ 31 by omega), nI_toInt (show d < 2 ^ 31 by omega)]
theorem wfF_none {N : Nat → Int32} {p d : Int32} : ∀ k w, (∀ j, w ≤ j → j < w + k → ldB N p d j = false) → wfF N p d k w = -1
  | 0, _, _ => rfl
  | k + 1, w, h => by
    show (if ldB N p d w = true then nI w else wfF N p d k (w + 1)) = -1
    rw [h w (Nat.le_refl _) (by omega), if_neg (by decide)]
    exact wfF_none k (w + 1) (fun j h1 h2 => h j (by omega) (by omega))
theorem wfF_some {N : Nat → Int32} {p d : Int32} {w0 : Nat} (h0 : ldB N p d w0 = true) : ∀ k w, w ≤ w0 → w0 < w + k → (∀ j, w ≤ j → j < w0 → ldB N p d j = false) → wfF N p d k w = nI w0
  | 0, w, h1, h2, _ => by omega
  | k + 1, w, h1, h2, h => by
    show (if ldB N p d w = true then nI w else wfF N p d k (w + 1)) = nI w0
    by_cases e : w = w0
    · subst e
      rw [if_pos h0]
    · rw [h w (Nat.le_refl _) (by omega), if_neg (by decide)]
      exact wfF_some h0 k (w + 1) (by omega) (by omega) (fun j h1 h2 => h j (by omega) h2)
/-- the house's table and the model's search say the same -/
theorem HWays.lead {h : PH} {b : Nat} {N : Nat → Int32} (a : HWays h b N) {K : Nat} (hK : N 4 = nI K) (h20 : K ≤ 20) {p d : Nat} (hp : p < 12) (hd : d < 8) : hI h 960 b (8 * p + d) = wfF N (nI p) (nI d) K 0 := by
  have hKi : (N 4).toInt = K := by rw [hK, nI_toInt (by omega)]
  have hr : ∀ w, w < K → rgI (N (17 + 6 * w)) 0 7 := fun w hw => (a.1 w (by omega)).2.2.2.2.1
  rcases a.2 p d hp hd with ⟨e, q⟩ | ⟨w, hw, e, q1, q2⟩
  · rw [e, wfF_none]
    intro j _ hj
    cases c : ldB N (nI p) (nI d) j with
    | false => rfl
    | true => exact absurd ((ldB_iff hp hd (hr j (by omega))).mp c) (q j (by omega))
  · rw [e]
    refine (wfF_some ((ldB_iff hp hd (hr w (by omega))).mpr q1) K 0 (by omega) (by omega) (fun j _ hj => ?_)).symm
    cases c : ldB N (nI p) (nI d) j with
    | false => rfl
    | true =>
      have := q2 j (by omega) ((ldB_iff hp hd (hr j (by omega))).mp c)
      omega
