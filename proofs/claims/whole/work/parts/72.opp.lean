theorem X11_opposite_eq (d : Int32) (h : PH) : X11_opposite d h = some (some (.inl (jrem (d + 4) 8)), h) := rfl
theorem X1_wayFrom_eq {h : PH} (a : SH h) {b p d : Nat} (hb : b < 2) (hp : p < 12) (hd : d < 8) : X1_wayFrom b (nI p) (nI d) h = some (some (.inl (hI h 960 b (8 * p + d))), h) := by
  unfold X1_wayFrom X1_wayFrom_g0 X1_wayFrom_f0
  have e : nI p * 8 + nI d = nI (8 * p + d) := by
    rw [show (8 : Int32) = nI 8 from rfl, nI_mul, nI_add, Nat.mul_comm]
  rw [if_neg (show ¬ nI p < 0 from nI_nlt (b := 0) (by omega) (by omega)), if_pos (show nI p < 12 from nI_lt (b := 12) hp (by decide)), if_neg (show ¬ nI d < 0 from nI_nlt (b := 0) (by omega) (by omega)), if_pos (show nI d < 8 from nI_lt (b := 8) hd (by decide))]
  unfold X1_wayFrom_g25 X1_wayFrom_f25
  rw [if_neg (show ¬ (1 : Int32) = 0 by decide), sh_65 a b hb, nn_succ, e, ln_15 a b hb, ix_nI (by omega) (by decide)]
theorem X1_wayFrom_no (b : Nat) (p : Int32) (h : PH) : X1_wayFrom b p (-1) h = some (some (.inl (-1)), h) := by
  unfold X1_wayFrom X1_wayFrom_g0 X1_wayFrom_f0
  have z : X1_wayFrom_g25 b p (-1) 0 h = some (some (.inl (-1)), h) := by
    unfold X1_wayFrom_g25 X1_wayFrom_f25
    rw [if_pos rfl]
  rw [z, if_pos (show (-1 : Int32) < 0 by decide)]
  split
  · rfl
  · split <;> rfl
