theorem X11_opposite_eq (d : Int32) (h : PH) : X11_opposite d h = some (some (.inl (jrem (d + 4) 8)), h) := rfl
theorem X1_wayFrom_eq {h : PH} (a : SH h) {b p d : Nat} (hb : b < 2) (hp : p < 12) (hd : d < 8) : X1_wayFrom b (nI p) (nI d) h = some (some (.inl (hI h 960 b (8 * p + d))), h) := by
  unfold X1_wayFrom X1_wayFrom_g0 X1_wayFrom_f0
  have e : nI p * 8 + nI d = nI (8 * p + d) := by
    rw [show (8 : Int32) = nI 8 from rfl, nI_mul, nI_add, Nat.mul_comm]
  rw [sh_65 a b hb, nn_succ, e, ln_15 a b hb, ix_nI (by omega) (by decide)]
