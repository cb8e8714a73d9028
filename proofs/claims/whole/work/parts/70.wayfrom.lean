/-! which way leads from a place in a direction: the model's search -/
def ldB (N : Nat → Int32) (p d : Int32) (w : Nat) : Bool := (decide (N (15 + 6 * w) = p) && decide (N (17 + 6 * w) = d)) || (decide (N (16 + 6 * w) = p) && decide (jrem (N (17 + 6 * w) + 4) 8 = d))
def wfF (N : Nat → Int32) (p d : Int32) : Nat → Nat → Int32
  | 0, _ => -1
  | k + 1, w => if ldB N p d w then nI w else wfF N p d k (w + 1)
theorem dv_8 (f : Option Rs) : dv 8 f = f := rfl
theorem X12_wayFrom_loop {h : PH} (a : SH h) (p d : Int32) {K : Nat} (hK : hI h 2624 0 4 = nI K) (h20 : K ≤ 20) : ∀ k w, w + k = K → ∃ n, X12_wayFrom_fam n 0 p d (nI w) h = some (some (.inl (wfF (hI h 2624 0) p d k w)), h)
  | 0, w, e => by
    refine ⟨1, ?_⟩
    have hlt : ¬ nI w < nI K := nI_nlt (by omega) (by omega)
    simp only [X12_wayFrom_fam, X12_wayFrom_g2, X12_wayFrom_f2, sh_704 a, nn_one, ln_41 a, show (4 : Int32) = nI 4 from rfl, ix_nI (show 4 < 1765 by decide) (show 1765 < 2 ^ 31 by decide), hK, if_neg hlt, wfF]
  | k + 1, w, e => by
    obtain ⟨n, hn⟩ := X12_wayFrom_loop a p d hK h20 k (w + 1) (by omega)
    refine ⟨n + 1, ?_⟩
    have hlt : nI w < nI K := nI_lt (by omega) (by omega)
    have e0 : (15 : Int32) + 6 * nI w = nI (15 + 6 * w) := by rw [show (15 : Int32) = nI 15 from rfl, show (6 : Int32) = nI 6 from rfl, nI_mul, nI_add]
    have e1 : nI (15 + 6 * w) + 1 = nI (16 + 6 * w) := by rw [nI_1]; congr 1; omega
    have e2 : nI (15 + 6 * w) + 2 = nI (17 + 6 * w) := by rw [show (2 : Int32) = nI 2 from rfl, nI_add]; congr 1; omega
    have b0 : 15 + 6 * w < 1765 := by omega
    have b1 : 16 + 6 * w < 1765 := by omega
    have b2 : 17 + 6 * w < 1765 := by omega
    have h31 : 1765 < 2 ^ 31 := by decide
    have i4 : ∀ f : Nat → Option Rs, ix 4 1765 f = f 4 := fun f => ix_nI (show 4 < 1765 by decide) h31 f
    simp only [X12_wayFrom_fam, X12_wayFrom_g2, X12_wayFrom_f2, X12_wayFrom_g50, X12_wayFrom_f50, X12_wayFrom_g88, X12_wayFrom_f88, sh_704 a, nn_one, ln_41 a, i4, hK, if_pos hlt, e0, e1, e2, ix_nI b0 h31, ix_nI b1 h31, ix_nI b2 h31, dv_8, nI_1, hn, wfF, ldB]
    by_cases c1 : hI h 2624 0 (15 + 6 * w) = p <;> by_cases c2 : hI h 2624 0 (17 + 6 * w) = d <;> by_cases c3 : hI h 2624 0 (16 + 6 * w) = p <;> by_cases c4 : jrem (hI h 2624 0 (17 + 6 * w) + 4) 8 = d <;> simp [c1, c2, c3, c4] <;> split <;> rfl
theorem X12_wayFrom_eq {h : PH} (a : SH h) (p d : Int32) {K : Nat} (hK : hI h 2624 0 4 = nI K) (h20 : K ≤ 20) : X12_wayFrom 0 p d h = some (some (.inl (wfF (hI h 2624 0) p d K 0)), h) := by
  obtain ⟨n, hn⟩ := X12_wayFrom_loop a p d hK h20 K 0 (by omega)
  exact X12_wayFrom_iff.mpr ⟨n, hn⟩
