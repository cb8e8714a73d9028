/-! the model's way to say so -/
theorem hI_pI3 (h : PH) (v0 v1 v2 : Int32) : hI (pI (pI (pI h 3328 0 0 v0) 3328 0 1 v1) 3328 0 2 v2) 2624 0 = hI h 2624 0 := funext fun j => by rw [hI_off _ (by decide), hI_off _ (by decide), hI_off _ (by decide)]
theorem fa3_at (h : PH) (v0 v1 v2 : Int32) : ∀ j, j < 4 → hI (pI (pI (pI h 3328 0 0 v0) 3328 0 1 v1) 3328 0 2 v2) 3328 0 j = fa4 v0 v1 v2 (hI h 3328 0 3) j := by
  intro j hj
  have : j = 0 ∨ j = 1 ∨ j = 2 ∨ j = 3 := by omega
  rcases this with rfl | rfl | rfl | rfl <;> simp [hI_pI, fa4]
theorem worksOut_3 {h g : PH} (a : SH h) {b t : Nat} (ht : t < 14) (q : TOne g b (hI h 2624 0) t) {kk : Nat} (hk : kk < 2) (hkey : hI h 2624 0 (393 + 2 * t) / 1000 = nI kk) (v0 v1 v2 : Int32) : ∃ h', X12_worksOut 0 (nI t) (pI (pI (pI h 3328 0 0 v0) 3328 0 1 v1) 3328 0 2 v2) = some (some (.inl (txV (hI h 2624 0) t (fa4 v0 v1 v2 0))), h') := by
  have a3 : SH (pI (pI (pI h 3328 0 0 v0) 3328 0 1 v1) 3328 0 2 v2) := a
  obtain ⟨h', e, -⟩ := worksOut_eq a3 ht (b := b) (g := g) (by rw [hI_pI3]; exact q) (fa3_at h v0 v1 v2)
  rw [hI_pI3] at e
  exact ⟨h', by rw [e, txV_fa q hk hkey _ _ _ _ 0]⟩
theorem X12_passes_t {h g : PH} (a : SH h) {b : Nat} (ht : TRel g b (hI h 2624 0)) {w : Nat} (hw : w < 20) : ∃ h', X12_passes_g39 0 (nI (15 + 6 * w)) h = some (some (.inl (b2 (passT (hI h 2624 0) w))), h') := by
  obtain ⟨K, t1, t2, t3, t4⟩ := ht
  have e3 : nI (15 + 6 * w) + 3 = nI (18 + 6 * w) := by rw [show (3 : Int32) = nI 3 from rfl, nI_add]; congr 1; omega
  have e4 : nI (15 + 6 * w) + 4 = nI (19 + 6 * w) := by rw [show (4 : Int32) = nI 4 from rfl, nI_add]; congr 1; omega
  have b3 : 18 + 6 * w < 1765 := by omega
  have b4 : 19 + 6 * w < 1765 := by omega
  have h31 : 1765 < 2 ^ 31 := by decide
  unfold X12_passes_g39 X12_passes_f39 passT
  simp only [sh_704 a, nn_one, ln_41 a, e3, e4, ix_nI b3 h31]
  by_cases k3 : hI h 2624 0 (18 + 6 * w) = 3
  · simp only [if_pos k3, X12_counts_eq a 1 t1 t2, cI_some, sh_704 a, sh_727 a, nn_one, ln_41 a, ln_52 a, nx1, nx2, fx0, fx1, fx2, wr_eq, hR_pI, hL_pI, ix_nI b4 h31]
    simp only [hI_off _ (show (2624 : Nat) ≠ 3328 by decide)]
    unfold gateB
    rw [t1, nt_nI (by omega)]
    cases e : cntO (hI h 2624 0) 1 K with
    | none =>
      simp only [oI, if_pos (show (-1 : Int32) < 0 by decide), X12_in_eq, cI_some]
      by_cases d1 : hI h 2624 0 1 < 6
      · exact ⟨_, by simp [d1, bz0, b2]; rfl⟩
      · by_cases d2 : 21 < hI h 2624 0 1
        · exact ⟨_, by simp [d1, d2, bz0, b2]; rfl⟩
        · exact ⟨_, by simp [d1, d2, bz1, b2]; rfl⟩
    | some t =>
      have ht := cntO_lt e
      obtain ⟨h', e'⟩ := worksOut_3 a (show t < 14 by omega) (t3 t ht.1) (kk := 1) (by decide) ht.2 (hI h 2624 0 1) (hI h 2624 0 2) (hI h 2624 0 (19 + 6 * w))
      refine ⟨h', ?_⟩
      simp only [oI, if_neg (nI_pos (show t < 2 ^ 31 by omega)), e', cI_some]
      by_cases d : txV (hI h 2624 0) t (fa4 (hI h 2624 0 1) (hI h 2624 0 2) (hI h 2624 0 (19 + 6 * w)) 0) = 0
      · simp [d, bz0, b2]
      · simp [d, bz1, b2]
  · simp only [if_neg k3]
    exact ⟨h, rfl⟩
theorem X12_passes_eq {h g : PH} (a : SH h) {b : Nat} (ht : TRel g b (hI h 2624 0)) {w : Nat} (hw : w < 20) (x : Int32) : ∃ h', X12_passes 0 (nI w) x h = some (some (.inl (b2 (passB (hI h 2624 0) w x))), h') ∧ Fr X12_passes_W h h' := by
  have key : ∃ h', X12_passes 0 (nI w) x h = some (some (.inl (b2 (passB (hI h 2624 0) w x))), h') := by
    obtain ⟨h', e⟩ := X12_passes_t a ht hw
    have e0 : (15 : Int32) + 6 * nI w = nI (15 + 6 * w) := by rw [show (15 : Int32) = nI 15 from rfl, show (6 : Int32) = nI 6 from rfl, nI_mul, nI_add]
    have e3 : nI (15 + 6 * w) + 3 = nI (18 + 6 * w) := by rw [show (3 : Int32) = nI 3 from rfl, nI_add]; congr 1; omega
    have e5 : nI (15 + 6 * w) + 5 = nI (20 + 6 * w) := by rw [show (5 : Int32) = nI 5 from rfl, nI_add]; congr 1; omega
    have b3 : 18 + 6 * w < 1765 := by omega
    have b5 : 20 + 6 * w < 1765 := by omega
    have h31 : 1765 < 2 ^ 31 := by decide
    unfold X12_passes X12_passes_g0 X12_passes_f0 passB
    simp only [sh_704 a, nn_one, ln_41 a, e0, e3, e5, ix_nI b3 h31, ix_nI b5 h31]
    by_cases k : hI h 2624 0 (20 + 6 * w) = 1
    · exact ⟨h, by simp [k, bz0, b2]⟩
    · by_cases d1 : hI h 2624 0 (18 + 6 * w) = 1
      · by_cases d2 : x = 1
        · exact ⟨h, by simp [k, d1, d2, bz0, b2]⟩
        · exact ⟨h', by simp [k, d1, d2, e]⟩
      · exact ⟨h', by simp [k, d1, e]⟩
  obtain ⟨h', e⟩ := key
  exact ⟨h', e, X12_passes_fr 0 (nI w) x h _ e⟩
theorem X12_isLit_eq {h g : PH} (a : SH h) {b : Nat} (ht : TRel g b (hI h 2624 0)) {s : Nat} (hs : s < 14) : ∃ h', X12_isLit 0 (nI s) h = some (some (.inl (b2 (litB (hI h 2624 0) s))), h') ∧ Fr X12_isLit_W h h' := by
  have key : ∃ h', X12_isLit 0 (nI s) h = some (some (.inl (b2 (litB (hI h 2624 0) s))), h') := by
    obtain ⟨K, t1, t2, t3, t4⟩ := ht
    have o1 : ∀ z : PH, SH z → X12_of5 0 (nI s) 1 z = some (some (.inl (hI z 2624 0 (156 + 5 * s))), z) := fun z az => by
      rw [show (1 : Int32) = nI 1 from rfl, X12_of5_eq az hs (by decide), show 155 + 5 * s + 1 = 156 + 5 * s by omega]
    have o4 : X12_of5 0 (nI s) 4 h = some (some (.inl (hI h 2624 0 (159 + 5 * s))), h) := by
      rw [show (4 : Int32) = nI 4 from rfl, X12_of5_eq a hs (by decide), show 155 + 5 * s + 4 = 159 + 5 * s by omega]
    have o2 : ∀ z : PH, SH z → X12_rowsOf 0 (nI s) z = some (some (.inl (hI z 2624 0 (157 + 5 * s))), z) := fun z az => by
      rw [X12_rowsOf_eq az hs, show 155 + 5 * s + 2 = 157 + 5 * s by omega]
    unfold X12_isLit X12_isLit_g0 X12_isLit_f0 litB
    simp only [o1 h a, cI_some]
    by_cases k5 : hI h 2624 0 (156 + 5 * s) = 5
    · simp only [if_pos k5, sh_704 a, nn_one, ln_41 a, nx2, o4, cI_some]
      by_cases d : hI h 2624 0 2 < hI h 2624 0 (159 + 5 * s)
      · exact ⟨h, by simp [d, bz1, b2]⟩
      · exact ⟨h, by simp [d, bz0, b2]⟩
    · simp only [if_neg k5]
      by_cases k3 : hI h 2624 0 (156 + 5 * s) = 3
      · simp only [if_pos k3, X12_counts_eq a 0 t1 t2, cI_some, sh_704 a, sh_727 a, nn_one, ln_41 a, ln_52 a, nx1, nx2, fx0, fx1, fx2, wr_eq, hR_pI, hL_pI, o2 _ (show SH (pI (pI h 3328 0 0 _) 3328 0 1 _) from a)]
        simp only [hI_off _ (show (2624 : Nat) ≠ 3328 by decide)]
        unfold litT
        rw [t1, nt_nI (by omega)]
        cases e : cntO (hI h 2624 0) 0 K with
        | none =>
          simp only [oI, if_pos (show (-1 : Int32) < 0 by decide)]
          by_cases d1 : hI h 2624 0 1 < 18 <;> by_cases d2 : hI h 2624 0 1 < 6 <;> exact ⟨_, by simp [d1, d2, bz0, bz1, b2]; rfl⟩
        | some t =>
          have ht := cntO_lt e
          obtain ⟨h', e'⟩ := worksOut_3 a (show t < 14 by omega) (t3 t ht.1) (kk := 0) (by decide) ht.2 (hI h 2624 0 1) (hI h 2624 0 2) (hI h 2624 0 (157 + 5 * s))
          refine ⟨h', ?_⟩
          simp only [oI, if_neg (nI_pos (show t < 2 ^ 31 by omega)), e', cI_some]
          by_cases d : txV (hI h 2624 0) t (fa4 (hI h 2624 0 1) (hI h 2624 0 2) (hI h 2624 0 (157 + 5 * s)) 0) = 0
          · simp [d, bz0, b2]
          · simp [d, bz1, b2]
      · simp only [if_neg k3]
        exact ⟨h, rfl⟩
  obtain ⟨h', e⟩ := key
  exact ⟨h', e, X12_isLit_fr 0 (nI s) h _ e⟩
theorem fa4_at (h : PH) (v0 v1 v2 v3 : Int32) : ∀ j, j < 4 → hI (pI (pI (pI (pI h 3328 0 0 v0) 3328 0 1 v1) 3328 0 2 v2) 3328 0 3 v3) 3328 0 j = fa4 v0 v1 v2 v3 j := by
  intro j hj
  have : j = 0 ∨ j = 1 ∨ j = 2 ∨ j = 3 := by omega
  rcases this with rfl | rfl | rfl | rfl <;> simp [hI_pI, fa4]
theorem hI_pI4 (h : PH) (v0 v1 v2 v3 : Int32) : hI (pI (pI (pI (pI h 3328 0 0 v0) 3328 0 1 v1) 3328 0 2 v2) 3328 0 3 v3) 2624 0 = hI h 2624 0 := funext fun j => by rw [hI_off _ (by decide), hI_off _ (by decide), hI_off _ (by decide), hI_off _ (by decide)]
theorem X12_isObeyed_eq {h g : PH} (a : SH h) {b : Nat} (ht : TRel g b (hI h 2624 0)) {s : Nat} (hs : s < 14) (x : Int32) : ∃ h', X12_isObeyed 0 (nI s) x h = some (some (.inl (b2 (obeyB (hI h 2624 0) s x))), h') ∧ Fr X12_isObeyed_W h h' := by
  have key : ∃ h', X12_isObeyed 0 (nI s) x h = some (some (.inl (b2 (obeyB (hI h 2624 0) s x))), h') := by
    obtain ⟨K, t1, t2, t3, t4⟩ := ht
    have o1 : ∀ z : PH, SH z → X12_of5 0 (nI s) 1 z = some (some (.inl (hI z 2624 0 (156 + 5 * s))), z) := fun z az => by
      rw [show (1 : Int32) = nI 1 from rfl, X12_of5_eq az hs (by decide), show 155 + 5 * s + 1 = 156 + 5 * s by omega]
    unfold X12_isObeyed X12_isObeyed_g0 X12_isObeyed_f0 obeyB
    simp only [X12_counts_eq a 2 t1 t2, cI_some, o1 h a, sh_704 a, sh_727 a, nn_one, ln_41 a, ln_52 a, nx1, fx0, fx1, fx2, fx3, wr_eq, hR_pI, hL_pI, o1 _ (show SH (pI h 3328 0 0 _) from a), X12_seenBy_eq]
    simp only [hI_off _ (show (2624 : Nat) ≠ 3328 by decide)]
    rw [t1, nt_nI (by omega)]
    cases e : cntO (hI h 2624 0) 2 K with
    | none => exact ⟨_, rfl⟩
    | some t =>
      have ht := cntO_lt e
      have a4 : SH (pI (pI (pI (pI h 3328 0 0 (hI h 2624 0 (156 + 5 * s))) 3328 0 1 (seenK (hI h 2624 0 (156 + 5 * s)))) 3328 0 2 x) 3328 0 3 (hI h 2624 0 1)) := a
      obtain ⟨h', e', -⟩ := worksOut_eq a4 (show t < 14 by omega) (b := b) (g := g) (by rw [hI_pI4]; exact t3 t ht.1) (fa4_at h _ _ _ _)
      rw [hI_pI4] at e'
      refine ⟨h', ?_⟩
      simp only [oI, if_neg (nI_pos (show t < 2 ^ 31 by omega)), e', cI_some]
      by_cases d : txV (hI h 2624 0) t (fa4 (hI h 2624 0 (156 + 5 * s)) (seenK (hI h 2624 0 (156 + 5 * s))) x (hI h 2624 0 1)) = 0
      · simp [d, bz0, b2]
      · simp [d, bz1, b2]
  obtain ⟨h', e⟩ := key
  exact ⟨h', e, X12_isObeyed_fr 0 (nI s) x h _ e⟩
