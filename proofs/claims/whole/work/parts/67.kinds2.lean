def priceK (k r : Int32) : Int32 := if k = 1 then 10 + 2 * r + 5 else if k = 2 then (10 + 2 * r) / 2 else if k = 3 then 2 * (10 + 2 * r + 5) else if k = 4 then (10 + 2 * r) / 2 + 8 else if k = 5 then 1 else 10 + 2 * r
theorem dv_2 (f : Option Rs) : dv 2 f = f := rfl
theorem X12_priceBy_eq (k r : Int32) (h : PH) : X12_priceBy k r h = some (some (.inl (priceK k r)), h) := by
  unfold X12_priceBy X12_priceBy_g0 X12_priceBy_f0 priceK
  by_cases c1 : k = 1 <;> by_cases c2 : k = 2 <;> by_cases c3 : k = 3 <;> by_cases c4 : k = 4 <;> by_cases c5 : k = 5 <;> simp [c1, c2, c3, c4, c5, dv_2]
theorem pr3_eq {k : Int32} (hk : rgI k 0 5) (r : Int32) (h : PH) : pr3 [.inl k, .inl r] h = some (some (.inl (priceK k r)), h) := by
  rcases kind_cases hk with rfl | rfl | rfl | rfl | rfl | rfl <;> simp [pr3, prN, X6_priceOf, X6_priceOf_g0, X6_priceOf_f0, FW_II, gL, gI, lk, cI, priceK, dv_2]
theorem X12_arrowAt_eq {h : PH} (a : SH h) {s r : Nat} (hs : s < 14) (hr : r < 6) : X12_arrowAt 0 (nI s) (nI r) h = some (some (.inl (hI h 2624 0 (226 + 12 * s + 2 * r))), h) := by
  unfold X12_arrowAt X12_arrowAt_g0 X12_arrowAt_f0
  rw [now_at a (j := 226 + 12 * s + 2 * r) (by rw [show (225 : Int32) = nI 225 from rfl, show (12 : Int32) = nI 12 from rfl, show (2 : Int32) = nI 2 from rfl, show (1 : Int32) = nI 1 from rfl, nI_mul, nI_mul, nI_add, nI_add, nI_add]; congr 1; omega) (by omega)]
theorem X12_placeOf_eq {h : PH} (a : SH h) {g : Nat} (hg : g < 10) : X12_placeOf 0 (nI g) h = some (some (.inl (hI h 2624 0 (135 + 2 * g))), h) := by
  unfold X12_placeOf X12_placeOf_g0 X12_placeOf_f0
  rw [now_at a (j := 135 + 2 * g) (by rw [show (135 : Int32) = nI 135 from rfl, show (2 : Int32) = nI 2 from rfl, nI_mul, nI_add]) (by omega)]
theorem X12_groupOf_eq {h : PH} (a : SH h) {g : Nat} (hg : g < 10) : X12_groupOf 0 (nI g) h = some (some (.inl (hI h 2624 0 (136 + 2 * g))), h) := by
  unfold X12_groupOf X12_groupOf_g0 X12_groupOf_f0
  rw [now_at a (j := 136 + 2 * g) (by rw [show (135 : Int32) = nI 135 from rfl, show (2 : Int32) = nI 2 from rfl, show (1 : Int32) = nI 1 from rfl, nI_mul, nI_add, nI_add]; congr 1; omega) (by omega)]
