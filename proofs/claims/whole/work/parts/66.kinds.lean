/-! what a kind has, both ways -/
def mostK (k : Int32) : Int32 := if k = 1 then 5 else if k = 2 then 2 else if k = 3 then 3 else if k = 4 then 6 else if k = 5 then 1 else 4
def seenK (k : Int32) : Int32 := if k = 0 then 3 else if k = 1 then 5 else if k = 3 then 5 else if k = 5 then 6 else 1
theorem X12_mostBy_eq (k : Int32) (h : PH) : X12_mostBy k h = some (some (.inl (mostK k)), h) := by
  unfold X12_mostBy X12_mostBy_g0 X12_mostBy_f0 mostK
  by_cases c1 : k = 1 <;> by_cases c2 : k = 2 <;> by_cases c3 : k = 3 <;> by_cases c4 : k = 4 <;> by_cases c5 : k = 5 <;> simp [c1, c2, c3, c4, c5]
theorem X12_seenBy_eq (k : Int32) (h : PH) : X12_seenBy k h = some (some (.inl (seenK k)), h) := by
  unfold X12_seenBy X12_seenBy_g0 X12_seenBy_f0 seenK
  by_cases c0 : k = 0 <;> by_cases c1 : k = 1 <;> by_cases c3 : k = 3 <;> by_cases c5 : k = 5 <;> simp [c0, c1, c3, c5]
theorem kind_cases {k : Int32} (h : rgI k 0 5) : k = 0 ∨ k = 1 ∨ k = 2 ∨ k = 3 ∨ k = 4 ∨ k = 5 := by
  obtain ⟨h1, h2⟩ := h
  have e2 : (2 : Int32).toInt = 2 := by decide
  have e3 : (3 : Int32).toInt = 3 := by decide
  have e4 : (4 : Int32).toInt = 4 := by decide
  have e5 : (5 : Int32).toInt = 5 := by decide
  simp only [i_eq, i0, i1, e2, e3, e4, e5]
  omega
theorem mo3_eq {k : Int32} (hk : rgI k 0 5) (h : PH) : mo3 [.inl k] h = some (some (.inl (mostK k)), h) := by
  rcases kind_cases hk with rfl | rfl | rfl | rfl | rfl | rfl <;> simp [mo3, moN, X6_mostOf, X6_mostOf_g0, X6_mostOf_f0, FW_I, gL, gI, lk, cI, mostK]
theorem se3_eq {k : Int32} (hk : rgI k 0 5) (h : PH) : se3 [.inl k] h = some (some (.inl (seenK k)), h) := by
  rcases kind_cases hk with rfl | rfl | rfl | rfl | rfl | rfl <;> simp [se3, seN, X6_seenOf, X6_seenOf_g0, X6_seenOf_f0, FW_I, gL, gI, lk, cI, seenK]
