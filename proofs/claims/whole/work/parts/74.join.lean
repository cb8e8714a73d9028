/-! the signs of a text, both ways -/
def stepOf (c : Int32) : Int32 := if 0 ≤ c then (if c < 10000 then c else 9999 - c) else if c = -1 then -124 else if c = -2 then -38 else if c = -3 then -60 else if c = -4 then -61 else if c = -5 then -62 else if c = -6 then -43 else if c = -7 then -45 else if c = -8 then -42 else if c = -9 then -47 else -33
def joinK (c a b : Int32) : Int32 := if c = -1 then (if a = 0 ∧ b = 0 then 0 else 1) else if c = -2 then (if a = 0 ∨ b = 0 then 0 else 1) else if c = -3 then (if a < b then 1 else 0) else if c = -4 then (if a = b then 1 else 0) else if c = -5 then (if b < a then 1 else 0) else if c = -6 then a + b else if c = -7 then a - b else if c = -8 then a * b else (if b = 0 then 0 else a / b)
def isBin (c : Int32) : Prop := c = -1 ∨ c = -2 ∨ c = -3 ∨ c = -4 ∨ c = -5 ∨ c = -6 ∨ c = -7 ∨ c = -8 ∨ c = -9
theorem dv_ok {y : Int32} {f : Option Rs} (h : ¬ y = 0) : dv y f = f := by
  unfold dv
  rw [if_neg h]
theorem two_eq {c : Int32} (hc : isBin c) (a b : Int32) (h : PH) : X12_two c a b h = some (some (.inl (joinK c a b)), h) := by
  unfold X12_two X12_two_g0 X12_two_f0 joinK
  have push : ∀ (P : Prop) [Decidable P] (x y : Int32), (if P then some (some (.inl x), h) else some (some (.inl y), h) : Option Rs) = some (some (.inl (if P then x else y)), h) := fun P _ x y => by split <;> rfl
  rcases hc with rfl | rfl | rfl | rfl | rfl | rfl | rfl | rfl | rfl
  · by_cases ha : a = 0 <;> by_cases hb : b = 0 <;> simp [ha, hb]
  · by_cases ha : a = 0 <;> by_cases hb : b = 0 <;> simp [ha, hb]
  · simp [push]
  · simp [push]
  · simp [push]
  · simp
  · simp
  · simp
  · by_cases hb : b = 0 <;> simp [hb, dv_ok]
