theorem joined_eq {c : Int32} (hc : isBin c) (a b : Int32) (h : PH) : X8_joined a (-(stepOf c)) b h = some (some (.inl (joinK c a b)), h) := by
  unfold X8_joined X8_joined_g0 X8_joined_f0 joinK
  have push : ∀ (P : Prop) [Decidable P] (x y : Int32), (if P then some (some (.inl x), h) else some (some (.inl y), h) : Option Rs) = some (some (.inl (if P then x else y)), h) := fun P _ x y => by split <;> rfl
  rcases hc with rfl | rfl | rfl | rfl | rfl | rfl | rfl | rfl | rfl
  · by_cases ha : a = 0 <;> by_cases hb : b = 0 <;> simp [ha, hb, show -(stepOf (-1)) = 124 by decide]
  · by_cases ha : a = 0 <;> by_cases hb : b = 0 <;> simp [ha, hb, show -(stepOf (-2)) = 38 by decide]
  · simp [push, show -(stepOf (-3)) = 60 by decide]
  · simp [push, show -(stepOf (-4)) = 61 by decide]
  · simp [push, show -(stepOf (-5)) = 62 by decide]
  · simp [show -(stepOf (-6)) = 43 by decide]
  · simp [show -(stepOf (-7)) = 45 by decide]
  · simp [show -(stepOf (-8)) = 42 by decide]
  · by_cases hb : b = 0 <;> simp [hb, dv_ok, show -(stepOf (-9)) = 47 by decide]
