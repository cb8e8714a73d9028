def underK (k w : Int32) : Int32 := if w = 0 then 1 else if k = w then 1 else if w = 1 then (if k = 3 then 1 else 0) else if w = 2 then (if k = 4 then 1 else 0) else 0
set_option maxRecDepth 100000 in
theorem isOfKind_eq {k w : Int32} (hk : rgI k 0 5) (hw : rgI w 0 5) (h : PH) : X6_isOfKind k w h = some (some (.inl (underK k w)), h) := by
  refine X6_isOfKind_iff.mpr ⟨7, ?_⟩
  rcases kind_cases hk with rfl | rfl | rfl | rfl | rfl | rfl <;> rcases kind_cases hw with rfl | rfl | rfl | rfl | rfl | rfl <;> rfl
set_option maxRecDepth 100000 in
theorem isUnder_eq {k w : Int32} (hk : rgI k 0 5) (hw : rgI w 0 5) (h : PH) : X12_isUnder k w h = some (some (.inl (underK k w)), h) := by
  rcases kind_cases hk with rfl | rfl | rfl | rfl | rfl | rfl <;> rcases kind_cases hw with rfl | rfl | rfl | rfl | rfl | rfl <;> rfl
