theorem dv_24 (f : Option Rs) : dv 24 f = f := rfl
theorem X11_hours_eq {h : PH} (a : SH h) (x : Int32) : X11_hours 0 x h = some (if x < 1 then (some (.inl (-1000000001)), h) else if 48 < x then (some (.inl (-1000000001)), h) else if 999 < hI h 79 0 0 + (hI h 78 0 0 + x) / 24 then (some (.inl (-1000000003)), h) else
    (some (.inl (jrem (hI h 78 0 0 + x) 24)), pI (pI h 78 0 0 (jrem (hI h 78 0 0 + x) 24)) 79 0 0 (hI h 79 0 0 + (hI h 78 0 0 + x) / 24))) := by
  by_cases c : x < 1 <;> by_cases d : 48 < x <;> by_cases e : 999 < hI h 79 0 0 + (hI h 78 0 0 + x) / 24 <;> simp [X11_hours, X11_hours_g0, X11_hours_f0, nn, wr, sh_640 a, c, d, e, dv_24, hR_pI, hI_pI]
theorem X12_hours_eq {h : PH} (a : SH h) (x : Int32) : X12_hours 0 x h = some (if x < 1 then (some (.inl (-1000000001)), h) else if 48 < x then (some (.inl (-1000000001)), h) else if 999 < hI h 2624 0 2 + (hI h 2624 0 1 + x) / 24 then (some (.inl (-1000000003)), h) else
    (some (.inl (jrem (hI h 2624 0 1 + x) 24)), pI (pI h 2624 0 2 (hI h 2624 0 2 + (hI h 2624 0 1 + x) / 24)) 2624 0 1 (jrem (hI h 2624 0 1 + x) 24))) := by
  by_cases c : x < 1 <;> by_cases d : 48 < x <;> by_cases e : 999 < hI h 2624 0 2 + (hI h 2624 0 1 + x) / 24 <;> simp [X12_hours, X12_hours_g0, X12_hours_f0, X12_in_eq, cI, nn, wr, ix, sh_704 a, ln_41 a, c, d, e, dv_24, hR_pI, hI_pI, hL_pI]
