theorem X11_trim_eq {h : PH} (a : SH h) (x : Int32) : X11_trim 0 x h = some (if x < 0 then (some (.inl (-1000000001)), h) else if hI h 129 0 0 < x then (some (.inl (-1000000001)), h) else (some (.inl x), pI h 129 0 0 x)) := by
  by_cases c : x < 0 <;> by_cases d : hI h 129 0 0 < x <;> simp [X11_trim, X11_trim_g0, X11_trim_f0, nn, wr, sh_645 a, c, d]
theorem X12_trim_eq (h : PH) (x : Int32) : X12_trim 0 x h = some (if x < 0 then (some (.inl (-1000000001)), h) else if hI h 711 0 0 < x then (some (.inl (-1000000001)), h) else (some (.inl x), pI h 711 0 0 x)) := by
  by_cases c : x < 0 <;> by_cases d : hI h 711 0 0 < x <;> simp [X12_trim, X12_trim_g0, X12_trim_f0, X12_in_eq, cI, wr, c, d]
theorem X11_tell_eq {h : PH} (a : SH h) (x : Int32) {n : Nat} (hn : hI h 649 0 0 = nI n) (h60 : n ≤ 60) : X11_tell 0 x h = some (if n < 60 then (some (.inl (nI (n + 1))), pI (pI h 2560 0 n x) 649 0 0 (nI (n + 1))) else (some (.inl (-1000000003)), h)) := by
  unfold X11_tell X11_tell_g0 X11_tell_f0
  by_cases c : n < 60
  · have d : nI n < 60 := nI_lt (b := 60) c (by decide)
    rw [hn, if_pos d, if_pos c, sh_648 a, nn_one, ln_40 a, ix_nI c (by decide)]
    simp [wr, hI_pI, hn, nI_1]
  · have d : ¬ nI n < 60 := nI_nlt (b := 60) (by omega) (by omega)
    rw [hn, if_neg d, if_neg c]
theorem X12_tell_eq {h : PH} (a : SH h) (x : Int32) {n : Nat} (hn : hI h 754 0 0 = nI n) (h60 : n ≤ 60) : X12_tell 0 x h = some (if n < 60 then (some (.inl (nI (n + 1))), pI (pI h 4480 0 n x) 754 0 0 (nI (n + 1))) else (some (.inl (-1000000003)), h)) := by
  unfold X12_tell X12_tell_g0 X12_tell_f0
  by_cases c : n < 60
  · have d : ¬ nI n = 60 := by
      intro e
      have := (nI_eq (b := 60) (by omega) (by decide)).mp e
      omega
    rw [hn, if_neg d, if_pos c, sh_753 a, nn_one, ln_70 a, ix_nI c (by decide)]
    simp [wr, hI_pI, hn, nI_1]
  · have e : n = 60 := by omega
    subst e
    rw [hn, if_pos (show nI 60 = 60 from rfl), if_neg c]
