/-! the house's way to work a text out -/
theorem bit_eq {x : Int32} (hx : x = 0 ∨ x = 1) (h : PH) : X11_bit x h = some (some (.inl x), h) := by
  rcases hx with rfl | rfl <;> rfl
theorem leaf_cases {c : Int32} (h1 : 0 ≤ c.toInt) (h2 : c.toInt < 10004) : c < 10000 ∨ c = 10000 ∨ c = 10001 ∨ c = 10002 ∨ c = 10003 := by
  have e0 : (10000 : Int32).toInt = 10000 := by decide
  have e1 : (10001 : Int32).toInt = 10001 := by decide
  have e2 : (10002 : Int32).toInt = 10002 := by decide
  have e3 : (10003 : Int32).toInt = 10003 := by decide
  simp only [i_eq, i_lt, e0, e1, e2, e3]
  omega
theorem bin_step {c : Int32} (hc : isBin c) : stepOf c < -4 ∧ ¬ stepOf c = -33 := by
  rcases hc with rfl | rfl | rfl | rfl | rfl | rfl | rfl | rfl | rfl <;> decide
section
variable {G : Nat → Int32 → Int32 → Int32 → Int32 → Int32 → Int32 → PH → Option Rs} {T S V k d many m : Nat} {x1 x2 x3 x4 : Int32} {h : PH}
theorem vx_end (r1 : hR h 450 T 0 = S + 1) (r2 : hR h 451 T 0 = V + 1) (l1 : hL h 29 S = many) (l2 : hL h 30 V = m) (hm0 : 0 < m) (hm : m ≤ 96) (hk : many ≤ k) (h96 : k ≤ 96) (hd : 1 ≤ d) (hd96 : d ≤ 96) : X8_value_g6 G T x1 x2 x3 x4 (nI d) (nI k) h = some (some (.inl (hI h 1920 V 0)), h) := by
  have hlt : ¬ nI k < Int32.ofNat many := nI_nlt hk (by omega)
  unfold X8_value_g6 X8_value_f6
  rw [nnE r1, l1, if_neg hlt, if_neg (show ¬ nI d < 1 from nI_nlt (b := 1) hd (by omega)), nnE r2]
  exact ixE l2 rfl hm0 (by omega) _
theorem vx_put (r2 : hR h 451 T 0 = V + 1) (l2 : hL h 30 V = m) (hm : m ≤ 96) (hd : d < m) (v : Int32) : X8_value_g92 G T x1 x2 x3 x4 (nI d) (nI k) v (nI d) (hR h 451 T 0) h = G T x1 x2 x3 x4 (nI (d + 1)) (nI (k + 1)) (pI h 1920 V d v) := by
  unfold X8_value_g92 X8_value_f92
  rw [nnE r2, ixE l2 rfl hd (by omega), wr_eq]
  unfold X8_value_g184 X8_value_f184
  rw [nI_1, nI_1]
theorem vx_leaf (fa : Nat → Int32) (r1 : hR h 450 T 0 = S + 1) (r2 : hR h 451 T 0 = V + 1) (l1 : hL h 29 S = many) (l2 : hL h 30 V = m) (hm : m ≤ 96) (hk : k < many) (h96 : many ≤ 96) (hd : d < m) {c : Int32} (hc : hI h 1856 S k = stepOf c) (w1 : 0 ≤ c.toInt) (w2 : c.toInt < 10004) : X8_value_g6 G T (fa 0) (fa 1) (fa 2) (fa 3) (nI d) (nI k) h = G T (fa 0) (fa 1) (fa 2) (fa 3) (nI (d + 1)) (nI (k + 1)) (pI h 1920 V d (leafV fa c)) := by
  have hlt : nI k < Int32.ofNat many := nI_lt hk (by omega)
  unfold X8_value_g6 X8_value_f6
  have hlt2 : nI d < Int32.ofNat m := nI_lt hd (by omega)
  rw [nnE r1, l1, if_pos hlt, nnE r1, ixE l1 rfl hk (by omega), hc, vx_put r2 l2 hm hd, vx_put r2 l2 hm hd, vx_put r2 l2 hm hd, vx_put r2 l2 hm hd, vx_put r2 l2 hm hd]
  rcases leaf_cases w1 w2 with hs | hs | hs | hs | hs
  · have hl : leafV fa c = c := if_pos hs
    have hst : stepOf c = c := by
      unfold stepOf
      rw [if_pos (by rw [i_le, i0]; exact w1), if_pos hs]
    have h4 : ¬ c < -4 := by
      have e4 : (-4 : Int32).toInt = -4 := by decide
      rw [i_lt, e4]; omega
    have hn : ¬ c < 0 := by rw [i_lt, i0]; omega
    rw [hl, hst, if_neg h4, nnE r2, l2, if_pos hlt2, if_neg hn]
  · subst hs
    rw [show stepOf 10000 = -1 by decide, if_neg (show ¬ (-1 : Int32) < -4 by decide), nnE r2, l2, if_pos hlt2, if_pos (show (-1 : Int32) < 0 by decide), if_pos rfl]
    rfl
  · subst hs
    rw [show stepOf 10001 = -2 by decide, if_neg (show ¬ (-2 : Int32) < -4 by decide), nnE r2, l2, if_pos hlt2, if_pos (show (-2 : Int32) < 0 by decide), if_neg (show ¬ (-2 : Int32) = -1 by decide), if_pos rfl]
    rfl
  · subst hs
    rw [show stepOf 10002 = -3 by decide, if_neg (show ¬ (-3 : Int32) < -4 by decide), nnE r2, l2, if_pos hlt2, if_pos (show (-3 : Int32) < 0 by decide), if_neg (show ¬ (-3 : Int32) = -1 by decide), if_neg (show ¬ (-3 : Int32) = -2 by decide), if_pos rfl]
    rfl
  · subst hs
    rw [show stepOf 10003 = -4 by decide, if_neg (show ¬ (-4 : Int32) < -4 by decide), nnE r2, l2, if_pos hlt2, if_pos (show (-4 : Int32) < 0 by decide), if_neg (show ¬ (-4 : Int32) = -1 by decide), if_neg (show ¬ (-4 : Int32) = -2 by decide), if_neg (show ¬ (-4 : Int32) = -3 by decide)]
    rfl
theorem vx_not (r1 : hR h 450 T 0 = S + 1) (r2 : hR h 451 T 0 = V + 1) (l1 : hL h 29 S = many) (l2 : hL h 30 V = m) (hm : m ≤ 96) (hk : k < many) (h96 : many ≤ 96) (hd : d < m) (hc : hI h 1856 S k = -33) : X8_value_g6 G T x1 x2 x3 x4 (nI (d + 1)) (nI k) h = G T x1 x2 x3 x4 (nI (d + 1)) (nI (k + 1)) (pI h 1920 V d (if hI h 1920 V d = 0 then 1 else 0)) := by
  have hlt : nI k < Int32.ofNat many := nI_lt hk (by omega)
  have fin : ∀ v, v = 0 ∨ v = 1 → X8_value_g137 G T x1 x2 x3 x4 (nI (d + 1)) (nI k) v (nI d) (hR h 451 T 0) h = G T x1 x2 x3 x4 (nI (d + 1)) (nI (k + 1)) (pI h 1920 V d v) := fun v hv => by
    unfold X8_value_g137 X8_value_f137
    rw [bit_eq hv, cI_some, nnE r2, ixE l2 rfl hd (by omega), wr_eq]
    unfold X8_value_g184 X8_value_f184
    rw [nI_1]
  unfold X8_value_g6 X8_value_f6
  rw [nnE r1, l1, if_pos hlt, nnE r1, ixE l1 rfl hk (by omega), hc, if_pos (show (-33 : Int32) < -4 by decide)]
  unfold X8_value_g99 X8_value_f99
  rw [if_pos rfl, if_neg (show ¬ nI (d + 1) < 1 from nI_nlt (b := 1) (by omega) (by omega)), nnE r2, ixE l2 (nI_pred d) hd (by omega), nI_pred, fin 1 (Or.inr rfl), fin 0 (Or.inl rfl)]
  split <;> rfl
theorem vx_bin (r1 : hR h 450 T 0 = S + 1) (r2 : hR h 451 T 0 = V + 1) (l1 : hL h 29 S = many) (l2 : hL h 30 V = m) (hm : m ≤ 96) (hk : k < many) (h96 : many ≤ 96) (hd : d + 1 < m) {c : Int32} (hc : hI h 1856 S k = stepOf c) (hb : isBin c) : X8_value_g6 G T x1 x2 x3 x4 (nI (d + 1 + 1)) (nI k) h = G T x1 x2 x3 x4 (nI (d + 1)) (nI (k + 1)) (pI h 1920 V d (joinK c (hI h 1920 V d) (hI h 1920 V (d + 1)))) := by
  have hlt : nI k < Int32.ofNat many := nI_lt hk (by omega)
  obtain ⟨s1, s2⟩ := bin_step hb
  unfold X8_value_g6 X8_value_f6
  rw [nnE r1, l1, if_pos hlt, nnE r1, ixE l1 rfl hk (by omega), hc, if_pos s1]
  unfold X8_value_g99 X8_value_f99
  rw [if_neg s2]
  unfold X8_value_g144 X8_value_f144
  rw [if_neg (show ¬ nI (d + 1 + 1) < 2 from nI_nlt (b := 2) (by omega) (by omega)), pk_m1, nI_pred, nnE r2, ixE l2 rfl (show d < m by omega) (by omega), nnE r2, ixE l2 rfl hd (by omega), joined_eq hb, cI_some, nnE r2, ixE l2 rfl (show d < m by omega) (by omega), wr_eq]
  unfold X8_value_g184 X8_value_f184
  rw [nI_1]
end
theorem X8_value_loop {T S V : Nat} {code fa : Nat → Int32} {m many : Nat} (hm : m ≤ 96) (hmany : many ≤ 96) : ∀ (n k d : Nat) (h : PH), hR h 450 T 0 = S + 1 → hR h 451 T 0 = V + 1 → hL h 29 S = many → hL h 30 V = m → k + n = many → d ≤ m → 0 < m → wfD code m n k d → (∀ j, j < many → hI h 1856 S j = stepOf (code j)) →
    ∃ z h', X8_value_fam z T (fa 0) (fa 1) (fa 2) (fa 3) (nI d) (nI k) h = some (some (.inl (evF code fa n k (hI h 1920 V) d)), h') := by
  intro n
  induction n with
  | zero =>
    intro k d h r1 r2 l1 l2 e hd hm0 hw hc
    have hd1 : d = 1 := hw
    exact ⟨1, h, vx_end r1 r2 l1 l2 hm0 hm (by omega) (by omega) (by omega) (by omega)⟩
  | succ n ih =>
    intro k d h r1 r2 l1 l2 e hd hm0 hw hc
    have key : ∀ (d' : Nat) (j : Nat) (v : Int32), d' ≤ m → wfD code m n (k + 1) d' → ∃ z h', X8_value_fam z T (fa 0) (fa 1) (fa 2) (fa 3) (nI d') (nI (k + 1)) (pI h 1920 V j v) = some (some (.inl (evF code fa n (k + 1) (updF (hI h 1920 V) j v) d')), h') := fun d' j v hd' hw' => by
      obtain ⟨z, h', q⟩ := ih (k + 1) d' (pI h 1920 V j v) r1 r2 l1 l2 (by omega) hd' hm0 hw' (fun j' hj' => (hI_off h (by decide) _ _ _ _ _).trans (hc j' hj'))
      rw [hI_upd] at q
      exact ⟨z, h', q⟩
    rcases hw with ⟨w1, w2, w3, w4⟩ | ⟨w1, w2, w3⟩ | ⟨w1, w2, w3⟩
    · have hn : ¬ code k < 0 := by rw [i_lt, i0]; omega
      obtain ⟨z, h', q⟩ := key (d + 1) d (leafV fa (code k)) (by omega) w4
      refine ⟨z + 1, h', ?_⟩
      rw [evF, if_pos hn]
      exact Eq.trans (vx_leaf fa r1 r2 l1 l2 hm (by omega) hmany (by omega) (hc k (by omega)) w1 w2) q
    · obtain ⟨e', rfl⟩ : ∃ e', d = e' + 1 := ⟨d - 1, by omega⟩
      obtain ⟨z, h', q⟩ := key (e' + 1) e' (if hI h 1920 V e' = 0 then 1 else 0) (by omega) w3
      refine ⟨z + 1, h', ?_⟩
      have hn : ¬ ¬ code k < 0 := fun c => c (by rw [w1]; decide)
      rw [evF, if_neg hn, if_pos w1]
      exact Eq.trans (vx_not r1 r2 l1 l2 hm (by omega) hmany (by omega) ((hc k (by omega)).trans (by rw [w1]; decide))) q
    · obtain ⟨e', rfl⟩ : ∃ e', d = e' + 1 + 1 := ⟨d - 2, by omega⟩
      obtain ⟨z, h', q⟩ := key (e' + 1) e' (joinK (code k) (hI h 1920 V e') (hI h 1920 V (e' + 1))) (by omega) w3
      refine ⟨z + 1, h', ?_⟩
      obtain ⟨hn', hn2⟩ := bin_neg w1
      have hn : ¬ ¬ code k < 0 := fun c => c hn'
      rw [evF, if_neg hn, if_neg hn2]
      exact Eq.trans (vx_bin r1 r2 l1 l2 hm (by omega) hmany (by omega) (hc k (by omega)) w1) q
theorem X8_value_eq {h : PH} {T S V : Nat} {code fa : Nat → Int32} {m many : Nat} (hm : m ≤ 96) (hmany : many ≤ 96) (hm0 : 0 < m) (r1 : hR h 450 T 0 = S + 1) (r2 : hR h 451 T 0 = V + 1) (l1 : hL h 29 S = many) (l2 : hL h 30 V = m) (hw : wfD code m many 0 0) (hc : ∀ j, j < many → hI h 1856 S j = stepOf (code j)) {x1 x2 x3 x4 : Int32} (f0 : fa 0 = x1) (f1 : fa 1 = x2) (f2 : fa 2 = x3) (f3 : fa 3 = x4) : ∃ h', X8_value T x1 x2 x3 x4 h = some (some (.inl (textV code fa many)), h') := by
  subst f0 f1 f2 f3
  obtain ⟨z, h', q⟩ := X8_value_loop (T := T) (S := S) (V := V) (fa := fa) hm hmany many 0 0 h r1 r2 l1 l2 (by omega) (by omega) hm0 hw hc
  refine ⟨h', X8_value_iff.mpr ⟨z, ?_⟩⟩
  rw [evF_cong many 0 0 _ (fun _ => 0) hw (fun j hj => by omega)] at q
  exact q
