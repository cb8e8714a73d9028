/-! rows are saved before they change: the model's -/
def svM : List Nat × List Nat × Bool := ([709, 2816], [], false)
theorem SH.n44 {h : PH} (a : SH h) : 0 < hN h 44 := a.nl (k := 44) (n := 2912) (by decide +kernel)
theorem sv_l3 {h0 : PH} (a0 : SH h0) {N : Nat → Int32} (hN : hI h0 2624 0 = N) {c : Nat} (hc : c ≤ 15) : ∀ k j h, j + k = 168 → Fr svM h0 h → hI h 709 0 0 = nI c → (∀ i, i < j → hI h 2816 0 (182 * c + 14 + i) = N (225 + i)) → ∃ n h', (X12_saves_fam n).2.2 0 (nI j) h = some (none, h') ∧ Fr svM h0 h' ∧ hI h' 709 0 0 = nI (c + 1) ∧ (∀ i, i < 168 → hI h' 2816 0 (182 * c + 14 + i) = N (225 + i)) ∧ ∀ i, i < 182 * c + 14 → hI h' 2816 0 i = hI h 2816 0 i := by
  intro k
  induction k with
  | zero =>
    intro j h e f h9 hd
    have a := a0.fr f (by decide +kernel)
    have hlt : ¬ nI j < 168 := nI_nlt (b := 168) (by omega) (by omega)
    refine ⟨1, pI h 709 0 0 (nI (c + 1)), ?_, f.pI (by decide), ?_, fun i hi => ?_, fun i hi => ?_⟩
    · show X12_saves_g95 _ 0 (nI j) h = _
      unfold X12_saves_g95 X12_saves_f95
      rw [if_neg hlt, h9, nI_1, wr_eq]
    · rw [hI_pI, if_pos ⟨rfl, rfl, rfl⟩]
    · rw [hI_off _ (by decide)]
      exact hd i (by omega)
    · rw [hI_off _ (by decide)]
  | succ k ih =>
    intro j h e f h9 hd
    have a := a0.fr f (by decide +kernel)
    have hN' : hI h 2624 0 = N := (now_fr a0 f (by decide)).trans hN
    have hlt : nI j < 168 := nI_lt (b := 168) (by omega) (by decide)
    have x1 : (225 : Int32) + nI j = nI (225 + j) := by rw [show (225 : Int32) = nI 225 from rfl, nI_add]
    have x2 : (182 : Int32) * nI c + 14 + nI j = nI (182 * c + 14 + j) := by rw [show (182 : Int32) = nI 182 from rfl, show (14 : Int32) = nI 14 from rfl, nI_mul, nI_add, nI_add]
    obtain ⟨n, h', e1, e2, e3, e4, e5⟩ := ih (j + 1) (pI h 2816 0 (182 * c + 14 + j) (N (225 + j))) (by omega) (f.pI (by decide)) ((hI_off h (by decide) _ _ _ _ _).trans h9) (fun i hi => by
      rw [hI_pI]
      by_cases d : i = j
      · subst d
        rw [if_pos ⟨rfl, rfl, rfl⟩]
      · rw [if_neg (fun z => by omega)]
        exact hd i (by omega))
    refine ⟨n + 1, h', ?_, e2, e3, e4, fun i hi => ?_⟩
    · show X12_saves_g95 (X12_saves_fam n) 0 (nI j) h = _
      unfold X12_saves_g95 X12_saves_f95
      rw [if_pos hlt, nnE (sh_704 a), ixE (ln_41 a) x1 (show 225 + j < 1765 by omega) (by decide), nnE (sh_708 a), h9, ixE (ln_44 a) x2 (show 182 * c + 14 + j < 2912 by omega) (by decide), hN', wr_eq, nI_1]
      exact e1
    · rw [e5 i hi, hI_pI, if_neg (fun z => by omega)]
theorem sv_l2 {h0 : PH} (a0 : SH h0) {N : Nat → Int32} (hN : hI h0 2624 0 = N) {c : Nat} (hc : c ≤ 15) : ∀ k j h, j + k = 14 → Fr svM h0 h → hI h 709 0 0 = nI c → (∀ i, i < j → hI h 2816 0 (182 * c + i) = N (157 + 5 * i)) → ∃ n h', (X12_saves_fam n).2.1 0 (nI j) h = some (none, h') ∧ Fr svM h0 h' ∧ hI h' 709 0 0 = nI (c + 1) ∧ (∀ i, i < 14 → hI h' 2816 0 (182 * c + i) = N (157 + 5 * i)) ∧ (∀ i, i < 168 → hI h' 2816 0 (182 * c + 14 + i) = N (225 + i)) ∧ ∀ i, i < 182 * c → hI h' 2816 0 i = hI h 2816 0 i := by
  intro k
  induction k with
  | zero =>
    intro j h e f h9 hd
    have hlt : ¬ nI j < 14 := nI_nlt (b := 14) (by omega) (by omega)
    obtain ⟨n, h', e1, e2, e3, e4, e5⟩ := sv_l3 a0 hN hc 168 0 h (by omega) f h9 (fun i hi => by omega)
    refine ⟨n + 1, h', ?_, e2, e3, fun i hi => ?_, e4, fun i hi => e5 i (by omega)⟩
    · show X12_saves_g52 (X12_saves_fam n) 0 (nI j) h = _
      unfold X12_saves_g52 X12_saves_f52
      rw [if_neg hlt]
      exact e1
    · rw [e5 _ (by omega)]
      exact hd i (by omega)
  | succ k ih =>
    intro j h e f h9 hd
    have a := a0.fr f (by decide +kernel)
    have hN' : hI h 2624 0 = N := (now_fr a0 f (by decide)).trans hN
    have hlt : nI j < 14 := nI_lt (b := 14) (by omega) (by decide)
    have x1 : (155 : Int32) + 5 * nI j + 2 = nI (157 + 5 * j) := by
      rw [show (155 : Int32) = nI 155 from rfl, show (5 : Int32) = nI 5 from rfl, show (2 : Int32) = nI 2 from rfl, nI_mul, nI_add, nI_add]
      congr 1
      omega
    have x2 : (182 : Int32) * nI c + nI j = nI (182 * c + j) := by rw [show (182 : Int32) = nI 182 from rfl, nI_mul, nI_add]
    obtain ⟨n, h', e1, e2, e3, e4, e5, e6⟩ := ih (j + 1) (pI h 2816 0 (182 * c + j) (N (157 + 5 * j))) (by omega) (f.pI (by decide)) ((hI_off h (by decide) _ _ _ _ _).trans h9) (fun i hi => by
      rw [hI_pI]
      by_cases d : i = j
      · subst d
        rw [if_pos ⟨rfl, rfl, rfl⟩]
      · rw [if_neg (fun z => by omega)]
        exact hd i (by omega))
    refine ⟨n + 1, h', ?_, e2, e3, e4, e5, fun i hi => ?_⟩
    · show X12_saves_g52 (X12_saves_fam n) 0 (nI j) h = _
      unfold X12_saves_g52 X12_saves_f52
      rw [if_pos hlt, nnE (sh_704 a), ixE (ln_41 a) x1 (show 157 + 5 * j < 1765 by omega) (by decide), nnE (sh_708 a), h9, ixE (ln_44 a) x2 (show 182 * c + j < 2912 by omega) (by decide), hN', wr_eq, nI_1]
      exact e1
    · rw [e6 i hi, hI_pI, if_neg (fun z => by omega)]
theorem sv_l1 {h0 : PH} (a0 : SH h0) {N : Nat → Int32} (hN : hI h0 2624 0 = N) (h16 : hI h0 709 0 0 = nI 16) : ∀ k j h, j + k = 2730 → Fr svM h0 h → hI h 709 0 0 = nI 16 → (∀ i, hI h 2816 0 i = if i < j then hI h0 2816 0 (i + 182) else hI h0 2816 0 i) → ∃ n h', (X12_saves_fam n).1 0 (nI j) h = some (none, h') ∧ Fr svM h0 h' ∧ hI h' 709 0 0 = nI 16 ∧ (∀ i, i < 14 → hI h' 2816 0 (182 * 15 + i) = N (157 + 5 * i)) ∧ (∀ i, i < 168 → hI h' 2816 0 (182 * 15 + 14 + i) = N (225 + i)) ∧ ∀ i, i < 182 * 15 → hI h' 2816 0 i = hI h0 2816 0 (i + 182) := by
  intro k
  induction k with
  | zero =>
    intro j h e f h9 hd
    have hlt : ¬ nI j < 2730 := nI_nlt (b := 2730) (by omega) (by omega)
    obtain ⟨n, h', e1, e2, e3, e4, e5, e6⟩ := sv_l2 a0 hN (c := 15) (by omega) 14 0 (pI h 709 0 0 (nI 15)) (by omega) (f.pI (by decide)) (by rw [hI_pI, if_pos ⟨rfl, rfl, rfl⟩]) (fun i hi => by omega)
    refine ⟨n + 1, h', ?_, e2, e3, e4, e5, fun i hi => ?_⟩
    · show X12_saves_g11 (X12_saves_fam n) 0 (nI j) h = _
      unfold X12_saves_g11 X12_saves_f11
      rw [if_neg hlt, h9, nI_pred, wr_eq]
      exact e1
    · rw [e6 i hi, hI_off _ (by decide), hd i, if_pos (by omega)]
  | succ k ih =>
    intro j h e f h9 hd
    have a := a0.fr f (by decide +kernel)
    have hlt : nI j < 2730 := nI_lt (b := 2730) (by omega) (by decide)
    have x1 : nI j + 182 = nI (j + 182) := by rw [show (182 : Int32) = nI 182 from rfl, nI_add]
    obtain ⟨n, h', e1, e2, e3, e4, e5, e6⟩ := ih (j + 1) (pI h 2816 0 j (hI h0 2816 0 (j + 182))) (by omega) (f.pI (by decide)) ((hI_off h (by decide) _ _ _ _ _).trans h9) (fun i => by
      rw [hI_pI]
      by_cases d : i = j
      · subst d
        rw [if_pos ⟨rfl, rfl, rfl⟩, if_pos (by omega)]
      · rw [if_neg (fun z => d z.2.2), hd i]
        by_cases c : i < j
        · rw [if_pos c, if_pos (by omega)]
        · rw [if_neg c, if_neg (by omega)])
    refine ⟨n + 1, h', ?_, e2, e3, e4, e5, e6⟩
    show X12_saves_g11 (X12_saves_fam n) 0 (nI j) h = _
    unfold X12_saves_g11 X12_saves_f11
    rw [if_pos hlt, nnE (sh_708 a), ixE (ln_44 a) x1 (show j + 182 < 2912 by omega) (by decide), nnE (sh_708 a), ixE (ln_44 a) rfl (show j < 2912 by omega) (by decide), hd (j + 182), if_neg (by omega), wr_eq, nI_1]
    exact e1
theorem saves_eq {h : PH} (a : SH h) {n : Nat} (hn : n ≤ 16) (h9 : hI h 709 0 0 = nI n) : ∃ h', X12_saves 0 h = some (none, h') ∧ Fr svM h h' ∧ hI h' 709 0 0 = nI (min (n + 1) 16) ∧ (∀ i, i < 14 → hI h' 2816 0 (182 * min n 15 + i) = hI h 2624 0 (157 + 5 * i)) ∧ (∀ i, i < 168 → hI h' 2816 0 (182 * min n 15 + 14 + i) = hI h 2624 0 (225 + i)) ∧ ∀ i, i < 182 * min n 15 → hI h' 2816 0 i = if n = 16 then hI h 2816 0 (i + 182) else hI h 2816 0 i := by
  by_cases c : n = 16
  · subst c
    obtain ⟨z, h', e1, e2, e3, e4, e5, e6⟩ := sv_l1 a rfl h9 2730 0 h (by omega) Fr.rf h9 (fun i => by rw [if_neg (by omega)])
    refine ⟨h', X12_saves_iff.mpr ⟨z, ?_⟩, e2, e3, e4, e5, fun i hi => by rw [if_pos rfl]; exact e6 i hi⟩
    unfold X12_saves_g0 X12_saves_f0
    rw [h9, if_pos (by decide)]
    exact e1
  · have hm : min n 15 = n := Nat.min_eq_left (by omega)
    have hm2 : min (n + 1) 16 = n + 1 := Nat.min_eq_left (by omega)
    rw [hm, hm2]
    obtain ⟨z, h', e1, e2, e3, e4, e5, e6⟩ := sv_l2 a rfl (c := n) (by omega) 14 0 h (by omega) Fr.rf h9 (fun i hi => by omega)
    refine ⟨h', X12_saves_iff.mpr ⟨z, ?_⟩, e2, e3, e4, e5, fun i hi => by rw [if_neg c]; exact e6 i hi⟩
    unfold X12_saves_g0 X12_saves_f0
    rw [h9, if_neg (show ¬ nI n = 16 from fun e => by have := (nI_eq (b := 16) (by omega) (by decide)).mp e; omega)]
    exact e1
