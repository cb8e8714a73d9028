/-! how a text is worked out -/
def upd (st : Nat → Int32) (d : Nat) (v : Int32) : Nat → Int32 := fun j => if j = d then v else st j
def leafV (fa : Nat → Int32) (c : Int32) : Int32 := if c < 10000 then c else fa (c - 10000).toInt.toNat
def evF (code fa : Nat → Int32) : Nat → Nat → (Nat → Int32) → Nat → Int32
  | 0, _, st, _ => st 0
  | n + 1, k, st, d => if ¬ code k < 0 then evF code fa n (k + 1) (upd st d (leafV fa (code k))) (d + 1)
    else if code k = -10 then evF code fa n (k + 1) (upd st (d - 1) (if st (d - 1) = 0 then 1 else 0)) d
    else evF code fa n (k + 1) (upd st (d - 2) (joinK (code k) (st (d - 2)) (st (d - 1)))) (d - 1)
/-- a right text of n steps from the k-th on, with d numbers there, never more than m -/
def wfD (code : Nat → Int32) (m : Nat) : Nat → Nat → Nat → Prop
  | 0, _, d => d = 1
  | n + 1, k, d => (0 ≤ (code k).toInt ∧ (code k).toInt < 10004 ∧ d < m ∧ wfD code m n (k + 1) (d + 1)) ∨ (code k = -10 ∧ 1 ≤ d ∧ wfD code m n (k + 1) d) ∨ (isBin (code k) ∧ 2 ≤ d ∧ wfD code m n (k + 1) (d - 1))
theorem hI_upd (h : PH) (c i d : Nat) (v : Int32) : hI (pI h c i d v) c i = upd (hI h c i) d v := by
  funext j
  show (if c = c ∧ i = i ∧ j = d then v else hI h c i j) = if j = d then v else hI h c i j
  by_cases e : j = d <;> simp [e]
theorem hI_off (h : PH) {c c' : Nat} (hc : c' ≠ c) (i j : Nat) (v : Int32) (i' j' : Nat) : hI (pI h c i j v) c' i' j' = hI h c' i' j' := by
  rw [hI_pI, if_neg (fun e => hc e.1)]
theorem SH.pI {h : PH} (a : SH h) (c i j : Nat) (v : Int32) : SH (pI h c i j v) := a
theorem bin_neg {c : Int32} (hc : isBin c) : c < 0 ∧ ¬ c = -10 := by
  rcases hc with rfl | rfl | rfl | rfl | rfl | rfl | rfl | rfl | rfl <;> decide
set_option maxHeartbeats 1000000 in
theorem X12_worksOut_loop {t : Nat} (ht : t < 14) {code fa : Nat → Int32} {m many : Nat} (hm : m ≤ 96) (hmany : many ≤ 96) : ∀ (n k d : Nat) (h : PH), SH h → k + n = many → d ≤ m → wfD code m n k d → (∀ j, j < 96 → hI h 2624 0 (421 + 96 * t + j) = code j) → (∀ j, j < 4 → hI h 3328 0 j = fa j) →
    ∃ z h', X12_worksOut_fam z 0 (nI t) (nI d) (nI many) (nI k) h = some (some (.inl (evF code fa n k (hI h 3264 0) d)), h')
  | 0, k, d, h, a, e, hd, hw, hc, hf => by
    refine ⟨1, h, ?_⟩
    have hlt : ¬ nI k < nI many := nI_nlt (by omega) (by omega)
    have i0' : ∀ f : Nat → Option Rs, ix 0 96 f = f 0 := fun f => ix_nI (show 0 < 96 by decide) (by decide) f
    simp only [X12_worksOut_fam, X12_worksOut_g22, X12_worksOut_f22, if_neg hlt, sh_726 a, nn_one, ln_51 a, i0', evF]
  | n + 1, k, d, h, a, e, hd, hw, hc, hf => by
    have hlt : nI k < nI many := nI_lt (by omega) (by omega)
    have e0 : (421 : Int32) + 96 * nI t + nI k = nI (421 + 96 * t + k) := by
      rw [show (421 : Int32) = nI 421 from rfl, show (96 : Int32) = nI 96 from rfl, nI_mul, nI_add, nI_add]
    have h31 : 1765 < 2 ^ 31 := by decide
    have b0 : 421 + 96 * t + k < 1765 := by omega
    have hck : hI h 2624 0 (421 + 96 * t + k) = code k := hc k (by omega)
    have key : ∀ (d' : Nat) (j : Nat) (v : Int32), d' ≤ m → wfD code m n (k + 1) d' → ∃ z h', X12_worksOut_fam z 0 (nI t) (nI d') (nI many) (nI (k + 1)) (pI h 3264 0 j v) = some (some (.inl (evF code fa n (k + 1) (upd (hI h 3264 0) j v) d')), h') := fun d' j v hd' hw' => by
      obtain ⟨z, h', q⟩ := X12_worksOut_loop ht hm hmany n (k + 1) d' (pI h 3264 0 j v) (a.pI _ _ _ _) (by omega) hd' hw' (fun j' hj' => by rw [hI_off _ (by decide)]; exact hc j' hj') (fun j' hj' => by rw [hI_off _ (by decide)]; exact hf j' hj')
      rw [hI_upd] at q
      exact ⟨z, h', q⟩
    rcases hw with ⟨w1, w2, w3, w4⟩ | ⟨w1, w2, w3⟩ | ⟨w1, w2, w3⟩
    · have hn : ¬ code k < 0 := by rw [i_lt, i0]; omega
      obtain ⟨z, h', q⟩ := key (d + 1) d (leafV fa (code k)) (by omega) w4
      refine ⟨z + 1, h', ?_⟩
      rw [evF, if_pos hn]
      by_cases hs : code k < 10000
      · have hl : leafV fa (code k) = code k := if_pos hs
        rw [hl] at q ⊢
        simp only [X12_worksOut_fam, X12_worksOut_g22, X12_worksOut_f22, X12_worksOut_g80, X12_worksOut_f80, X12_worksOut_g151, X12_worksOut_f151, if_pos hlt, sh_704 a, sh_726 a, nn_one, ln_41 a, ln_51 a, e0, ix_nI b0 h31, hck, if_neg hn, if_pos hs, ix_nI (show d < 96 by omega) (show 96 < 2 ^ 31 by decide), wr_eq, nI_1]
        exact q
      · have hl : leafV fa (code k) = fa (code k - 10000).toInt.toNat := if_neg hs
        have hs' : (10000 : Int32).toInt = 10000 := by decide
        have es : (code k - 10000).toInt = (code k).toInt - 10000 := by rw [i_sub (by rw [hs']; omega), hs']
        have hge : 10000 ≤ (code k).toInt := by rw [i_lt, hs'] at hs; omega
        have ex : code k - 10000 = nI (code k - 10000).toInt.toNat := i_of (by omega)
        have b4 : (code k - 10000).toInt.toNat < 4 := by omega
        rw [hl] at q ⊢
        have ix52 : ∀ f : Nat → Option Rs, ix (code k - 10000) 4 f = f (code k - 10000).toInt.toNat := fun f => by
          rw [ex]
          rw [ix_nI (by rw [← ex]; exact b4) (by decide), ← ex]
        simp only [X12_worksOut_fam, X12_worksOut_g22, X12_worksOut_f22, X12_worksOut_g80, X12_worksOut_f80, X12_worksOut_g151, X12_worksOut_f151, if_pos hlt, sh_704 a, sh_726 a, sh_727 a, nn_one, ln_41 a, ln_51 a, ln_52 a, e0, ix_nI b0 h31, hck, if_neg hn, if_neg hs, ix52, hf _ b4, ix_nI (show d < 96 by omega) (show 96 < 2 ^ 31 by decide), wr_eq, nI_1]
        exact q
    · sorry
    · sorry
