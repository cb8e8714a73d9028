/-! how a text is worked out -/
def updF (st : Nat → Int32) (d : Nat) (v : Int32) : Nat → Int32 := fun j => if j = d then v else st j
def leafV (fa : Nat → Int32) (c : Int32) : Int32 := if c < 10000 then c else fa (c - 10000).toInt.toNat
def evF (code fa : Nat → Int32) : Nat → Nat → (Nat → Int32) → Nat → Int32
  | 0, _, st, _ => st 0
  | n + 1, k, st, d => if ¬ code k < 0 then evF code fa n (k + 1) (updF st d (leafV fa (code k))) (d + 1)
    else if code k = -10 then evF code fa n (k + 1) (updF st (d - 1) (if st (d - 1) = 0 then 1 else 0)) d
    else evF code fa n (k + 1) (updF st (d - 2) (joinK (code k) (st (d - 2)) (st (d - 1)))) (d - 1)
/-- a right text of n steps from the k-th on, with d numbers there, never more than m -/
def wfD (code : Nat → Int32) (m : Nat) : Nat → Nat → Nat → Prop
  | 0, _, d => d = 1
  | n + 1, k, d => (0 ≤ (code k).toInt ∧ (code k).toInt < 10004 ∧ d < m ∧ wfD code m n (k + 1) (d + 1)) ∨ (code k = -10 ∧ 1 ≤ d ∧ wfD code m n (k + 1) d) ∨ (isBin (code k) ∧ 2 ≤ d ∧ wfD code m n (k + 1) (d - 1))
theorem hI_upd (h : PH) (c i d : Nat) (v : Int32) : hI (pI h c i d v) c i = updF (hI h c i) d v := by
  funext j
  show (if c = c ∧ i = i ∧ j = d then v else hI h c i j) = if j = d then v else hI h c i j
  by_cases e : j = d <;> simp [e]
theorem hI_off (h : PH) {c c' : Nat} (hc : c' ≠ c) (i j : Nat) (v : Int32) (i' j' : Nat) : hI (pI h c i j v) c' i' j' = hI h c' i' j' := by
  rw [hI_pI, if_neg (fun e => hc e.1)]
theorem SH.pI {h : PH} (a : SH h) (c i j : Nat) (v : Int32) : SH (pI h c i j v) := a
theorem bin_neg {c : Int32} (hc : isBin c) : c < 0 ∧ ¬ c = -10 := by
  rcases hc with rfl | rfl | rfl | rfl | rfl | rfl | rfl | rfl | rfl <;> decide
section
variable {G : Nat → Int32 → Int32 → Int32 → Int32 → PH → Option Rs} {t k d many : Nat} {h : PH}
theorem nnE {r i : Nat} (e : r = i + 1) (f : Nat → Option Rs) : nn r f = f i := by rw [e]; rfl
theorem ixE {x : Int32} {l n j : Nat} (hl : l = n) (hx : x = nI j) (hj : j < n) (hn : n < 2 ^ 31) (f : Nat → Option Rs) : ix x l f = f j := by rw [hl, hx, ix_nI hj hn]
theorem wo_end (a : SH h) (hk : many ≤ k) (h96 : k ≤ 96) : X12_worksOut_g22 G 0 (nI t) (nI d) (nI many) (nI k) h = some (some (.inl (hI h 3264 0 0)), h) := by
  have hlt : ¬ nI k < nI many := nI_nlt hk (by omega)
  unfold X12_worksOut_g22 X12_worksOut_f22
  rw [if_neg hlt, sh_726 a, nn_one, ln_51 a]
  exact ix_nI (show 0 < 96 by decide) (by decide) _
theorem wo_ix (t k : Nat) : (421 : Int32) + 96 * nI t + nI k = nI (421 + 96 * t + k) := by
  rw [show (421 : Int32) = nI 421 from rfl, show (96 : Int32) = nI 96 from rfl, nI_mul, nI_add, nI_add]
theorem wo_leaf (a : SH h) (ht : t < 14) (hk : k < many) (h96 : many ≤ 96) (hd : d < 96) {c : Int32} (hc : hI h 2624 0 (421 + 96 * t + k) = c) (w1 : 0 ≤ c.toInt) (w2 : c.toInt < 10004) : X12_worksOut_g22 G 0 (nI t) (nI d) (nI many) (nI k) h = G 0 (nI t) (nI (d + 1)) (nI many) (nI (k + 1)) (pI h 3264 0 d (leafV (hI h 3328 0) c)) := by
  have hlt : nI k < nI many := nI_lt hk (by omega)
  have hn : ¬ c < 0 := by rw [i_lt, i0]; omega
  have b0 : 421 + 96 * t + k < 1765 := by omega
  have fin : ∀ v, X12_worksOut_g80 G 0 (nI t) (nI d) (nI many) (nI k) v (nI d) (hR h 726 0 0) h = G 0 (nI t) (nI (d + 1)) (nI many) (nI (k + 1)) (pI h 3264 0 d v) := fun v => by
    unfold X12_worksOut_g80 X12_worksOut_f80
    rw [nnE (sh_726 a), ixE (ln_51 a) rfl hd (by decide), wr_eq]
    unfold X12_worksOut_g151 X12_worksOut_f151
    rw [nI_1, nI_1]
  unfold X12_worksOut_g22 X12_worksOut_f22
  rw [if_pos hlt, nnE (sh_704 a), ixE (ln_41 a) (wo_ix t k) b0 (by decide), hc, if_neg hn]
  unfold leafV
  by_cases hs : c < 10000
  · rw [if_pos hs, if_pos hs, fin]
  · have hs' : (10000 : Int32).toInt = 10000 := by decide
    have es : (c - 10000).toInt = c.toInt - 10000 := by rw [i_sub (by rw [hs']; omega), hs']
    have hge : 10000 ≤ c.toInt := by rw [i_lt, hs'] at hs; omega
    rw [if_neg hs, if_neg hs, nnE (sh_727 a), ln_52 a, ix_at (by omega) (by omega), fin]
theorem wo_not (a : SH h) (ht : t < 14) (hk : k < many) (h96 : many ≤ 96) (hd : d < 96) (hc : hI h 2624 0 (421 + 96 * t + k) = -10) : X12_worksOut_g22 G 0 (nI t) (nI (d + 1)) (nI many) (nI k) h = G 0 (nI t) (nI (d + 1)) (nI many) (nI (k + 1)) (pI h 3264 0 d (if hI h 3264 0 d = 0 then 1 else 0)) := by
  have hlt : nI k < nI many := nI_lt hk (by omega)
  have b0 : 421 + 96 * t + k < 1765 := by omega
  have fin : ∀ v, X12_worksOut_g117 G 0 (nI t) (nI (d + 1)) (nI many) (nI k) v (nI d) (hR h 726 0 0) h = G 0 (nI t) (nI (d + 1)) (nI many) (nI (k + 1)) (pI h 3264 0 d v) := fun v => by
    unfold X12_worksOut_g117 X12_worksOut_f117
    rw [nnE (sh_726 a), ixE (ln_51 a) rfl hd (by decide), wr_eq]
    unfold X12_worksOut_g151 X12_worksOut_f151
    rw [nI_1]
  unfold X12_worksOut_g22 X12_worksOut_f22
  rw [if_pos hlt, nnE (sh_704 a), ixE (ln_41 a) (wo_ix t k) b0 (by decide), hc, if_pos (show (-10 : Int32) < 0 by decide), if_pos rfl, nnE (sh_726 a), ixE (ln_51 a) (nI_pred d) hd (by decide), nI_pred, fin, fin]
  split <;> rfl
theorem wo_bin (a : SH h) (ht : t < 14) (hk : k < many) (h96 : many ≤ 96) (hd : d + 1 < 96) {c : Int32} (hc : hI h 2624 0 (421 + 96 * t + k) = c) (hb : isBin c) : X12_worksOut_g22 G 0 (nI t) (nI (d + 1 + 1)) (nI many) (nI k) h = G 0 (nI t) (nI (d + 1)) (nI many) (nI (k + 1)) (pI h 3264 0 d (joinK c (hI h 3264 0 d) (hI h 3264 0 (d + 1)))) := by
  have hlt : nI k < nI many := nI_lt hk (by omega)
  have b0 : 421 + 96 * t + k < 1765 := by omega
  obtain ⟨hn, hn2⟩ := bin_neg hb
  unfold X12_worksOut_g22 X12_worksOut_f22
  rw [if_pos hlt, nnE (sh_704 a), ixE (ln_41 a) (wo_ix t k) b0 (by decide), hc, if_pos hn, if_neg hn2, pk_m1, nI_pred, nnE (sh_726 a), ixE (ln_51 a) rfl (show d < 96 by omega) (by decide), nnE (sh_726 a), ixE (ln_51 a) rfl hd (by decide), two_eq hb, cI_some, nnE (sh_726 a), ixE (ln_51 a) rfl (show d < 96 by omega) (by decide), wr_eq]
  unfold X12_worksOut_g151 X12_worksOut_f151
  rw [nI_1]
end
theorem leafV_cong {fa fa' : Nat → Int32} {c : Int32} (w2 : c.toInt < 10004) (hf : ∀ j, j < 4 → fa j = fa' j) (w1 : 0 ≤ c.toInt) : leafV fa c = leafV fa' c := by
  unfold leafV
  by_cases hs : c < 10000
  · rw [if_pos hs, if_pos hs]
  · have hs' : (10000 : Int32).toInt = 10000 := by decide
    have es : (c - 10000).toInt = c.toInt - 10000 := by rw [i_sub (by rw [hs']; omega), hs']
    rw [if_neg hs, if_neg hs]
    exact hf _ (by omega)
theorem X12_worksOut_loop {t : Nat} (ht : t < 14) {code fa : Nat → Int32} {m many : Nat} (hm : m ≤ 96) (hmany : many ≤ 96) : ∀ (n k d : Nat) (h : PH), SH h → k + n = many → d ≤ m → wfD code m n k d → (∀ j, j < 96 → hI h 2624 0 (421 + 96 * t + j) = code j) → (∀ j, j < 4 → hI h 3328 0 j = fa j) →
    ∃ z h', X12_worksOut_fam z 0 (nI t) (nI d) (nI many) (nI k) h = some (some (.inl (evF code fa n k (hI h 3264 0) d)), h') := by
  intro n
  induction n with
  | zero =>
    intro k d h a e hd hw hc hf
    exact ⟨1, h, wo_end a (by omega) (by omega)⟩
  | succ n ih =>
    intro k d h a e hd hw hc hf
    have key : ∀ (d' : Nat) (j : Nat) (v : Int32), d' ≤ m → wfD code m n (k + 1) d' → ∃ z h', X12_worksOut_fam z 0 (nI t) (nI d') (nI many) (nI (k + 1)) (pI h 3264 0 j v) = some (some (.inl (evF code fa n (k + 1) (updF (hI h 3264 0) j v) d')), h') := fun d' j v hd' hw' => by
      obtain ⟨z, h', q⟩ := ih (k + 1) d' (pI h 3264 0 j v) a (by omega) hd' hw' (fun j' hj' => (hI_off h (by decide) _ _ _ _ _).trans (hc j' hj')) (fun j' hj' => (hI_off h (by decide) _ _ _ _ _).trans (hf j' hj'))
      rw [hI_upd] at q
      exact ⟨z, h', q⟩
    rcases hw with ⟨w1, w2, w3, w4⟩ | ⟨w1, w2, w3⟩ | ⟨w1, w2, w3⟩
    · have hn : ¬ code k < 0 := by rw [i_lt, i0]; omega
      obtain ⟨z, h', q⟩ := key (d + 1) d (leafV fa (code k)) (by omega) w4
      refine ⟨z + 1, h', ?_⟩
      rw [evF, if_pos hn]
      refine Eq.trans (wo_leaf a ht (by omega) hmany (by omega) (hc k (by omega)) w1 w2) ?_
      rw [leafV_cong w2 hf w1]
      exact q
    · obtain ⟨e', rfl⟩ : ∃ e', d = e' + 1 := ⟨d - 1, by omega⟩
      obtain ⟨z, h', q⟩ := key (e' + 1) e' (if hI h 3264 0 e' = 0 then 1 else 0) (by omega) w3
      refine ⟨z + 1, h', ?_⟩
      have hn : ¬ ¬ code k < 0 := fun c => c (by rw [w1]; decide)
      rw [evF, if_neg hn, if_pos w1]
      exact Eq.trans (wo_not a ht (by omega) hmany (by omega) ((hc k (by omega)).trans w1)) q
    · obtain ⟨e', rfl⟩ : ∃ e', d = e' + 1 + 1 := ⟨d - 2, by omega⟩
      obtain ⟨z, h', q⟩ := key (e' + 1) e' (joinK (code k) (hI h 3264 0 e') (hI h 3264 0 (e' + 1))) (by omega) w3
      refine ⟨z + 1, h', ?_⟩
      obtain ⟨hn', hn2⟩ := bin_neg w1
      have hn : ¬ ¬ code k < 0 := fun c => c hn'
      rw [evF, if_neg hn, if_neg hn2]
      exact Eq.trans (wo_bin a ht (by omega) hmany (by omega) (hc k (by omega)) w1) q
theorem evF_cong {code fa : Nat → Int32} {m : Nat} : ∀ (n k d : Nat) (st st' : Nat → Int32), wfD code m n k d → (∀ j, j < d → st j = st' j) → evF code fa n k st d = evF code fa n k st' d
  | 0, k, d, st, st', hw, e => e 0 (by have : d = 1 := hw; omega)
  | n + 1, k, d, st, st', hw, e => by
    rcases hw with ⟨w1, w2, w3, w4⟩ | ⟨w1, w2, w3⟩ | ⟨w1, w2, w3⟩
    · have hn : ¬ code k < 0 := by rw [i_lt, i0]; omega
      rw [evF, evF, if_pos hn, if_pos hn]
      refine evF_cong n (k + 1) (d + 1) _ _ w4 (fun j hj => ?_)
      unfold updF
      by_cases c : j = d
      · rw [if_pos c, if_pos c]
      · rw [if_neg c, if_neg c]
        exact e j (by omega)
    · have hn : code k < 0 := by rw [w1]; decide
      rw [evF, evF, if_neg (not_not_intro hn), if_neg (not_not_intro hn), if_pos w1, if_pos w1]
      refine evF_cong n (k + 1) d _ _ w3 (fun j hj => ?_)
      unfold updF
      by_cases c : j = d - 1
      · rw [if_pos c, if_pos c, e (d - 1) (by omega)]
      · rw [if_neg c, if_neg c]
        exact e j hj
    · obtain ⟨hn, hn2⟩ := bin_neg w1
      rw [evF, evF, if_neg (not_not_intro hn), if_neg (not_not_intro hn), if_neg hn2, if_neg hn2]
      refine evF_cong n (k + 1) (d - 1) _ _ w3 (fun j hj => ?_)
      unfold updF
      by_cases c : j = d - 2
      · rw [if_pos c, if_pos c, e (d - 2) (by omega), e (d - 1) (by omega)]
      · rw [if_neg c, if_neg c]
        exact e j (by omega)
/-- what a text gives -/
def textV (code fa : Nat → Int32) (many : Nat) : Int32 := evF code fa many 0 (fun _ => 0) 0
theorem X12_worksOut_eq {h : PH} (a : SH h) {t : Nat} (ht : t < 14) {code fa : Nat → Int32} {m many : Nat} (hm : m ≤ 96) (hmany : many ≤ 96) (hw : wfD code m many 0 0) (hM : jrem (hI h 2624 0 (393 + 2 * t)) 1000 = nI many) (hc : ∀ j, j < 96 → hI h 2624 0 (421 + 96 * t + j) = code j) (hf : ∀ j, j < 4 → hI h 3328 0 j = fa j) : ∃ h', X12_worksOut 0 (nI t) h = some (some (.inl (textV code fa many)), h') := by
  obtain ⟨z, h', q⟩ := X12_worksOut_loop ht (fa := fa) hm hmany many 0 0 h a (by omega) (by omega) hw hc hf
  refine ⟨h', X12_worksOut_iff.mpr ⟨z, ?_⟩⟩
  have e : (393 : Int32) + 2 * nI t = nI (393 + 2 * t) := by rw [show (393 : Int32) = nI 393 from rfl, show (2 : Int32) = nI 2 from rfl, nI_mul, nI_add]
  simp only [X12_worksOut_g0, X12_worksOut_f0, sh_704 a, nn_one, ln_41 a, e, ix_nI (show 393 + 2 * t < 1765 by omega) (show 1765 < 2 ^ 31 by decide), dv_ok (show ¬ (1000 : Int32) = 0 by decide), hM]
  rw [evF_cong many 0 0 _ (fun _ => 0) hw (fun j hj => by omega)] at q
  exact q
