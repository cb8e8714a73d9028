/-! none as -1 -/
def oI : Option Nat → Int32
  | none => -1
  | some w => nI w
theorem oI_neg {o : Option Nat} (ho : ∀ w, o = some w → w < 2 ^ 31) : oI o < 0 ↔ o = none := by
  cases o with
  | none => exact ⟨fun _ => rfl, fun _ => by decide⟩
  | some w => exact ⟨fun c => absurd c (nI_pos (ho w rfl)), fun c => by cases c⟩
theorem oI_m1 {o : Option Nat} (ho : ∀ w, o = some w → w < 2 ^ 31) : oI o = -1 ↔ o = none := by
  cases o with
  | none => exact ⟨fun _ => rfl, fun _ => rfl⟩
  | some w =>
    refine ⟨fun c => ?_, fun c => by cases c⟩
    have c' : nI w = -1 := c
    exact absurd (show nI w < 0 by rw [c']; decide) (nI_pos (ho w rfl))
/-! frames, column by column -/
theorem Fr.col {W : List Nat × List Nat × Bool} {h h' : PH} (f : Fr W h h') {c i : Nat} (hc : W.1.contains c = false) (hi : i < hN h (c / 64)) : hI h' c i = hI h c i := funext fun j => f.1 c i j hc hi
theorem SH.n {h : PH} (a : SH h) {k n : Nat} (e : (k, n) ∈ cnList) : n ≤ hN h k := a.2.2 _ e
theorem now_fr {W : List Nat × List Nat × Bool} {h h' : PH} (a : SH h) (f : Fr W h h') (hc : W.1.contains 2624 = false) : hI h' 2624 0 = hI h 2624 0 := f.col hc (a.2.1 (41, 0, 1765) (by decide +kernel)).2
theorem cR_some (k r : Nat) (h : PH) (f : Nat → PH → Option Rs) : cR k (some (some (.inr (k, r)), h)) f = f r h := by
  unfold cR
  simp
/-! which text counts -/
def cntO (N : Nat → Int32) (key : Int32) : Nat → Option Nat
  | 0 => none
  | t + 1 => if N (393 + 2 * t) / 1000 = key then some t else cntO N key t
theorem cntO_lt {N : Nat → Int32} {key : Int32} : ∀ {k t : Nat}, cntO N key k = some t → t < k ∧ N (393 + 2 * t) / 1000 = key
  | 0, t, e => by cases e
  | k + 1, t, e => by
    unfold cntO at e
    by_cases c : N (393 + 2 * k) / 1000 = key
    · rw [if_pos c] at e
      cases e
      exact ⟨by omega, c⟩
    · rw [if_neg c] at e
      have := cntO_lt e
      exact ⟨by omega, this.2⟩
theorem X12_counts_loop {h : PH} (a : SH h) (key : Int32) : ∀ k, k ≤ 14 → ∃ n, X12_counts_fam n 0 key (nI k - 1) h = some (some (.inl (oI (cntO (hI h 2624 0) key k))), h)
  | 0, _ => ⟨1, rfl⟩
  | k + 1, hk => by
    obtain ⟨n, hn⟩ := X12_counts_loop a key k (by omega)
    refine ⟨n + 1, ?_⟩
    have e : (393 : Int32) + 2 * nI k = nI (393 + 2 * k) := by rw [show (393 : Int32) = nI 393 from rfl, show (2 : Int32) = nI 2 from rfl, nI_mul, nI_add]
    have hs : nI k + (-1) = nI k - 1 := (Int32.sub_eq_add_neg _ _).symm
    simp only [X12_counts_fam, X12_counts_g10, X12_counts_f10, nI_pred, if_neg (nI_pos (show k < 2 ^ 31 by omega)), sh_704 a, nn_one, ln_41 a, e, ix_nI (show 393 + 2 * k < 1765 by omega) (show 1765 < 2 ^ 31 by decide), dv_ok (show ¬ (1000 : Int32) = 0 by decide), hs, hn, cntO]
    split <;> rfl
theorem X12_counts_eq {h : PH} (a : SH h) (key : Int32) {K : Nat} (hK : hI h 2624 0 8 = nI K) (h14 : K ≤ 14) : X12_counts 0 key h = some (some (.inl (oI (cntO (hI h 2624 0) key K))), h) := by
  obtain ⟨n, hn⟩ := X12_counts_loop a key K h14
  refine X12_counts_iff.mpr ⟨n, ?_⟩
  have i8 : ∀ f : Nat → Option Rs, ix 8 1765 f = f 8 := fun f => ix_nI (show 8 < 1765 by decide) (by decide) f
  simp only [X12_counts_g0, X12_counts_f0, sh_704 a, nn_one, ln_41 a, i8, hK]
  exact hn
/-! texts: the house's and the model's -/
def codeT (N : Nat → Int32) (t : Nat) : Nat → Int32 := fun j => N (421 + 96 * t + j)
def manyT (N : Nat → Int32) (t : Nat) : Nat := (N (393 + 2 * t)).toInt.toNat % 1000
def TOne (h : PH) (b : Nat) (N : Nat → Int32) (t : Nat) : Prop :=
  ∃ T S V key many atoms : Nat, (hR h 1216 b t = T + 1 ∧ T < hN h 7 ∧ hI h 448 T 0 = nI key ∧ hI h 449 T 0 = nI atoms ∧ hR h 450 T 0 = S + 1 ∧ S < hN h 29 ∧ hL h 29 S = many ∧ hR h 451 T 0 = V + 1 ∧ V < hN h 30 ∧ hL h 30 V = atoms ∧ (∀ j, j < many → hI h 1856 S j = stepOf (codeT N t j))) ∧
    N (393 + 2 * t) = nI (1000 * key + many) ∧ key < 3 ∧ many ≤ 96 ∧ N (394 + 2 * t) = nI atoms ∧ 0 < atoms ∧ atoms ≤ 96 ∧ wfD (codeT N t) atoms many 0 0 ∧ (key ≠ 2 → ∀ j, j < many → (codeT N t j).toInt < 10003)
def TRel (h : PH) (b : Nat) (N : Nat → Int32) : Prop :=
  ∃ K, N 8 = nI K ∧ K ≤ 14 ∧ (∀ t, t < K → TOne h b N t) ∧ ∀ key, key < 3 → hI h 1280 b key = oI (cntO N (nI key) K)
def fa4 (x1 x2 x3 x4 : Int32) : Nat → Int32 := fun j => if j = 0 then x1 else if j = 1 then x2 else if j = 2 then x3 else x4
theorem evF_fa {code fa fa' : Nat → Int32} {m : Nat} (hf : ∀ j, j < 3 → fa j = fa' j) : ∀ (n k d : Nat) (st : Nat → Int32), wfD code m n k d → (∀ j, k ≤ j → j < k + n → (code j).toInt < 10003) → evF code fa n k st d = evF code fa' n k st d
  | 0, k, d, st, hw, e => rfl
  | n + 1, k, d, st, hw, e => by
    have e' : ∀ j, k + 1 ≤ j → j < k + 1 + n → (code j).toInt < 10003 := fun j h1 h2 => e j (by omega) (by omega)
    rcases hw with ⟨w1, w2, w3, w4⟩ | ⟨w1, w2, w3⟩ | ⟨w1, w2, w3⟩
    · have hn : ¬ code k < 0 := by rw [i_lt, i0]; omega
      have hk := e k (by omega) (by omega)
      have hl : leafV fa (code k) = leafV fa' (code k) := by
        unfold leafV
        by_cases c : code k < 10000
        · rw [if_pos c, if_pos c]
        · have hs' : (10000 : Int32).toInt = 10000 := by decide
          have es : (code k - 10000).toInt = (code k).toInt - 10000 := by rw [i_sub (by rw [hs']; omega), hs']
          rw [if_neg c, if_neg c]
          exact hf _ (by omega)
      rw [evF, evF, if_pos hn, if_pos hn, hl]
      exact evF_fa hf n (k + 1) (d + 1) _ w4 e'
    · have hn : code k < 0 := by rw [w1]; decide
      rw [evF, evF, if_neg (not_not_intro hn), if_neg (not_not_intro hn), if_pos w1, if_pos w1]
      exact evF_fa hf n (k + 1) d _ w3 e'
    · obtain ⟨hn, hn2⟩ := bin_neg w1
      rw [evF, evF, if_neg (not_not_intro hn), if_neg (not_not_intro hn), if_neg hn2, if_neg hn2]
      exact evF_fa hf n (k + 1) (d - 1) _ w3 e'
/-- what the t-th text gives -/
def txV (N : Nat → Int32) (t : Nat) (fa : Nat → Int32) : Int32 := textV (codeT N t) fa (manyT N t)
theorem manyT_eq {N : Nat → Int32} {t key many : Nat} (e : N (393 + 2 * t) = nI (1000 * key + many)) (hk : key < 3) (hm : many ≤ 96) : manyT N t = many ∧ jrem (N (393 + 2 * t)) 1000 = nI many ∧ N (393 + 2 * t) / 1000 = nI key := by
  refine ⟨?_, ?_, ?_⟩
  · unfold manyT
    rw [e, nI_toInt (by omega)]
    omega
  · unfold jrem
    rw [e]
    have := pk_rem (a := 1000 * key + many) (d := 1000) (by omega) (by omega) (by omega)
    rw [show (1000 : Int32) = nI 1000 from rfl, this]
    congr 1
    omega
  · rw [e, show (1000 : Int32) = nI 1000 from rfl, pk_div (by omega) (by omega) (by omega)]
    congr 1
    omega
/-- the model's way, for a text that is right -/
theorem worksOut_eq {h g : PH} (a : SH h) {b t : Nat} (ht : t < 14) (q : TOne g b (hI h 2624 0) t) {fa : Nat → Int32} (hf : ∀ j, j < 4 → hI h 3328 0 j = fa j) : ∃ h', X12_worksOut 0 (nI t) h = some (some (.inl (txV (hI h 2624 0) t fa)), h') ∧ Fr X12_worksOut_W h h' := by
  obtain ⟨T, S, V, key, many, atoms, q1, q2, q3, q4, q5, q6, q7, q8, q9⟩ := q
  obtain ⟨m1, m2, m3⟩ := manyT_eq q2 q3 q4
  obtain ⟨h', e⟩ := X12_worksOut_eq a ht (code := codeT (hI h 2624 0) t) (fa := fa) q7 q4 q8 m2 (fun j _ => rfl) hf
  refine ⟨h', ?_, X12_worksOut_fr 0 (nI t) h _ e⟩
  rw [e]
  unfold txV
  rw [m1]
theorem value_eq {h : PH} {b t : Nat} {N : Nat → Int32} (q : TOne h b N t) (x1 x2 x3 x4 : Int32) : ∃ T, hR h 1216 b t = T + 1 ∧ ∃ h', X8_value T x1 x2 x3 x4 h = some (some (.inl (txV N t (fa4 x1 x2 x3 x4))), h') ∧ Fr X8_value_W h h' := by
  obtain ⟨T, S, V, key, many, atoms, ⟨r1, r2, r3, r4, r5, r6, r7, r8, r9, r10, r11⟩, q2, q3, q4, q5, q6, q7, q8, q9⟩ := q
  obtain ⟨m1, m2, m3⟩ := manyT_eq q2 q3 q4
  refine ⟨T, r1, ?_⟩
  obtain ⟨h', e⟩ := X8_value_eq (code := codeT N t) (fa := fa4 x1 x2 x3 x4) (m := atoms) q7 q4 q6 r5 r8 r7 r10 q8 r11 rfl rfl rfl rfl
  have e : X8_value T x1 x2 x3 x4 h = some (some (Sum.inl (textV (codeT N t) (fa4 x1 x2 x3 x4) many)), h') := e
  refine ⟨h', ?_, X8_value_fr T x1 x2 x3 x4 h _ e⟩
  rw [e]
  unfold txV
  rw [m1]
/-- the fourth name is the third key's alone -/
theorem txV_fa {h : PH} {b t : Nat} {N : Nat → Int32} (q : TOne h b N t) {kk : Nat} (hk : kk < 2) (hkey : N (393 + 2 * t) / 1000 = nI kk) (x1 x2 x3 x4 x4' : Int32) : txV N t (fa4 x1 x2 x3 x4) = txV N t (fa4 x1 x2 x3 x4') := by
  obtain ⟨T, S, V, key, many, atoms, q1, q2, q3, q4, q5, q6, q7, q8, q9⟩ := q
  obtain ⟨m1, m2, m3⟩ := manyT_eq q2 q3 q4
  have : key = kk := (nI_eq (by omega) (by omega)).mp (m3.symm.trans hkey)
  unfold txV textV
  rw [m1]
  refine evF_fa (fun j hj => ?_) many 0 0 _ q8 (fun j _ hj => q9 (by omega) j (by omega))
  unfold fa4
  by_cases c0 : j = 0
  · rw [if_pos c0, if_pos c0]
  · rw [if_neg c0, if_neg c0]
    by_cases c1 : j = 1
    · rw [if_pos c1, if_pos c1]
    · rw [if_neg c1, if_neg c1, if_pos (by omega), if_pos (by omega)]
theorem textFor_eq {h : PH} (a : SH h) {b : Nat} (hb : b < 2) {N : Nat → Int32} {K : Nat} (hK : hI h 76 b 0 = nI K) (h14 : K ≤ 14) {key : Nat} (hkey : key < 3) (hc : hI h 1280 b key = oI (cntO N (nI key) K)) : X1_textFor b (nI key) h = some (some (.inr (7, match cntO N (nI key) K with | none => 0 | some t => hR h 1216 b t)), h) := by
  unfold X1_textFor X1_textFor_g0 X1_textFor_f0
  rw [sh_70 a b hb, nn_succ, ln_20 a b hb, ix_nI hkey (by decide), hc, hK]
  cases e : cntO N (nI key) K with
  | none => simp only [oI, X11_isWithin_eq, cI_some, if_pos (show (-1 : Int32) < 0 by decide), if_true]
  | some t =>
    have ht := (cntO_lt e).1
    simp only [oI, X11_isWithin_eq, cI_some, if_neg (nI_pos (show t < 2 ^ 31 by omega)), if_pos (nI_lt ht (show K < 2 ^ 31 by omega)), if_neg (show ¬ (1 : Int32) = 0 by decide), sh_69 a b hb, nn_succ, ln_19 a b hb, ix_nI (show t < 14 by omega) (show 14 < 2 ^ 31 by decide)]
