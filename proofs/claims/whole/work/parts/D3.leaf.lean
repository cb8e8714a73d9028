/-! texts: names, numbers, words; the class -/
def kbF (r j : Nat) : Nat := nt ((sbyt.getD r []).getD j 0)
theorem kb_ok : ∀ r, r < 6 → ∀ j, j < 5 → (sbyt.getD r []).getD j 0 = nI (kbF r j) ∧ kbF r j < 128 := by decide +kernel
theorem sl_ok : ∀ r, r < 6 → slen.getD r 0 ≤ 5 ∧ jshr (Int32.ofNat (slen.getD r 0)) 0 = nI (slen.getD r 0) := by decide +kernel
theorem jb_nI : ∀ c, c < 128 → jb (nI c) = nI c ∧ jc (nI c) = nI c ∧ jc (nI c &&& 255) = nI c ∧ vp_nar .char (nI c) = nI c := by decide +kernel
theorem nar_b0 : vp_nar .byte 0 = 0 := by decide
theorem latin_eq (t : Nat) (h : PH) : J0_isLatin1_aae02 t h = some (some (.inl 1), h) := by
  unfold J0_isLatin1_aae02 J0_isLatin1_aae02_g0 J0_isLatin1_aae02_f0
  rw [if_neg (by decide), if_pos (by decide), bz_ok (Or.inr rfl)]
theorem coder_eq (t : Nat) (h : PH) : J0_coder_7d493 t h = some (some (.inl 0), h) := by
  unfold J0_coder_7d493 J0_coder_7d493_g0 J0_coder_7d493_f0 nr
  rw [if_neg (by decide), if_pos nar_b0]
theorem length_eq {r : Nat} (hr : r < 6) (h : PH) : J0_length_8abf5 r h = some (some (.inl (nI (slen.getD r 0))), h) := by
  unfold J0_length_8abf5 J0_length_8abf5_g0 J0_length_8abf5_f0
  rw [nn_succ, coder_eq, cI_some, (sl_ok r hr).2]
theorem charAt_eq {r j : Nat} (hr : r < 6) (hj : j < slen.getD r 0) (h : PH) : J0_charAt_5068e r (nI j) h = some (some (.inl (nI (kbF r j))), h) := by
  have l5 := (sl_ok r hr).1
  obtain ⟨k1, k2⟩ := kb_ok r hr j (by omega)
  obtain ⟨-, -, j3, j4⟩ := jb_nI _ k2
  unfold J0_charAt_5068e J0_charAt_5068e_g0 J0_charAt_5068e_f0
  rw [latin_eq, cI_some, if_neg (by decide)]
  have e : J1_charAt_3b067 (r + 1) (nI j) h = some (some (.inl (nI (kbF r j))), h) := by
    unfold J1_charAt_3b067 J1_charAt_3b067_g0 J1_charAt_3b067_f0 J0_checkIndex_df160
    rw [nn_succ, if_neg (nI_pos (by omega)), if_pos (show nI j < Int32.ofNat (slen.getD r 0) from nI_lt hj (by omega)), cV_some, nn_succ, ix_nI hj (by omega), k1, j3]
    unfold nr
    rw [if_pos j4]
  rw [e, cI_some]
  unfold nr
  rw [if_pos j4]
def fiF (w : Nat → Nat) (c : Nat) : Nat → Nat → Option Nat
  | 0, _ => none
  | k + 1, j => if w j = c then some j else fiF w c k (j + 1)
theorem fiF_s (w : Nat → Nat) (c k j : Nat) : fiF w c (k + 1) j = if w j = c then some j else fiF w c k (j + 1) := rfl
theorem index_loop {r c : Nat} (hr : r < 6) (hc : c < 128) (h : PH) : ∀ k j, j + k = slen.getD r 0 → ∃ n, J1_indexOfChar_4cfef_fam n (r + 1) (nI (slen.getD r 0)) (nI c) (nI j) h = some (some (.inl (oI (fiF (kbF r) c k j))), h) := by
  have l5 := (sl_ok r hr).1
  intro k
  induction k with
  | zero =>
    intro j e
    refine ⟨1, ?_⟩
    show J1_indexOfChar_4cfef_g7 (J1_indexOfChar_4cfef_fam 0) (r + 1) (nI (slen.getD r 0)) (nI c) (nI j) h = _
    unfold J1_indexOfChar_4cfef_g7 J1_indexOfChar_4cfef_f7
    rw [if_neg (nI_nlt (by omega) (by omega))]
    rfl
  | succ k ih =>
    intro j e
    obtain ⟨k1, k2⟩ := kb_ok r hr j (by omega)
    obtain ⟨n, y⟩ := ih (j + 1) (by omega)
    refine ⟨n + 1, ?_⟩
    show J1_indexOfChar_4cfef_g7 (J1_indexOfChar_4cfef_fam n) (r + 1) (nI (slen.getD r 0)) (nI c) (nI j) h = _
    unfold J1_indexOfChar_4cfef_g7 J1_indexOfChar_4cfef_f7
    rw [if_pos (nI_lt (by omega) (by omega)), nn_succ, ix_nI (by omega) (by omega), k1, nI_1, y, fiF_s]
    by_cases d : kbF r j = c
    · rw [if_pos d, if_pos (by rw [d])]
      rfl
    · rw [if_neg d, if_neg (fun z => d ((nI_eq (by omega) (by omega)).mp z))]
theorem indexOf_eq {r c : Nat} (hr : r < 6) (hc : c < 128) (h0 : 0 < slen.getD r 0) (h : PH) : J0_indexOf_0f7a4 r (nI c) h = some (some (.inl (oI (fiF (kbF r) c (slen.getD r 0) 0))), h) := by
  have l5 := (sl_ok r hr).1
  obtain ⟨n, y⟩ := index_loop hr hc h (slen.getD r 0) 0 (by omega)
  have e1 : J1_indexOfChar_4cfef (r + 1) (nI c) 0 (nI (slen.getD r 0)) h = some (some (.inl (oI (fiF (kbF r) c (slen.getD r 0) 0))), h) := by
    refine J1_indexOfChar_4cfef_iff.mpr ⟨n, ?_⟩
    unfold J1_indexOfChar_4cfef_g0 J1_indexOfChar_4cfef_f0
    rw [(jb_nI c hc).1]
    exact y
  have e2 : J1_indexOf_4cfef (r + 1) (nI c) 0 (nI (slen.getD r 0)) h = some (some (.inl (oI (fiF (kbF r) c (slen.getD r 0) 0))), h) := by
    unfold J1_indexOf_4cfef J1_indexOf_4cfef_g0 J1_indexOf_4cfef_f0 J1_canEncode_9a6ad J1_canEncode_9a6ad_g0 J1_canEncode_9a6ad_f0 J9_max_7cf53 J9_max_7cf53_g0 J9_max_7cf53_f0
    rw [if_neg (nI_pos (by omega)), if_neg (show ¬ 255 < nI c from nI_nlt (a := 255) (by omega) (by omega)), bz_ok (Or.inr rfl), cI_some, if_neg (by decide), if_neg (by decide), cI_some, nn_succ, wi_eq, if_neg (show ¬ Int32.ofNat (slen.getD r 0) < nI (slen.getD r 0) from nI_nlt (Nat.le_refl _) (by omega)), if_pos (show 0 < nI (slen.getD r 0) from nI_lt (a := 0) h0 (by omega)), e1, cI_some]
  unfold J0_indexOf_0f7a4 J0_indexOf_0f7a4_g0 J0_indexOf_0f7a4_f0 J0_indexOf_7cf53 J0_indexOf_7cf53_g0 J0_indexOf_7cf53_f0
  rw [latin_eq, cI_some, if_neg (by decide), length_eq hr, cI_some, e2, cI_some, cI_some]
def nmF (key c : Nat) : Option Nat := if key = 0 then (if c = 104 then some 0 else if c = 100 then some 1 else if c = 114 then some 2 else none) else if key = 1 then (if c = 104 then some 0 else if c = 100 then some 1 else if c = 109 then some 2 else none) else (if c = 107 then some 0 else if c = 115 then some 1 else if c = 119 then some 2 else if c = 104 then some 3 else none)
theorem nm_fi : ∀ key, key < 3 → ∀ c, c < 128 → fiF (kbF (3 + key)) c (slen.getD (3 + key) 0) 0 = nmF key c ∧ 0 < slen.getD (3 + key) 0 := by decide +kernel
theorem nm_lt : ∀ key, key < 3 → ∀ c, c < 128 → ∀ i, nmF key c = some i → i < (if key = 2 then 4 else 3) := by
  intro key hk c hc i e
  have all : ∀ key, key < 3 → ∀ c, c < 128 → (nmF key c).all (fun i => decide (i < (if key = 2 then 4 else 3))) = true := by decide +kernel
  have := all key hk c hc
  rw [e] at this
  exact of_decide_eq_true this
/-- what a word stands for, if it is a number or a name -/
def lfF (T : Nat → Nat) (key : Nat) (u : Tu) : Option Int32 := if u.1 = 2 ∧ u.2.2 - u.2.1 ≤ 4 then some (nI (nuF T u.2.1 (u.2.2 - u.2.1))) else if u.1 = 1 ∧ u.2.2 - u.2.1 = 1 then (nmF key (T u.2.1)).map (fun i => nI (10000 + i)) else none
def okV (T : Nat → Nat) (L : Nat) (u : Tu) : Prop := okU L u ∧ (u.1 = 1 → isL T L u.2.1 = true) ∧ (u.1 = 2 → ∀ j, u.2.1 ≤ j → j < u.2.2 → isD T L j = true)
theorem lkF_okV {T : Nat → Nat} {L : Nat} (hT : ∀ j, j < L → T j < 256) (k : Nat) {b : Nat} (hb : b ≤ L) : okV T L (lkF T L k b) ∧ b ≤ (lkF T L k b).2.1 := by
  obtain ⟨o1, o2⟩ := lkF_ok hT k hb
  refine ⟨⟨o1, ?_, ?_⟩, o2⟩
  · unfold lkF
    by_cases c : lkS T L b < L
    · rw [if_pos c]
      cases d1 : isL T L (lkS T L b) with
      | true => intro _; exact d1
      | false =>
        rw [cond_false]
        cases d2 : isD T L (lkS T L b) with
        | true =>
          intro z
          have z : (if wdB k = true ∧ lkS T L b = b then 4 else 2) = 1 := z
          split at z <;> omega
        | false =>
          intro z
          have z : 5 + T (lkS T L b) = 1 := z
          omega
    · rw [if_neg c]
      intro z
      cases z
  · unfold lkF
    by_cases c : lkS T L b < L
    · rw [if_pos c]
      cases d1 : isL T L (lkS T L b) with
      | true =>
        intro z
        have z : (if wdB k = true ∧ lkS T L b = b then 4 else 1) = 2 := z
        split at z <;> omega
      | false =>
        rw [cond_false]
        cases d2 : isD T L (lkS T L b) with
        | true => exact fun _ j h1 h2 => skF_in _ _ _ j h1 h2
        | false =>
          intro z
          have z : 5 + T (lkS T L b) = 2 := z
          omega
    · rw [if_neg c]
      intro z
      cases z
theorem num_lt {T : Nat → Nat} {L : Nat} {u : Tu} (v : okV T L u) (h2 : u.1 = 2) (h4 : u.2.2 - u.2.1 ≤ 4) : nuF T u.2.1 (u.2.2 - u.2.1) < 10000 := by
  have e := nu_lt (T := T) (s := u.2.1) (u.2.2 - u.2.1) (fun j hj => by
    have := of_decide_eq_true (v.2.2 h2 (u.2.1 + j) (by omega) (by omega))
    omega)
  have : 10 ^ (u.2.2 - u.2.1) ≤ 10 ^ 4 := Nat.pow_le_pow_right (by decide) h4
  omega
theorem lf_ok {T : Nat → Nat} {L key : Nat} (hk : key < 3) {u : Tu} {v : Int32} (w : okV T L u) (e : lfF T key u = some v) : u.1 ≠ 0 ∧ 0 ≤ v.toInt ∧ v.toInt < (if key = 2 then 10004 else 10003) := by
  unfold lfF at e
  have b3 : (10003 : Int) ≤ (if key = 2 then 10004 else 10003) := by split <;> omega
  by_cases c1 : u.1 = 2 ∧ u.2.2 - u.2.1 ≤ 4
  · rw [if_pos c1] at e
    cases e
    have := num_lt w c1.1 c1.2
    rw [nI_toInt (by omega)]
    exact ⟨by omega, by omega, by omega⟩
  · rw [if_neg c1] at e
    by_cases c2 : u.1 = 1 ∧ u.2.2 - u.2.1 = 1
    · rw [if_pos c2] at e
      have hl := of_decide_eq_true (w.2.1 c2.1)
      cases d : nmF key (T u.2.1) with
      | none =>
        rw [d] at e
        cases e
      | some i =>
        rw [d] at e
        cases e
        have li := nm_lt key hk (T u.2.1) (by omega) i d
        by_cases k2 : key = 2
        · rw [if_pos k2] at li ⊢
          rw [nI_toInt (by omega)]
          exact ⟨by omega, by omega, by omega⟩
        · rw [if_neg k2] at li ⊢
          rw [nI_toInt (by omega)]
          exact ⟨by omega, by omega, by omega⟩
    · rw [if_neg c2] at e
      cases e
theorem name_c {h : PH} {L key : Nat} {T : Nat → Nat} (a : SH h) (q : TpE h L T) (hk : key < 3) (h4 : hI h 134 0 0 = nI key) {u : Tu} (v : okV T L u) (ct : CtE h u) (h1 : u.1 = 1) : X3_nameRead 0 h = some (some (.inl (oI (if u.2.2 - u.2.1 = 1 then nmF key (T u.2.1) else none))), h) := by
  obtain ⟨o1, o2, o3, o4, o5⟩ := v.1
  have hL := q.1
  have hl := of_decide_eq_true (v.2.1 h1)
  obtain ⟨t1, -, t2, -⟩ := q.2.2 u.2.1 hl.1
  unfold X3_nameRead X3_nameRead_g0 X3_nameRead_f0
  rw [ct.2.1, ct.2.2, nI_subN o2]
  by_cases c : u.2.2 - u.2.1 = 1
  · have g42 : X3_nameRead_g42 0 (3 + key + 1) h = some (some (.inl (oI (nmF key (T u.2.1)))), h) := by
      obtain ⟨n1, n2⟩ := nm_fi key hk (T u.2.1) (by omega)
      unfold X3_nameRead_g42 X3_nameRead_f42
      rw [nnE (sh_128 a), ct.2.1, ixE (ln_22 a) rfl (show u.2.1 < 96 by omega) (by decide), nn_succ, t2 (by omega), (jb_nI _ (by omega)).2.1, indexOf_eq (by omega) (by omega) n2, cI_some, n1]
    rw [c, if_pos (show nI 1 = 1 from rfl), if_pos rfl, h4]
    have hk3 : key = 0 ∨ key = 1 ∨ key = 2 := by omega
    rcases hk3 with rfl | rfl | rfl
    · rw [if_pos (show nI 0 = 0 from rfl)]
      exact g42
    · rw [if_neg (show ¬ nI 1 = 0 by decide), if_pos (show nI 1 = 1 from rfl)]
      exact g42
    · rw [if_neg (show ¬ nI 2 = 0 by decide), if_neg (show ¬ nI 2 = 1 by decide)]
      exact g42
  · rw [if_neg (show ¬ nI (u.2.2 - u.2.1) = 1 from fun z => c ((nI_eq (b := 1) (by omega) (by omega)).mp z)), if_neg c]
    rfl
theorem number_c {h : PH} {L : Nat} {T : Nat → Nat} (a : SH h) (q : TpE h L T) {u : Tu} (v : okV T L u) (ct : CtE h u) (h2 : u.1 = 2) : X3_numberRead 0 h = some (some (.inl (nI (nuF T u.2.1 (u.2.2 - u.2.1)))), h) := by
  obtain ⟨o1, o2, o3, o4, o5⟩ := v.1
  have hL := q.1
  have loop : ∀ k j, u.2.1 + j + k = u.2.2 → ∃ n, X3_numberRead_fam n 0 (nI (nuF T u.2.1 j)) (nI (u.2.1 + j)) h = some (some (.inl (nI (nuF T u.2.1 (u.2.2 - u.2.1)))), h) := by
    intro k
    induction k with
    | zero =>
      intro j e
      refine ⟨1, ?_⟩
      show X3_numberRead_g7 (X3_numberRead_fam 0) 0 (nI (nuF T u.2.1 j)) (nI (u.2.1 + j)) h = _
      unfold X3_numberRead_g7 X3_numberRead_f7
      rw [ct.2.2, if_neg (nI_nlt (by omega) (by omega)), show u.2.2 - u.2.1 = j by omega]
    | succ k ih =>
      intro j e
      obtain ⟨n, y⟩ := ih (j + 1) (by omega)
      refine ⟨n + 1, ?_⟩
      have hd := of_decide_eq_true (v.2.2 h2 (u.2.1 + j) (by omega) (by omega))
      obtain ⟨t1, -, t2, -⟩ := q.2.2 (u.2.1 + j) hd.1
      show X3_numberRead_g7 (X3_numberRead_fam n) 0 (nI (nuF T u.2.1 j)) (nI (u.2.1 + j)) h = _
      unfold X3_numberRead_g7 X3_numberRead_f7
      rw [ct.2.2, if_pos (nI_lt (by omega) (by omega)), nnE (sh_128 a), ixE (ln_22 a) rfl (show u.2.1 + j < 96 by omega) (by decide), t2 (by omega), nu_step (by omega), nI_1]
      exact y
  obtain ⟨n, y⟩ := loop (u.2.2 - u.2.1) 0 (by omega)
  refine X3_numberRead_iff.mpr ⟨n, ?_⟩
  unfold X3_numberRead_g0 X3_numberRead_f0
  rw [ct.2.1]
  exact y
