/-! pair: fill -/
def flB (sz M : Nat) (f : Nat → Int32) (j : Nat) : Bool := decide (2 * j + 1 < sz) && (decide (wn (f (2 * j)) 14 = 1) && decide (wn (f (2 * j + 1)) 8 = 1))
def flF (sz M : Nat) (f : Nat → Int32) : Nat → Nat → Nat
  | 0, j => j
  | k + 1, j => bif flB sz M f j then flF sz M f k (j + 1) else j
theorem flF_le (sz M : Nat) (f : Nat → Int32) : ∀ k j, j ≤ flF sz M f k j ∧ flF sz M f k j ≤ j + k
  | 0, j => ⟨Nat.le_refl _, Nat.le_refl _⟩
  | k + 1, j => by
    have := flF_le sz M f k (j + 1)
    unfold flF
    cases flB sz M f j with
    | false => exact ⟨Nat.le_refl _, by show j ≤ _; omega⟩
    | true => exact ⟨by show j ≤ flF sz M f k (j + 1); omega, by show flF sz M f k (j + 1) ≤ _; omega⟩
theorem flF_ok {sz M : Nat} {f : Nat → Int32} : ∀ k j i, j ≤ i → i < flF sz M f k j → flB sz M f i = true
  | 0, j, i, a, b => by
    have b : i < j := b
    omega
  | k + 1, j, i, a, b => by
    unfold flF at b
    cases c : flB sz M f j with
    | false =>
      rw [c] at b
      have b : i < j := b
      omega
    | true =>
      rw [c] at b
      by_cases d : i = j
      · rw [d, c]
      · exact flF_ok k (j + 1) i (by omega) b
theorem flB_rg {sz M : Nat} {f : Nat → Int32} {j : Nat} (h : flB sz M f j = true) : rgI (f (2 * j)) 0 13 ∧ rgI (f (2 * j + 1)) 0 7 := by
  unfold flB at h
  simp only [Bool.and_eq_true, decide_eq_true_eq] at h
  obtain ⟨-, h1, h2⟩ := h
  refine ⟨?_, ?_⟩
  · rcases lit_cases (x := f (2 * j)) (y := 14) (K := 14) rfl (by decide) with z | ⟨-, s, hs, e⟩
    · rw [z] at h1
      cases h1
    · rw [e]
      exact ⟨by rw [nI_toInt (by omega)]; omega, by rw [nI_toInt (by omega)]; omega⟩
  · rcases lit_cases (x := f (2 * j + 1)) (y := 8) (K := 8) rfl (by decide) with z | ⟨-, s, hs, e⟩
    · rw [z] at h2
      cases h2
    · rw [e]
      exact ⟨by rw [nI_toInt (by omega)]; omega, by rw [nI_toInt (by omega)]; omega⟩
theorem two_nI (j : Nat) : (2 : Int32) * nI j = nI (2 * j) := by rw [show (2 : Int32) = nI 2 from rfl, nI_mul]
theorem take_c {h0 : PH} (a0 : SH h0) {s v M sz : Nat} (hs : s < 28) (hv : v < 9) (hM : M ≤ 6) (hz : hI h0 257 v 0 = nI sz) (h24 : sz ≤ 24) : ∀ k j h, j + k = M → Fr rwW h0 h → hI h 324 s 0 = nI j → (∀ i, hI h 1728 s i = if i < j then hI h0 1664 v (2 * i) else hI h0 1728 s i) → (∀ i, hI h 1792 s i = if i < j then hI h0 1664 v (2 * i + 1) else hI h0 1792 s i) → (∀ c, c = 324 ∨ c = 1728 ∨ c = 1792 → ∀ i x, i ≠ s → hI h c i x = hI h0 c i x) → ∃ n h', X6_takeRows_fam n s (v + 1) (nI M) (nI j) h = some (none, h') ∧ Fr rwW h0 h' ∧ hI h' 324 s 0 = nI (flF sz M (hI h0 1664 v) k j) ∧ (∀ i, hI h' 1728 s i = if i < flF sz M (hI h0 1664 v) k j then hI h0 1664 v (2 * i) else hI h0 1728 s i) ∧ (∀ i, hI h' 1792 s i = if i < flF sz M (hI h0 1664 v) k j then hI h0 1664 v (2 * i + 1) else hI h0 1792 s i) ∧ (∀ c, c = 324 ∨ c = 1728 ∨ c = 1792 → ∀ i x, i ≠ s → hI h' c i x = hI h0 c i x) := by
  intro k
  induction k with
  | zero =>
    intro j h e f u1 u2 u3 u4
    refine ⟨1, h, ?_, f, u1, u2, u3, u4⟩
    show X6_takeRows_g15 (X6_takeRows_fam 0) s (v + 1) (nI M) (nI j) h = _
    unfold X6_takeRows_g15 X6_takeRows_f15
    rw [if_neg (nI_nlt (by omega) (by omega))]
  | succ k ih =>
    intro j h e f u1 u2 u3 u4
    have a : SH h := a0.fr f (by decide)
    have e257 : hI h 257 v 0 = nI sz := (f.1 257 v 0 (by decide) (a0.n4 hv)).trans hz
    have e64 : ∀ x, hI h 1664 v x = hI h0 1664 v x := fun x => f.1 1664 v x (by decide) (a0.n26 hv)
    have stop : flB sz M (hI h0 1664 v) j = false → (∃ n, X6_takeRows_fam n s (v + 1) (nI M) (nI j) h = some (none, h)) → ∃ n h', X6_takeRows_fam n s (v + 1) (nI M) (nI j) h = some (none, h') ∧ Fr rwW h0 h' ∧ hI h' 324 s 0 = nI (flF sz M (hI h0 1664 v) (k + 1) j) ∧ (∀ i, hI h' 1728 s i = if i < flF sz M (hI h0 1664 v) (k + 1) j then hI h0 1664 v (2 * i) else hI h0 1728 s i) ∧ (∀ i, hI h' 1792 s i = if i < flF sz M (hI h0 1664 v) (k + 1) j then hI h0 1664 v (2 * i + 1) else hI h0 1792 s i) ∧ (∀ c, c = 324 ∨ c = 1728 ∨ c = 1792 → ∀ i x, i ≠ s → hI h' c i x = hI h0 c i x) := fun hb ⟨n, hn⟩ => by
      have ef : flF sz M (hI h0 1664 v) (k + 1) j = j := by
        show (bif flB sz M (hI h0 1664 v) j then _ else j) = j
        rw [hb]
        rfl
      rw [ef]
      exact ⟨n, h, hn, f, u1, u2, u3, u4⟩
    by_cases c1 : 2 * j + 1 < sz
    rotate_left
    · refine stop ?_ ⟨1, ?_⟩
      · unfold flB
        rw [decide_eq_false c1, Bool.false_and]
      · show X6_takeRows_g15 (X6_takeRows_fam 0) s (v + 1) (nI M) (nI j) h = _
        unfold X6_takeRows_g15 X6_takeRows_f15
        rw [if_pos (nI_lt (by omega) (by omega)), nnE rfl, e257, two_nI, nI_1, if_neg (nI_nlt (by omega) (by omega))]
    have pre : ∀ n, X6_takeRows_fam (n + 1) s (v + 1) (nI M) (nI j) h = if wn (hI h0 1664 v (2 * j)) 14 = 0 then some (none, h) else if wn (hI h0 1664 v (2 * j + 1)) 8 = 0 then some (none, h) else (cV (X6_addRow s (hI h0 1664 v (2 * j)) (hI h0 1664 v (2 * j + 1)) h) fun h15 => X6_takeRows_fam n s (v + 1) (nI M) (nI (j + 1)) h15) := fun n => by
      show X6_takeRows_g15 (X6_takeRows_fam n) s (v + 1) (nI M) (nI j) h = _
      unfold X6_takeRows_g15 X6_takeRows_f15
      rw [if_pos (nI_lt (by omega) (by omega)), nnE rfl, e257, two_nI, nI_1, if_pos (nI_lt (by omega) (by omega)), nnE rfl, nnE (sh_258 a v hv), ixE (ln_26 a v hv) rfl (show 2 * j < 24 by omega) (by decide), nnE rfl, nnE (sh_258 a v hv), ixE (ln_26 a v hv) rfl (show 2 * j + 1 < 24 by omega) (by decide), isWithin_wn, cI_some, isWithin_wn, cI_some, e64, e64, nI_1]
    rcases wn_01 (hI h0 1664 v (2 * j)) 14 with w1 | w1
    · refine stop ?_ ⟨1, ?_⟩
      · unfold flB
        rw [w1, decide_eq_false (p := (0 : Int32) = 1) (by decide), Bool.false_and, Bool.and_false]
      · rw [pre, if_pos w1]
    rcases wn_01 (hI h0 1664 v (2 * j + 1)) 8 with w2 | w2
    · refine stop ?_ ⟨1, ?_⟩
      · unfold flB
        rw [w2, decide_eq_false (p := (0 : Int32) = 1) (by decide), Bool.and_false, Bool.and_false]
      · rw [pre, if_neg (by rw [w1]; decide), if_pos w2]
    have hb : flB sz M (hI h0 1664 v) j = true := by
      unfold flB
      rw [decide_eq_true c1, decide_eq_true w1, decide_eq_true w2]
      rfl
    have ef : flF sz M (hI h0 1664 v) (k + 1) j = flF sz M (hI h0 1664 v) k (j + 1) := by
      show (bif flB sz M (hI h0 1664 v) j then _ else j) = _
      rw [hb]
      rfl
    rw [ef]
    have ad := addRow_eq a hs (show j < 6 by omega) u1 (hI h0 1664 v (2 * j)) (hI h0 1664 v (2 * j + 1))
    generalize hh2 : aRC h s j (hI h0 1664 v (2 * j)) (hI h0 1664 v (2 * j + 1)) = h2 at ad
    obtain ⟨n, h', y1, y2⟩ := ih (j + 1) h2 (by omega) (by
      subst hh2
      exact ((f.pI (by decide)).pI (by decide)).pI (by decide)) (by
      subst hh2
      unfold aRC
      rw [hI_pI, if_pos ⟨rfl, rfl, rfl⟩]) (fun i => by
      subst hh2
      unfold aRC
      rw [hI_off _ (by decide), hI_off _ (by decide), hI_pI]
      by_cases c : i = j
      · subst c
        rw [if_pos ⟨rfl, rfl, rfl⟩, if_pos (by omega)]
      · rw [if_neg (fun z => c z.2.2), u2]
        by_cases d : i < j
        · rw [if_pos d, if_pos (by omega)]
        · rw [if_neg d, if_neg (by omega)]) (fun i => by
      subst hh2
      unfold aRC
      rw [hI_off _ (by decide), hI_pI]
      by_cases c : i = j
      · subst c
        rw [if_pos ⟨rfl, rfl, rfl⟩, if_pos (by omega)]
      · rw [if_neg (fun z => c z.2.2), hI_off _ (by decide), u3]
        by_cases d : i < j
        · rw [if_pos d, if_pos (by omega)]
        · rw [if_neg d, if_neg (by omega)]) (fun c hc i x hi => by
      subst hh2
      unfold aRC
      rw [hI_pI, if_neg (fun z => hi z.2.1), hI_pI, if_neg (fun z => hi z.2.1), hI_pI, if_neg (fun z => hi z.2.1)]
      exact u4 c hc i x hi)
    refine ⟨n + 1, h', ?_, y2⟩
    rw [pre, if_neg (by rw [w1]; decide), if_neg (by rw [w2]; decide), ad, cV_some]
    exact y1
/-- the model's -/
def fiP (N : Nat → Int32) (s : Nat) (f : Nat → Int32) (j : Nat) : Nat → Int32 := fun i => if 225 + 12 * s ≤ i ∧ i < 225 + 12 * s + 2 * j then f (i - (225 + 12 * s)) else N i
theorem fiP_step (N : Nat → Int32) (s : Nat) (f : Nat → Int32) (j : Nat) : updF (updF (fiP N s f j) (225 + 12 * s + 2 * j) (f (2 * j))) (226 + 12 * s + 2 * j) (f (2 * j + 1)) = fiP N s f (j + 1) := by
  funext i
  unfold updF fiP
  by_cases c : i = 226 + 12 * s + 2 * j
  · rw [if_pos c, if_pos (by omega), show i - (225 + 12 * s) = 2 * j + 1 by omega]
  · rw [if_neg c]
    by_cases c2 : i = 225 + 12 * s + 2 * j
    · rw [if_pos c2, if_pos (by omega), show i - (225 + 12 * s) = 2 * j by omega]
    · rw [if_neg c2]
      by_cases d : 225 + 12 * s ≤ i ∧ i < 225 + 12 * s + 2 * j
      · rw [if_pos d, if_pos (by omega)]
      · rw [if_neg d, if_neg (by omega)]
theorem m24d (v j : Nat) : (24 : Int32) * nI v + 2 * nI j = nI (24 * v + 2 * j) := by rw [two_nI, m24]
theorem m24e (v j : Nat) : (24 : Int32) * nI v + 2 * nI j + 1 = nI (24 * v + 2 * j + 1) := by rw [m24d, nI_1]
theorem fill_end {h : PH} (a : SH h) {s j : Nat} (hs : s < 14) (G : Nat → Int32 → Int32 → Int32 → Int32 → PH → Option Rs) : X12_fill_g156 G 0 (nI s) (nI j) h = some (some (.inl (nI j)), pI h 2624 0 (157 + 5 * s) (nI j)) := by
  unfold X12_fill_g156 X12_fill_f156
  rw [nnE (sh_704 a), ixE (j := 157 + 5 * s) (ln_41 a) (by rw [show (155 : Int32) = nI 155 from rfl, show (5 : Int32) = nI 5 from rfl, show (2 : Int32) = nI 2 from rfl, nI_mul, nI_add, nI_add]; congr 1; omega) (by omega) (by decide), wr_eq]
theorem take_m {h0 : PH} (a0 : SH h0) {N : Nat → Int32} (hN : hI h0 2624 0 = N) {s v M sz : Nat} (hs : s < 14) (hv : v < 4) (hM : M ≤ 6) (hK : mostK (N (156 + 5 * s)) = nI M) (hz : hI h0 4032 0 v = nI sz) (h24 : sz ≤ 24) : ∀ k j h, j + k = M → Fr ([2624], [], false) h0 h → hI h 2624 0 = fiP N s (fun i => hI h0 4096 0 (24 * v + i)) j → ∃ n h', X12_fill_fam n 0 (nI s) (nI v) (nI j) 1 h = some (some (.inl (nI (flF sz M (fun i => hI h0 4096 0 (24 * v + i)) k j))), h') ∧ Fr ([2624], [], false) h0 h' ∧ hI h' 2624 0 = updF (fiP N s (fun i => hI h0 4096 0 (24 * v + i)) (flF sz M (fun i => hI h0 4096 0 (24 * v + i)) k j)) (157 + 5 * s) (nI (flF sz M (fun i => hI h0 4096 0 (24 * v + i)) k j)) := by
  intro k
  induction k with
  | zero =>
    intro j h e f u
    have a : SH h := a0.fr f (by decide)
    refine ⟨1, pI h 2624 0 (157 + 5 * s) (nI j), ?_, f.pI (by decide), by rw [hI_upd, u]; rfl⟩
    show X12_fill_g40 (X12_fill_fam 0) 0 (nI s) (nI v) (nI j) 1 h = _
    unfold X12_fill_g40 X12_fill_f40
    have o5 : X12_of5 0 (nI s) 1 h = some (some (.inl (N (156 + 5 * s))), h) := by
      rw [show (1 : Int32) = nI 1 from rfl, of5_at a u hs (j := 156 + 5 * s) (by decide) (by omega)]
      unfold fiP
      rw [if_neg (by omega)]
    rw [if_neg (by decide), o5, cI_some, X12_mostBy_eq, cI_some, hK, if_neg (nI_nlt (by omega) (by omega))]
    exact fill_end a hs (X12_fill_fam 0)
  | succ k ih =>
    intro j h e f u
    have a : SH h := a0.fr f (by decide)
    have e32 : hI h 4032 0 v = nI sz := (f.1 4032 0 v (by decide) (a0.nl (n := 4) (show (63, 0, 4) ∈ lnList by decide +kernel))).trans hz
    have e96 : ∀ x, hI h 4096 0 x = hI h0 4096 0 x := fun x => f.1 4096 0 x (by decide) a0.n64
    have o5 : X12_of5 0 (nI s) 1 h = some (some (.inl (N (156 + 5 * s))), h) := by
      rw [show (1 : Int32) = nI 1 from rfl, of5_at a u hs (j := 156 + 5 * s) (by decide) (by omega)]
      unfold fiP
      rw [if_neg (by omega)]
    -- flag
    have pre : ∀ n, X12_fill_fam (n + 1) 0 (nI s) (nI v) (nI j) 1 h = X12_fill_g121 (X12_fill_fam n) 0 (nI s) (nI v) (nI j) ((24 * nI v) + (2 * nI j)) (b2 (flB sz M (fun i => hI h0 4096 0 (24 * v + i)) j)) h := fun n => by
      show X12_fill_g40 (X12_fill_fam n) 0 (nI s) (nI v) (nI j) 1 h = _
      unfold X12_fill_g40 X12_fill_f40
      rw [if_neg (by decide), o5, cI_some, X12_mostBy_eq, cI_some, hK, if_pos (nI_lt (by omega) (by omega)), nnE (sh_746 a), ixE (ln_63 a) rfl hv (by decide), e32, show (2 : Int32) * nI j + 1 = nI (2 * j + 1) by rw [two_nI, nI_1]]
      by_cases c1 : 2 * j + 1 < sz
      · rw [if_pos (nI_lt c1 (by omega)), nnE (sh_747 a), ixE (ln_64 a) (m24d v j) (by omega) (by decide), in_wn14, cI_some, nnE (sh_747 a), ixE (ln_64 a) (m24e v j) (by omega) (by decide), in_wn8, cI_some, e96, e96]
        unfold flB
        rw [decide_eq_true c1, Bool.true_and]
        rcases wn_01 (hI h0 4096 0 (24 * v + 2 * j)) 14 with w1 | w1
        · rw [if_pos w1, decide_eq_false (by rw [w1]; decide), Bool.false_and]
          rfl
        · rw [if_neg (by rw [w1]; decide), decide_eq_true w1, Bool.true_and]
          rcases wn_01 (hI h0 4096 0 (24 * v + 2 * j + 1)) 8 with w2 | w2
          · rw [if_pos w2, decide_eq_false (by show ¬ wn (hI h0 4096 0 (24 * v + 2 * j + 1)) 8 = 1; rw [w2]; decide)]
            rfl
          · rw [if_neg (by rw [w2]; decide), decide_eq_true (by show wn (hI h0 4096 0 (24 * v + 2 * j + 1)) 8 = 1; rw [w2])]
            rfl
      · rw [if_neg (nI_nlt (by omega) (by omega))]
        unfold flB
        rw [decide_eq_false c1, Bool.false_and]
        rfl
    have ef : flF sz M (fun i => hI h0 4096 0 (24 * v + i)) (k + 1) j = bif flB sz M (fun i => hI h0 4096 0 (24 * v + i)) j then flF sz M (fun i => hI h0 4096 0 (24 * v + i)) k (j + 1) else j := rfl
    rw [ef]
    cases hb : flB sz M (fun i => hI h0 4096 0 (24 * v + i)) j with
    | false =>
      refine ⟨2, pI h 2624 0 (157 + 5 * s) (nI j), ?_, f.pI (by decide), by rw [hI_upd, u]; rfl⟩
      rw [pre, hb]
      unfold X12_fill_g121 X12_fill_f121
      rw [if_pos b2f]
      show X12_fill_g40 (X12_fill_fam 0) 0 (nI s) (nI v) (nI j) 0 h = _
      unfold X12_fill_g40 X12_fill_f40
      rw [if_pos rfl]
      exact fill_end a hs (X12_fill_fam 0)
    | true =>
      generalize hh2 : pI (pI h 2624 0 (225 + 12 * s + 2 * j) (hI h0 4096 0 (24 * v + 2 * j))) 2624 0 (226 + 12 * s + 2 * j) (hI h0 4096 0 (24 * v + 2 * j + 1)) = h2
      obtain ⟨n, h', y1, y2⟩ := ih (j + 1) h2 (by omega) (by
        subst hh2
        exact (f.pI (by decide)).pI (by decide)) (by
        subst hh2
        rw [hI_upd, hI_upd, u]
        exact fiP_step N s (fun i => hI h0 4096 0 (24 * v + i)) j)
      refine ⟨n + 1, h', ?_, y2⟩
      rw [pre, hb]
      unfold X12_fill_g121 X12_fill_f121
      rw [if_neg b2t, nnE (sh_747 a), ixE (ln_64 a) (m24d v j) (by omega) (by decide), nnE (sh_747 a), ixE (ln_64 a) (m24e v j) (by omega) (by decide), e96, e96, setsRow_eq a hs (show j < 6 by omega), cV_some, hh2, nI_1]
      exact y1
