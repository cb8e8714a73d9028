/-! pair: lay -/
theorem Slts.one {h g : PH} {t : Nat} (q : Slts h) (k1 : ∀ c, c = 384 ∨ c = 385 ∨ c = 386 ∨ c = 387 → ∀ t', t' ≠ t → hI g c t' 0 = hI h c t' 0) (k2 : ∀ t', t' < 5 → t' ≠ t → hI g 257 (4 + t') 0 = hI h 257 (4 + t') 0 ∧ ∀ k, hI g 1664 (4 + t') k = hI h 1664 (4 + t') k) (k3 : ∀ c, c = 4160 ∨ c = 4224 ∨ c = 4288 → ∀ t', t' ≠ t → hI g c 0 t' = hI h c 0 t') (k4 : ∀ t' k, t' ≠ t → k < 24 → hI g 4352 0 (24 * t' + k) = hI h 4352 0 (24 * t' + k)) (own : hI g 384 t 0 = hI g 4160 0 t ∧ rgI (hI g 4160 0 t) 0 3 ∧ (hI g 4160 0 t = 1 → hI g 385 t 0 = hI g 4224 0 t ∧ hI g 386 t 0 = hI g 4288 0 t ∧ rgI (hI g 4224 0 t) 0 5) ∧ (hI g 4160 0 t = 2 → hI g 257 (4 + t) 0 = hI g 4224 0 t ∧ rgI (hI g 4224 0 t) 0 24 ∧ ∀ k, k < 24 → hI g 1664 (4 + t) k = hI g 4352 0 (24 * t + k)) ∧ (hI g 4160 0 t = 3 → hI g 387 t 0 = hI g 4224 0 t)) : Slts g := fun t' ht' => by
  by_cases c : t' = t
  · subst c
    exact own
  · obtain ⟨s1, s2, s3, s4, s5⟩ := q t' ht'
    obtain ⟨u1, u2⟩ := k2 t' ht' c
    rw [k1 384 (by omega) t' c, k1 385 (by omega) t' c, k1 386 (by omega) t' c, k1 387 (by omega) t' c, k3 4160 (by omega) t' c, k3 4224 (by omega) t' c, k3 4288 (by omega) t' c, u1]
    refine ⟨s1, s2, s3, fun z => ?_, s5⟩
    obtain ⟨v1, v2, v3⟩ := s4 z
    exact ⟨v1, v2, fun k hk => by rw [u2, k4 t' k c hk]; exact v3 k hk⟩
theorem Shts.same {h g : PH} (q : Shts h) (k1 : ∀ c, c = 256 ∨ c = 257 ∨ c = 1664 → ∀ s j, s < 4 → hI g c s j = hI h c s j) (k2 : ∀ c, c = 3968 ∨ c = 4032 ∨ c = 4096 → ∀ j, hI g c 0 j = hI h c 0 j) : Shts g := fun s hs => by
  obtain ⟨s1, s2, s3, s4, s5⟩ := q s hs
  rw [k1 256 (by omega) s 0 hs, k1 257 (by omega) s 0 hs, k2 3968 (by omega), k2 4032 (by omega)]
  exact ⟨s1, s2, s3, s4, fun k hk => by rw [k1 1664 (by omega) s k hs, k2 4096 (by omega)]; exact s5 k hk⟩
def lyL : List Nat × List Nat × Bool := ([4352], [], false)
theorem m24 (s j : Nat) : (24 : Int32) * nI s + nI j = nI (24 * s + j) := by rw [show (24 : Int32) = nI 24 from rfl, nI_mul, nI_add]
theorem SH.n64 {h : PH} (a : SH h) : 0 < hN h 64 := a.nl (n := 96) (show (64, 0, 96) ∈ lnList by decide +kernel)
theorem lay_loop {h0 : PH} (a0 : SH h0) {t s : Nat} (ht : t < 5) (hs : s < 4) (x4 : Int32) : ∀ k j h, j + k = 24 → Fr lyL h0 h → (∀ i, hI h 4352 0 i = if 24 * t ≤ i ∧ i < 24 * t + j then hI h0 4096 0 (24 * s + (i - 24 * t)) else hI h0 4352 0 i) → ∃ n h', X12_lay_fam n 0 (nI t) 2 (nI s) x4 (nI j) h = some (some (.inl x4), h') ∧ Fr lyL h0 h' ∧ ∀ i, hI h' 4352 0 i = if 24 * t ≤ i ∧ i < 24 * t + 24 then hI h0 4096 0 (24 * s + (i - 24 * t)) else hI h0 4352 0 i := by
  intro k
  induction k with
  | zero =>
    intro j h e f v
    have e' : j = 24 := by omega
    subst e'
    refine ⟨1, h, ?_, f, v⟩
    show X12_lay_g135 (X12_lay_fam 0) 0 (nI t) 2 (nI s) x4 (nI 24) h = _
    unfold X12_lay_g135 X12_lay_f135
    rw [if_neg (by decide)]
  | succ k ih =>
    intro j h e f v
    have a : SH h := a0.fr f (by decide)
    have e4 : hI h 4096 0 (24 * s + j) = hI h0 4096 0 (24 * s + j) := f.1 4096 0 _ (by decide) a0.n64
    obtain ⟨n, h', e1, f1, v1⟩ := ih (j + 1) (pI h 4352 0 (24 * t + j) (hI h 4096 0 (24 * s + j))) (by omega) (f.pI (by decide)) (fun i => by
      rw [hI_pI]
      by_cases c : i = 24 * t + j
      · subst c
        rw [if_pos ⟨rfl, rfl, rfl⟩, if_pos (by omega), e4, show 24 * t + j - 24 * t = j by omega]
      · rw [if_neg (fun z => c z.2.2), v i]
        by_cases d : 24 * t ≤ i ∧ i < 24 * t + j
        · rw [if_pos d, if_pos (by omega)]
        · rw [if_neg d, if_neg (by omega)])
    refine ⟨n + 1, h', ?_, f1, v1⟩
    show X12_lay_g135 (X12_lay_fam n) 0 (nI t) 2 (nI s) x4 (nI j) h = _
    unfold X12_lay_g135 X12_lay_f135
    rw [if_pos (show nI j < 24 from nI_lt (b := 24) (by omega) (by decide)), if_pos rfl, nnE (sh_747 a), ixE (ln_64 a) (m24 s j) (by omega) (by decide), nnE (sh_751 a), ixE (ln_68 a) (m24 t j) (by omega) (by decide), wr_eq, nI_1]
    exact e1
theorem lay_end {h : PH} {x1 x2 x3 x4 : Int32} (hx : ¬ x2 = 2) : X12_lay_fam 1 0 x1 x2 x3 x4 0 h = some (some (.inl x4), h) := by
  show X12_lay_g135 (X12_lay_fam 0) 0 x1 x2 x3 x4 0 h = _
  unfold X12_lay_g135 X12_lay_f135
  rw [if_pos (by decide), if_neg hx]
def lyH (h : PH) (t : Nat) (k A B : Int32) : PH := pI (pI (pI h 4160 0 t k) 4224 0 t A) 4288 0 t B
def lyW : List Nat × List Nat × Bool := ([384, 385, 386, 387, 256, 257, 1664, 4160, 4224, 4288, 4352], [], false)
/-- the model's, from where nothing is refused -/
theorem lay_62 {h : PH} (a : SH h) {t : Nat} (ht : t < 5) {k x3 A B : Int32} {z : Rs} {n : Nat} (hA : ∀ g : Int32 → PH → Option Rs, (if k = 1 then (cI (X12_of5 0 x3 1 (pI h 4160 0 t k)) fun v19 h18 => g v19 h18) else if k = 2 then (nn (hR (pI h 4160 0 t k) 746 0 0) fun r16 => ix x3 (hL (pI h 4160 0 t k) 63 r16) fun j17 => g (hI (pI h 4160 0 t k) 4032 r16 j17) (pI h 4160 0 t k)) else g x3 (pI h 4160 0 t k)) = g A (pI h 4160 0 t k)) (hB : ∀ g : Int32 → PH → Option Rs, (if k = 1 then (cI (X12_rowsOf 0 x3 (pI (pI h 4160 0 t k) 4224 0 t A)) fun v24 h23 => g v24 h23) else g 0 (pI (pI h 4160 0 t k) 4224 0 t A)) = g B (pI (pI h 4160 0 t k) 4224 0 t A)) (hz : X12_lay_fam n 0 (nI t) k x3 (hI h 4160 0 t) 0 (lyH h t k A B) = some z) : X12_lay_g62 (X12_lay_fam n) 0 (nI t) k x3 h = some z := by
  unfold X12_lay_g62 X12_lay_f62
  rw [nnE (sh_748 a), ixE (ln_65 a) rfl ht (by decide), nnE (sh_748 a), ixE (ln_65 a) rfl ht (by decide), wr_eq]
  have a1 : SH (pI h 4160 0 t k) := a
  have a2 : SH (pI (pI h 4160 0 t k) 4224 0 t A) := a
  refine (hA (fun v h' => X12_lay_g111 (X12_lay_fam n) 0 (nI t) k x3 (hI h 4160 0 t) v (nI t) (hR (pI h 4160 0 t k) 749 0 0) h')).trans ?_
  unfold X12_lay_g111 X12_lay_f111
  rw [nnE (sh_749 a1), ixE (ln_66 a1) rfl ht (by decide), wr_eq]
  refine (hB (fun v h' => X12_lay_g131 (X12_lay_fam n) 0 (nI t) k x3 (hI h 4160 0 t) v (nI t) (hR (pI (pI h 4160 0 t k) 4224 0 t A) 750 0 0) h')).trans ?_
  unfold X12_lay_g131 X12_lay_f131
  rw [nnE (sh_750 a2), ixE (ln_67 a2) rfl ht (by decide), wr_eq]
  exact hz
theorem lyH_fr (h : PH) (t : Nat) (k A B : Int32) : Fr lyW h (lyH h t k A B) := ((Fr.rf.pI (by decide)).pI (by decide)).pI (by decide)
theorem lyH_at (h : PH) (t : Nat) (k A B : Int32) (t' : Nat) : hI (lyH h t k A B) 4160 0 t' = (if t' = t then k else hI h 4160 0 t') ∧ hI (lyH h t k A B) 4224 0 t' = (if t' = t then A else hI h 4224 0 t') ∧ hI (lyH h t k A B) 4288 0 t' = if t' = t then B else hI h 4288 0 t' := by
  unfold lyH
  refine ⟨?_, ?_, ?_⟩
  · rw [hI_off _ (by decide), hI_off _ (by decide), hI_pI]
    by_cases c : t' = t
    · rw [if_pos ⟨rfl, rfl, c⟩, if_pos c]
    · rw [if_neg (fun z => c z.2.2), if_neg c]
  · rw [hI_off _ (by decide), hI_pI]
    by_cases c : t' = t
    · rw [if_pos ⟨rfl, rfl, c⟩, if_pos c]
    · rw [if_neg (fun z => c z.2.2), if_neg c, hI_off _ (by decide)]
  · rw [hI_pI]
    by_cases c : t' = t
    · rw [if_pos ⟨rfl, rfl, c⟩, if_pos c]
    · rw [if_neg (fun z => c z.2.2), if_neg c, hI_off _ (by decide), hI_off _ (by decide)]
theorem lyH_off (h : PH) (t : Nat) (k A B : Int32) {c : Nat} (h1 : c ≠ 4160) (h2 : c ≠ 4224) (h3 : c ≠ 4288) (i j : Nat) : hI (lyH h t k A B) c i j = hI h c i j := by
  unfold lyH
  rw [hI_off _ h3, hI_off _ h2, hI_off _ h1]
/-- the relation behind it -/
theorem lay_R {m : Nat} {h hc g : PH} (r : R m h) {t : Nat} (f1 : Fr lyW h hc) (f2 : Fr ([4160, 4224, 4288, 4352], [], false) hc g) (c1 : ∀ c, c = 384 ∨ c = 385 ∨ c = 386 ∨ c = 387 → ∀ t', t' ≠ t → hI hc c t' 0 = hI h c t' 0) (c2 : ∀ c, c = 256 ∨ c = 257 ∨ c = 1664 → ∀ i j, i ≠ 4 + t → hI hc c i j = hI h c i j) (m1 : ∀ c, c = 4160 ∨ c = 4224 ∨ c = 4288 → ∀ t', t' ≠ t → hI g c 0 t' = hI h c 0 t') (m2 : ∀ i, ¬ (24 * t ≤ i ∧ i < 24 * t + 24) → hI g 4352 0 i = hI h 4352 0 i) (own : hI g 384 t 0 = hI g 4160 0 t ∧ rgI (hI g 4160 0 t) 0 3 ∧ (hI g 4160 0 t = 1 → hI g 385 t 0 = hI g 4224 0 t ∧ hI g 386 t 0 = hI g 4288 0 t ∧ rgI (hI g 4224 0 t) 0 5) ∧ (hI g 4160 0 t = 2 → hI g 257 (4 + t) 0 = hI g 4224 0 t ∧ rgI (hI g 4224 0 t) 0 24 ∧ ∀ k, k < 24 → hI g 1664 (4 + t) k = hI g 4352 0 (24 * t + k)) ∧ (hI g 4160 0 t = 3 → hI g 387 t 0 = hI g 4224 0 t)) (ht : t < 5) : R (m + 1) g := by
  have r0 := r
  obtain ⟨a, q, -, -, q4, q5, q6, q7, -⟩ := r
  have ac : SH hc := a.fr f1 (by decide)
  have fA : Fr lyW h g := f1.tr (f2.sub (by decide))
  have n6 : ∀ t', t' < 5 → t' < hN hc 6 := fun t' h5 => ac.k1 (k := 6) (n := 5) (by decide +kernel) h5
  refine r0.oth fA (by decide +kernel) (by decide +kernel) rfl (q4.fr a fA (by decide)) (q5.same (fun c hc' s j hs => ?_) (fun c hc' j => ?_)) ?_ (q7.fr a fA (by decide))
  · rw [f2.1 c s j (by rcases hc' with rfl | rfl | rfl <;> decide) (by rcases hc' with rfl | rfl | rfl; exact ac.n4 (by omega); exact ac.n4 (by omega); exact ac.n26 (by omega)), c2 c hc' s j (by omega)]
  · exact fA.1 c 0 j (by rcases hc' with rfl | rfl | rfl <;> decide) (by rcases hc' with rfl | rfl | rfl; exact a.nl (n := 4) (show (62, 0, 4) ∈ lnList by decide +kernel); exact a.nl (n := 4) (show (63, 0, 4) ∈ lnList by decide +kernel); exact a.n64)
  · intro t' ht'
    by_cases c : t' = t
    · subst c
      exact own
    · have k1 : ∀ c, c = 384 ∨ c = 385 ∨ c = 386 ∨ c = 387 → hI g c t' 0 = hI h c t' 0 := fun c hc' => by
        rw [f2.1 c t' 0 (by rcases hc' with rfl | rfl | rfl | rfl <;> decide) (by rcases hc' with rfl | rfl | rfl | rfl <;> exact n6 t' ht'), c1 c hc' t' (by omega)]
      obtain ⟨s1, s2, s3, s4, s5⟩ := q6 t' ht'
      rw [k1 384 (by omega), k1 385 (by omega), k1 386 (by omega), k1 387 (by omega), m1 4160 (by omega) t' c, m1 4224 (by omega) t' c, m1 4288 (by omega) t' c, f2.1 257 (4 + t') 0 (by decide) (ac.n4 (by omega)), c2 257 (by omega) (4 + t') 0 (by omega)]
      refine ⟨s1, s2, s3, fun z => ?_, s5⟩
      obtain ⟨v1, v2, v3⟩ := s4 z
      exact ⟨v1, v2, fun k hk => by rw [f2.1 1664 (4 + t') k (by decide) (ac.n26 (by omega)), c2 1664 (by omega) (4 + t') k (by omega), m2 (24 * t' + k) (by omega)]; exact v3 k hk⟩
