/-! the house's least minutes -/
def wA (N : Nat → Int32) (w : Nat) : Nat := nt (N (15 + 6 * w))
def wB (N : Nat → Int32) (w : Nat) : Nat := nt (N (16 + 6 * w))
def wD (N : Nat → Int32) (w : Nat) : Nat := nt (N (17 + 6 * w))
def wM (N : Nat → Int32) (w : Nat) : Nat := nt (N (19 + 6 * w))
theorem nI_nt {x : Int32} (h : 0 ≤ x.toInt) : x = nI (nt x) := i_of h
theorem Hs.way {h : PH} {b : Nat} {N : Nat → Int32} (q : Hs h b N) {w : Nat} (hw : w < nt (N 4)) : N (15 + 6 * w) = nI (wA N w) ∧ N (16 + 6 * w) = nI (wB N w) ∧ N (17 + 6 * w) = nI (wD N w) ∧ N (19 + 6 * w) = nI (wM N w) ∧ wA N w < nt (N 3) ∧ wB N w < nt (N 3) ∧ wA N w ≠ wB N w ∧ wD N w < 8 ∧ 0 < wM N w ∧ wM N w ≤ 30 := by
  obtain ⟨K, hK, h20, hKn, hKi, -⟩ := q.ways
  obtain ⟨L, hL, h12, hLn, hLi, -⟩ := q.places
  obtain ⟨-, r1, r2, r3, r4, r5, r6, r7⟩ := q.2.2.1.2.2.1.1 w (by omega)
  obtain ⟨d1, d2⟩ := r4
  obtain ⟨m1, m2⟩ := r6
  unfold wA wB wD wM
  refine ⟨nI_nt r1.1, nI_nt r2.1, nI_nt d1, nI_nt (by omega), ?_, ?_, ?_, ?_, ?_, ?_⟩ <;> unfold nt <;> omega
theorem Hs.n12 {h : PH} {b : Nat} {N : Nat → Int32} (q : Hs h b N) : nt (N 3) ≤ 12 := by
  obtain ⟨L, hL, h12, hLn, hLi, -⟩ := q.places
  omega
theorem Hs.n20 {h : PH} {b : Nat} {N : Nat → Int32} (q : Hs h b N) : nt (N 4) ≤ 20 := by
  obtain ⟨L, hL, h12, hLn, hLi, -⟩ := q.ways
  omega
theorem Hs.wayF {h : PH} {b : Nat} {N : Nat → Int32} (q : Hs h b N) {w : Nat} (hw : w < nt (N 4)) : hI h 576 (20 * b + w) 0 = nI (wA N w) ∧ hI h 577 (20 * b + w) 0 = nI (wB N w) ∧ hI h 578 (20 * b + w) 0 = nI (wD N w) ∧ hI h 580 (20 * b + w) 0 = nI (wM N w) := by
  obtain ⟨K, hK, h20, hKn, hKi, -⟩ := q.ways
  obtain ⟨s1, s2, s3, s4, s5, s6⟩ := q.2.2.1.2.2.1.get (w := w) (by omega)
  obtain ⟨e1, e2, e3, e4, -⟩ := q.way hw
  exact ⟨s1.trans e1, s2.trans e2, s3.trans e3, s5.trans e4⟩
/-- roads that have been surveyed -/
def RdE (h : PH) (i b : Nat) (N : Nat → Int32) (P : Nat → Bool) : Prop := Hs h b N ∧ i < 2 ∧ hR h 193 i 0 = b + 1 ∧ ∀ v, v < nt (N 4) → hI h 1536 i v = b2 (P v)
theorem RdE.fr {W : List Nat × List Nat × Bool} {h h' : PH} {i b : Nat} {N : Nat → Int32} {P : Nat → Bool} (q : RdE h i b N P) (f : Fr W h h') (hw : (1536 :: hsCols).all (fun c => !W.1.contains c) = true) (hv : (193 :: hsRefs).all (fun c => !W.2.1.contains c) = true) : RdE h' i b N P := by
  rw [List.all_cons, Bool.and_eq_true] at hw hv
  refine ⟨q.1.fr f hw.2 hv.2, q.2.1, ?_, fun v hv' => ?_⟩
  · rw [f.2.1 193 i 0 (by simpa using hv.1) (q.1.1.n3 q.2.1)]
    exact q.2.2.1
  · rw [f.1 1536 i v (by simpa using hw.1) (q.1.1.n24 q.2.1)]
    exact q.2.2.2 v hv'
def LsE (h : PH) (i g : Nat) (F : Nat → Nat) : Prop := ∀ p, p < 12 → hI h 1600 i (12 * g + p) = nI (F p)
def LsK (h h' : PH) (i g : Nat) : Prop := ∀ i' j, i' ≠ i ∨ j < 12 * g ∨ 12 * g + 12 ≤ j → hI h' 1600 i' j = hI h 1600 i' j
def lsW : List Nat × List Nat × Bool := ([1600], [], false)
theorem LsK.rf {h : PH} {i g : Nat} : LsK h h i g := fun _ _ _ => rfl
theorem LsK.tr {h h1 h2 : PH} {i g : Nat} (a : LsK h h1 i g) (b : LsK h1 h2 i g) : LsK h h2 i g := fun i' j hj => (b i' j hj).trans (a i' j hj)
theorem shortenOne_eq {h : PH} (a0 : SH h) {i g : Nat} (hi : i < 2) (hg : g < 10) {F : Nat → Nat} (hF : LsE h i g F) (hZ : ∀ j, F j ≤ 1000000) {a b m : Nat} (ha : a < 12) (hb : b < 12) (hm : m ≤ 30) : ∃ h', X4_shortenOne i (nI (12 * g + a)) (nI (12 * g + b)) (nI m) h = some (some (.inl (b2 (decide (F b + m < F a)))), h') ∧ LsE h' i g (rl F a b m) ∧ Fr lsW h h' ∧ LsK h h' i g := by
  have za := hZ a
  have zb := hZ b
  have ba : 12 * g + a < 120 := by omega
  have bb : 12 * g + b < 120 := by omega
  have h31 : 120 < 2 ^ 31 := by decide
  by_cases c : F b + m < F a
  · refine ⟨pI h 1600 i (12 * g + a) (nI (F b + m)), ?_, ?_, Fr.rf.pI (by decide), ?_⟩
    · have hlt : nI (F b + m) < nI (F a) := nI_lt c (by omega)
      simp only [X4_shortenOne, X4_shortenOne_g0, X4_shortenOne_f0, X4_shortenOne_g22, X4_shortenOne_f22, sh_195 a0 i hi, nn_succ, ln_25 a0 i hi, ix_nI ba h31, ix_nI bb h31, hF a ha, hF b hb, nI_add, if_pos hlt, if_neg (show ¬ (1 : Int32) = 0 by decide), wr_eq, bz1, decide_eq_true c, b2, cond_true]
    · intro p hp
      unfold rl
      rw [if_pos c, hI_pI]
      by_cases d : p = a
      · rw [if_pos ⟨rfl, rfl, by rw [d]⟩, if_pos d]
      · rw [if_neg (fun z => d (by omega)), if_neg d]
        exact hF p hp
    · intro i' j hj
      rw [hI_pI, if_neg]
      rintro ⟨-, e1, e2⟩
      omega
  · refine ⟨h, ?_, ?_, Fr.rf, LsK.rf⟩
    · have hlt : ¬ nI (F b + m) < nI (F a) := nI_nlt (by omega) (by omega)
      simp only [X4_shortenOne, X4_shortenOne_g0, X4_shortenOne_f0, X4_shortenOne_g22, X4_shortenOne_f22, sh_195 a0 i hi, nn_succ, ln_25 a0 i hi, ix_nI ba h31, ix_nI bb h31, hF a ha, hF b hb, nI_add, if_neg hlt, if_true, bz0, decide_eq_false c, b2, cond_false]
    · unfold rl
      rw [if_neg c]
      exact hF
theorem X4_shorten_loop {h0 : PH} {i b g : Nat} {N : Nat → Int32} {P : Nat → Bool} (q : RdE h0 i b N P) (hg : g < 10) : ∀ k w F c h, w + k = nt (N 4) → Fr lsW h0 h → LsK h0 h i g → LsE h i g F → (∀ j, F j ≤ 1000000) → ∃ n h', X4_shorten_fam n i (nI (12 * g)) (b2 c) (nI w) h = some (some (.inl (b2 (rn (wA N) (wB N) (wM N) P k w F c).2)), h') ∧ LsE h' i g (rn (wA N) (wB N) (wM N) P k w F c).1 ∧ Fr lsW h0 h' ∧ LsK h0 h' i g
  | 0, w, F, c, h, e, f, l, hF, hZ => by
    have qh := q.fr f (by decide +kernel) (by decide +kernel)
    obtain ⟨K, hK, h20, hKn, hKi, hK73⟩ := qh.1.ways
    have hlt : ¬ nI w < nI K := nI_nlt (by omega) (by omega)
    refine ⟨1, h, ?_, hF, f, l⟩
    simp only [X4_shorten_fam, X4_shorten_g4, X4_shorten_f4, qh.2.2.1, nn_succ, hK73, if_neg hlt, bz_ok (b2_01 c), rn]
  | k + 1, w, F, c, h, e, f, l, hF, hZ => by
    have qh := q.fr f (by decide +kernel) (by decide +kernel)
    have a := qh.1.1
    have hi := q.2.1
    have hb := q.1.2.1
    obtain ⟨K, hK, h20, hKn, hKi, hK73⟩ := qh.1.ways
    have hwK : w < nt (N 4) := by omega
    have hw20 : w < 20 := by omega
    have hlt : nI w < nI K := nI_lt (by omega) (by omega)
    obtain ⟨f1, f2, f3, f4⟩ := qh.1.wayF hwK
    obtain ⟨-, -, -, -, g1, g2, g3, g4, g5, g6⟩ := qh.1.way hwK
    have n12 := qh.1.n12
    have n31 : 20 < 2 ^ 31 := by decide
    have hp := qh.2.2.2 w hwK
    cases pw : P w with
    | false =>
      obtain ⟨n, h', e1, e2, e3, e4⟩ := X4_shorten_loop q hg k (w + 1) F c h (by omega) f l hF hZ
      have r1 : rlS (wA N) (wB N) (wM N) P F w = F := by unfold rlS; rw [pw]; rfl
      have r2 : rlC (wA N) (wB N) (wM N) P F w = false := by unfold rlC; rw [pw]; rfl
      refine ⟨n + 1, h', ?_, ?_, e3, e4⟩
      · simp only [X4_shorten_fam, X4_shorten_g4, X4_shorten_f4, X4_shorten_g66, X4_shorten_f66, X4_shorten_g103, X4_shorten_f103, qh.2.2.1, nn_succ, hK73, if_pos hlt, sh_64 a b hb, ln_14 a b hb, ix_nI hw20 n31, sh_194 a i hi, ln_24 a i hi, hp, pw, b2, cond_false, if_true, nI_1, rn, r1, r2, Bool.or_false]
        exact e1
      · simp only [rn, r1, r2, Bool.or_false]
        exact e2
    | true =>
      obtain ⟨h1, s1, s2, s3, s4⟩ := shortenOne_eq a hi hg hF hZ (a := wA N w) (b := wB N w) (m := wM N w) (by omega) (by omega) g6
      have x1 : nI (12 * g) + nI (wA N w) = nI (12 * g + wA N w) := nI_add _ _
      have x2 : nI (12 * g) + nI (wB N w) = nI (12 * g + wB N w) := nI_add _ _
      have fr1 : Fr lsW h0 h1 := f.tr s3
      have lk1 : LsK h0 h1 i g := l.tr s4
      have q1 := q.fr fr1 (by decide +kernel) (by decide +kernel)
      have a1 := q1.1.1
      obtain ⟨f1', f2', f3', f4'⟩ := q1.1.wayF hwK
      have hp1 := q1.2.2.2 w hwK
      by_cases c1 : F (wB N w) + wM N w < F (wA N w)
      · obtain ⟨n, h', e1, e2, e3, e4⟩ := X4_shorten_loop q hg k (w + 1) (rl F (wA N w) (wB N w) (wM N w)) true h1 (by omega) fr1 lk1 s2 (rl_bound hZ)
        have r1 : rlS (wA N) (wB N) (wM N) P F w = rl F (wA N w) (wB N w) (wM N w) := by
          unfold rlS
          rw [if_pos pw, rl_twice g3 c1]
        have r2 : rlC (wA N) (wB N) (wM N) P F w = true := by
          unfold rlC
          rw [pw, decide_eq_true c1]
          rfl
        rw [decide_eq_true c1] at s1
        refine ⟨n + 1, h', ?_, ?_, e3, e4⟩
        · simp only [X4_shorten_fam, X4_shorten_g4, X4_shorten_f4, X4_shorten_g103, X4_shorten_f103, qh.2.2.1, nn_succ, hK73, if_pos hlt, sh_64 a b hb, ln_14 a b hb, ix_nI hw20 n31, sh_194 a i hi, ln_24 a i hi, hp, pw, b2, cond_true, if_neg (show ¬ (1 : Int32) = 0 by decide), way_ref a hb hw20, f1, f2, f4, x1, x2]
          rw [s1]
          simp only [cI_some, b2, cond_true, if_neg (show ¬ (1 : Int32) = 0 by decide), nI_1, rn, r1, r2, Bool.or_true]
          exact e1
        · simp only [rn, r1, r2, Bool.or_true]
          exact e2
      · have r0 : rl F (wA N w) (wB N w) (wM N w) = F := by
          unfold rl
          rw [if_neg c1]
        rw [r0] at s2
        obtain ⟨h2, t1, t2, t3, t4⟩ := shortenOne_eq a1 hi hg s2 hZ (a := wB N w) (b := wA N w) (m := wM N w) (by omega) (by omega) g6
        obtain ⟨n, h', e1, e2, e3, e4⟩ := X4_shorten_loop q hg k (w + 1) (rl F (wB N w) (wA N w) (wM N w)) (c || decide (F (wA N w) + wM N w < F (wB N w))) h2 (by omega) (fr1.tr t3) (lk1.tr t4) t2 (rl_bound hZ)
        have r1 : rlS (wA N) (wB N) (wM N) P F w = rl F (wB N w) (wA N w) (wM N w) := by
          unfold rlS
          rw [if_pos pw, r0]
        have r2 : rlC (wA N) (wB N) (wM N) P F w = decide (F (wA N w) + wM N w < F (wB N w)) := by
          unfold rlC
          rw [pw, r0, decide_eq_false c1]
          rfl
        rw [decide_eq_false c1] at s1
        refine ⟨n + 1, h', ?_, ?_, e3, e4⟩
        · simp only [X4_shorten_fam, X4_shorten_g4, X4_shorten_f4, qh.2.2.1, nn_succ, hK73, if_pos hlt, sh_64 a b hb, ln_14 a b hb, ix_nI hw20 n31, sh_194 a i hi, ln_24 a i hi, hp, pw, b2, cond_true, if_neg (show ¬ (1 : Int32) = 0 by decide), way_ref a hb hw20, f1, f2, f4, x1, x2]
          rw [s1]
          simp only [cI_some, b2, cond_false, if_true, X4_shorten_g66, X4_shorten_f66, X4_shorten_g103, X4_shorten_f103, sh_194 a1 i hi, ln_24 a1 i hi, nn_succ, ix_nI hw20 n31, hp1, pw, cond_true, if_neg (show ¬ (1 : Int32) = 0 by decide), f1', f2', f4', x1, x2]
          rw [t1]
          cases cc : decide (F (wA N w) + wM N w < F (wB N w)) with
          | false =>
            rw [cc, Bool.or_false] at e1
            simp only [cI_some, b2, cond_false, if_true, nI_1, rn, r1, r2, cc, Bool.or_false]
            exact e1
          | true =>
            rw [cc, Bool.or_true] at e1
            simp only [cI_some, b2, cond_true, if_neg (show ¬ (1 : Int32) = 0 by decide), nI_1, rn, r1, r2, cc, Bool.or_true]
            exact e1
        · simp only [rn, r1, r2]
          exact e2
theorem X4_shorten_eq {h : PH} {i b g : Nat} {N : Nat → Int32} {P : Nat → Bool} (q : RdE h i b N P) (hg : g < 10) {F : Nat → Nat} (hF : LsE h i g F) (hZ : ∀ j, F j ≤ 1000000) : ∃ h', X4_shorten i (nI (12 * g)) h = some (some (.inl (b2 (rn (wA N) (wB N) (wM N) P (nt (N 4)) 0 F false).2)), h') ∧ LsE h' i g (rn (wA N) (wB N) (wM N) P (nt (N 4)) 0 F false).1 ∧ Fr lsW h h' ∧ LsK h h' i g := by
  obtain ⟨n, h', e1, e2, e3, e4⟩ := X4_shorten_loop q hg (nt (N 4)) 0 F false h (by omega) Fr.rf LsK.rf hF hZ
  exact ⟨h', X4_shorten_iff.mpr ⟨n, e1⟩, e2, e3, e4⟩
theorem rn_bound {A B M : Nat → Nat} {P : Nat → Bool} {F : Nat → Nat} {Z : Nat} (h : ∀ j, F j ≤ Z) (k w : Nat) (c : Bool) (j : Nat) : (rn A B M P k w F c).1 j ≤ Z := Nat.le_trans (rn_le k w F c j) (h j)
theorem X4_measure_loop2 {h0 : PH} {i b g : Nat} {N : Nat → Int32} {P : Nat → Bool} (q : RdE h0 i b N P) (hg : g < 10) : ∀ k r F c h, r + k = 12 → Fr lsW h0 h → LsK h0 h i g → LsE h i g F → (∀ j, F j ≤ 1000000) → (c = false → (rn (wA N) (wB N) (wM N) P (nt (N 4)) 0 F false).2 = false) → ∃ n h', (X4_measure_fam n).2 i (nI (12 * g)) (b2 c) (nI r) h = some (none, h') ∧ LsE h' i g (itR (wA N) (wB N) (wM N) P (nt (N 4)) k F) ∧ Fr lsW h0 h' ∧ LsK h0 h' i g
  | 0, r, F, c, h, e, f, l, hF, hZ, hc => by
    have hlt : ¬ nI r < 12 := nI_nlt (b := 12) (by omega) (by omega)
    refine ⟨1, h, ?_, hF, f, l⟩
    simp only [X4_measure_fam, X4_measure_g51, X4_measure_f51, if_neg hlt]
  | k + 1, r, F, c, h, e, f, l, hF, hZ, hc => by
    have hlt : nI r < 12 := nI_lt (b := 12) (by omega) (by decide)
    cases c with
    | false =>
      refine ⟨1, h, ?_, ?_, f, l⟩
      · simp only [X4_measure_fam, X4_measure_g51, X4_measure_f51, if_pos hlt, b2, cond_false, if_true]
      · rw [itR_stay (hc rfl)]
        exact hF
    | true =>
      have qh := q.fr f (by decide +kernel) (by decide +kernel)
      obtain ⟨h1, e1, e2, e3, e4⟩ := X4_shorten_eq qh hg hF hZ
      obtain ⟨n, h', s1, s2, s3, s4⟩ := X4_measure_loop2 q hg k (r + 1) (rn (wA N) (wB N) (wM N) P (nt (N 4)) 0 F false).1 (rn (wA N) (wB N) (wM N) P (nt (N 4)) 0 F false).2 h1 (by omega) (f.tr e3) (l.tr e4) e2 (rn_bound hZ _ _ _) (fun hf => by
        rw [(rn_no _ 0 F false hf).2]
        exact hf)
      refine ⟨n + 1, h', ?_, s2, s3, s4⟩
      simp only [X4_measure_fam, X4_measure_g51, X4_measure_f51, if_pos hlt, b2, cond_true, if_neg (show ¬ (1 : Int32) = 0 by decide), e1, cI_some, nI_1]
      exact s1
/-- the least minutes to a goal's place -/
def fewM (N : Nat → Int32) (P : Nat → Bool) (gp : Nat) : Nat → Nat := itR (wA N) (wB N) (wM N) P (nt (N 4)) 12 (fun j => if j = gp then 0 else 1000000)
def gP (N : Nat → Int32) (g : Nat) : Nat := nt (N (135 + 2 * g))
theorem Hs.goal {h : PH} {b : Nat} {N : Nat → Int32} (q : Hs h b N) {g : Nat} (hg : g < nt (N 5)) : N (135 + 2 * g) = nI (gP N g) ∧ gP N g < nt (N 3) ∧ hI h 1024 b g = nI (gP N g) ∧ hI h 1088 b g = N (136 + 2 * g) ∧ rgI (N (136 + 2 * g)) (-1) 3 ∧ g < 10 := by
  obtain ⟨K, hK, h20, hKn, hKi, -⟩ := q.goals
  obtain ⟨L, hL, h12, hLn, hLi, -⟩ := q.places
  obtain ⟨r1, r2, r3, r4⟩ := q.2.2.1.2.2.2.1 g (by omega)
  have e : N (135 + 2 * g) = nI (gP N g) := nI_nt r3.1
  refine ⟨e, ?_, r1.trans e, r2, r4, by omega⟩
  unfold gP nt at *
  omega
theorem X4_measure_loop1 {h0 : PH} {i b g : Nat} {N : Nat → Int32} {P : Nat → Bool} (q : RdE h0 i b N P) (hg : g < nt (N 5)) : ∀ k p h, p + k = 12 → Fr lsW h0 h → LsK h0 h i g → (∀ j, j < p → hI h 1600 i (12 * g + j) = nI 1000000) → ∃ n h', (X4_measure_fam n).1 i (nI g) (nI (12 * g)) (nI p) h = some (none, h') ∧ LsE h' i g (fewM N P (gP N g)) ∧ Fr lsW h0 h' ∧ LsK h0 h' i g
  | 0, p, h, e, f, l, hF => by
    have hlt : ¬ nI p < 12 := nI_nlt (b := 12) (by omega) (by omega)
    have qh := q.fr f (by decide +kernel) (by decide +kernel)
    have a := qh.1.1
    have hb := q.1.2.1
    have hi := q.2.1
    obtain ⟨g1, g2, g3, g4, g5, g6⟩ := qh.1.goal hg
    have n12 := qh.1.n12
    have x1 : nI (12 * g) + nI (gP N g) = nI (12 * g + gP N g) := nI_add _ _
    have hF' : LsE (pI h 1600 i (12 * g + gP N g) 0) i g (fun j => if j = gP N g then 0 else 1000000) := fun p' hp' => by
      show _ = nI (if p' = gP N g then 0 else 1000000)
      rw [hI_pI]
      by_cases d : p' = gP N g
      · rw [if_pos ⟨rfl, rfl, by rw [d]⟩, if_pos d]
        rfl
      · rw [if_neg (fun z => d (by omega)), if_neg d]
        exact hF p' (by omega)
    obtain ⟨n, h', s1, s2, s3, s4⟩ := X4_measure_loop2 q g6 12 0 (fun j => if j = gP N g then 0 else 1000000) true (pI h 1600 i (12 * g + gP N g) 0) (by omega) (f.pI (by decide)) (l.tr (fun i' j hj => by
      rw [hI_pI, if_neg]
      rintro ⟨-, e1, e2⟩
      omega)) hF' (fun j => by
        show (if j = gP N g then 0 else 1000000) ≤ 1000000
        split <;> omega) (fun hf => by cases hf)
    refine ⟨n + 1, h', ?_, s2, s3, s4⟩
    simp only [X4_measure_fam, X4_measure_g7, X4_measure_f7, if_neg hlt, qh.2.2.1, nn_succ, sh_66 a b hb, ln_16 a b hb, ix_nI g6 (show 10 < 2 ^ 31 by decide), g3, sh_195 a i hi, ln_25 a i hi, x1, ix_nI (show 12 * g + gP N g < 120 by omega) (show 120 < 2 ^ 31 by decide), wr_eq]
    exact s1
  | k + 1, p, h, e, f, l, hF => by
    have hlt : nI p < 12 := nI_lt (b := 12) (by omega) (by decide)
    have qh := q.fr f (by decide +kernel) (by decide +kernel)
    have a := qh.1.1
    have hi := q.2.1
    obtain ⟨g1, g2, g3, g4, g5, g6⟩ := qh.1.goal hg
    have x1 : nI (12 * g) + nI p = nI (12 * g + p) := nI_add _ _
    obtain ⟨n, h', s1, s2, s3, s4⟩ := X4_measure_loop1 q hg k (p + 1) (pI h 1600 i (12 * g + p) (nI 1000000)) (by omega) (f.pI (by decide)) (l.tr (fun i' j hj => by
      rw [hI_pI, if_neg]
      rintro ⟨-, e1, e2⟩
      omega)) (fun j hj => by
        rw [hI_pI]
        by_cases d : j = p
        · rw [if_pos ⟨rfl, rfl, by rw [d]⟩]
        · rw [if_neg (fun z => d (by omega))]
          exact hF j (by omega))
    refine ⟨n + 1, h', ?_, s2, s3, s4⟩
    simp only [X4_measure_fam, X4_measure_g7, X4_measure_f7, if_pos hlt, nn_succ, sh_195 a i hi, ln_25 a i hi, x1, ix_nI (show 12 * g + p < 120 by omega) (show 120 < 2 ^ 31 by decide), wr_eq, nI_1]
    exact s1
theorem X4_measure_eq {h : PH} {i b g : Nat} {N : Nat → Int32} {P : Nat → Bool} (q : RdE h i b N P) (hg : g < nt (N 5)) : ∃ h', X4_measure i (nI g) h = some (none, h') ∧ LsE h' i g (fewM N P (gP N g)) ∧ Fr lsW h h' ∧ LsK h h' i g := by
  obtain ⟨n, h', s1, s2, s3, s4⟩ := X4_measure_loop1 q hg 12 0 h (by omega) Fr.rf LsK.rf (fun j hj => by omega)
  refine ⟨h', X4_measure_iff.mpr ⟨n, ?_⟩, s2, s3, s4⟩
  have e : nI g * 12 = nI (12 * g) := by rw [show (12 : Int32) = nI 12 from rfl, nI_mul, Nat.mul_comm]
  simp only [X4_measure_g0, X4_measure_f0, e]
  exact s1
