/-! ways from a place, both; the model's least minutes -/
def wfO (N : Nat → Int32) (p d : Int32) : Nat → Nat → Option Nat
  | 0, _ => none
  | k + 1, w => if ldB N p d w then some w else wfO N p d k (w + 1)
theorem wfF_oI {N : Nat → Int32} {p d : Int32} : ∀ k w, wfF N p d k w = oI (wfO N p d k w)
  | 0, _ => rfl
  | k + 1, w => by
    unfold wfF wfO
    split
    · rfl
    · exact wfF_oI k (w + 1)
theorem wfO_lt {N : Nat → Int32} {p d : Int32} : ∀ {k w v : Nat}, wfO N p d k w = some v → w ≤ v ∧ v < w + k ∧ ldB N p d v = true
  | 0, w, v, e => by cases e
  | k + 1, w, v, e => by
    unfold wfO at e
    by_cases c : ldB N p d w = true
    · rw [if_pos c] at e
      cases e
      exact ⟨by omega, by omega, c⟩
    · rw [if_neg c] at e
      have := wfO_lt e
      exact ⟨by omega, by omega, this.2.2⟩
def wO (N : Nat → Int32) (p d : Nat) : Option Nat := wfO N (nI p) (nI d) (nt (N 4)) 0
theorem wO_lt {N : Nat → Int32} {p d w : Nat} (e : wO N p d = some w) : w < nt (N 4) := by
  have := (wfO_lt e).2.1
  omega
/-- the way that passes and leads from a place in a direction -/
def opO (N : Nat → Int32) (P : Nat → Bool) (p d : Nat) : Option Nat := match wO N p d with
  | none => none
  | some w => if P w then some w else none
theorem opO_lt {N : Nat → Int32} {P : Nat → Bool} {p d w : Nat} (e : opO N P p d = some w) : w < nt (N 4) ∧ wO N p d = some w ∧ P w = true := by
  unfold opO at e
  cases c : wO N p d with
  | none => rw [c] at e; cases e
  | some v =>
    rw [c] at e
    have e' : (if P v then some v else none) = some w := e
    cases cp : P v with
    | false => rw [cp] at e'; cases e'
    | true =>
      rw [cp] at e'
      cases e'
      exact ⟨wO_lt c, rfl, cp⟩
def oe (N : Nat → Int32) (w p : Nat) : Nat := if wA N w = p then wB N w else wA N w
theorem Hs.oeL {h : PH} {b : Nat} {N : Nat → Int32} (q : Hs h b N) {w : Nat} (hw : w < nt (N 4)) (p : Nat) : oe N w p < nt (N 3) := by
  obtain ⟨-, -, -, -, g1, g2, -⟩ := q.way hw
  unfold oe
  split <;> assumption
theorem openWay_eq {h : PH} {i b : Nat} {N : Nat → Int32} {P : Nat → Bool} (q : RdE h i b N P) {p d : Nat} (hp : p < 12) (hd : d < 8) : X4_openWay i (nI p) (nI d) h = some (some (.inl (oI (opO N P p d))), h) := by
  obtain ⟨K, hK, h20, hKn, hKi, hK73⟩ := q.1.ways
  have a := q.1.1
  have e1 : hI h 960 b (8 * p + d) = oI (wO N p d) := by
    rw [q.1.2.2.1.2.2.1.lead hK h20 hp hd, wfF_oI]
    unfold wO
    rw [hKn]
  unfold X4_openWay X4_openWay_g0 X4_openWay_f0 opO
  rw [q.2.2.1, nn_succ, X1_wayFrom_eq a q.1.2.1 hp hd, cI_some, e1]
  cases c : wO N p d with
  | none => rfl
  | some w =>
    have hw := wO_lt c
    have hne : ¬ oI (some w) = -1 := fun e => by
      have := (oI_m1 (o := some w) (fun v hv => by cases hv; omega)).mp e
      cases this
    rw [if_neg hne, sh_194 a i q.2.1, nn_succ, ln_24 a i q.2.1]
    show ix (nI w) 20 _ = _
    rw [ix_nI (show w < 20 by omega) (by decide), q.2.2.2 w hw]
    show _ = (some (some (Sum.inl (oI (if P w then some w else none))), h) : Option Rs)
    cases P w <;> rfl
theorem openWay_no {h : PH} {i b : Nat} {N : Nat → Int32} {P : Nat → Bool} (q : RdE h i b N P) (p : Int32) : X4_openWay i p (-1) h = some (some (.inl (-1)), h) := by
  unfold X4_openWay X4_openWay_g0 X4_openWay_f0
  rw [q.2.2.1, nn_succ, X1_wayFrom_no, cI_some, if_pos rfl]
/-- the model when it has looked -/
def AwE (h : PH) (N : Nat → Int32) (P : Nat → Bool) : Prop := SH h ∧ hI h 2624 0 = N ∧ ∀ v, v < nt (N 4) → hI h 3392 0 v = b2 (P v)
theorem AwE.fr {W : List Nat × List Nat × Bool} {h h' : PH} {N : Nat → Int32} {P : Nat → Bool} (q : AwE h N P) (f : Fr W h h') (h1 : W.1.contains 2624 = false) (h2 : W.1.contains 3392 = false) (hw : W.2.1.all (fun c => !shCols.contains c) = true) : AwE h' N P :=
  ⟨q.1.fr f hw, (now_fr q.1 f h1).trans q.2.1, fun v hv => (f.1 3392 0 v h2 q.1.n53).trans (q.2.2 v hv)⟩
theorem passFrom_eq {h g : PH} {b : Nat} {N : Nat → Int32} {P : Nat → Bool} (q : AwE h N P) (hs : Hs g b N) (p d : Nat) : X12_passFrom 0 (nI p) (nI d) h = some (some (.inl (oI (opO N P p d))), h) := by
  obtain ⟨a, hN, hP⟩ := q
  obtain ⟨K, hK, h20, hKn, hKi, hK73⟩ := hs.ways
  unfold X12_passFrom X12_passFrom_g0 X12_passFrom_f0 opO
  rw [X12_wayFrom_eq a (nI p) (nI d) (K := K) (by rw [hN]; exact hK) h20, cI_some, hN, wfF_oI]
  have e1 : wfO N (nI p) (nI d) K 0 = wO N p d := by unfold wO; rw [hKn]
  rw [e1]
  cases c : wO N p d with
  | none => rfl
  | some w =>
    have hw := wO_lt c
    have hne : ¬ oI (some w) < 0 := nI_pos (show w < 2 ^ 31 by omega)
    rw [if_neg hne, sh_728 a, nn_one, ln_53 a]
    show ix (nI w) 20 _ = _
    rw [ix_nI (show w < 20 by omega) (by decide), hP w hw]
    show _ = (some (some (Sum.inl (oI (if P w then some w else none))), h) : Option Rs)
    cases P w <;> rfl
theorem otherEnd_eq {h g : PH} {b : Nat} {N : Nat → Int32} (a : SH h) (hN : hI h 2624 0 = N) (hs : Hs g b N) {w p : Nat} (hw : w < nt (N 4)) (hp : p < 12) : X12_otherEnd 0 (nI w) (nI p) h = some (some (.inl (nI (oe N w p))), h) := by
  have h20 := hs.n20
  obtain ⟨e1, e2, -, -, g1, g2, -⟩ := hs.way hw
  have n12 := hs.n12
  have x0 : (15 : Int32) + 6 * nI w = nI (15 + 6 * w) := by rw [show (15 : Int32) = nI 15 from rfl, show (6 : Int32) = nI 6 from rfl, nI_mul, nI_add]
  have x1 : nI (15 + 6 * w) + 1 = nI (16 + 6 * w) := by rw [nI_1]; congr 1; omega
  unfold X12_otherEnd X12_otherEnd_g0 X12_otherEnd_f0 oe
  simp only [sh_704 a, nn_one, ln_41 a, x0, x1, ix_nI (show 15 + 6 * w < 1765 by omega) (show 1765 < 2 ^ 31 by decide), ix_nI (show 16 + 6 * w < 1765 by omega) (show 1765 < 2 ^ 31 by decide), hN, e1, e2, nI_eq (show wA N w < 2 ^ 31 by omega) (show p < 2 ^ 31 by omega)]
  split <;> rfl
theorem endFrom_eq {h : PH} {b : Nat} {N : Nat → Int32} (q : Hs h b N) {w p : Nat} (hw : w < nt (N 4)) (hp : p < 12) : X10_endFrom (20 * b + w) (nI p) h = some (some (.inl (nI (oe N w p))), h) := by
  obtain ⟨f1, f2, -, -⟩ := q.wayF hw
  obtain ⟨-, -, -, -, g1, g2, -⟩ := q.way hw
  have n12 := q.n12
  unfold X10_endFrom X10_endFrom_g0 X10_endFrom_f0 oe
  rw [f1, f2]
  by_cases c : wA N w = p
  · rw [if_pos c, if_pos (by rw [c])]
  · rw [if_neg c, if_neg (fun e => c ((nI_eq (by omega) (by omega)).mp e.symm))]
def LdE (h : PH) (F : Nat → Nat) : Prop := ∀ p, p < 12 → hI h 3520 0 p = nI (F p)
def awW : List Nat × List Nat × Bool := ([3520], [], false)
theorem LdE.pI {h : PH} {F : Nat → Nat} (q : LdE h F) {a b m : Nat} (c : F b + m < F a) : LdE (pI h 3520 0 a (nI (F b + m))) (rl F a b m) := fun p hp => by
  unfold rl
  rw [if_pos c, hI_pI]
  by_cases d : p = a
  · rw [if_pos ⟨rfl, rfl, d⟩, if_pos d]
  · rw [if_neg (fun z => d z.2.2), if_neg d]
    exact q p hp
theorem X12_away_round {h0 g : PH} {b : Nat} {N : Nat → Int32} {P : Nat → Bool} (q : AwE h0 N P) (hs : Hs g b N) : ∀ k w F c h, w + k = nt (N 4) → Fr awW h0 h → LdE h F → (∀ j, F j ≤ 1000000) → ∃ h1, LdE h1 (rn (wA N) (wB N) (wM N) P k w F c).1 ∧ Fr awW h0 h1 ∧ ∀ n r, (X12_findAway_fam n).2.1 0 (b2 (rn (wA N) (wB N) (wM N) P k w F c).2) h1 = some r → ∃ n', (X12_findAway_fam n').2.2 0 (b2 c) (nI w) h = some r
  | 0, w, F, c, h, e, f, hF, hZ => by
    obtain ⟨a, hN, hP⟩ := q.fr f (by decide +kernel) (by decide +kernel) (by decide +kernel)
    obtain ⟨K, hK, h20, hKn, hKi, hK73⟩ := hs.ways
    have hlt : ¬ nI w < nI K := nI_nlt (by omega) (by omega)
    refine ⟨h, hF, f, fun n r hr => ⟨n + 1, ?_⟩⟩
    simp only [X12_findAway_fam, X12_findAway_g45, X12_findAway_f45, sh_704 a, nn_one, ln_41 a, nx4, hN, hK, if_neg hlt]
    exact hr
  | k + 1, w, F, c, h, e, f, hF, hZ => by
    obtain ⟨a, hN, hP⟩ := q.fr f (by decide +kernel) (by decide +kernel) (by decide +kernel)
    obtain ⟨K, hK, h20, hKn, hKi, hK73⟩ := hs.ways
    have hlt : nI w < nI K := nI_lt (by omega) (by omega)
    have hwK : w < nt (N 4) := by omega
    have hw20 : w < 20 := by omega
    obtain ⟨v1, v2, -, v4, g1, g2, g3, g4, g5, g6⟩ := hs.way hwK
    have n12 := hs.n12
    have zA := hZ (wA N w)
    have zB := hZ (wB N w)
    have x0 : (15 : Int32) + 6 * nI w = nI (15 + 6 * w) := by rw [show (15 : Int32) = nI 15 from rfl, show (6 : Int32) = nI 6 from rfl, nI_mul, nI_add]
    have x1 : nI (15 + 6 * w) + 1 = nI (16 + 6 * w) := by rw [nI_1]; congr 1; omega
    have x4 : nI (15 + 6 * w) + 4 = nI (19 + 6 * w) := by rw [show (4 : Int32) = nI 4 from rfl, nI_add]; congr 1; omega
    have h31 : 1765 < 2 ^ 31 := by decide
    have t31 : 12 < 2 ^ 31 := by decide
    have y0 : 15 + 6 * w < 1765 := by omega
    have y1 : 16 + 6 * w < 1765 := by omega
    have y4 : 19 + 6 * w < 1765 := by omega
    have yA : wA N w < 12 := by omega
    have yB : wB N w < 12 := by omega
    have hp := hP w hwK
    cases pw : P w with
    | false =>
      obtain ⟨h1, e1, e2, e3⟩ := X12_away_round q hs k (w + 1) F c h (by omega) f hF hZ
      have r1 : rlS (wA N) (wB N) (wM N) P F w = F := by unfold rlS; rw [pw]; rfl
      have r2 : rlC (wA N) (wB N) (wM N) P F w = false := by unfold rlC; rw [pw]; rfl
      simp only [rn, r1, r2, Bool.or_false]
      refine ⟨h1, e1, e2, fun n r hr => ?_⟩
      obtain ⟨n', hn'⟩ := e3 n r hr
      refine ⟨n' + 1, ?_⟩
      simp only [X12_findAway_fam, X12_findAway_g45, X12_findAway_f45, X12_findAway_g143, X12_findAway_f143, X12_findAway_g191, X12_findAway_f191, sh_704 a, sh_728 a, nn_one, ln_41 a, ln_53 a, nx4, hN, hK, if_pos hlt, x0, x1, x4, ix_nI y0 h31, ix_nI y1 h31, ix_nI y4 h31, ix_nI hw20 (show 20 < 2 ^ 31 by decide), hp, pw, if_pos (show b2 false = 0 from rfl), nI_1]
      exact hn'
    | true =>
      have hb1 : ¬ b2 true = 0 := by decide
      -- the second half, from any heap and flag
      have second : ∀ F1 c1 h1, Fr awW h0 h1 → LdE h1 F1 → (∀ j, F1 j ≤ 1000000) → ∃ h2, LdE h2 (rn (wA N) (wB N) (wM N) P k (w + 1) (rl F1 (wB N w) (wA N w) (wM N w)) (c1 || decide (F1 (wA N w) + wM N w < F1 (wB N w)))).1 ∧ Fr awW h0 h2 ∧ ∀ n r, (X12_findAway_fam n).2.1 0 (b2 (rn (wA N) (wB N) (wM N) P k (w + 1) (rl F1 (wB N w) (wA N w) (wM N w)) (c1 || decide (F1 (wA N w) + wM N w < F1 (wB N w)))).2) h2 = some r → ∃ n', X12_findAway_g143 (X12_findAway_fam n') 0 (b2 c1) (nI w) (nI (wA N w)) (nI (wB N w)) (nI (wM N w)) h1 = some r := fun F1 c1 h1 f1 hF1 hZ1 => by
        obtain ⟨a1, hN1, hP1⟩ := q.fr f1 (by decide +kernel) (by decide +kernel) (by decide +kernel)
        have hp1 := hP1 w hwK
        have z1 := hZ1 (wA N w)
        have z2 := hZ1 (wB N w)
        by_cases cc : F1 (wA N w) + wM N w < F1 (wB N w)
        · obtain ⟨h2, e1, e2, e3⟩ := X12_away_round q hs k (w + 1) (rl F1 (wB N w) (wA N w) (wM N w)) true (pI h1 3520 0 (wB N w) (nI (F1 (wA N w) + wM N w))) (by omega) (f1.pI (by decide)) (hF1.pI cc) (rl_bound hZ1)
          rw [decide_eq_true cc, Bool.or_true]
          refine ⟨h2, e1, e2, fun n r hr => ?_⟩
          obtain ⟨n', hn'⟩ := e3 n r hr
          refine ⟨n', ?_⟩
          have hlt2 : nI (F1 (wA N w) + wM N w) < nI (F1 (wB N w)) := nI_lt cc (by omega)
          simp only [X12_findAway_g143, X12_findAway_f143, X12_findAway_g191, X12_findAway_f191, sh_728 a1, sh_730 a1, nn_one, ln_53 a1, ln_55 a1, ix_nI hw20 (show 20 < 2 ^ 31 by decide), hp1, pw, if_neg hb1, ix_nI yA t31, ix_nI yB t31, hF1 _ yA, hF1 _ yB, nI_add, if_pos hlt2, wr_eq, nI_1]
          exact hn'
        · obtain ⟨h2, e1, e2, e3⟩ := X12_away_round q hs k (w + 1) F1 c1 h1 (by omega) f1 hF1 hZ1
          have r0 : rl F1 (wB N w) (wA N w) (wM N w) = F1 := by
            unfold rl
            rw [if_neg cc]
          rw [decide_eq_false cc, Bool.or_false, r0]
          refine ⟨h2, e1, e2, fun n r hr => ?_⟩
          obtain ⟨n', hn'⟩ := e3 n r hr
          refine ⟨n', ?_⟩
          have hlt2 : ¬ nI (F1 (wA N w) + wM N w) < nI (F1 (wB N w)) := nI_nlt (by omega) (by omega)
          simp only [X12_findAway_g143, X12_findAway_f143, X12_findAway_g191, X12_findAway_f191, sh_728 a1, sh_730 a1, nn_one, ln_53 a1, ln_55 a1, ix_nI hw20 (show 20 < 2 ^ 31 by decide), hp1, pw, if_neg hb1, ix_nI yA t31, ix_nI yB t31, hF1 _ yA, hF1 _ yB, nI_add, if_neg hlt2, nI_1]
          exact hn'
      by_cases c1 : F (wB N w) + wM N w < F (wA N w)
      · obtain ⟨h2, e1, e2, e3⟩ := second (rl F (wA N w) (wB N w) (wM N w)) true (pI h 3520 0 (wA N w) (nI (F (wB N w) + wM N w))) (f.pI (by decide)) (hF.pI c1) (rl_bound hZ)
        have r1 : rlS (wA N) (wB N) (wM N) P F w = rl (rl F (wA N w) (wB N w) (wM N w)) (wB N w) (wA N w) (wM N w) := by
          unfold rlS
          rw [if_pos pw]
        have r2 : rlC (wA N) (wB N) (wM N) P F w = true := by
          unfold rlC
          rw [pw, decide_eq_true c1]
          rfl
        rw [Bool.true_or] at e1 e3
        simp only [rn, r1, r2, Bool.or_true]
        refine ⟨h2, e1, e2, fun n r hr => ?_⟩
        obtain ⟨n', hn'⟩ := e3 n r hr
        refine ⟨n' + 1, ?_⟩
        have hlt2 : nI (F (wB N w) + wM N w) < nI (F (wA N w)) := nI_lt c1 (by omega)
        simp only [X12_findAway_fam, X12_findAway_g45, X12_findAway_f45, sh_704 a, sh_728 a, sh_730 a, nn_one, ln_41 a, ln_53 a, ln_55 a, nx4, hN, hK, if_pos hlt, x0, x1, x4, ix_nI y0 h31, ix_nI y1 h31, ix_nI y4 h31, ix_nI hw20 (show 20 < 2 ^ 31 by decide), hp, pw, if_neg hb1, v1, v2, v4, ix_nI yA t31, ix_nI yB t31, hF _ yA, hF _ yB, nI_add, if_pos hlt2, wr_eq]
        exact hn'
      · obtain ⟨h2, e1, e2, e3⟩ := second F c h f hF hZ
        have r0 : rl F (wA N w) (wB N w) (wM N w) = F := by
          unfold rl
          rw [if_neg c1]
        have r1 : rlS (wA N) (wB N) (wM N) P F w = rl F (wB N w) (wA N w) (wM N w) := by
          unfold rlS
          rw [if_pos pw, r0]
        have r2 : rlC (wA N) (wB N) (wM N) P F w = decide (F (wA N w) + wM N w < F (wB N w)) := by
          unfold rlC
          rw [pw, r0, decide_eq_false c1]
          rfl
        simp only [rn, r1, r2]
        refine ⟨h2, e1, e2, fun n r hr => ?_⟩
        obtain ⟨n', hn'⟩ := e3 n r hr
        refine ⟨n' + 1, ?_⟩
        have hlt2 : ¬ nI (F (wB N w) + wM N w) < nI (F (wA N w)) := nI_nlt (by omega) (by omega)
        simp only [X12_findAway_fam, X12_findAway_g45, X12_findAway_f45, sh_704 a, sh_728 a, sh_730 a, nn_one, ln_41 a, ln_53 a, ln_55 a, nx4, hN, hK, if_pos hlt, x0, x1, x4, ix_nI y0 h31, ix_nI y1 h31, ix_nI y4 h31, ix_nI hw20 (show 20 < 2 ^ 31 by decide), hp, pw, if_neg hb1, v1, v2, v4, ix_nI yA t31, ix_nI yB t31, hF _ yA, hF _ yB, nI_add, if_neg hlt2]
        exact hn'
theorem X12_away_loop {h0 g : PH} {b : Nat} {N : Nat → Int32} {P : Nat → Bool} (q : AwE h0 N P) (hs : Hs g b N) : ∀ n F h, Fr awW h0 h → LdE h F → (∀ j, F j ≤ 1000000) → (rn (wA N) (wB N) (wM N) P (nt (N 4)) 0 (itR (wA N) (wB N) (wM N) P (nt (N 4)) n F) false).2 = false → ∃ z h', (X12_findAway_fam z).2.1 0 1 h = some (none, h') ∧ LdE h' (itR (wA N) (wB N) (wM N) P (nt (N 4)) n F) ∧ Fr awW h0 h' := by
  intro n
  induction n with
  | zero =>
    intro F h f hF hZ hst
    obtain ⟨h1, e1, e2, e3⟩ := X12_away_round q hs (nt (N 4)) 0 F false h (by omega) f hF hZ
    have hst' : (rn (wA N) (wB N) (wM N) P (nt (N 4)) 0 F false).2 = false := hst
    rw [hst'] at e3
    rw [(rn_no _ 0 F false hst').2] at e1
    obtain ⟨n', hn'⟩ := e3 1 (none, h1) rfl
    exact ⟨n' + 1, h1, hn', e1, e2⟩
  | succ n ih =>
    intro F h f hF hZ hst
    obtain ⟨h1, e1, e2, e3⟩ := X12_away_round q hs (nt (N 4)) 0 F false h (by omega) f hF hZ
    cases cf : (rn (wA N) (wB N) (wM N) P (nt (N 4)) 0 F false).2 with
    | false =>
      rw [cf] at e3
      rw [(rn_no _ 0 F false cf).2] at e1
      obtain ⟨n', hn'⟩ := e3 1 (none, h1) rfl
      refine ⟨n' + 1, h1, hn', ?_, e2⟩
      rw [itR_stay cf]
      exact e1
    | true =>
      rw [cf] at e3
      obtain ⟨z, h', s1, s2, s3⟩ := ih _ h1 e2 e1 (rn_bound hZ _ _ _) hst
      obtain ⟨n', hn'⟩ := e3 z (none, h') s1
      exact ⟨n' + 1, h', hn', s2, s3⟩
theorem X12_away_first {h0 g : PH} {b gl : Nat} {N : Nat → Int32} {P : Nat → Bool} (q : AwE h0 N P) (hs : Hs g b N) (hg : gl < nt (N 5)) : ∀ k p h, p + k = 12 → Fr awW h0 h → (∀ j, j < p → hI h 3520 0 j = nI (if j = gP N gl then 0 else 1000000)) → ∃ z h', (X12_findAway_fam z).1 0 (nI gl) (nI p) h = some (none, h') ∧ LdE h' (fewM N P (gP N gl)) ∧ Fr awW h0 h'
  | 0, p, h, e, f, hF => by
    have hlt : ¬ nI p < 12 := nI_nlt (b := 12) (by omega) (by omega)
    obtain ⟨g1, g2, -, -, -, g6⟩ := hs.goal hg
    have n12 := hs.n12
    obtain ⟨z, h', s1, s2, s3⟩ := X12_away_loop q hs 12 (fun j => if j = gP N gl then 0 else 1000000) h f (fun j hj => hF j (by omega)) (fun j => by
        show (if j = gP N gl then 0 else 1000000) ≤ 1000000
        split <;> omega) (itR_stop (by omega) (fun w hw => by
          obtain ⟨-, -, -, -, g1, g2, -⟩ := hs.way hw
          omega) (fun w hw => by
          obtain ⟨-, -, -, -, g1, g2, -⟩ := hs.way hw
          omega) (fun w hw => (hs.way hw).2.2.2.2.2.2.2.2.1))
    refine ⟨z + 1, h', ?_, s2, s3⟩
    simp only [X12_findAway_fam, X12_findAway_g2, X12_findAway_f2, if_neg hlt]
    exact s1
  | k + 1, p, h, e, f, hF => by
    have hlt : nI p < 12 := nI_lt (b := 12) (by omega) (by decide)
    obtain ⟨a, hN, hP⟩ := q.fr f (by decide +kernel) (by decide +kernel) (by decide +kernel)
    obtain ⟨g1, g2, -, -, -, g6⟩ := hs.goal hg
    have n12 := hs.n12
    obtain ⟨z, h', s1, s2, s3⟩ := X12_away_first q hs hg k (p + 1) (pI h 3520 0 p (nI (if p = gP N gl then 0 else 1000000))) (by omega) (f.pI (by decide)) (fun j hj => by
      rw [hI_pI]
      by_cases d : j = p
      · rw [if_pos ⟨rfl, rfl, d⟩, d]
      · rw [if_neg (fun z => d z.2.2)]
        exact hF j (by omega))
    refine ⟨z + 1, h', ?_, s2, s3⟩
    by_cases d : p = gP N gl
    · rw [if_pos d] at s1
      simp only [X12_findAway_fam, X12_findAway_g2, X12_findAway_f2, X12_findAway_g28, X12_findAway_f28, if_pos hlt, X12_placeOf_eq a g6, cI_some, hN, g1, if_pos (show nI p = nI (gP N gl) by rw [d]), sh_730 a, nn_one, ln_55 a, ix_nI (show p < 12 by omega) (show 12 < 2 ^ 31 by decide), wr_eq, nI_1]
      exact s1
    · rw [if_neg d] at s1
      simp only [X12_findAway_fam, X12_findAway_g2, X12_findAway_f2, X12_findAway_g28, X12_findAway_f28, if_pos hlt, X12_placeOf_eq a g6, cI_some, hN, g1, if_neg (show ¬ nI p = nI (gP N gl) from fun z => d ((nI_eq (by omega) (by omega)).mp z)), sh_730 a, nn_one, ln_55 a, ix_nI (show p < 12 by omega) (show 12 < 2 ^ 31 by decide), wr_eq, nI_1]
      exact s1
theorem X12_findAway_eq {h g : PH} {b gl : Nat} {N : Nat → Int32} {P : Nat → Bool} (q : AwE h N P) (hs : Hs g b N) (hg : gl < nt (N 5)) : ∃ h', X12_findAway 0 (nI gl) h = some (none, h') ∧ LdE h' (fewM N P (gP N gl)) ∧ Fr awW h h' := by
  obtain ⟨z, h', s1, s2, s3⟩ := X12_away_first q hs hg 12 0 h (by omega) Fr.rf (fun j hj => by omega)
  exact ⟨h', X12_findAway_iff.mpr ⟨z, s1⟩, s2, s3⟩
