/-! the direction of the first way to a goal, both -/
def hdF (N : Nat → Int32) (P : Nat → Bool) (F : Nat → Nat) (p : Nat) : Nat → Nat → Option Nat
  | 0, _ => none
  | k + 1, d => match opO N P p d with
    | none => hdF N P F p k (d + 1)
    | some w => if F (oe N w p) + wM N w = F p then some d else hdF N P F p k (d + 1)
def headO (N : Nat → Int32) (P : Nat → Bool) (F : Nat → Nat) (p : Nat) : Option Nat := if F p = 0 then none else if F p < 1000000 then hdF N P F p 8 0 else none
theorem hdF_lt {N : Nat → Int32} {P : Nat → Bool} {F : Nat → Nat} {p : Nat} : ∀ {k d v : Nat}, hdF N P F p k d = some v → d ≤ v ∧ v < d + k
  | 0, d, v, e => by cases e
  | k + 1, d, v, e => by
    unfold hdF at e
    cases c : opO N P p d with
    | none =>
      rw [c] at e
      have := hdF_lt (k := k) (d := d + 1) (v := v) e
      omega
    | some w =>
      rw [c] at e
      have e' : (if F (oe N w p) + wM N w = F p then some d else hdF N P F p k (d + 1)) = some v := e
      by_cases cc : F (oe N w p) + wM N w = F p
      · rw [if_pos cc] at e'
        cases e'
        omega
      · rw [if_neg cc] at e'
        have := hdF_lt e'
        omega
theorem headO_lt {N : Nat → Int32} {P : Nat → Bool} {F : Nat → Nat} {p v : Nat} (e : headO N P F p = some v) : v < 8 := by
  unfold headO at e
  split at e
  · cases e
  · split at e
    · have := hdF_lt e
      omega
    · cases e
theorem fewM_le (N : Nat → Int32) (P : Nat → Bool) (gp j : Nat) : fewM N P gp j ≤ 1000000 := by
  unfold fewM
  have : ∀ n F, (∀ i, F i ≤ 1000000) → ∀ i, itR (wA N) (wB N) (wM N) P (nt (N 4)) n F i ≤ 1000000 := by
    intro n
    induction n with
    | zero => intro F hF i; exact hF i
    | succ n ih => intro F hF i; exact ih _ (rn_bound hF _ _ _) i
  refine this 12 _ (fun i => ?_) j
  show (if i = gp then 0 else 1000000) ≤ 1000000
  split <;> omega
theorem minutesFrom_eq {h : PH} (a : SH h) {i g p : Nat} (hi : i < 2) (hg : g < 10) (hp : p < 12) : X4_minutesFrom i (nI p) (nI g) h = some (some (.inl (hI h 1600 i (12 * g + p))), h) := by
  unfold X4_minutesFrom X4_minutesFrom_g0 X4_minutesFrom_f0
  have e : nI g * 12 + nI p = nI (12 * g + p) := by rw [show (12 : Int32) = nI 12 from rfl, nI_mul, nI_add, Nat.mul_comm]
  rw [sh_195 a i hi, nn_succ, ln_25 a i hi, e, ix_nI (show 12 * g + p < 120 by omega) (by decide)]
theorem minutesBy_eq {h : PH} {i b : Nat} {N : Nat → Int32} (q : Hs h b N) (hi : i < 2) {w p g : Nat} (hw : w < nt (N 4)) (hp : p < 12) (hg : g < 10) {F : Nat → Nat} (hF : LsE h i g F) : X4_minutesBy i (20 * b + w + 1) (nI p) (nI g) h = some (some (.inl (nI (wM N w) + nI (F (oe N w p)))), h) := by
  obtain ⟨-, -, -, f4⟩ := q.wayF hw
  have n12 := q.n12
  have ho := q.oeL hw p
  unfold X4_minutesBy X4_minutesBy_g0 X4_minutesBy_f0
  simp only [nn_succ, endFrom_eq q hw hp, cI_some, minutesFrom_eq q.1 hi hg (show oe N w p < 12 by omega), hF _ (show oe N w p < 12 by omega), f4]
theorem X4_heading_loop {h : PH} {i b g : Nat} {N : Nat → Int32} {P : Nat → Bool} (q : RdE h i b N P) (hg : g < 10) {F : Nat → Nat} (hF : LsE h i g F) (hZ : ∀ j, F j ≤ 1000000) {p : Nat} (hp : p < 12) : ∀ k d, d + k = 8 → ∃ n, X4_heading_fam n i (nI p) (nI g) (nI (F p)) (nI d) h = some (some (.inl (oI (hdF N P F p k d))), h)
  | 0, d, e => by
    have hlt : ¬ nI d < 8 := nI_nlt (b := 8) (by omega) (by omega)
    refine ⟨1, ?_⟩
    simp only [X4_heading_fam, X4_heading_g22, X4_heading_f22, if_neg hlt, hdF, oI]
  | k + 1, d, e => by
    have hlt : nI d < 8 := nI_lt (b := 8) (by omega) (by decide)
    obtain ⟨n, hn⟩ := X4_heading_loop q hg hF hZ hp k (d + 1) (by omega)
    refine ⟨n + 1, ?_⟩
    have a := q.1.1
    have hb := q.1.2.1
    simp only [X4_heading_fam, X4_heading_g22, X4_heading_f22, X4_heading_g67, X4_heading_f67, if_pos hlt, openWay_eq q hp (show d < 8 by omega), cI_some, hdF]
    cases c : opO N P p d with
    | none =>
      simp only [oI, if_true, nI_1]
      exact hn
    | some w =>
      have hw := (opO_lt c).1
      have h20 := q.1.n20
      have hne : ¬ oI (some w) = -1 := fun e => by
        have := (oI_m1 (o := some w) (fun v hv => by cases hv; omega)).mp e
        cases this
      have z1 := hZ p
      have z2 := hZ (oe N w p)
      obtain ⟨-, -, -, -, -, -, -, -, -, g6⟩ := q.1.way hw
      simp only [if_neg hne, q.2.2.1, nn_succ, sh_64 a b hb, ln_14 a b hb]
      show ix (nI w) 20 _ = _
      simp only [ix_nI (show w < 20 by omega) (show 20 < 2 ^ 31 by decide), way_ref a hb (show w < 20 by omega), minutesBy_eq q.1 q.2.1 hw hp hg hF, cI_some, nI_add, nI_1]
      by_cases cc : F (oe N w p) + wM N w = F p
      · rw [if_pos cc, if_pos (by rw [← cc, Nat.add_comm])]
        rfl
      · rw [if_neg cc, if_neg (fun z => cc (by have := (nI_eq (by omega) (by omega)).mp z; omega))]
        exact hn
theorem X4_heading_eq {h : PH} {i b g : Nat} {N : Nat → Int32} {P : Nat → Bool} (q : RdE h i b N P) (hg : g < 10) {F : Nat → Nat} (hF : LsE h i g F) (hZ : ∀ j, F j ≤ 1000000) {p : Nat} (hp : p < 12) : X4_heading i (nI p) (nI g) h = some (some (.inl (oI (headO N P F p))), h) := by
  obtain ⟨n, hn⟩ := X4_heading_loop q hg hF hZ hp 8 0 (by omega)
  refine X4_heading_iff.mpr ⟨n, ?_⟩
  have z1 := hZ p
  simp only [X4_heading_g0, X4_heading_f0, minutesFrom_eq q.1.1 q.2.1 hg hp, cI_some, hF p hp]
  unfold headO
  by_cases c0 : F p = 0
  · rw [if_pos c0, if_pos (by rw [c0]; rfl)]
    rfl
  · rw [if_neg c0, if_neg (nI_ne0 (by omega) (by omega))]
    by_cases c1 : F p < 1000000
    · rw [if_pos c1, if_pos (show nI (F p) < 1000000 from nI_lt (b := 1000000) c1 (by decide))]
      exact hn
    · rw [if_neg c1, if_neg (show ¬ nI (F p) < 1000000 from nI_nlt (b := 1000000) (by omega) (by omega))]
      rfl
theorem X12_nextFrom_loop {h g : PH} {b : Nat} {N : Nat → Int32} {P : Nat → Bool} (q : AwE h N P) (hs : Hs g b N) {F : Nat → Nat} (hF : LdE h F) (hZ : ∀ j, F j ≤ 1000000) {p : Nat} (hp : p < 12) : ∀ k d, d + k = 8 → ∃ n, X12_nextFrom_fam n 0 (nI p) (nI d) h = some (some (.inl (oI (hdF N P F p k d))), h)
  | 0, d, e => by
    have hlt : ¬ nI d < 8 := nI_nlt (b := 8) (by omega) (by omega)
    refine ⟨1, ?_⟩
    simp only [X12_nextFrom_fam, X12_nextFrom_g24, X12_nextFrom_f24, if_neg hlt, hdF, oI]
  | k + 1, d, e => by
    have hlt : nI d < 8 := nI_lt (b := 8) (by omega) (by decide)
    obtain ⟨n, hn⟩ := X12_nextFrom_loop q hs hF hZ hp k (d + 1) (by omega)
    refine ⟨n + 1, ?_⟩
    have a := q.1
    simp only [X12_nextFrom_fam, X12_nextFrom_g24, X12_nextFrom_f24, X12_nextFrom_g78, X12_nextFrom_f78, if_pos hlt, passFrom_eq q hs, cI_some, hdF]
    cases c : opO N P p d with
    | none =>
      simp only [oI, if_pos (show (-1 : Int32) < 0 by decide), nI_1]
      exact hn
    | some w =>
      have hw := (opO_lt c).1
      have h20 := hs.n20
      have n12 := hs.n12
      have ho := hs.oeL hw p
      have hne : ¬ oI (some w) < 0 := nI_pos (show w < 2 ^ 31 by omega)
      have z1 := hZ p
      have z2 := hZ (oe N w p)
      obtain ⟨-, -, -, v4, -, -, -, -, -, g6⟩ := hs.way hw
      have x0 : (15 : Int32) + 6 * nI w = nI (15 + 6 * w) := by rw [show (15 : Int32) = nI 15 from rfl, show (6 : Int32) = nI 6 from rfl, nI_mul, nI_add]
      have x4 : nI (15 + 6 * w) + 4 = nI (19 + 6 * w) := by rw [show (4 : Int32) = nI 4 from rfl, nI_add]; congr 1; omega
      simp only [if_neg hne]
      simp only [oI, otherEnd_eq a q.2.1 hs hw hp, cI_some, sh_704 a, sh_730 a, nn_one, ln_41 a, ln_55 a, ix_nI (show oe N w p < 12 by omega) (show 12 < 2 ^ 31 by decide), ix_nI hp (show 12 < 2 ^ 31 by decide), hF _ (show oe N w p < 12 by omega), hF p hp, x0, x4, ix_nI (show 19 + 6 * w < 1765 by omega) (show 1765 < 2 ^ 31 by decide), q.2.1, v4, nI_add, nI_1]
      by_cases cc : F (oe N w p) + wM N w = F p
      · rw [if_pos cc, if_pos (by rw [← cc])]
      · rw [if_neg cc, if_neg (fun z => cc ((nI_eq (by omega) (by omega)).mp z))]
        exact hn
theorem X12_nextFrom_eq {h g : PH} {b : Nat} {N : Nat → Int32} {P : Nat → Bool} (q : AwE h N P) (hs : Hs g b N) {F : Nat → Nat} (hF : LdE h F) (hZ : ∀ j, F j ≤ 1000000) {p : Nat} (hp : p < 12) : X12_nextFrom 0 (nI p) h = some (some (.inl (oI (headO N P F p))), h) := by
  obtain ⟨n, hn⟩ := X12_nextFrom_loop q hs hF hZ hp 8 0 (by omega)
  refine X12_nextFrom_iff.mpr ⟨n, ?_⟩
  have z1 := hZ p
  have a := q.1
  simp only [X12_nextFrom_g0, X12_nextFrom_f0, sh_730 a, nn_one, ln_55 a, ix_nI hp (show 12 < 2 ^ 31 by decide), hF p hp]
  unfold headO
  by_cases c0 : F p = 0
  · rw [if_pos c0, if_pos (by rw [c0]; rfl)]
    rfl
  · rw [if_neg c0, if_neg (nI_ne0 (by omega) (by omega))]
    by_cases c1 : F p < 1000000
    · rw [if_pos c1, if_pos (show nI (F p) < 1000000 from nI_lt (b := 1000000) c1 (by decide))]
      exact hn
    · rw [if_neg c1, if_neg (show ¬ nI (F p) < 1000000 from nI_nlt (b := 1000000) (by omega) (by omega))]
      rfl
