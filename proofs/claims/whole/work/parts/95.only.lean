/-! the only way on, both -/
def ldN (N : Nat → Int32) (w p d : Nat) : Prop := (wA N w = p ∧ wD N w = d) ∨ (wB N w = p ∧ (wD N w + 4) % 8 = d)
theorem Hs.leadsN {h : PH} {b : Nat} {N : Nat → Int32} (q : Hs h b N) {w : Nat} (hw : w < nt (N 4)) (p d : Nat) : leads N w p d ↔ ldN N w p d := by
  obtain ⟨e1, e2, e3, e4, g1, g2, g3, g4, -⟩ := q.way hw
  have n12 := q.n12
  unfold leads ldN
  rw [e1, e2, e3, nI_toInt (by omega), nI_toInt (by omega), nI_toInt (by omega)]
  omega
theorem Hs.rgD {h : PH} {b : Nat} {N : Nat → Int32} (q : Hs h b N) {w : Nat} (hw : w < nt (N 4)) : rgI (N (17 + 6 * w)) 0 7 := by
  obtain ⟨K, hK, h20, hKn, hKi, -⟩ := q.ways
  exact (q.2.2.1.2.2.1.1 w (by omega)).2.2.2.2.1
theorem wO_ld {h : PH} {b : Nat} {N : Nat → Int32} (q : Hs h b N) {p d w : Nat} (hp : p < 12) (hd : d < 8) (e : wO N p d = some w) : ldN N w p d := by
  have hw := wO_lt e
  have := (wfO_lt e).2.2
  exact (q.leadsN hw p d).mp ((ldB_iff hp hd (q.rgD hw)).mp this)
theorem wO_un {h : PH} {b : Nat} {N : Nat → Int32} (q : Hs h b N) {p d w : Nat} (hp : p < 12) (hd : d < 8) (hw : w < nt (N 4)) (e : ldN N w p d) : wO N p d = some w := by
  obtain ⟨K, hK, h20, hKn, hKi, -⟩ := q.ways
  have hl := (q.leadsN hw p d).mpr e
  rcases q.2.2.1.2.2.1.2 p d hp hd with ⟨-, c⟩ | ⟨w0, c1, c2, c3, c4⟩
  · exact absurd hl (c w (by omega))
  · have hw0 : w = w0 := c4 w (by omega) hl
    have hlead := q.2.2.1.2.2.1.lead hK h20 hp hd
    rw [c2, wfF_oI] at hlead
    have hwO : wfO N (nI p) (nI d) K 0 = wO N p d := by unfold wO; rw [hKn]
    rw [hwO] at hlead
    cases e2 : wO N p d with
    | none =>
      rw [e2] at hlead
      have : oI (some w0) = -1 := hlead
      exact absurd this (oI_ne (by omega))
    | some v =>
      rw [e2] at hlead
      have hv := wO_lt e2
      have : w0 = v := (nI_eq (by omega) (by omega)).mp hlead
      rw [hw0, this]
/-- who came by a way in a direction goes back by it in the opposite one, and only there -/
theorem way_back {h : PH} {b : Nat} {N : Nat → Int32} (q : Hs h b N) {p d w : Nat} (hp : p < 12) (hd : d < 8) (e : wO N p d = some w) {e' v : Nat} (he : e' < 8) (hv : wO N (oe N w p) e' = some v) : v = w ↔ e' = (d + 4) % 8 := by
  have hw := wO_lt e
  have n12 := q.n12
  have ho := q.oeL hw p
  have l1 := wO_ld q hp hd e
  have l2 := wO_ld q (show oe N w p < 12 by omega) he hv
  obtain ⟨-, -, -, -, g1, g2, g3, g4, -⟩ := q.way hw
  unfold oe at *
  unfold ldN at l1
  constructor
  · intro c
    subst c
    unfold ldN at l2
    rcases l1 with ⟨m1, m2⟩ | ⟨m1, m2⟩
    · rw [if_pos m1] at l2
      omega
    · rw [if_neg (by omega)] at l2
      omega
  · intro c
    have l3 : ldN N w (if wA N w = p then wB N w else wA N w) e' := by
      unfold ldN
      rcases l1 with ⟨m1, m2⟩ | ⟨m1, m2⟩
      · rw [if_pos m1]
        omega
      · rw [if_neg (by omega)]
        omega
    have := wO_un q (show (if wA N w = p then wB N w else wA N w) < 12 by omega) he hw l3
    rw [this] at hv
    cases hv
    rfl
def onF (N : Nat → Int32) (P : Nat → Bool) (p : Nat) (bk : Option Nat) : Nat → Nat → Option Nat → Option Nat
  | 0, _, f => f
  | k + 1, d, f => if bk = some d then onF N P p bk k (d + 1) f else match opO N P p d with
    | none => onF N P p bk k (d + 1) f
    | some _ => match f with
      | none => onF N P p bk k (d + 1) (some d)
      | some _ => none
def onlyO (N : Nat → Int32) (P : Nat → Bool) (p : Nat) (bk : Option Nat) : Option Nat := onF N P p bk 8 0 none
def omF (N : Nat → Int32) (P : Nat → Bool) (p : Nat) (by' : Option Nat) : Nat → Nat → Option Nat → Nat → Option Nat
  | 0, _, f, m => if m = 1 then f else none
  | k + 1, d, f, m => match opO N P p d with
    | none => omF N P p by' k (d + 1) f m
    | some w => if by' = some w then omF N P p by' k (d + 1) f m else omF N P p by' k (d + 1) (some d) (m + 1)
section
variable {N : Nat → Int32} {P : Nat → Bool} {p : Nat} {bk by' : Option Nat}
theorem onF_b {k d : Nat} {f : Option Nat} (h : bk = some d) : onF N P p bk (k + 1) d f = onF N P p bk k (d + 1) f := if_pos h
theorem onF_n {k d : Nat} {f : Option Nat} (h : ¬ bk = some d) (h2 : opO N P p d = none) : onF N P p bk (k + 1) d f = onF N P p bk k (d + 1) f := by
  show (if bk = some d then _ else _) = _
  rw [if_neg h, h2]
theorem onF_s {k d w : Nat} (h : ¬ bk = some d) (h2 : opO N P p d = some w) : onF N P p bk (k + 1) d none = onF N P p bk k (d + 1) (some d) := by
  show (if bk = some d then _ else _) = _
  rw [if_neg h, h2]
theorem onF_t {k d w e : Nat} (h : ¬ bk = some d) (h2 : opO N P p d = some w) : onF N P p bk (k + 1) d (some e) = none := by
  show (if bk = some d then _ else _) = _
  rw [if_neg h, h2]
theorem omF_n {k d m : Nat} {f : Option Nat} (h2 : opO N P p d = none) : omF N P p by' (k + 1) d f m = omF N P p by' k (d + 1) f m := by
  show (match opO N P p d with | none => _ | some w => _) = _
  rw [h2]
theorem omF_b {k d m w : Nat} {f : Option Nat} (h2 : opO N P p d = some w) (h : by' = some w) : omF N P p by' (k + 1) d f m = omF N P p by' k (d + 1) f m := by
  show (match opO N P p d with | none => _ | some w => _) = _
  rw [h2]
  exact if_pos h
theorem omF_s {k d m w : Nat} {f : Option Nat} (h2 : opO N P p d = some w) (h : ¬ by' = some w) : omF N P p by' (k + 1) d f m = omF N P p by' k (d + 1) (some d) (m + 1) := by
  show (match opO N P p d with | none => _ | some w => _) = _
  rw [h2]
  exact if_neg h
theorem omF_2 : ∀ k d m (f : Option Nat), 2 ≤ m → omF N P p by' k d f m = none
  | 0, d, m, f, h => if_neg (by omega)
  | k + 1, d, m, f, h => by
    cases c : opO N P p d with
    | none => rw [omF_n c]; exact omF_2 k _ _ _ h
    | some w =>
      by_cases e : by' = some w
      · rw [omF_b c e]; exact omF_2 k _ _ _ h
      · rw [omF_s c e]; exact omF_2 k _ _ _ (by omega)
theorem om_on (hb : ∀ d w, d < 8 → opO N P p d = some w → (by' = some w ↔ bk = some d)) : ∀ k d (f : Option Nat) m, d + k = 8 → (m = 0 ∧ f = none ∨ m = 1 ∧ ∃ e, f = some e) → omF N P p by' k d f m = onF N P p bk k d f
  | 0, d, f, m, e, hm => by
    rcases hm with ⟨rfl, rfl⟩ | ⟨rfl, e', rfl⟩
    · rfl
    · rfl
  | k + 1, d, f, m, e, hm => by
    cases c : opO N P p d with
    | none =>
      rw [omF_n c]
      by_cases cb : bk = some d
      · rw [onF_b cb]; exact om_on hb k _ _ _ (by omega) hm
      · rw [onF_n cb c]; exact om_on hb k _ _ _ (by omega) hm
    | some w =>
      by_cases cb : bk = some d
      · rw [onF_b cb, omF_b c ((hb d w (by omega) c).mpr cb)]
        exact om_on hb k _ _ _ (by omega) hm
      · rw [omF_s c (fun z => cb ((hb d w (by omega) c).mp z))]
        rcases hm with ⟨rfl, rfl⟩ | ⟨rfl, e', rfl⟩
        · rw [onF_s cb c]
          exact om_on hb k _ _ _ (by omega) (Or.inr ⟨rfl, d, rfl⟩)
        · rw [onF_t cb c]
          exact omF_2 k _ _ _ (by omega)
theorem onF_lt : ∀ {k d : Nat} {f : Option Nat} {v : Nat}, (∀ e, f = some e → e < 8) → d + k = 8 → onF N P p bk k d f = some v → v < 8
  | 0, d, f, v, hf, e, h => hf v h
  | k + 1, d, f, v, hf, e, h => by
    by_cases cb : bk = some d
    · rw [onF_b cb] at h; exact onF_lt hf (by omega) h
    · cases c : opO N P p d with
      | none => rw [onF_n cb c] at h; exact onF_lt hf (by omega) h
      | some w =>
        cases f with
        | none => rw [onF_s cb c] at h; exact onF_lt (fun e he => by cases he; omega) (by omega) h
        | some z => rw [onF_t cb c] at h; cases h
end
theorem onlyDirection_eq {h : PH} {i b : Nat} {N : Nat → Int32} {P : Nat → Bool} (q : RdE h i b N P) {p : Nat} (hp : p < 12) (hh : hI h 526 i 0 = nI p) {bk : Option Nat} (hbk : ∀ e, bk = some e → e < 8) : X9_onlyDirection i (oI bk) h = some (some (.inl (oI (onlyO N P p bk))), h) := by
  have a := q.1.1
  have hi := q.2.1
  have hsame : ∀ d, d < 8 → (nI d = oI bk ↔ bk = some d) := fun d hd => by
    cases bk with
    | none => exact ⟨fun e => absurd (Eq.symm e : oI none = oI (some d)) (fun z => by have := oI_ne (t := d) (by omega); exact this z.symm), fun e => by cases e⟩
    | some e =>
      have he := hbk e rfl
      refine ⟨fun z => ?_, fun z => by cases z; rfl⟩
      have : d = e := (nI_eq (by omega) (by omega)).mp z
      rw [this]
  have key : ∀ k d f, d + k = 8 → (∀ e, f = some e → e < 8) → ∃ n, X9_onlyDirection_fam n i (oI bk) (oI f) (nI d) h = some (some (.inl (oI (onF N P p bk k d f))), h) := by
    intro k
    induction k with
    | zero =>
      intro d f e hf
      have hlt : ¬ nI d < 8 := nI_nlt (b := 8) (by omega) (by omega)
      refine ⟨1, ?_⟩
      show X9_onlyDirection_g4 _ i (oI bk) (oI f) (nI d) h = _
      unfold X9_onlyDirection_g4 X9_onlyDirection_f4
      rw [if_neg hlt]
      rfl
    | succ k ih =>
      intro d f e hf
      have hlt : nI d < 8 := nI_lt (b := 8) (by omega) (by decide)
      have g40 : ∀ (G : Nat → Int32 → Int32 → Int32 → PH → Option Rs) y, X9_onlyDirection_g40 G i (oI bk) y (nI d) h = G i (oI bk) y (nI (d + 1)) h := fun G y => by
        unfold X9_onlyDirection_g40 X9_onlyDirection_f40
        rw [nI_1]
      by_cases cb : bk = some d
      · obtain ⟨n, hn⟩ := ih (d + 1) f (by omega) hf
        refine ⟨n + 1, ?_⟩
        show X9_onlyDirection_g4 (X9_onlyDirection_fam n) i (oI bk) (oI f) (nI d) h = _
        unfold X9_onlyDirection_g4 X9_onlyDirection_f4
        rw [if_pos hlt, if_pos ((hsame d (by omega)).mpr cb), g40, hn, onF_b cb]
      · cases c : opO N P p d with
        | none =>
          obtain ⟨n, hn⟩ := ih (d + 1) f (by omega) hf
          refine ⟨n + 1, ?_⟩
          show X9_onlyDirection_g4 (X9_onlyDirection_fam n) i (oI bk) (oI f) (nI d) h = _
          unfold X9_onlyDirection_g4 X9_onlyDirection_f4
          rw [if_pos hlt, if_neg (fun z => cb ((hsame d (by omega)).mp z)), nnE (sh_512 a i hi), hh, openWay_eq q hp (show d < 8 by omega), cI_some, c, if_pos (show oI none = -1 from rfl), g40, hn, onF_n cb c]
        | some w =>
          have h20 := q.1.n20
          have hw := (opO_lt c).1
          cases f with
          | none =>
            obtain ⟨n, hn⟩ := ih (d + 1) (some d) (by omega) (fun e he => by cases he; omega)
            refine ⟨n + 1, ?_⟩
            show X9_onlyDirection_g4 (X9_onlyDirection_fam n) i (oI bk) (oI none) (nI d) h = _
            unfold X9_onlyDirection_g4 X9_onlyDirection_f4
            rw [if_pos hlt, if_neg (fun z => cb ((hsame d (by omega)).mp z)), nnE (sh_512 a i hi), hh, openWay_eq q hp (show d < 8 by omega), cI_some, c, if_neg (oI_ne (show w < 2 ^ 31 by omega)), if_pos (show oI none = -1 from rfl), g40, onF_s cb c]
            exact hn
          | some e' =>
            have he' := hf e' rfl
            refine ⟨1, ?_⟩
            show X9_onlyDirection_g4 _ i (oI bk) (oI (some e')) (nI d) h = _
            unfold X9_onlyDirection_g4 X9_onlyDirection_f4
            rw [if_pos hlt, if_neg (fun z => cb ((hsame d (by omega)).mp z)), nnE (sh_512 a i hi), hh, openWay_eq q hp (show d < 8 by omega), cI_some, c, if_neg (oI_ne (show w < 2 ^ 31 by omega)), if_neg (oI_ne (show e' < 2 ^ 31 by omega)), onF_t cb c]
            rfl
  obtain ⟨n, hn⟩ := key 8 0 none (by omega) (fun e he => by cases he)
  exact X9_onlyDirection_iff.mpr ⟨n, hn⟩
theorem onlyFrom_eq {h g : PH} {b : Nat} {N : Nat → Int32} {P : Nat → Bool} (q : AwE h N P) (hs : Hs g b N) (p : Nat) {by' : Option Nat} (hby : ∀ e, by' = some e → e < 2 ^ 31) : X12_onlyFrom 0 (nI p) (oI by') h = some (some (.inl (oI (omF N P p by' 8 0 none 0))), h) := by
  have h20 := hs.n20
  have key : ∀ k d f m, d + k = 8 → m ≤ d → ∃ n, X12_onlyFrom_fam n 0 (nI p) (oI by') (oI f) (nI m) (nI d) h = some (some (.inl (oI (omF N P p by' k d f m))), h) := by
    intro k
    induction k with
    | zero =>
      intro d f m e hm
      have hlt : ¬ nI d < 8 := nI_nlt (b := 8) (by omega) (by omega)
      refine ⟨1, ?_⟩
      show X12_onlyFrom_g8 _ 0 (nI p) (oI by') (oI f) (nI m) (nI d) h = _
      unfold X12_onlyFrom_g8 X12_onlyFrom_f8 omF
      rw [if_neg hlt]
      by_cases c : m = 1
      · rw [if_pos c, if_pos (show nI m = 1 by rw [c]; rfl)]
      · rw [if_neg c, if_neg (show ¬ nI m = 1 from fun z => c ((nI_eq (b := 1) (by omega) (by decide)).mp z))]
        rfl
    | succ k ih =>
      intro d f m e hm
      have hlt : nI d < 8 := nI_lt (b := 8) (by omega) (by decide)
      have g41 : ∀ (G : Nat → Int32 → Int32 → Int32 → Int32 → Int32 → PH → Option Rs) y z, X12_onlyFrom_g41 G 0 (nI p) (oI by') y z (nI d) h = G 0 (nI p) (oI by') y z (nI (d + 1)) h := fun G y z => by
        unfold X12_onlyFrom_g41 X12_onlyFrom_f41
        rw [nI_1]
      cases c : opO N P p d with
      | none =>
        obtain ⟨n, hn⟩ := ih (d + 1) f m (by omega) (by omega)
        refine ⟨n + 1, ?_⟩
        show X12_onlyFrom_g8 (X12_onlyFrom_fam n) 0 (nI p) (oI by') (oI f) (nI m) (nI d) h = _
        unfold X12_onlyFrom_g8 X12_onlyFrom_f8
        rw [if_pos hlt, passFrom_eq q hs, cI_some, c, if_pos (show oI none < 0 by decide), g41, hn, omF_n c]
      | some w =>
        have hw := (opO_lt c).1
        have hsame : oI (some w) = oI by' ↔ by' = some w := by
          cases by' with
          | none => exact ⟨fun z => absurd (show oI (some w) = -1 from z) (oI_ne (by omega)), fun z => by cases z⟩
          | some v =>
            have hv := hby v rfl
            refine ⟨fun z => ?_, fun z => by cases z; rfl⟩
            have : w = v := (nI_eq (by omega) hv).mp z
            rw [this]
        by_cases cb : by' = some w
        · obtain ⟨n, hn⟩ := ih (d + 1) f m (by omega) (by omega)
          refine ⟨n + 1, ?_⟩
          show X12_onlyFrom_g8 (X12_onlyFrom_fam n) 0 (nI p) (oI by') (oI f) (nI m) (nI d) h = _
          unfold X12_onlyFrom_g8 X12_onlyFrom_f8
          rw [if_pos hlt, passFrom_eq q hs, cI_some, c, if_neg (oI_pos (show w < 2 ^ 31 by omega)), if_pos (hsame.mpr cb), g41, hn, omF_b c cb]
        · obtain ⟨n, hn⟩ := ih (d + 1) (some d) (m + 1) (by omega) (by omega)
          refine ⟨n + 1, ?_⟩
          show X12_onlyFrom_g8 (X12_onlyFrom_fam n) 0 (nI p) (oI by') (oI f) (nI m) (nI d) h = _
          unfold X12_onlyFrom_g8 X12_onlyFrom_f8
          rw [if_pos hlt, passFrom_eq q hs, cI_some, c, if_neg (oI_pos (show w < 2 ^ 31 by omega)), if_neg (fun z => cb (hsame.mp z)), g41, nI_1, omF_s c cb]
          exact hn
  obtain ⟨n, hn⟩ := key 8 0 none 0 (by omega) (by omega)
  exact X12_onlyFrom_iff.mpr ⟨n, hn⟩
