/-! rows are noted before they change: the class's ring -/
def noW : List Nat × List Nat × Bool := ([832], [], false)
def nmN (N : Nat → Int32) (s r : Nat) : Nat := nt (N (225 + 12 * s + 2 * r))
theorem Hs.nm {h : PH} {b : Nat} {N : Nat → Int32} (q : Hs h b N) {s r : Nat} (hs : s < nt (N 6)) (hr : r < sR N s) : N (225 + 12 * s + 2 * r) = nI (nmN N s r) ∧ nmN N s r < 14 := by
  obtain ⟨-, -, -, -, d1, d2⟩ := q.row hs hr
  refine ⟨nI_nt d1, ?_⟩
  unfold nmN nt
  omega
/-- the rows of the signs below s lie in a row of the ring -/
def NoteE (h : PH) (rho : Nat) (N : Nat → Int32) (s : Nat) : Prop := ∀ t, t < s → hI h 832 rho (7 * t) = nI (sR N t) ∧ ∀ r, r < sR N t → hI h 832 rho (7 * t + 1 + r) = nI (8 * nmN N t r + sA N t r)
theorem SH.n13 {h : PH} (a : SH h) {i : Nat} (hi : i < 16) : i < hN h 13 := a.nl (n := 98) ((by decide +kernel : ∀ i, i < 16 → (13, i, 98) ∈ lnList) i hi)
theorem note_inner {h0 : PH} {N : Nat → Int32} (q : Hs h0 0 N) {rho s : Nat} (hrho : rho < 16) (hs : s < nt (N 6)) : ∀ k r h, r + k = sR N s → Fr noW h0 h → (∀ i j, i ≠ rho → hI h 832 i j = hI h0 832 i j) → NoteE h rho N s → hI h 832 rho (7 * s) = nI (sR N s) → (∀ r', r' < r → hI h 832 rho (7 * s + 1 + r') = nI (8 * nmN N s r' + sA N s r')) → ∃ h1, Fr noW h0 h1 ∧ (∀ i j, i ≠ rho → hI h1 832 i j = hI h0 832 i j) ∧ NoteE h1 rho N (s + 1) ∧ ∀ n z, (X0_note_fam n).1 1 (rho + 1) (nI (s + 1)) h1 = some z → ∃ n', (X0_note_fam n').2 1 (rho + 1) (nI s) (s + 1) (nI r) h = some z := by
  intro k
  induction k with
  | zero =>
    intro r h e f ho hn h7 hr
    have qh := q.fr f (by decide +kernel) (by decide +kernel)
    obtain ⟨-, -, f3, -⟩ := qh.signF hs
    rw [Nat.mul_zero, Nat.zero_add] at f3
    obtain ⟨-, -, -, e4, -⟩ := qh.sign hs
    have hlt : ¬ nI r < nI (sR N s) := nI_nlt (by omega) (by omega)
    refine ⟨h, f, ho, fun t ht => ?_, fun n z hz => ⟨n + 1, ?_⟩⟩
    · by_cases c : t = s
      · subst c
        exact ⟨h7, fun r' hr' => hr r' (by omega)⟩
      · exact hn t (by omega)
    · show X0_note_g70 (X0_note_fam n) 1 (rho + 1) (nI s) (s + 1) (nI r) h = _
      unfold X0_note_g70 X0_note_f70
      rw [nnE rfl, f3, if_neg hlt, nI_1]
      exact hz
  | succ k ih =>
    intro r h e f ho hn h7 hr
    have qh := q.fr f (by decide +kernel) (by decide +kernel)
    have a := qh.1
    obtain ⟨-, -, f3, -⟩ := qh.signF hs
    obtain ⟨-, -, -, e4, -, e6, -⟩ := qh.sign hs
    have hrs : r < sR N s := by omega
    obtain ⟨g1, g2, g3, g4, -⟩ := qh.row hs hrs
    obtain ⟨m1, m2⟩ := qh.nm hs hrs
    rw [Nat.mul_zero, Nat.zero_add] at f3 g1 g2
    have hlt : nI r < nI (sR N s) := nI_lt (by omega) (by omega)
    have hv : hI h 1728 s r * 8 + hI h 1792 s r = nI (8 * nmN N s r + sA N s r) := by
      rw [g1, g2, m1, show (8 : Int32) = nI 8 from rfl, nI_mul, nI_add, Nat.mul_comm]
    have x1 : nI s * 7 + 1 + nI r = nI (7 * s + 1 + r) := by
      rw [show (7 : Int32) = nI 7 from rfl, nI_mul, nI_1, nI_add, Nat.mul_comm]
    obtain ⟨h1, g5, g6, g7, g8⟩ := ih (r + 1) (pI h 832 rho (7 * s + 1 + r) (nI (8 * nmN N s r + sA N s r))) (by omega) (f.pI (by decide)) (fun i j hi => by rw [hI_pI, if_neg (fun z => hi z.2.1)]; exact ho i j hi) (fun t ht => by
        obtain ⟨n1, n2⟩ := hn t ht
        have e4t := (qh.sign (show t < nt (N 6) by omega)).2.2.2.1
        refine ⟨by rw [hI_pI, if_neg (fun z => by omega)]; exact n1, fun r' hr' => by rw [hI_pI, if_neg (fun z => by omega)]; exact n2 r' hr'⟩) (by rw [hI_pI, if_neg (fun z => by omega)]; exact h7) (fun r' hr' => by
        rw [hI_pI]
        by_cases c : r' = r
        · subst c
          rw [if_pos ⟨rfl, rfl, rfl⟩]
        · rw [if_neg (fun z => by omega)]
          exact hr r' (by omega))
    refine ⟨h1, g5, g6, g7, fun n z hz => ?_⟩
    obtain ⟨n', hn'⟩ := g8 n z hz
    refine ⟨n' + 1, ?_⟩
    show X0_note_g70 (X0_note_fam n') 1 (rho + 1) (nI s) (s + 1) (nI r) h = _
    unfold X0_note_g70 X0_note_f70
    rw [nnE rfl, f3, if_pos hlt, nnE rfl, nnE (sh_325 a s (by omega)), ixE (ln_27 a s (by omega)) rfl (show r < 6 by omega) (by decide), nnE rfl, nnE (sh_326 a s (by omega)), ixE (ln_28 a s (by omega)) rfl (show r < 6 by omega) (by decide), nnE rfl, ixE (ln_13 a rho hrho) x1 (show 7 * s + 1 + r < 98 by omega) (by decide), hv, wr_eq, nI_1]
    exact hn'
theorem note_outer {h0 : PH} {N : Nat → Int32} (q : Hs h0 0 N) {rho : Nat} (hrho : rho < 16) : ∀ k s h, s + k = nt (N 6) → Fr noW h0 h → (∀ i j, i ≠ rho → hI h 832 i j = hI h0 832 i j) → NoteE h rho N s → ∃ n h', (X0_note_fam n).1 1 (rho + 1) (nI s) h = some (none, h') ∧ Fr noW h0 h' ∧ (∀ i j, i ≠ rho → hI h' 832 i j = hI h0 832 i j) ∧ NoteE h' rho N (nt (N 6)) := by
  intro k
  induction k with
  | zero =>
    intro s h e f ho hn
    have qh := q.fr f (by decide +kernel) (by decide +kernel)
    obtain ⟨S, hS, h14, hSn, hSi, hS75⟩ := qh.signs
    have hlt : ¬ nI s < nI S := nI_nlt (by omega) (by omega)
    have hs : s = nt (N 6) := by omega
    refine ⟨1, h, ?_, f, ho, hs ▸ hn⟩
    show X0_note_g40 _ 1 (rho + 1) (nI s) h = _
    unfold X0_note_g40 X0_note_f40
    rw [nnE rfl, hS75, if_neg hlt]
  | succ k ih =>
    intro s h e f ho hn
    have qh := q.fr f (by decide +kernel) (by decide +kernel)
    have a := qh.1
    obtain ⟨S, hS, h14, hSn, hSi, hS75⟩ := qh.signs
    have hlt : nI s < nI S := nI_lt (by omega) (by omega)
    have hs : s < nt (N 6) := by omega
    obtain ⟨-, -, f3, -⟩ := qh.signF hs
    obtain ⟨-, -, -, e4, -, e6, -⟩ := qh.sign hs
    rw [Nat.mul_zero, Nat.zero_add] at f3
    have x7 : nI s * 7 = nI (7 * s) := by rw [show (7 : Int32) = nI 7 from rfl, nI_mul, Nat.mul_comm]
    obtain ⟨h1, g5, g6, g7, g8⟩ := note_inner q hrho hs (sR N s) 0 (pI h 832 rho (7 * s) (nI (sR N s))) (by omega) (f.pI (by decide)) (fun i j hi => by rw [hI_pI, if_neg (fun z => hi z.2.1)]; exact ho i j hi) (fun t ht => by
        obtain ⟨n1, n2⟩ := hn t ht
        have e4t := (qh.sign (show t < nt (N 6) by omega)).2.2.2.1
        refine ⟨by rw [hI_pI, if_neg (fun z => by omega)]; exact n1, fun r' hr' => by rw [hI_pI, if_neg (fun z => by omega)]; exact n2 r' hr'⟩) (by rw [hI_pI, if_pos ⟨rfl, rfl, rfl⟩]) (fun r' hr' => by omega)
    obtain ⟨n, h', e1, e2, e3, e5⟩ := ih (s + 1) h1 (by omega) g5 g6 g7
    obtain ⟨n', hn'⟩ := g8 n _ e1
    refine ⟨n' + 1, h', ?_, e2, e3, e5⟩
    show X0_note_g40 (X0_note_fam n') 1 (rho + 1) (nI s) h = _
    unfold X0_note_g40 X0_note_f40
    rw [nnE rfl, hS75, if_pos hlt, nnE rfl, nnE (sh_68 a 0 (by decide)), ixE (ln_18 a 0 (by decide)) rfl e6 (by decide), sh_1152_0 a s e6, nnE rfl, nnE rfl, ixE (ln_13 a rho hrho) x7 (show 7 * s < 98 by omega) (by decide), f3, wr_eq]
    exact hn'
def ntW : List Nat × List Nat × Bool := ([1, 2, 832], [], false)
theorem note_eq {h : PH} {N : Nat → Int32} (q : Hs h 0 N) {n l : Nat} (hn16 : n ≤ 16) (hl : l < 16) (h2 : hI h 2 0 0 = nI n) (h1 : hI h 1 0 0 = nI l) : ∃ h', X0_note 0 1 h = some (none, h') ∧ Fr ntW h h' ∧ hI h' 1 0 0 = nI ((l + 1) % 16) ∧ hI h' 2 0 0 = nI (min (n + 1) 16) ∧ (∀ i j, i ≠ (l + 1) % 16 → hI h' 832 i j = hI h 832 i j) ∧ NoteE h' ((l + 1) % 16) N (nt (N 6)) := by
  have a := q.1
  have hr : (l + 1) % 16 < 16 := Nat.mod_lt _ (by decide)
  have er : jrem (nI l + 1) 16 = nI ((l + 1) % 16) := by
    unfold jrem
    rw [nI_1, show (16 : Int32) = nI 16 from rfl]
    exact pk_rem (by omega) (by decide) (by decide)
  have em : (if 16 < nI n + 1 then 16 else nI n + 1) = nI (min (n + 1) 16) := by
    rw [nI_1]
    by_cases c : n = 16
    · subst c
      rw [if_pos (by decide)]
      rfl
    · rw [if_neg (show ¬ (16 : Int32) < nI (n + 1) from nI_nlt (a := 16) (by omega) (by decide)), Nat.min_eq_left (by omega)]
  generalize hh0 : pI (pI h 1 0 0 (nI ((l + 1) % 16))) 2 0 0 (nI (min (n + 1) 16)) = h0
  have f0 : Fr ntW h h0 := by
    subst hh0
    exact (Fr.rf.pI (by decide)).pI (by decide)
  have q0 := q.fr f0 (by decide +kernel) (by decide +kernel)
  have c1 : hI h0 1 0 0 = nI ((l + 1) % 16) := by
    subst hh0
    rw [hI_off _ (by decide), hI_pI, if_pos ⟨rfl, rfl, rfl⟩]
  have c2 : hI h0 2 0 0 = nI (min (n + 1) 16) := by
    subst hh0
    rw [hI_pI, if_pos ⟨rfl, rfl, rfl⟩]
  have c3 : ∀ i j, hI h0 832 i j = hI h 832 i j := fun i j => by
    subst hh0
    rw [hI_off _ (by decide), hI_off _ (by decide)]
  obtain ⟨z, h', e1, e2, e3, e4⟩ := note_outer q0 hr (nt (N 6)) 0 h0 (by omega) Fr.rf (fun i j _ => rfl) (fun t ht => by omega)
  have n0 : 0 < hN h0 0 := q0.1.k1 (k := 0) (n := 1) (by decide +kernel) (by decide)
  refine ⟨h', X0_note_iff.mpr ⟨z, ?_⟩, f0.tr (e2.sub (by decide)), (e2.1 1 0 0 (by decide) n0).trans c1, (e2.1 2 0 0 (by decide) n0).trans c2, fun i j hi => (e3 i j hi).trans (c3 i j), e4⟩
  unfold X0_note_g0 X0_note_f0
  rw [dv_ok (by decide), h1, er, wr_eq, hI_off _ (by decide), h2, em, wr_eq, hh0, nnE (sh_0 q0.1), ixE (ln_12 q0.1) c1 hr (by decide), sh_768 q0.1 _ hr]
  exact e1
