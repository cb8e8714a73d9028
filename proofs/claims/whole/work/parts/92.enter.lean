/-! a walker enters a house -/
def RF (h : PH) (i : Nat) (L : List Nat) : Prop := hI h 515 i 0 = nI L.length ∧ ∀ j v, L[j]? = some v → hI h 1984 i j = nI v
theorem SH.n31 {h : PH} (a : SH h) {i : Nat} (hi : i < 2) : i < hN h 31 := a.nl (n := 14) ((by decide +kernel : ∀ i, i < 2 → (31, i, 14) ∈ lnList) i hi)
theorem RF.fr {W : List Nat × List Nat × Bool} {h h' : PH} {i : Nat} {L : List Nat} (q : RF h i L) (a : SH h) (hi : i < 2) (f : Fr W h h') (h1 : W.1.contains 515 = false) (h2 : W.1.contains 1984 = false) : RF h' i L :=
  ⟨(f.1 515 i 0 h1 (a.n8 hi)).trans q.1, fun j v hj => (f.1 1984 i j h2 (a.n31 hi)).trans (q.2 j v hj)⟩
def enW : List Nat × List Nat × Bool := ([515, 1920, 1984], [], false)
theorem RF.add {h : PH} {i : Nat} {L : List Nat} (q : RF h i L) (s : Nat) : RF (pI (pI h 1984 i L.length (nI s)) 515 i 0 (nI (L.length + 1))) i (L ++ [s]) := by
  refine ⟨?_, fun j v hj => ?_⟩
  · rw [hI_pI, if_pos ⟨rfl, rfl, rfl⟩, List.length_append]
    rfl
  · rw [hI_off _ (by decide), hI_pI]
    by_cases c : j < L.length
    · rw [List.getElem?_append_left c] at hj
      rw [if_neg (fun z => by omega)]
      exact q.2 j v hj
    · rw [List.getElem?_append_right (by omega)] at hj
      have hjl : j = L.length := by
        cases e : j - L.length with
        | zero => omega
        | succ z => rw [e] at hj; simp at hj
      subst hjl
      rw [Nat.sub_self] at hj
      have hv : s = v := by simpa using hj
      subst hv
      rw [if_pos ⟨rfl, rfl, rfl⟩]
theorem en_turn {h : PH} {b i s v : Nat} {N : Nat → Int32} {x : Int32} {acc : List Nat} (q : Hs h b N) (hi : i < 2) (r : hR h 513 i 0 = b + 1) (hx : hI h 192 i 0 = x) (hs : s < nt (N 6)) (hv : v ≤ 6) (hf : RF h i acc) (hl : (decide (sn N s = v) && readB N x s) = true → acc.length < 14) : ∃ h2, Fr enW h h2 ∧ RF h2 i (bif decide (sn N s = v) && readB N x s then acc ++ [s] else acc) ∧ ∀ G, X9_enter_g27 G i (nI v) (nI s) h = G.2 i (nI v) (nI (s + 1)) h2 := by
  have a := q.1
  have hb := q.2.1
  obtain ⟨S, hS, h14, hSn, hSi, hS75⟩ := q.signs
  obtain ⟨e1, e2, e3, e4, e5, e6, -⟩ := q.sign hs
  obtain ⟨f1, f2, f3, f4, f5⟩ := q.signF hs
  have hlt : nI s < nI S := nI_lt (by omega) (by omega)
  obtain ⟨k1, k2, k3⟩ := seenK_sn e5
  have head : ∀ G, X9_enter_g27 G i (nI v) (nI s) h = if nI (sn N s) = nI v then (nn (hR h 513 i 0) fun r12 => cI (X1_isLit r12 (14 * b + s + 1) h) fun v14 h13 => if v14 = 0 then X9_enter_g112 G i (nI v) (nI s) h13 else nn (hR h13 512 i 0) fun r15 => nn (hR h13 513 i 0) fun r16 => cI (X1_isObeyed r16 (14 * b + s + 1) (hI h13 192 r15 0) h13) fun v18 h17 => if v18 = 0 then X9_enter_g112 G i (nI v) (nI s) h17 else nn (hR h17 514 i 0) fun r19 => ix (hI h17 515 i 0) (hL h17 31 r19) fun j20 => wr (pI h17 1984 r19 j20 (nI s)) fun h21 => wr (pI h21 515 i 0 ((hI h21 515 i 0) + 1)) fun h22 => X9_enter_g112 G i (nI v) (nI s) h22) else X9_enter_g112 G i (nI v) (nI s) h := fun G => by
    unfold X9_enter_g27 X9_enter_f27
    rw [nnE r, hS75, if_pos hlt, nnE r, nnE (sh_68 a b hb), ixE (ln_18 a b hb) rfl e6 (by decide), sign_ref a hb e6, nnE rfl, f2, se3_eq e5, cI_some, k1]
  have g112 : ∀ (G : (Nat → Int32 → PH → Option Rs) × (Nat → Int32 → Int32 → PH → Option Rs)) z, X9_enter_g112 G i (nI v) (nI s) z = G.2 i (nI v) (nI (s + 1)) z := fun G z => by
    unfold X9_enter_g112 X9_enter_f112
    rw [nI_1]
  by_cases c : sn N s = v
  · rw [decide_eq_true c, Bool.true_and]
    obtain ⟨z1, l1, fr1⟩ := X1_isLit_eq a hb q.2.2.1 q.2.2.2 (s := s) (by omega)
    have q1 := q.fr fr1 (by decide +kernel) (by decide +kernel)
    have r1 : hR z1 513 i 0 = b + 1 := (fr1.2.1 513 i 0 (by decide) (a.n8 hi)).trans r
    have x1 : hI z1 192 i 0 = x := (fr1.1 192 i 0 (by decide) (a.n3 hi)).trans hx
    have p1 : RF z1 i acc := hf.fr a hi fr1 (by decide) (by decide)
    unfold readB
    cases cl : litB N s with
    | false =>
      rw [cl] at l1
      refine ⟨z1, fr1.sub (by decide), p1, fun G => ?_⟩
      rw [head G, if_pos (by rw [c]), nnE r, l1, cI_some, if_pos b2f, g112]
    | true =>
      rw [cl] at l1
      obtain ⟨z2, l2, fr2⟩ := X1_isObeyed_eq q1.1 hb q1.2.2.1 q1.2.2.2 (s := s) (by omega) x
      have q2 := q1.fr fr2 (by decide +kernel) (by decide +kernel)
      have p2 : RF z2 i acc := p1.fr q1.1 hi fr2 (by decide) (by decide)
      have fr12 : Fr enW h z2 := (fr1.sub (by decide)).tr (fr2.sub (by decide))
      cases co : obeyB N s x with
      | false =>
        rw [co] at l2
        refine ⟨z2, fr12, p2, fun G => ?_⟩
        rw [head G, if_pos (by rw [c]), nnE r, l1, cI_some, if_neg b2t, nnE (sh_512 q1.1 i hi), nnE r1, x1, l2, cI_some, if_pos b2f, g112]
      | true =>
        rw [co] at l2
        have hl : acc.length < 14 := hl (by unfold readB; rw [decide_eq_true c, cl, co]; rfl)
        refine ⟨pI (pI z2 1984 i acc.length (nI s)) 515 i 0 (nI (acc.length + 1)), (fr12.pI (by decide)).pI (by decide), p2.add s, fun G => ?_⟩
        rw [head G, if_pos (by rw [c]), nnE r, l1, cI_some, if_neg b2t, nnE (sh_512 q1.1 i hi), nnE r1, x1, l2, cI_some, if_neg b2t, nnE (sh_514 q2.1 i hi), ixE (ln_31 q2.1 i hi) p2.1 hl (by decide), wr_eq, wr_eq, g112, hI_off _ (by decide), p2.1, nI_1]
  · rw [decide_eq_false c, Bool.false_and]
    refine ⟨h, Fr.rf, hf, fun G => ?_⟩
    rw [head G, if_neg (fun z => c ((nI_eq (by omega) (by omega)).mp z)), g112]
theorem en_inner {h0 : PH} {b i v : Nat} {N : Nat → Int32} {x : Int32} {full rest : List Nat} (q : Hs h0 b N) (hi : i < 2) (r : hR h0 513 i 0 = b + 1) (hx : hI h0 192 i 0 = x) (hv : v ≤ 6) (hfull : full.length ≤ 14) : ∀ k s acc h, s + k = nt (N 6) → Fr enW h0 h → RF h i acc → acc ++ (ordI N x v k s ++ rest) = full → ∃ h1, Fr enW h0 h1 ∧ RF h1 i (acc ++ ordI N x v k s) ∧ ∀ n z, (X9_enter_fam n).1 i (nI v + (-1)) h1 = some z → ∃ n', (X9_enter_fam n').2 i (nI v) (nI s) h = some z := by
  intro k
  induction k with
  | zero =>
    intro s acc h e f hf hl
    have qh := q.fr f (by decide +kernel) (by decide +kernel)
    have r' : hR h 513 i 0 = b + 1 := (f.2.1 513 i 0 (by decide) (q.1.n8 hi)).trans r
    obtain ⟨S, hS, h14, hSn, hSi, hS75⟩ := qh.signs
    have hlt : ¬ nI s < nI S := nI_nlt (by omega) (by omega)
    refine ⟨h, f, ?_, fun n z hz => ⟨n + 1, ?_⟩⟩
    · show RF h i (acc ++ [])
      rw [List.append_nil]
      exact hf
    · show X9_enter_g27 (X9_enter_fam n) i (nI v) (nI s) h = _
      unfold X9_enter_g27 X9_enter_f27
      rw [nnE r', hS75, if_neg hlt]
      exact hz
  | succ k ih =>
    intro s acc h e f hf hl
    have qh := q.fr f (by decide +kernel) (by decide +kernel)
    have r' : hR h 513 i 0 = b + 1 := (f.2.1 513 i 0 (by decide) (q.1.n8 hi)).trans r
    have x' : hI h 192 i 0 = x := (f.1 192 i 0 (by decide) (q.1.n3 hi)).trans hx
    have hst : ordI N x v (k + 1) s = bif decide (sn N s = v) && readB N x s then s :: ordI N x v k (s + 1) else ordI N x v k (s + 1) := rfl
    cases c : (decide (sn N s = v) && readB N x s) with
    | false =>
      rw [c, cond_false] at hst
      obtain ⟨h2, fr2, p2, t2⟩ := en_turn qh hi r' x' (s := s) (v := v) (by omega) hv hf (fun z => by rw [c] at z; cases z)
      rw [c] at p2
      obtain ⟨h1, g1, g2, g3⟩ := ih (s + 1) acc h2 (by omega) (f.tr fr2) p2 (by rw [← hst]; exact hl)
      refine ⟨h1, g1, by rw [hst]; exact g2, fun n z hz => ?_⟩
      obtain ⟨n', hn'⟩ := g3 n z hz
      exact ⟨n' + 1, (t2 _).trans hn'⟩
    | true =>
      rw [c, cond_true] at hst
      have hl14 : acc.length < 14 := by
        have h1 := congrArg List.length hl
        rw [hst, List.length_append, List.cons_append, List.length_cons] at h1
        omega
      obtain ⟨h2, fr2, p2, t2⟩ := en_turn qh hi r' x' (s := s) (v := v) (by omega) hv hf (fun _ => hl14)
      rw [c] at p2
      obtain ⟨h1, g1, g2, g3⟩ := ih (s + 1) (acc ++ [s]) h2 (by omega) (f.tr fr2) p2 (by rw [← hl, hst]; simp)
      refine ⟨h1, g1, ?_, fun n z hz => ?_⟩
      · rw [hst]
        have : acc ++ [s] ++ ordI N x v k (s + 1) = acc ++ s :: ordI N x v k (s + 1) := by simp
        rw [← this]
        exact g2
      · obtain ⟨n', hn'⟩ := g3 n z hz
        exact ⟨n' + 1, (t2 _).trans hn'⟩
theorem en_outer {h0 : PH} {b i : Nat} {N : Nat → Int32} {x : Int32} (q : Hs h0 b N) (hi : i < 2) (r : hR h0 513 i 0 = b + 1) (hx : hI h0 192 i 0 = x) : ∀ v acc h, v ≤ 6 → Fr enW h0 h → RF h i acc → acc ++ ordO N x (nt (N 6)) v = ordO N x (nt (N 6)) 6 → ∃ n h', (X9_enter_fam n).1 i (nI v) h = some (none, h') ∧ Fr enW h0 h' ∧ RF h' i (ordO N x (nt (N 6)) 6) := by
  intro v
  induction v with
  | zero =>
    intro acc h hv f hf hl
    refine ⟨1, h, rfl, f, ?_⟩
    rw [← hl]
    show RF h i (acc ++ [])
    rw [List.append_nil]
    exact hf
  | succ v ih =>
    intro acc h hv f hf hl
    have h14 : nt (N 6) ≤ 14 := by
      obtain ⟨S, hS, h14, hSn, -⟩ := q.signs
      omega
    obtain ⟨h1, g1, g2, g3⟩ := en_inner q hi r hx (v := v + 1) hv (rest := ordO N x (nt (N 6)) v) (full := ordO N x (nt (N 6)) 6) (Nat.le_trans ordO_len h14) (nt (N 6)) 0 acc h (by omega) f hf hl
    obtain ⟨n, h', e1, e2, e3⟩ := ih (acc ++ ordI N x (v + 1) (nt (N 6)) 0) h1 (by omega) g1 g2 (by rw [← hl]; simp [ordO])
    rw [← pk_m1] at e1
    obtain ⟨n', hn'⟩ := g3 n _ e1
    refine ⟨n' + 1, h', ?_, e2, e3⟩
    show X9_enter_g21 (X9_enter_fam n') i (nI (v + 1)) h = _
    unfold X9_enter_g21 X9_enter_f21
    rw [if_pos (show (0 : Int32) < nI (v + 1) from nI_lt (a := 0) (b := v + 1) (by omega) (by omega))]
    exact hn'
/-- who has entered: what passes, what is read -/
theorem X9_enter_eq {h : PH} {b i : Nat} {N : Nat → Int32} (q : Hs h b N) (hi : i < 2) {x : Int32} (hx : hI h 192 i 0 = x) : ∃ h', X9_enter i (b + 1) h = some (none, h') ∧ Fr X9_enter_W h h' ∧ hR h' 513 i 0 = b + 1 ∧ RdE h' i b N (fun v => passB N v x) ∧ RF h' i (ordO N x (nt (N 6)) 6) := by
  have f1 : Fr ([], [513], false) h (pR h 513 i 0 (b + 1)) := Fr.rf.pR (by decide)
  have q1 : Hs (pR h 513 i 0 (b + 1)) b N := q.fr f1 (by decide +kernel) (by decide +kernel)
  have r1 : hR (pR h 513 i 0 (b + 1)) 513 i 0 = b + 1 := by
    show (if 513 = 513 ∧ i = i ∧ 0 = 0 then b + 1 else _) = b + 1
    rw [if_pos ⟨rfl, rfl, rfl⟩]
  obtain ⟨h2, e2, f2, r2, p2⟩ := X4_survey_eq q1 hi (x := x) hx
  have d2 : RdE h2 i b N (fun v => passB N v x) := ⟨q1.fr f2 (by decide +kernel) (by decide +kernel), hi, r2, p2⟩
  have r3 : hR h2 513 i 0 = b + 1 := (f2.2.1 513 i 0 (by decide) (q1.1.n8 hi)).trans r1
  have f3 : Fr enW h2 (pI h2 515 i 0 0) := Fr.rf.pI (by decide)
  have d3 := d2.fr f3 (by decide +kernel) (by decide +kernel)
  have x3 : hI (pI h2 515 i 0 0) 192 i 0 = x := (f3.1 192 i 0 (by decide) (d2.1.1.n3 hi)).trans ((f2.1 192 i 0 (by decide) (q1.1.n3 hi)).trans hx)
  obtain ⟨n, h', e4, f4, p4⟩ := en_outer d3.1 hi (r := r3) x3 6 [] (pI h2 515 i 0 0) (Nat.le_refl _) Fr.rf ⟨by rw [hI_pI, if_pos ⟨rfl, rfl, rfl⟩]; rfl, fun j v hj => by simp at hj⟩ rfl
  have e : X9_enter i (b + 1) h = some (none, h') := by
    refine X9_enter_iff.mpr ⟨n, ?_⟩
    unfold X9_enter_g0 X9_enter_f0
    rw [wr_eq, nnE (sh_512 q1.1 i hi), e2, cV_some, wr_eq]
    exact e4
  exact ⟨h', e, X9_enter_fr i (b + 1) h _ e, (f4.2.1 513 i 0 (by decide) (d3.1.1.n8 hi)).trans r3, d3.fr f4 (by decide +kernel) (by decide +kernel), p4⟩
