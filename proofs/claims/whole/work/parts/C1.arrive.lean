/-! fewest: whether all arrive, the class -/
def Wk0 (h : PH) (i b : Nat) (N : Nat → Int32) (P : Nat → Bool) (gl : Nat) (to : Nat → Option (Nat × Nat)) : Prop := RdE h i b N P ∧ hR h 513 i 0 = b + 1 ∧ hI h 516 i 0 = nI gl ∧ gl < nt (N 5) ∧ FoE h i to ∧ (∀ p v, to p = some v → v.1 < 14 ∧ v.2 < 8)
theorem Wk0.fr {W : List Nat × List Nat × Bool} {h h' : PH} {i b gl : Nat} {N : Nat → Int32} {P : Nat → Bool} {to : Nat → Option (Nat × Nat)} (q : Wk0 h i b N P gl to) (f : Fr W h h') (hw : (516 :: 2048 :: 2112 :: 1536 :: hsCols).all (fun c => !W.1.contains c) = true) (hv : wkRefs.all (fun c => !W.2.1.contains c) = true) : Wk0 h' i b N P gl to := by
  obtain ⟨q1, q2, q3, q4, q5, q6⟩ := q
  have a := q1.1.1
  have hi := q1.2.1
  refine ⟨q1.fr f ?_ ?_, ?_, ?_, q4, q5.fr a hi f (ninW hw (by decide +kernel)) (ninW hw (by decide +kernel)), q6⟩
  · rw [List.all_eq_true] at hw ⊢
    exact fun c hc => hw c (List.mem_cons_of_mem _ (List.mem_cons_of_mem _ (List.mem_cons_of_mem _ hc)))
  · rw [List.all_eq_true] at hv ⊢
    exact fun c hc => hv c (List.mem_cons_of_mem _ hc)
  · exact (f.2.1 513 i 0 (ninW hv (by decide +kernel)) (a.n8 hi)).trans q2
  · exact (f.1 516 i 0 (ninW hw (by decide +kernel)) (a.n8 hi)).trans q3
theorem SH.n25 {h : PH} (a : SH h) {i : Nat} (hi : i < 2) : i < hN h 25 := a.nl (n := 120) ((by decide +kernel : ∀ i, i < 2 → (25, i, 120) ∈ lnList) i hi)
theorem LsE.fr {W : List Nat × List Nat × Bool} {h h' : PH} {i g : Nat} {F : Nat → Nat} (q : LsE h i g F) (a : SH h) (hi : i < 2) (f : Fr W h h') (h1 : W.1.contains 1600 = false) : LsE h' i g F := fun p hp => (f.1 1600 i _ h1 (a.n25 hi)).trans (q p hp)
def tgW : List Nat × List Nat × Bool := ([2176], [], false)
def taW : List Nat × List Nat × Bool := ([2176, 521, 523, 524, 525, 526, 527, 2240, 2304], [], false)
theorem arr_first {h0 : PH} {i gl set : Nat} {N : Nat → Int32} {P : Nat → Bool} {to : Nat → Option (Nat × Nat)} {F : Nat → Nat} (q : Wk0 h0 i 0 N P gl to) (hF : LsE h0 i gl F) (hZ : ∀ j, F j ≤ 1000000) (hs : set < 64) : ∀ k j h, j + k = nt (N 7) → Fr tgW h0 h → (∀ p, p < 12 → hI h 2176 i p = oI (thS N (headO N P F) set j p)) → ∃ h1, Fr tgW h0 h1 ∧ (∀ p, p < 12 → hI h1 2176 i p = oI (thS N (headO N P F) set (nt (N 7)) p)) ∧ ∀ n r, (X9_allArriveWith_fam n).2 i 0 h1 = some r → ∃ n', (X9_allArriveWith_fam n').1 i (nI set) (nI j) h = some r := by
  have hi := q.1.2.1
  have g10 := (q.1.1.goal q.2.2.2.1).2.2.2.2.2
  obtain ⟨C, c1, c2, c3, c4, c5⟩ := q.1.1.chosen
  have n12 := q.1.1.n12
  intro k
  induction k with
  | zero =>
    intro j h e f v
    have qh := q.fr f (by decide +kernel) (by decide +kernel)
    have h77 : hI h 77 0 0 = nI C := qh.1.1.2.2.1.1.2.2.2.2.2.1.trans c1
    have ej : j = nt (N 7) := by omega
    subst ej
    refine ⟨h, f, v, fun n r er => ⟨n + 1, ?_⟩⟩
    show X9_allArriveWith_g10 (X9_allArriveWith_fam n) i (nI set) (nI (nt (N 7))) h = some r
    unfold X9_allArriveWith_g10 X9_allArriveWith_f10
    rw [nnE qh.2.1, h77, if_neg (nI_nlt (by omega) (by omega))]
    exact er
  | succ k ih =>
    intro j h e f v
    have qh := q.fr f (by decide +kernel) (by decide +kernel)
    have a := qh.1.1.1
    have h77 : hI h 77 0 0 = nI C := qh.1.1.2.2.1.1.2.2.2.2.2.1.trans c1
    obtain ⟨u1, u2, u3⟩ := qh.1.1.cho (k := j) (by omega)
    have hFh := hF.fr q.1.1.1 hi f (by decide)
    have hd := X4_heading_eq qh.1 g10 hFh hZ (p := cP N j) (by omega)
    have pre : ∀ n, (X9_allArriveWith_fam (n + 1)).1 i (nI set) (nI j) h = if set.testBit j = true then (X9_allArriveWith_fam n).1 i (nI set) (nI (j + 1)) (pI h 2176 i (cP N j) (oI (headO N P F (cP N j)))) else (X9_allArriveWith_fam n).1 i (nI set) (nI (j + 1)) h := fun n => by
      show X9_allArriveWith_g10 (X9_allArriveWith_fam n) i (nI set) (nI j) h = _
      unfold X9_allArriveWith_g10 X9_allArriveWith_f10
      have g64 : ∀ y, X9_allArriveWith_g64 (X9_allArriveWith_fam n) i (nI set) (nI j) y = (X9_allArriveWith_fam n).1 i (nI set) (nI (j + 1)) y := fun y => by
        show (X9_allArriveWith_fam n).1 i (nI set) (nI j + 1) y = _
        rw [nI_1]
      rw [nnE qh.2.1, h77, if_pos (nI_lt (by omega) (by omega))]
      by_cases c : set.testBit j = true
      · rw [if_pos c, if_pos ((bitN (by omega) (by omega)).mpr c), nnE qh.2.1, nnE (sh_71 a 0 (by decide)), ixE (ln_21 a 0 (by decide)) rfl (show j < 6 by omega) (by decide), nnE qh.2.1, nnE (sh_71 a 0 (by decide)), ixE (ln_21 a 0 (by decide)) rfl (show j < 6 by omega) (by decide), nnE (sh_512 a i hi), u3, qh.2.2.1, hd, cI_some, nnE (sh_519 a i hi), ixE (ln_34 a i hi) rfl (show cP N j < 12 by omega) (by decide), wr_eq, g64]
      · rw [if_neg c, if_neg (fun z => c ((bitN (by omega) (by omega)).mp z)), g64]
    by_cases c : set.testBit j = true
    · obtain ⟨h1, y1, y2, y3⟩ := ih (j + 1) (pI h 2176 i (cP N j) (oI (headO N P F (cP N j)))) (by omega) (f.pI (by decide)) (fun p hp => by
        rw [hI_pI]
        show _ = oI (bif (ledB N set j p || (set.testBit j && decide (cP N j = p))) then headO N P F p else none)
        by_cases d : p = cP N j
        · subst d
          rw [if_pos ⟨rfl, rfl, rfl⟩, c, decide_eq_true rfl, Bool.and_true, Bool.or_true]
          rfl
        · rw [if_neg (fun z => d z.2.2), decide_eq_false (fun z => d z.symm), Bool.and_false, Bool.or_false]
          exact v p hp)
      refine ⟨h1, y1, y2, fun n r er => ?_⟩
      obtain ⟨n', y4⟩ := y3 n r er
      exact ⟨n' + 1, by rw [pre, if_pos c]; exact y4⟩
    · obtain ⟨h1, y1, y2, y3⟩ := ih (j + 1) h (by omega) f (fun p hp => by
        show _ = oI (bif (ledB N set j p || (set.testBit j && decide (cP N j = p))) then headO N P F p else none)
        rw [show set.testBit j = false from Bool.eq_false_iff.mpr c, Bool.false_and, Bool.or_false]
        exact v p hp)
      refine ⟨h1, y1, y2, fun n r er => ?_⟩
      obtain ⟨n', y4⟩ := y3 n r er
      exact ⟨n' + 1, by rw [pre, if_neg c]; exact y4⟩
theorem arr_second {h0 : PH} {i gl : Nat} {N : Nat → Int32} {P : Nat → Bool} {to : Nat → Option (Nat × Nat)} {th : Nat → Option Nat} {F : Nat → Nat} (q : WkE h0 i 0 N P gl to th) (hF : LsE h0 i gl F) (hZ : ∀ j, F j ≤ 1000000) {D A : Nat → Bool} (hD : ∀ p, D p = (headO N P F p).isSome) (hA : ∀ p, p < nt (N 3) → (A p = true ↔ (wkR N P gl (tdF th to) p).1 = 1)) : ∀ k p h cn, p + k = nt (N 3) → Fr goW h0 h → OthE h0 h i → WcE h i cn → cn + k < 2 ^ 31 → ∃ z h', (X9_allArriveWith_fam z).2 i (nI p) h = some (some (.inl (b2 (arF D A k p))), h') ∧ Fr goW h0 h' ∧ OthE h0 h' i ∧ ∃ c', c' ≤ cn + k ∧ WcE h' i c' := by
  have hi := q.1.2.1
  have g10 := (q.1.1.goal q.2.2.2.1).2.2.2.2.2
  obtain ⟨Z, z1, z2, z3, z4, z5⟩ := q.1.1.places
  intro k
  induction k with
  | zero =>
    intro p h cn e f o w hc
    have qh := q.fr f (by decide +kernel) (by decide +kernel)
    have h72 : hI h 72 0 0 = nI Z := qh.1.1.2.2.1.1.1.trans z1
    refine ⟨1, h, ?_, f, o, cn, by omega, w⟩
    show X9_allArriveWith_g72 (X9_allArriveWith_fam 0) i (nI p) h = _
    unfold X9_allArriveWith_g72 X9_allArriveWith_f72
    rw [nnE qh.2.1, h72, if_neg (nI_nlt (by omega) (by omega)), bz_ok (Or.inr rfl)]
    rfl
  | succ k ih =>
    intro p h cn e f o w hc
    have qh := q.fr f (by decide +kernel) (by decide +kernel)
    have a := qh.1.1.1
    have h72 : hI h 72 0 0 = nI Z := qh.1.1.2.2.1.1.1.trans z1
    have hFh := hF.fr q.1.1.1 hi f (by decide)
    have hd := X4_heading_eq qh.1 g10 hFh hZ (p := p) (by omega)
    have hDp := hD p
    have g110 : ∀ n y, X9_allArriveWith_g110 (X9_allArriveWith_fam n) i (nI p) y = (X9_allArriveWith_fam n).2 i (nI (p + 1)) y := fun n y => by
      show (X9_allArriveWith_fam n).2 i (nI p + 1) y = _
      rw [nI_1]
    have lt8 : ∀ v, headO N P F p = some v → v < 8 := fun v hv => headO_lt hv
    generalize headO N P F p = o1 at hd hDp lt8
    rw [arF_s]
    cases o1 with
    | none =>
      obtain ⟨z, h', y1, y2⟩ := ih (p + 1) h cn (by omega) f o w (by omega)
      refine ⟨z + 1, h', ?_, y2.1, y2.2.1, ?_⟩
      · show X9_allArriveWith_g72 (X9_allArriveWith_fam z) i (nI p) h = _
        unfold X9_allArriveWith_g72 X9_allArriveWith_f72
        rw [nnE qh.2.1, h72, if_pos (nI_lt (by omega) (by omega)), nnE (sh_512 a i hi), qh.2.2.1, hd, cI_some, if_pos (show oI none = -1 from rfl), g110, hDp]
        exact y1
      · obtain ⟨c', u1, u2⟩ := y2.2.2
        exact ⟨c', by omega, u2⟩
    | some d =>
      have d8 := lt8 d rfl
      obtain ⟨h2, e2, f2, o2, w2⟩ := X9_go_eq qh w (by omega) (p := p) (by omega)
      have hAp := hA p (by omega)
      have le3 : (wkR N P gl (tdF th to) p).1 ≤ 3 := wk_le3 _ _ _ _ _ _ _ _
      have w2 := w2.wc
      generalize (wkR N P gl (tdF th to) p).1 = r at e2 hAp le3
      have pre : ∀ n, (X9_allArriveWith_fam (n + 1)).2 i (nI p) h = if nI r = 1 then (X9_allArriveWith_fam n).2 i (nI (p + 1)) h2 else some (some (.inl 0), h2) := fun n => by
        show X9_allArriveWith_g72 (X9_allArriveWith_fam n) i (nI p) h = _
        unfold X9_allArriveWith_g72 X9_allArriveWith_f72
        rw [nnE qh.2.1, h72, if_pos (nI_lt (by omega) (by omega)), nnE (sh_512 a i hi), qh.2.2.1, hd, cI_some, if_neg (oI_ne (t := d) (by omega)), e2, cI_some, g110, bz_ok (Or.inl rfl)]
      rw [hDp]
      by_cases c : r = 1
      · obtain ⟨z, h', y1, y2, y3, c', y4, y5⟩ := ih (p + 1) h2 (cn + 1) (by omega) (f.tr f2) (o.tr o2) w2 (by omega)
        refine ⟨z + 1, h', ?_, y2, y3, c', by omega, y5⟩
        rw [pre, c, if_pos (show nI 1 = 1 from rfl), hAp.mpr c]
        exact y1
      · refine ⟨1, h2, ?_, f.tr f2, o.tr o2, cn + 1, by omega, w2⟩
        rw [pre, if_neg (show ¬ nI r = 1 from fun z => c ((nI_eq (b := 1) (by omega) (by omega)).mp z)), show A p = false from Bool.eq_false_iff.mpr (fun z => c (hAp.mp z))]
        rfl
theorem arrive_c {h0 h : PH} {i gl set cn : Nat} {N : Nat → Int32} {P : Nat → Bool} {to : Nat → Option (Nat × Nat)} {F : Nat → Nat} (q : Wk0 h0 i 0 N P gl to) (hF : LsE h0 i gl F) (hZ : ∀ j, F j ≤ 1000000) (hs : set < 64) {D A : Nat → Bool} (hD : ∀ p, D p = (headO N P F p).isSome) (hA : ∀ p, p < nt (N 3) → (A p = true ↔ (wkR N P gl (tdF (thS N (headO N P F) set (nt (N 7))) to) p).1 = 1)) (f : Fr taW h0 h) (w : WcE h i cn) (hc : cn + 12 < 2 ^ 31) : ∃ h', X9_allArriveWith i (nI set) h = some (some (.inl (b2 (arF D A (nt (N 3)) 0))), h') ∧ Fr taW h0 h' ∧ OthE h h' i ∧ ∃ c', c' ≤ cn + 12 ∧ WcE h' i c' := by
  have hi := q.1.2.1
  have n12 := q.1.1.n12
  have qh := q.fr f (by decide +kernel) (by decide +kernel)
  have a := qh.1.1.1
  have hFh := hF.fr q.1.1.1 hi f (by decide)
  have f1 : Fr tgW h (pFl h 2176 i 0 12 (-1)) := Fr.rf.pFl (by decide)
  obtain ⟨h1, y1, y2, y3⟩ := arr_first qh hFh hZ hs (nt (N 7)) 0 (pFl h 2176 i 0 12 (-1)) (by omega) f1 (fun p hp => by
    rw [hI_pFl, if_pos ⟨rfl, rfl, by omega, hp⟩]
    rfl)
  have q1 := qh.fr y1 (by decide +kernel) (by decide +kernel)
  have wk1 : WkE h1 i 0 N P gl to (thS N (headO N P F) set (nt (N 7))) := by
    obtain ⟨u1, u2, u3, u4, u5, u6⟩ := q1
    refine ⟨u1, u2, u3, u4, u5, u6, y2, fun p d e => ?_⟩
    unfold thS at e
    cases c : ledB N set (nt (N 7)) p with
    | false => rw [c] at e; cases e
    | true =>
      rw [c] at e
      exact headO_lt e
  have w1 := w.fr a hi y1 (by decide) (by decide)
  obtain ⟨z, h', x1, x2, x3, c', x4, x5⟩ := arr_second wk1 (hFh.fr a hi y1 (by decide)) hZ hD hA (nt (N 3)) 0 h1 cn (by omega) Fr.rf OthE.rf w1 (by omega)
  obtain ⟨n', x6⟩ := y3 z _ x1
  refine ⟨h', X9_allArriveWith_iff.mpr ⟨n', ?_⟩, (f.tr (y1.sub (by decide))).tr (x2.sub (by decide)), (OthE.fr a y1 (by decide) (by decide)).tr x3, c', by omega, x5⟩
  unfold X9_allArriveWith_g0 X9_allArriveWith_f0
  rw [sh_519 a i hi, J7_fill_53178_34_eq (ln_34 a i hi) (by decide), cV_some]
  exact x6
