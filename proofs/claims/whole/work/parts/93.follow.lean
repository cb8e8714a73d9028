/-! which signs are followed to a goal -/
def fol1 (N : Nat → Int32) (name : Int32) (s : Nat) (fo : Nat → Option (Nat × Nat)) : Nat → Option (Nat × Nat) := match frO N s name with
  | none => fo
  | some r => match fo (sP N s) with
    | some _ => fo
    | none => fun p => if p = sP N s then some (s, sA N s r) else fo p
def folF (N : Nat → Int32) (name : Int32) : List Nat → (Nat → Option (Nat × Nat)) → Nat → Option (Nat × Nat)
  | [], fo => fo
  | s :: t, fo => folF N name t (fol1 N name s fo)
def rwD (N : Nat → Int32) (s : Nat) (name : Int32) : Nat := (frO N s name).getD 0
def folC (N : Nat → Int32) (name : Int32) (p s : Nat) : Bool := decide (sP N s = p) && (frO N s name).isSome
theorem fol1_n {N : Nat → Int32} {name : Int32} {s : Nat} {fo : Nat → Option (Nat × Nat)} (h : frO N s name = none) : fol1 N name s fo = fo := by
  unfold fol1
  rw [h]
theorem fol1_ss {N : Nat → Int32} {name : Int32} {s r : Nat} {v : Nat × Nat} {fo : Nat → Option (Nat × Nat)} (h : frO N s name = some r) (h2 : fo (sP N s) = some v) : fol1 N name s fo = fo := by
  unfold fol1
  rw [h]
  simp only [h2]
theorem fol1_sn {N : Nat → Int32} {name : Int32} {s r : Nat} {fo : Nat → Option (Nat × Nat)} (h : frO N s name = some r) (h2 : fo (sP N s) = none) : fol1 N name s fo = fun p => if p = sP N s then some (s, sA N s r) else fo p := by
  unfold fol1
  rw [h]
  simp only [h2]
theorem fdO_cons (C : Nat → Bool) (s : Nat) (t : List Nat) : fdO C (s :: t) = bif C s then some s else fdO C t := rfl
def orE (o : Option (Nat × Nat)) (d : Option (Nat × Nat)) : Option (Nat × Nat) := match o with
  | some v => some v
  | none => d
theorem folF_at (N : Nat → Int32) (name : Int32) (p : Nat) : ∀ (L : List Nat) (fo : Nat → Option (Nat × Nat)), folF N name L fo p = orE (fo p) ((fdO (folC N name p) L).map (fun s => (s, sA N s (rwD N s name))))
  | [], fo => by
    show fo p = _
    cases fo p <;> rfl
  | s :: t, fo => by
    show folF N name t (fol1 N name s fo) p = _
    rw [folF_at N name p t, fdO_cons]
    cases cr : frO N s name with
    | none =>
      have hc : folC N name p s = false := by
        unfold folC
        rw [cr]
        simp
      rw [fol1_n cr, hc, cond_false]
    | some r =>
      by_cases cp : sP N s = p
      · have hc : folC N name p s = true := by
          unfold folC
          rw [cr, decide_eq_true cp]
          rfl
        have hr : rwD N s name = r := by
          unfold rwD
          rw [cr]
          rfl
        rw [hc, cond_true]
        subst cp
        cases cf : fo (sP N s) with
        | some v =>
          rw [fol1_ss cr cf, cf]
          rfl
        | none =>
          rw [fol1_sn cr cf]
          show orE (if sP N s = sP N s then some (s, sA N s r) else fo (sP N s)) _ = _
          rw [if_pos rfl, Option.map_some, hr]
          rfl
      · have hc : folC N name p s = false := by
          unfold folC
          rw [decide_eq_false cp]
          rfl
        rw [hc, cond_false]
        cases cf : fo (sP N s) with
        | some v => rw [fol1_ss cr cf]
        | none =>
          rw [fol1_sn cr cf]
          show orE (if p = sP N s then some (s, sA N s r) else fo p) _ = _
          rw [if_neg (fun e => cp (Eq.symm e))]
def FoE (h : PH) (i : Nat) (fo : Nat → Option (Nat × Nat)) : Prop := ∀ p, p < 12 → hI h 2048 i p = oI ((fo p).map Prod.fst) ∧ ∀ s a, fo p = some (s, a) → hI h 2112 i p = nI a
def foW : List Nat × List Nat × Bool := ([2048, 2112], [], false)
theorem SH.n32 {h : PH} (a : SH h) {i : Nat} (hi : i < 2) : i < hN h 32 := a.nl (n := 12) ((by decide +kernel : ∀ i, i < 2 → (32, i, 12) ∈ lnList) i hi)
theorem SH.n33 {h : PH} (a : SH h) {i : Nat} (hi : i < 2) : i < hN h 33 := a.nl (n := 12) ((by decide +kernel : ∀ i, i < 2 → (33, i, 12) ∈ lnList) i hi)
theorem SH.n34 {h : PH} (a : SH h) {i : Nat} (hi : i < 2) : i < hN h 34 := a.nl (n := 12) ((by decide +kernel : ∀ i, i < 2 → (34, i, 12) ∈ lnList) i hi)
theorem FoE.fr {W : List Nat × List Nat × Bool} {h h' : PH} {i : Nat} {fo : Nat → Option (Nat × Nat)} (q : FoE h i fo) (a : SH h) (hi : i < 2) (f : Fr W h h') (h1 : W.1.contains 2048 = false) (h2 : W.1.contains 2112 = false) : FoE h' i fo := fun p hp => by
  rw [f.1 2048 i p h1 (a.n32 hi), f.1 2112 i p h2 (a.n33 hi)]
  exact q p hp
theorem fo_turn {h : PH} {b i j s : Nat} {N : Nat → Int32} {name : Int32} {L : List Nat} {fo : Nat → Option (Nat × Nat)} (q : Hs h b N) (hi : i < 2) (r : hR h 513 i 0 = b + 1) (hL : RF h i L) (h14 : L.length ≤ 14) (hj : L[j]? = some s) (hs : s < nt (N 6)) (hf : FoE h i fo) (hfo : ∀ p v, fo p = some v → v.1 < 14) : ∃ h2, Fr foW h h2 ∧ FoE h2 i (fol1 N name s fo) ∧ ∀ G, X9_follow_g2 G i name (nI j) h = G i name (nI (j + 1)) h2 := by
  have a := q.1
  have hb := q.2.1
  obtain ⟨e1, e2, e3, e4, e5, e6, -⟩ := q.sign hs
  obtain ⟨f1, f2, f3, f4, f5⟩ := q.signF hs
  have n12 := q.n12
  have hjl : j < L.length := by
    rw [List.getElem?_eq_some_iff] at hj
    exact hj.1
  have hlt : nI j < nI L.length := nI_lt hjl (by omega)
  have hv := hL.2 j s hj
  have g82 : ∀ (G : Nat → Int32 → Int32 → PH → Option Rs) z, X9_follow_g82 G i name (nI j) z = G i name (nI (j + 1)) z := fun G z => by
    unfold X9_follow_g82 X9_follow_f82
    rw [nI_1]
  have hp := hf (sP N s) (by omega)
  cases cr : frO N s name with
  | none =>
    refine ⟨h, Fr.rf, ?_, fun G => ?_⟩
    · rw [fol1_n cr]
      exact hf
    · unfold X9_follow_g2 X9_follow_f2
      rw [hL.1, if_pos hlt, nnE r, nnE (sh_514 a i hi), ixE (ln_31 a i hi) rfl (show j < 14 by omega) (by decide), nnE (sh_68 a b hb), ixE (ln_18 a b hb) hv e6 (by decide), sign_ref a hb e6, nnE rfl, firstRowOf_eq q hs, cI_some, cr, if_pos (show oI none = -1 from rfl), g82]
  | some rr =>
    have hrr := frO_lt cr
    obtain ⟨w1, w2, w3, w4, w5⟩ := q.row hs hrr
    cases cf : fo (sP N s) with
    | some v =>
      rw [cf] at hp
      have hne : ¬ hI h 2048 i (sP N s) = -1 := by
        rw [hp.1]
        exact oI_ne (by have := hfo _ v cf; omega)
      refine ⟨h, Fr.rf, ?_, fun G => ?_⟩
      · rw [fol1_ss cr cf]
        exact hf
      · unfold X9_follow_g2 X9_follow_f2
        rw [hL.1, if_pos hlt, nnE r, nnE (sh_514 a i hi), ixE (ln_31 a i hi) rfl (show j < 14 by omega) (by decide), nnE (sh_68 a b hb), ixE (ln_18 a b hb) hv e6 (by decide), sign_ref a hb e6, nnE rfl, firstRowOf_eq q hs, cI_some, cr, if_neg (oI_ne (show rr < 2 ^ 31 by omega)), nnE rfl, nnE (sh_517 a i hi), ixE (ln_32 a i hi) f1 (show sP N s < 12 by omega) (by decide), if_neg hne, g82]
    | none =>
      rw [cf] at hp
      have hm1 : hI h 2048 i (sP N s) = -1 := hp.1
      have a1 : SH (pI h 2048 i (sP N s) (nI s)) := a
      have x1 : hI (pI h 2048 i (sP N s) (nI s)) 320 (14 * b + s) 0 = nI (sP N s) := (hI_off h (by decide) _ _ _ _ _).trans f1
      have x2 : hI (pI h 2048 i (sP N s) (nI s)) 1792 (14 * b + s) rr = nI (sA N s rr) := (hI_off h (by decide) _ _ _ _ _).trans w2
      refine ⟨pI (pI h 2048 i (sP N s) (nI s)) 2112 i (sP N s) (nI (sA N s rr)), (Fr.rf.pI (by decide)).pI (by decide), ?_, fun G => ?_⟩
      · rw [fol1_sn cr cf]
        intro p hp12
        show _ = oI ((if p = sP N s then some (s, sA N s rr) else fo p).map Prod.fst) ∧ ∀ s' a', (if p = sP N s then some (s, sA N s rr) else fo p) = some (s', a') → _
        by_cases cp : p = sP N s
        · subst cp
          rw [if_pos rfl, hI_off _ (by decide), hI_pI, if_pos ⟨rfl, rfl, rfl⟩, hI_pI, if_pos ⟨rfl, rfl, rfl⟩]
          exact ⟨rfl, fun s' a' e' => by cases e'; rfl⟩
        · rw [if_neg cp, hI_off _ (by decide), hI_pI, if_neg (fun z => cp z.2.2), hI_pI, if_neg (fun z => cp z.2.2), hI_off _ (by decide)]
          exact hf p hp12
      · unfold X9_follow_g2 X9_follow_f2
        rw [hL.1, if_pos hlt, nnE r, nnE (sh_514 a i hi), ixE (ln_31 a i hi) rfl (show j < 14 by omega) (by decide), nnE (sh_68 a b hb), ixE (ln_18 a b hb) hv e6 (by decide), sign_ref a hb e6, nnE rfl, firstRowOf_eq q hs, cI_some, cr, if_neg (oI_ne (show rr < 2 ^ 31 by omega)), nnE rfl, nnE (sh_517 a i hi), ixE (ln_32 a i hi) f1 (show sP N s < 12 by omega) (by decide), if_pos hm1, nnE rfl, nnE (sh_514 a i hi), ixE (ln_31 a i hi) rfl (show j < 14 by omega) (by decide), nnE (sh_517 a i hi), ixE (ln_32 a i hi) f1 (show sP N s < 12 by omega) (by decide), hv, wr_eq, nnE rfl, nnE rfl, nnE (sh_326 a1 _ (show 14 * b + s < 28 by omega)), ixE (ln_28 a1 _ (show 14 * b + s < 28 by omega)) (show oI (some rr) = nI rr from rfl) (show rr < 6 by omega) (by decide), nnE (sh_518 a1 i hi), ixE (ln_33 a1 i hi) x1 (show sP N s < 12 by omega) (by decide), x2, wr_eq, g82]
theorem fol1_ok {N : Nat → Int32} {name : Int32} {s : Nat} {fo : Nat → Option (Nat × Nat)} (hs : s < 14) (hfo : ∀ p v, fo p = some v → v.1 < 14) : ∀ p v, fol1 N name s fo p = some v → v.1 < 14 := by
  intro p v e
  cases cr : frO N s name with
  | none => rw [fol1_n cr] at e; exact hfo p v e
  | some r =>
    cases cf : fo (sP N s) with
    | some w => rw [fol1_ss cr cf] at e; exact hfo p v e
    | none =>
      rw [fol1_sn cr cf] at e
      have e' : (if p = sP N s then some (s, sA N s r) else fo p) = some v := e
      by_cases c : p = sP N s
      · rw [if_pos c] at e'
        cases e'
        exact hs
      · rw [if_neg c] at e'
        exact hfo p v e'
theorem X9_follow_eq {h0 : PH} {b i : Nat} {N : Nat → Int32} {L : List Nat} {fo : Nat → Option (Nat × Nat)} (q : Hs h0 b N) (hi : i < 2) (r : hR h0 513 i 0 = b + 1) (hL : RF h0 i L) (h14 : L.length ≤ 14) (hLs : ∀ s ∈ L, s < nt (N 6)) (hf0 : FoE h0 i fo) (hfo0 : ∀ p v, fo p = some v → v.1 < 14) (name : Int32) : ∃ h', X9_follow i name h0 = some (none, h') ∧ Fr foW h0 h' ∧ FoE h' i (folF N name L fo) := by
  have key : ∀ (k j : Nat) (fo : Nat → Option (Nat × Nat)) (h : PH), j + k = L.length → Fr foW h0 h → FoE h i fo → (∀ p v, fo p = some v → v.1 < 14) → ∃ n h', X9_follow_fam n i name (nI j) h = some (none, h') ∧ Fr foW h0 h' ∧ FoE h' i (folF N name (L.drop j) fo) := by
    intro k
    induction k with
    | zero =>
      intro j fo h e f hf hfo
      have hL' := hL.fr q.1 hi f (by decide) (by decide)
      have hlt : ¬ nI j < nI L.length := nI_nlt (by omega) (by omega)
      refine ⟨1, h, ?_, f, ?_⟩
      · show X9_follow_g2 _ i name (nI j) h = _
        unfold X9_follow_g2 X9_follow_f2
        rw [hL'.1, if_neg hlt]
      · rw [List.drop_eq_nil_of_le (by omega)]
        exact hf
    | succ k ih =>
      intro j fo h e f hf hfo
      have qh := q.fr f (by decide +kernel) (by decide +kernel)
      have r' : hR h 513 i 0 = b + 1 := (f.2.1 513 i 0 (by decide) (q.1.n8 hi)).trans r
      have hL' := hL.fr q.1 hi f (by decide) (by decide)
      have hj : j < L.length := by omega
      have hjs : L[j]? = some L[j] := List.getElem?_eq_getElem hj
      have hs := hLs L[j] (List.getElem_mem hj)
      obtain ⟨h2, fr2, p2, t2⟩ := fo_turn (name := name) qh hi r' hL' h14 hjs hs hf hfo
      obtain ⟨n, h', g1, g2, g3⟩ := ih (j + 1) _ h2 (by omega) (f.tr fr2) p2 (fol1_ok (qh.sign hs).2.2.2.2.2.1 hfo)
      refine ⟨n + 1, h', (t2 _).trans g1, g2, ?_⟩
      rw [List.drop_eq_getElem_cons hj]
      exact g3
  obtain ⟨n, h', g1, g2, g3⟩ := key L.length 0 fo h0 (by omega) Fr.rf hf0 hfo0
  exact ⟨h', X9_follow_iff.mpr ⟨n, g1⟩, g2, g3⟩
