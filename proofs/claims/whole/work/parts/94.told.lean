/-! what is told at a place -/
def tlO (N : Nat → Int32) (x name : Int32) (p : Nat) : Option (Nat × Nat) := (sgO N x p name).map (fun s => (s, sA N s (rwD N s name)))
def toF (N : Nat → Int32) (x : Int32) (gl p : Nat) : Option (Nat × Nat) := orE (tlO N x (nI gl) p) (if N (136 + 2 * gl) = -1 then none else tlO N x (10 + N (136 + 2 * gl)) p)
theorem fdO_cong {C C' : Nat → Bool} : ∀ {L : List Nat}, (∀ s ∈ L, C s = C' s) → fdO C L = fdO C' L
  | [], _ => rfl
  | s :: t, h => by
    rw [fdO_cons, fdO_cons, h s (List.mem_cons_self ..), fdO_cong (fun u hu => h u (List.mem_cons_of_mem _ hu))]
theorem fd_fol {h : PH} {b : Nat} {N : Nat → Int32} (q : Hs h b N) (x name : Int32) (p : Nat) : fdO (folC N name p) (ordO N x (nt (N 6)) 6) = sgO N x p name := by
  rw [← sg_fd q]
  refine fdO_cong (fun s hs => ?_)
  have := (ordO_mem hs).2.2.2
  unfold folC sgC
  rw [this, Bool.and_true]
theorem sgO_mem {h : PH} {b : Nat} {N : Nat → Int32} (q : Hs h b N) {x name : Int32} {p s : Nat} (e : sgO N x p name = some s) : s < nt (N 6) ∧ sP N s = p ∧ ∃ r, frO N s name = some r ∧ rwD N s name = r ∧ r < sR N s := by
  rw [← sg_fd q] at e
  obtain ⟨h1, h2, -⟩ := fdO_some (ordO_pw 6) e
  refine ⟨(ordO_mem h1).1, ?_⟩
  unfold sgC at h2
  rw [Bool.and_eq_true, Bool.and_eq_true] at h2
  refine ⟨of_decide_eq_true h2.1.1, ?_⟩
  cases c : frO N s name with
  | none => rw [c] at h2; cases h2.2
  | some r =>
    refine ⟨r, rfl, ?_, frO_lt c⟩
    unfold rwD
    rw [c]
    rfl
theorem tlO_ok {h : PH} {b : Nat} {N : Nat → Int32} (q : Hs h b N) {x name : Int32} {p : Nat} {v : Nat × Nat} (e : tlO N x name p = some v) : v.1 < nt (N 6) ∧ v.2 < 8 := by
  unfold tlO at e
  cases c : sgO N x p name with
  | none => rw [c] at e; cases e
  | some s =>
    rw [c] at e
    cases e
    obtain ⟨h1, h2, r, h3, h4, h5⟩ := sgO_mem q c
    refine ⟨h1, ?_⟩
    show sA N s (rwD N s name) < 8
    rw [h4]
    exact (q.row h1 h5).2.2.2.1
theorem toF_ok {h : PH} {b : Nat} {N : Nat → Int32} (q : Hs h b N) {x : Int32} {gl p : Nat} {v : Nat × Nat} (e : toF N x gl p = some v) : v.1 < nt (N 6) ∧ v.2 < 8 := by
  unfold toF orE at e
  cases c : tlO N x (nI gl) p with
  | some w =>
    rw [c] at e
    cases e
    exact tlO_ok q c
  | none =>
    rw [c] at e
    have e' : (if N (136 + 2 * gl) = -1 then none else tlO N x (10 + N (136 + 2 * gl)) p) = some v := e
    by_cases d : N (136 + 2 * gl) = -1
    · rw [if_pos d] at e'; cases e'
    · rw [if_neg d] at e'
      exact tlO_ok q e'
def hfW : List Nat × List Nat × Bool := ([516, 2048, 2112, 2176], [], false)
theorem X9_headFor_eq {h : PH} {b i gl : Nat} {N : Nat → Int32} {x : Int32} (q : Hs h b N) (hi : i < 2) (r : hR h 513 i 0 = b + 1) (hL : RF h i (ordO N x (nt (N 6)) 6)) (hg : gl < nt (N 5)) : ∃ h', X9_headFor i (nI gl) h = some (none, h') ∧ Fr hfW h h' ∧ FoE h' i (toF N x gl) ∧ hI h' 516 i 0 = nI gl ∧ ∀ p, p < 12 → hI h' 2176 i p = -1 := by
  have a := q.1
  have hb := q.2.1
  obtain ⟨g1, g2, g3, g4, g5, g6⟩ := q.goal hg
  have h14 : nt (N 6) ≤ 14 := by
    obtain ⟨S, hS, h14, hSn, -⟩ := q.signs
    omega
  have hlen : (ordO N x (nt (N 6)) 6).length ≤ 14 := Nat.le_trans ordO_len h14
  have hmem : ∀ s ∈ ordO N x (nt (N 6)) 6, s < nt (N 6) := fun s hs => (ordO_mem hs).1
  -- the rows are emptied
  have f1 : Fr hfW h (pI h 516 i 0 (nI gl)) := Fr.rf.pI (by decide)
  have e2 : J7_fill_53178_32 (hR (pI h 516 i 0 (nI gl)) 517 i 0) (-1) (pI h 516 i 0 (nI gl)) = some (none, pFl (pI h 516 i 0 (nI gl)) 2048 i 0 12 (-1)) := by
    rw [sh_517 (h := pI h 516 i 0 (nI gl)) a i hi]
    exact J7_fill_53178_32_eq (ln_32 (h := pI h 516 i 0 (nI gl)) a i hi) (by decide)
  have e3 : J7_fill_53178_34 (hR (pFl (pI h 516 i 0 (nI gl)) 2048 i 0 12 (-1)) 519 i 0) (-1) (pFl (pI h 516 i 0 (nI gl)) 2048 i 0 12 (-1)) = some (none, pFl (pFl (pI h 516 i 0 (nI gl)) 2048 i 0 12 (-1)) 2176 i 0 12 (-1)) := by
    rw [sh_519 (h := pFl (pI h 516 i 0 (nI gl)) 2048 i 0 12 (-1)) a i hi]
    exact J7_fill_53178_34_eq (ln_34 (h := pFl (pI h 516 i 0 (nI gl)) 2048 i 0 12 (-1)) a i hi) (by decide)
  generalize hh3 : pFl (pFl (pI h 516 i 0 (nI gl)) 2048 i 0 12 (-1)) 2176 i 0 12 (-1) = h3 at e3
  have f3 : Fr hfW h h3 := by
    subst hh3
    refine ⟨fun c i' j hc _ => ?_, fun _ _ _ _ _ => rfl, fun _ _ _ => rfl, fun _ => Nat.le_refl _, fun _ => rfl⟩
    have n1 : c ≠ 2176 := fun e => by subst e; exact absurd hc (by decide)
    have n2 : c ≠ 2048 := fun e => by subst e; exact absurd hc (by decide)
    have n3 : c ≠ 516 := fun e => by subst e; exact absurd hc (by decide)
    rw [hI_pFl, if_neg (fun z => n1 z.1), hI_pFl, if_neg (fun z => n2 z.1), hI_pI, if_neg (fun z => n3 z.1)]
  have k1 : hI h3 516 i 0 = nI gl := by
    subst hh3
    rw [hI_pFl, if_neg (fun z => absurd z.1 (by decide)), hI_pFl, if_neg (fun z => absurd z.1 (by decide)), hI_pI, if_pos ⟨rfl, rfl, rfl⟩]
  have k2 : ∀ p, p < 12 → hI h3 2176 i p = -1 := fun p hp => by
    subst hh3
    rw [hI_pFl, if_pos ⟨rfl, rfl, by omega, hp⟩]
  have k3 : FoE h3 i (fun _ => none) := fun p hp => by
    refine ⟨?_, fun s a' e => by cases e⟩
    subst hh3
    rw [hI_pFl, if_neg (fun z => absurd z.1 (by decide)), hI_pFl, if_pos ⟨rfl, rfl, by omega, hp⟩]
    rfl
  have q3 := q.fr f3 (by decide +kernel) (by decide +kernel)
  have r3 : hR h3 513 i 0 = b + 1 := (f3.2.1 513 i 0 (by decide) (a.n8 hi)).trans r
  have L3 := hL.fr a hi f3 (by decide) (by decide)
  obtain ⟨h4, e4, f4, p4⟩ := X9_follow_eq q3 hi r3 L3 hlen hmem k3 (fun p v e => by cases e) (nI gl)
  have q4 := q3.fr f4 (by decide +kernel) (by decide +kernel)
  have a4 := q4.1
  have r4 : hR h4 513 i 0 = b + 1 := (f4.2.1 513 i 0 (by decide) (q3.1.n8 hi)).trans r3
  have L4 := L3.fr q3.1 hi f4 (by decide) (by decide)
  have c4 : hI h4 516 i 0 = nI gl := (f4.1 516 i 0 (by decide) (q3.1.n8 hi)).trans k1
  have t4 : ∀ p, p < 12 → hI h4 2176 i p = -1 := fun p hp => (f4.1 2176 i p (by decide) (q3.1.n34 hi)).trans (k2 p hp)
  have hfo1 : folF N (nI gl) (ordO N x (nt (N 6)) 6) (fun _ => none) = tlO N x (nI gl) := funext fun p => by
    rw [folF_at, fd_fol q]
    rfl
  rw [hfo1] at p4
  have e5 : hI h4 1088 b gl = N (136 + 2 * gl) := (q4.goal hg).2.2.2.1
  have f34 : Fr hfW h h4 := f3.tr (f4.sub (by decide))
  by_cases d : N (136 + 2 * gl) = -1
  · refine ⟨h4, ?_, f34, ?_, c4, t4⟩
    · unfold X9_headFor X9_headFor_g0 X9_headFor_f0
      rw [wr_eq, e2, cV_some, e3, cV_some, k1, e4, cV_some, nnE r4, nnE (sh_67 a4 b hb), ixE (ln_17 a4 b hb) c4 g6 (by decide), e5, if_pos d]
    · have : toF N x gl = tlO N x (nI gl) := funext fun p => by
        unfold toF
        rw [if_pos d]
        cases tlO N x (nI gl) p <;> rfl
      rw [this]
      exact p4
  · obtain ⟨h5, e6, f5, p5⟩ := X9_follow_eq q4 hi r4 L4 hlen hmem p4 (fun p v e => by have := (tlO_ok q e).1; omega) (10 + N (136 + 2 * gl))
    refine ⟨h5, ?_, f34.tr (f5.sub (by decide)), ?_, (f5.1 516 i 0 (by decide) (a4.n8 hi)).trans c4, fun p hp => (f5.1 2176 i p (by decide) (a4.n34 hi)).trans (t4 p hp)⟩
    · unfold X9_headFor X9_headFor_g0 X9_headFor_f0
      rw [wr_eq, e2, cV_some, e3, cV_some, k1, e4, cV_some, nnE r4, nnE (sh_67 a4 b hb), ixE (ln_17 a4 b hb) c4 g6 (by decide), e5, if_neg d, nnE r4, nnE (sh_67 a4 b hb), ixE (ln_17 a4 b hb) c4 g6 (by decide), e5, e6, cV_some]
    · have : toF N x gl = folF N (10 + N (136 + 2 * gl)) (ordO N x (nt (N 6)) 6) (tlO N x (nI gl)) := funext fun p => by
        rw [folF_at, fd_fol q]
        unfold toF
        rw [if_neg d]
        rfl
      rw [this]
      exact p5
/-! what is told, with signs that are only thought -/
def tdF (th : Nat → Option Nat) (to : Nat → Option (Nat × Nat)) (p : Nat) : Option (Option Nat × Nat) := match th p with
  | some d => some (none, d)
  | none => (to p).map (fun v => (some v.1, v.2))
/-- the model, when it is ready to walk -/
def MwE (h : PH) (N : Nat → Int32) (P : Nat → Bool) (x : Int32) (th : Nat → Option Nat) : Prop := AwE h N P ∧ (∀ s, s < nt (N 6) → hI h 3456 0 s = b2 (readB N x s)) ∧ ∀ p, p < 12 → (∀ d, th p = some d → (jshr (hI h 737 0 0) (nI p) &&& 1) = 1 ∧ hI h 3712 0 p = nI d ∧ d < 8) ∧ (th p = none → ¬ (jshr (hI h 737 0 0) (nI p) &&& 1) = 1 ∨ hI h 3712 0 p < 0)
theorem toldAt_eq {h g : PH} {b gl p : Nat} {N : Nat → Int32} {P : Nat → Bool} {x : Int32} {th : Nat → Option Nat} (q : MwE h N P x th) (hs : Hs g b N) (hg : gl < nt (N 5)) (hp : p < 12) : X12_toldAt 0 (nI p) (nI gl) h = some (some (.inl (oI ((tdF th (toF N x gl) p).map Prod.snd))), match tdF th (toF N x gl) p with | some (some s, _) => pI h 734 0 0 (nI s) | _ => h) := by
  obtain ⟨⟨a, hN, hP⟩, hrd, hth⟩ := q
  obtain ⟨g1, g2, g3, g4, g5, g6⟩ := hs.goal hg
  have fin : ∀ name s z, SH z → hI z 2624 0 = N → sgO N x p name = some s → X12_toldAt_g68 0 name (nI s) z = some (some (.inl (nI (sA N s (rwD N s name)))), pI z 734 0 0 (nI s)) := fun name s z az hz e => by
    obtain ⟨h1, h2, r, h3, h4, h5⟩ := sgO_mem hs e
    obtain ⟨-, -, -, s4, -, s6, -⟩ := hs.sign h1
    have az' : SH (pI z 734 0 0 (nI s)) := az
    have hz' : hI (pI z 734 0 0 (nI s)) 2624 0 = N := (funext fun j => hI_off z (by decide) _ _ _ _ _).trans hz
    unfold X12_toldAt_g68 X12_toldAt_f68
    rw [if_neg (nI_pos (show s < 2 ^ 31 by omega)), wr_eq, rowOf_eq az' hz' hs h1, cI_some, h3]
    show cI (X12_arrowAt 0 (nI s) (nI r) (pI z 734 0 0 (nI s))) _ = _
    rw [X12_arrowAt_eq az' s6 (show r < 6 by omega), cI_some, hz', (hs.row h1 h5).2.2.1, h4]
  have sec : X12_toldAt_g28 0 (nI p) (nI gl) h = some (some (.inl (oI ((toF N x gl p).map Prod.snd))), match toF N x gl p with | some v => pI h 734 0 0 (nI v.1) | none => h) := by
    have d1 : tlO N x (nI gl) p = (sgO N x p (nI gl)).map (fun s => (s, sA N s (rwD N s (nI gl)))) := rfl
    have d2 : tlO N x (10 + N (136 + 2 * gl)) p = (sgO N x p (10 + N (136 + 2 * gl))).map (fun s => (s, sA N s (rwD N s (10 + N (136 + 2 * gl))))) := rfl
    unfold X12_toldAt_g28 X12_toldAt_f28
    rw [signWith_eq a hN hs hp hrd, cI_some]
    cases e1 : sgO N x p (nI gl) with
    | some s =>
      obtain ⟨h1, -⟩ := sgO_mem hs e1
      obtain ⟨-, -, -, -, -, s6, -⟩ := hs.sign h1
      rw [e1] at d1
      have hto : toF N x gl p = some (s, sA N s (rwD N s (nI gl))) := by
        unfold toF
        rw [d1]
        rfl
      rw [if_neg (oI_pos (show s < 2 ^ 31 by omega)), hto]
      exact fin (nI gl) s h a hN e1
    | none =>
      rw [e1] at d1
      rw [if_pos (show oI none < 0 by decide), X12_groupOf_eq a g6, cI_some, hN]
      by_cases c : N (136 + 2 * gl) = -1
      · have hto : toF N x gl p = none := by
          unfold toF
          rw [d1, if_pos c]
          rfl
        rw [hto, if_pos (show N (136 + 2 * gl) < 0 by rw [c]; decide)]
        unfold X12_toldAt_g68 X12_toldAt_f68
        rw [if_pos (show oI none < 0 by decide)]
        rfl
      · have hge : ¬ N (136 + 2 * gl) < 0 := by
          have em : (-1 : Int32).toInt = -1 := by decide
          obtain ⟨r1, r2⟩ := g5
          rw [i_eq, em] at c
          rw [i_lt, i0]
          omega
        have hto : toF N x gl p = tlO N x (10 + N (136 + 2 * gl)) p := by
          unfold toF
          rw [d1, if_neg c]
          rfl
        rw [hto, if_neg hge, X12_groupOf_eq a g6, cI_some, hN, signWith_eq a hN hs hp hrd, cI_some]
        cases e2 : sgO N x p (10 + N (136 + 2 * gl)) with
        | none =>
          rw [e2] at d2
          rw [d2]
          unfold X12_toldAt_g68 X12_toldAt_f68
          rw [if_pos (show oI none < 0 by decide)]
          rfl
        | some s =>
          rw [e2] at d2
          rw [d2]
          exact fin (10 + N (136 + 2 * gl)) s h a hN e2
  obtain ⟨t1, t2⟩ := hth p hp
  unfold X12_toldAt X12_toldAt_g0 X12_toldAt_f0
  cases ct : th p with
  | some d =>
    obtain ⟨u1, u2, u3⟩ := t1 d ct
    have htd : tdF th (toF N x gl) p = some (none, d) := by
      unfold tdF
      rw [ct]
    rw [htd, if_pos u1, nnE (sh_738 a), ixE (ln_58 a) rfl hp (by decide), u2, if_neg (nI_pos (show d < 2 ^ 31 by omega)), nnE (sh_738 a), ixE (ln_58 a) rfl hp (by decide), u2]
    rfl
  | none =>
    have htd : tdF th (toF N x gl) p = (toF N x gl p).map (fun v => (some v.1, v.2)) := by
      unfold tdF
      rw [ct]
    have hres : some (some (Sum.inl (oI ((toF N x gl p).map Prod.snd))), match toF N x gl p with | some v => pI h 734 0 0 (nI v.1) | none => h) = (some (some (Sum.inl (oI ((tdF th (toF N x gl) p).map Prod.snd))), match tdF th (toF N x gl) p with | some (some s, _) => pI h 734 0 0 (nI s) | _ => h) : Option Rs) := by
      rw [htd]
      cases toF N x gl p <;> rfl
    rw [← hres, ← sec]
    by_cases c : (jshr (hI h 737 0 0) (nI p) &&& 1) = 1
    · rw [if_pos c, nnE (sh_738 a), ixE (ln_58 a) rfl hp (by decide)]
      rcases t2 ct with u | u
      · exact absurd c u
      · rw [if_pos u]
    · rw [if_neg c]
