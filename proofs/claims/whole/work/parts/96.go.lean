/-! a walk, and how the house's walker goes it -/
abbrev Wr : Type := Nat × Nat × Nat × Nat × Option Nat × (Nat → Nat)
def dirO (N : Nat → Int32) (P : Nat → Bool) (t : Option (Option Nat × Nat)) (c : Option Nat) (p : Nat) : Option Nat := match t with
  | some v => some v.2
  | none => match c with
    | some d => if (opO N P p d).isSome then some d else onlyO N P p (some ((d + 4) % 8))
    | none => onlyO N P p none
def folO (t : Option (Option Nat × Nat)) (fol : Option Nat) : Option Nat := match t with
  | some (some s, _) => some s
  | _ => fol
def updN (f : Nat → Nat) (k v : Nat) : Nat → Nat := fun j => if j = k then v else f j
def wkN (N : Nat → Int32) (P : Nat → Bool) (gp : Nat) (td : Nat → Option (Option Nat × Nat)) : Nat → Nat → Option Nat → Nat → Nat → Option Nat → List Nat → (Nat → Nat) → Wr
  | 0, p, _, mn, k, fol, _, path => (0, mn, k, p, fol, path)
  | n + 1, p, c, mn, k, fol, V, path => if p = gp then (1, mn, k, p, fol, path) else match dirO N P (td p) c p with
    | none => (2, mn, k, p, folO (td p) fol, path)
    | some d => match opO N P p d with
      | none => (2, mn, k, p, folO (td p) fol, path)
      | some w => if 8 * oe N w p + d ∈ V then (3, mn + wM N w, k + 1, oe N w p, folO (td p) fol, updN path (k + 1) (oe N w p)) else wkN N P gp td n (oe N w p) (some d) (mn + wM N w) (k + 1) (folO (td p) fol) ((8 * oe N w p + d) :: V) (updN path (k + 1) (oe N w p))
section
variable {N : Nat → Int32} {P : Nat → Bool} {gp : Nat} {td : Nat → Option (Option Nat × Nat)} {n p mn k : Nat} {c fol : Option Nat} {V : List Nat} {path : Nat → Nat}
theorem wk_arr (h : p = gp) : wkN N P gp td (n + 1) p c mn k fol V path = (1, mn, k, p, fol, path) := if_pos h
theorem wk_los (h : ¬ p = gp) (h2 : dirO N P (td p) c p = none ∨ ∃ d, dirO N P (td p) c p = some d ∧ opO N P p d = none) : wkN N P gp td (n + 1) p c mn k fol V path = (2, mn, k, p, folO (td p) fol, path) := by
  show (if p = gp then _ else _) = _
  rw [if_neg h]
  rcases h2 with e | ⟨d, e, e2⟩
  · rw [e]
  · rw [e]
    show (match opO N P p d with | none => _ | some w => _) = _
    rw [e2]
theorem wk_rnd {d w : Nat} (h : ¬ p = gp) (h2 : dirO N P (td p) c p = some d) (h3 : opO N P p d = some w) (h4 : 8 * oe N w p + d ∈ V) : wkN N P gp td (n + 1) p c mn k fol V path = (3, mn + wM N w, k + 1, oe N w p, folO (td p) fol, updN path (k + 1) (oe N w p)) := by
  show (if p = gp then _ else _) = _
  rw [if_neg h, h2]
  show (match opO N P p d with | none => _ | some w => _) = _
  rw [h3]
  exact if_pos h4
theorem wk_on {d w : Nat} (h : ¬ p = gp) (h2 : dirO N P (td p) c p = some d) (h3 : opO N P p d = some w) (h4 : ¬ 8 * oe N w p + d ∈ V) : wkN N P gp td (n + 1) p c mn k fol V path = wkN N P gp td n (oe N w p) (some d) (mn + wM N w) (k + 1) (folO (td p) fol) ((8 * oe N w p + d) :: V) (updN path (k + 1) (oe N w p)) := by
  show (if p = gp then _ else _) = _
  rw [if_neg h, h2]
  show (match opO N P p d with | none => _ | some w => _) = _
  rw [h3]
  exact if_neg h4
end
/-- a walker that is ready for a goal -/
def WkE (h : PH) (i b : Nat) (N : Nat → Int32) (P : Nat → Bool) (gl : Nat) (to : Nat → Option (Nat × Nat)) (th : Nat → Option Nat) : Prop :=
  RdE h i b N P ∧ hR h 513 i 0 = b + 1 ∧ hI h 516 i 0 = nI gl ∧ gl < nt (N 5) ∧ FoE h i to ∧ (∀ p v, to p = some v → v.1 < 14 ∧ v.2 < 8) ∧ (∀ p, p < 12 → hI h 2176 i p = oI (th p)) ∧ ∀ p d, th p = some d → d < 8
def wkCols : List Nat := 516 :: 2048 :: 2112 :: 2176 :: 1536 :: hsCols
def wkRefs : List Nat := 513 :: 193 :: hsRefs
theorem WkE.fr {W : List Nat × List Nat × Bool} {h h' : PH} {i b gl : Nat} {N : Nat → Int32} {P : Nat → Bool} {to : Nat → Option (Nat × Nat)} {th : Nat → Option Nat} (q : WkE h i b N P gl to th) (f : Fr W h h') (hw : wkCols.all (fun c => !W.1.contains c) = true) (hv : wkRefs.all (fun c => !W.2.1.contains c) = true) : WkE h' i b N P gl to th := by
  obtain ⟨q1, q2, q3, q4, q5, q6, q7, q8⟩ := q
  have a := q1.1.1
  have hi := q1.2.1
  refine ⟨q1.fr f ?_ ?_, ?_, ?_, q4, q5.fr a hi f (ninW hw (by decide +kernel)) (ninW hw (by decide +kernel)), q6, fun p hp => ?_, q8⟩
  · rw [List.all_eq_true] at hw ⊢
    exact fun c hc => hw c (List.mem_cons_of_mem _ (List.mem_cons_of_mem _ (List.mem_cons_of_mem _ (List.mem_cons_of_mem _ hc))))
  · rw [List.all_eq_true] at hv ⊢
    exact fun c hc => hv c (List.mem_cons_of_mem _ hc)
  · exact (f.2.1 513 i 0 (ninW hv (by decide +kernel)) (a.n8 hi)).trans q2
  · exact (f.1 516 i 0 (ninW hw (by decide +kernel)) (a.n8 hi)).trans q3
  · exact (f.1 2176 i p (ninW hw (by decide +kernel)) (a.n34 hi)).trans (q7 p hp)
theorem dirO_lt {N : Nat → Int32} {P : Nat → Bool} {t : Option (Option Nat × Nat)} {c : Option Nat} {p d : Nat} (ht : ∀ v, t = some v → v.2 < 8) (hc : ∀ e, c = some e → e < 8) (e : dirO N P t c p = some d) : d < 8 := by
  unfold dirO at e
  cases t with
  | some v => cases e; exact ht v rfl
  | none =>
    cases c with
    | none => exact onF_lt (fun _ h => by cases h) (by omega) e
    | some d' =>
      have e' : (if (opO N P p d').isSome then some d' else onlyO N P p (some ((d' + 4) % 8))) = some d := e
      by_cases c2 : (opO N P p d').isSome = true
      · rw [if_pos c2] at e'
        cases e'
        exact hc d rfl
      · rw [if_neg c2] at e'
        exact onF_lt (fun _ h => by cases h) (by omega) e'
theorem tdF_lt {th : Nat → Option Nat} {to : Nat → Option (Nat × Nat)} (h1 : ∀ p v, to p = some v → v.1 < 14 ∧ v.2 < 8) (h2 : ∀ p d, th p = some d → d < 8) {p : Nat} {v : Option Nat × Nat} (e : tdF th to p = some v) : v.2 < 8 ∧ ∀ s, v.1 = some s → s < 14 := by
  unfold tdF at e
  cases ct : th p with
  | some d =>
    rw [ct] at e
    cases e
    exact ⟨h2 p d ct, fun s hs => by cases hs⟩
  | none =>
    rw [ct] at e
    cases co : to p with
    | none => rw [co] at e; cases e
    | some w =>
      rw [co] at e
      cases e
      exact ⟨(h1 p w co).2, fun s hs => by cases hs; exact (h1 p w co).1⟩
def folH (h : PH) (i : Nat) (t : Option (Option Nat × Nat)) : PH := match t with
  | some (some s, _) => pI h 527 i 0 (nI s)
  | _ => h
theorem opposite_nI {d : Nat} (hd : d < 8) (h : PH) : X11_opposite (nI d) h = some (some (.inl (nI ((d + 4) % 8))), h) := by
  have : jrem (nI d + 4) 8 = nI ((d + 4) % 8) := by
    unfold jrem
    rw [show (4 : Int32) = nI 4 from rfl, show (8 : Int32) = nI 8 from rfl, nI_add]
    exact pk_rem (by omega) (by decide) (by decide)
  rw [X11_opposite_eq, this]
theorem directionFrom_eq {h : PH} {i b gl p : Nat} {N : Nat → Int32} {P : Nat → Bool} {to : Nat → Option (Nat × Nat)} {th : Nat → Option Nat} (q : WkE h i b N P gl to th) (hp : p < 12) (hh : hI h 526 i 0 = nI p) {c : Option Nat} (hc : ∀ e, c = some e → e < 8) : X9_directionFrom i (oI c) h = some (some (.inl (oI (dirO N P (tdF th to p) c p))), folH h i (tdF th to p)) := by
  obtain ⟨q1, q2, q3, q4, q5, q6, q7, q8⟩ := q
  have a := q1.1.1
  have hi := q1.2.1
  unfold X9_directionFrom X9_directionFrom_g0 X9_directionFrom_f0
  rw [nnE (sh_519 a i hi), ixE (ln_34 a i hi) hh hp (by decide), q7 p hp]
  cases ct : th p with
  | some d =>
    have hd := q8 p d ct
    have htd : tdF th to p = some (none, d) := by
      unfold tdF
      rw [ct]
    rw [if_neg (oI_ne (show d < 2 ^ 31 by omega)), nnE (sh_519 a i hi), ixE (ln_34 a i hi) hh hp (by decide), q7 p hp, ct, htd]
    rfl
  | none =>
    rw [if_pos (show oI none = -1 from rfl), nnE (sh_517 a i hi), ixE (ln_32 a i hi) hh hp (by decide), (q5 p hp).1]
    cases co : to p with
    | some v =>
      obtain ⟨s, ar⟩ := v
      have hv := q6 p (s, ar) co
      have htd : tdF th to p = some (some s, ar) := by
        unfold tdF
        rw [ct, co]
        rfl
      have hs14 : s < 14 := hv.1
      have har := (q5 p hp).2 s ar co
      have h1 : hI h 2048 i p = nI s := (q5 p hp).1.trans (by rw [co]; rfl)
      have a' : SH (pI h 527 i 0 (nI s)) := a
      have hh' : hI (pI h 527 i 0 (nI s)) 526 i 0 = nI p := (hI_off h (by decide) _ _ _ _ _).trans hh
      have har' : hI (pI h 527 i 0 (nI s)) 2112 i p = nI ar := (hI_off h (by decide) _ _ _ _ _).trans har
      rw [if_neg (show ¬ oI (Option.map Prod.fst (some (s, ar))) = -1 from oI_ne (show s < 2 ^ 31 by omega)), nnE (sh_517 a i hi), ixE (ln_32 a i hi) hh hp (by decide), h1, wr_eq, htd]
      show (nn (hR (pI h 527 i 0 (nI s)) 518 i 0) _) = _
      rw [nnE (sh_518 a' i hi), ixE (ln_33 a' i hi) hh' hp (by decide)]
      show some (some (Sum.inl (hI (pI h 527 i 0 (nI s)) 2112 i p)), pI h 527 i 0 (nI s)) = _
      rw [har']
      rfl
    | none =>
      have htd : tdF th to p = none := by
        unfold tdF
        rw [ct, co]
        rfl
      rw [if_pos (show oI (Option.map Prod.fst none) = -1 from rfl), htd]
      cases c with
      | none =>
        rw [nnE (sh_512 a i hi), show oI none = (-1 : Int32) from rfl, openWay_no q1, cI_some, if_pos rfl, if_pos rfl]
        unfold X9_directionFrom_g91 X9_directionFrom_f91
        have := onlyDirection_eq q1 hp hh (bk := none) (fun _ h => by cases h)
        rw [show (-1 : Int32) = oI none from rfl, this, cI_some]
        rfl
      | some d =>
        have hd := hc d rfl
        have h20 := q1.1.n20
        rw [nnE (sh_512 a i hi), hh]
        show cI (X4_openWay i (nI p) (nI d) h) _ = _
        rw [openWay_eq q1 hp hd, cI_some]
        cases cw : opO N P p d with
        | none =>
          rw [if_pos (show oI none = -1 from rfl), if_neg (oI_ne (show d < 2 ^ 31 by omega))]
          show cI (X11_opposite (nI d) h) _ = _
          rw [opposite_nI hd, cI_some]
          unfold X9_directionFrom_g91 X9_directionFrom_f91
          have := onlyDirection_eq q1 hp hh (bk := some ((d + 4) % 8)) (fun e h => by cases h; omega)
          rw [show nI ((d + 4) % 8) = oI (some ((d + 4) % 8)) from rfl, this, cI_some]
          show _ = some (some (Sum.inl (oI (if (opO N P p d).isSome then some d else onlyO N P p (some ((d + 4) % 8))))), h)
          rw [cw]
          rfl
        | some w =>
          have hw := (opO_lt cw).1
          rw [if_neg (oI_ne (show w < 2 ^ 31 by omega))]
          show _ = some (some (Sum.inl (oI (if (opO N P p d).isSome then some d else onlyO N P p (some ((d + 4) % 8))))), h)
          rw [cw]
          rfl
