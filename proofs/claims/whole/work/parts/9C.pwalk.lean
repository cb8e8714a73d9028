/-! pairs: walk and via -/
theorem wk_fol {N : Nat → Int32} {P : Nat → Bool} {gp : Nat} {td : Nat → Option (Option Nat × Nat)} (htd : ∀ p v s, td p = some v → v.1 = some s → s < 14) : ∀ n p c mn k fol V path, (∀ s, fol = some s → s < 14) → ∀ s, (wkN N P gp td n p c mn k fol V path).2.2.2.2.1 = some s → s < 14 := by
  intro n
  have hf : ∀ p fol, (∀ s, fol = some s → s < 14) → ∀ s, folO (td p) fol = some s → s < 14 := fun p fol h s e => by
    cases ct : td p with
    | none => rw [ct] at e; exact h s e
    | some v =>
      obtain ⟨o, d⟩ := v
      cases o with
      | none => rw [ct] at e; exact h s e
      | some z => rw [ct] at e; cases e; exact htd p _ s ct rfl
  induction n with
  | zero => intro p c mn k fol V path h s e; exact h s e
  | succ n ih =>
    intro p c mn k fol V path h s e
    by_cases cg : p = gp
    · rw [wk_arr cg] at e; exact h s e
    · cases cd : dirO N P (td p) c p with
      | none => rw [wk_los cg (Or.inl cd)] at e; exact hf p fol h s e
      | some d =>
        cases cw : opO N P p d with
        | none => rw [wk_los cg (Or.inr ⟨d, cd, cw⟩)] at e; exact hf p fol h s e
        | some w =>
          by_cases cm : 8 * oe N w p + d ∈ V
          · rw [wk_rnd cg cd cw cm] at e; exact hf p fol h s e
          · rw [wk_on cg cd cw cm] at e; exact ih _ _ _ _ _ _ _ (hf p fol h) s e
def woW : List Nat × List Nat × Bool := ([515, 1536, 1920, 1984, 516, 2048, 2112, 2176, 521, 523, 524, 525, 526, 527, 2240, 2304], [193, 513], false)
def noT : Nat → Option Nat := fun _ => none
/-- a walk without thought signs -/
def wkP (N : Nat → Int32) (x : Int32) (gl p : Nat) : Wr := wkR N (fun v => passB N v x) gl (tdF noT (toF N x gl)) p
theorem wkP_fol {h : PH} {b : Nat} {N : Nat → Int32} (q : Hs h b N) {x : Int32} {gl p s : Nat} (e : (wkP N x gl p).2.2.2.2.1 = some s) : s < nt (N 6) := by
  have h14 : nt (N 6) ≤ 14 := by
    obtain ⟨S, hS, h14, hSn, -⟩ := q.signs
    omega
  have gen : ∀ n p c mn k fol V path, (∀ s, fol = some s → s < nt (N 6)) → ∀ s, (wkN N (fun v => passB N v x) (gP N gl) (tdF noT (toF N x gl)) n p c mn k fol V path).2.2.2.2.1 = some s → s < nt (N 6) := by
    intro n
    have hf : ∀ p fol, (∀ s, fol = some s → s < nt (N 6)) → ∀ s, folO (tdF noT (toF N x gl) p) fol = some s → s < nt (N 6) := fun p fol h s e => by
      unfold tdF noT at e
      cases ct : toF N x gl p with
      | none =>
        simp only [ct] at e
        exact h s e
      | some v =>
        simp only [ct] at e
        cases e
        exact (toF_ok q ct).1
    induction n with
    | zero => intro p c mn k fol V path h s e; exact h s e
    | succ n ih =>
      intro p c mn k fol V path h s e
      by_cases cg : p = gP N gl
      · rw [wk_arr cg] at e; exact h s e
      · cases cd : dirO N (fun v => passB N v x) (tdF noT (toF N x gl) p) c p with
        | none => rw [wk_los cg (Or.inl cd)] at e; exact hf p fol h s e
        | some d =>
          cases cw : opO N (fun v => passB N v x) p d with
          | none => rw [wk_los cg (Or.inr ⟨d, cd, cw⟩)] at e; exact hf p fol h s e
          | some w =>
            by_cases cm : 8 * oe N w p + d ∈ V
            · rw [wk_rnd cg cd cw cm] at e; exact hf p fol h s e
            · rw [wk_on cg cd cw cm] at e; exact ih _ _ _ _ _ _ _ (hf p fol h) s e
  exact gen 60 p none 0 0 none [] (fun _ => p) (fun s e => by cases e) s e
theorem walk_go {h : PH} {b i gl p cn : Nat} {N : Nat → Int32} {x : Int32} (q : Hs h b N) (hi : i < 2) (r : hR h 513 i 0 = b + 1) (d : RdE h i b N (fun v => passB N v x)) (hL : RF h i (ordO N x (nt (N 6)) 6)) (hg : gl < nt (N 5)) (hp : p < nt (N 3)) (hc : WcE h i cn) (hcn : cn + 1 < 2 ^ 31) : ∃ h1 h2, X9_headFor i (nI gl) h = some (none, h1) ∧ X9_go i (nI p) h1 = some (some (.inl (nI (wkP N x gl p).1)), h2) ∧ Fr hfW h h1 ∧ Fr goW h1 h2 ∧ OthE h h2 i ∧ WfE h2 i (cn + 1) (wkP N x gl p) := by
  have a := q.1
  have h14 : nt (N 6) ≤ 14 := by
    obtain ⟨S, hS, h14, hSn, -⟩ := q.signs
    omega
  obtain ⟨h1, e1, f1, p1, c1, t1⟩ := X9_headFor_eq q hi r hL hg
  have d1 := d.fr f1 (by decide +kernel) (by decide +kernel)
  have r1 : hR h1 513 i 0 = b + 1 := (f1.2.1 513 i 0 (by decide) (a.n8 hi)).trans r
  have wk1 : WkE h1 i b N (fun v => passB N v x) gl (toF N x gl) noT := ⟨d1, r1, c1, hg, p1, fun p v hv => ⟨by have := (toF_ok q hv).1; omega, (toF_ok q hv).2⟩, fun p hp => t1 p hp, fun p d e => by cases e⟩
  have c1' : WcE h1 i cn := ⟨(f1.1 521 i 0 (by decide) (a.n8 hi)).trans hc.1, fun j hj => by
    obtain ⟨c', z1, z2⟩ := hc.2 j hj
    exact ⟨c', z1, (f1.1 2240 i j (by decide) (a.n35 hi)).trans z2⟩⟩
  obtain ⟨h2, e2, f2, o2, w2⟩ := X9_go_eq wk1 c1' hcn hp
  exact ⟨h1, h2, e1, e2, f1, f2, (OthE.fr a f1 (by decide) (by decide)).tr o2, w2⟩
theorem walkOf_eq {h : PH} {i gl p cn : Nat} {N : Nat → Int32} {x : Int32} (q : Hs h 0 N) (hi : i < 2) (hx : hI h 192 i 0 = x) (hg : gl < nt (N 5)) (hp : p < nt (N 3)) (hc : WcE h i cn) (hcn : cn + 1 < 2 ^ 31) : ∃ h', X11_walkOf 0 (nI p) (nI gl) (nI i) h = some (some (.inr (8, i + 1)), h') ∧ Fr woW h h' ∧ OthE h h' i ∧ WfE h' i (cn + 1) (wkP N x gl p) := by
  have a := q.1
  obtain ⟨h1, e1, f1, r1, d1, L1⟩ := X9_enter_eq q hi hx
  have c1 : WcE h1 i cn := ⟨(f1.1 521 i 0 (by decide) (a.n8 hi)).trans hc.1, fun j hj => by
    obtain ⟨c', z1, z2⟩ := hc.2 j hj
    exact ⟨c', z1, (f1.1 2240 i j (by decide) (a.n35 hi)).trans z2⟩⟩
  obtain ⟨h2, h3, e2, e3, f2, f3, o3, w3⟩ := walk_go d1.1 hi r1 d1 L1 hg hp c1 hcn
  refine ⟨h3, ?_, ((f1.sub (by decide)).tr (f2.sub (by decide))).tr (f3.sub (by decide)), (OthE.fr a f1 (by decide) (by decide)).tr o3, w3⟩
  unfold X11_walkOf X11_walkOf_g0 X11_walkOf_f0
  rw [nnE (sh_643 a), ixE (ln_37 a) rfl hi (by decide), nnE (sh_2368 a i hi), sh_640 a, e1, cV_some, nnE (sh_2368 a i hi), e2, cV_some, nnE (sh_2368 a i hi), e3, cI_some, sh_2368 a i hi]
/-- the walkers' numbers after a walk -/
theorem Wlk.walk {m i cn k : Nat} {h h' : PH} (q : Wlk m h) (o : OthE h h' i) (hx : ∀ i', i' < 2 → hI h' 192 i' 0 = hI h 192 i' 0) (w : WcE h' i cn) (hcn : cn ≤ 1000 * m + k) (hk : k ≤ 1000) : Wlk (m + 1) h' := fun i' hi' => by
  obtain ⟨q1, c, q2, q3, q4⟩ := q i' hi'
  refine ⟨(hx i' hi').trans q1, ?_⟩
  by_cases e : i' = i
  · subst e
    exact ⟨cn, by omega, w.1, w.2⟩
  · refine ⟨c, by omega, (o i' hi' e 0).1.trans q3, fun j hj => ?_⟩
    rw [(o i' hi' e j).2]
    exact q4 j hj
theorem X12_walk_ready {h g : PH} {b : Nat} (a : SH h) (q : Hs g b (hI h 2624 0)) (x : Int32) : ∃ h1, X12_looks 0 x h = some (none, h1) ∧ MwE (pI h1 737 0 0 0) (hI h 2624 0) (fun v => passB (hI h 2624 0) v x) x noT ∧ Fr ([3264, 3328, 3392, 3456, 737], [], false) h (pI h1 737 0 0 0) := by
  obtain ⟨h1, e1, f1, p1, p2⟩ := X12_looks_eq a q x
  have f1' : Fr ([3264, 3328, 3392, 3456, 737], [], false) h (pI h1 737 0 0 0) := (f1.sub (by decide)).pI (by decide)
  refine ⟨h1, e1, ⟨⟨a.fr f1' (by decide), now_fr a f1' (by decide), fun v hv => (hI_off h1 (by decide) _ _ _ _ _).trans (p1 v hv)⟩, fun s hs => (hI_off h1 (by decide) _ _ _ _ _).trans (p2 s hs), fun p hp => ⟨fun d e => (by cases e), fun _ => Or.inl ?_⟩⟩, f1'⟩
  have e0 : hI (pI h1 737 0 0 0) 737 0 0 = 0 := by rw [hI_pI, if_pos ⟨rfl, rfl, rfl⟩]
  rw [e0]
  have : ∀ p, p < 12 → ¬ (jshr 0 (nI p) &&& 1) = 1 := by decide
  exact this p hp
