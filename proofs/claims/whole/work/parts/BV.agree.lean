/-! a walk does not ask who was led astray -/
theorem op_ag {N N' : Nat → Int32} {P P' : Nat → Bool} (h20 : nt (N 4) ≤ 20) (e : ∀ j, j < 155 → N' j = N j) (hP : ∀ v, v < nt (N 4) → P' v = P v) (p d : Nat) : opO N' P' p d = opO N P p d := by
  have e1 : wO N' p d = wO N p d := by
    unfold wO
    rw [e 4 (by omega), wfO_cong _ 0 (by omega) e]
  unfold opO
  rw [e1]
  cases c : wO N p d with
  | none => rfl
  | some w =>
    show (if P' w = true then some w else none) = (if P w = true then some w else none)
    rw [hP w (wO_lt c)]
theorem on_ag {N N' : Nat → Int32} {P P' : Nat → Bool} (ho : ∀ p d, opO N' P' p d = opO N P p d) (p : Nat) (bk : Option Nat) : ∀ k d f, onF N' P' p bk k d f = onF N P p bk k d f := by
  intro k
  induction k with
  | zero => intro d f; rfl
  | succ k ih =>
    intro d f
    show (if bk = some d then onF N' P' p bk k (d + 1) f else match opO N' P' p d with | none => onF N' P' p bk k (d + 1) f | some _ => match f with | none => onF N' P' p bk k (d + 1) (some d) | some _ => none) = (if bk = some d then onF N P p bk k (d + 1) f else match opO N P p d with | none => onF N P p bk k (d + 1) f | some _ => match f with | none => onF N P p bk k (d + 1) (some d) | some _ => none)
    rw [ho, ih, ih]
theorem dir_ag {N N' : Nat → Int32} {P P' : Nat → Bool} (ho : ∀ p d, opO N' P' p d = opO N P p d) (t : Option (Option Nat × Nat)) (c : Option Nat) (p : Nat) : dirO N' P' t c p = dirO N P t c p := by
  cases t with
  | some v => rfl
  | none =>
    cases c with
    | none =>
      show onF N' P' p none 8 0 none = onF N P p none 8 0 none
      exact on_ag ho p none 8 0 none
    | some d =>
      show (if (opO N' P' p d).isSome then some d else onF N' P' p (some ((d + 4) % 8)) 8 0 none) = (if (opO N P p d).isSome then some d else onF N P p (some ((d + 4) % 8)) 8 0 none)
      rw [ho, on_ag ho]
theorem wkN_ag {N N' : Nat → Int32} {P P' : Nat → Bool} (h20 : nt (N 4) ≤ 20) (e : ∀ j, j < 155 → N' j = N j) (ho : ∀ p d, opO N' P' p d = opO N P p d) (gp : Nat) (td : Nat → Option (Option Nat × Nat)) : ∀ n p c mn k fol V path, wkN N' P' gp td n p c mn k fol V path = wkN N P gp td n p c mn k fol V path := by
  intro n
  induction n with
  | zero => intro p c mn k fol V path; rfl
  | succ n ih =>
    intro p c mn k fol V path
    have hd := dir_ag ho (td p) c p
    by_cases h1 : p = gp
    · rw [wk_arr h1, wk_arr h1]
    · cases h2 : dirO N P (td p) c p with
      | none => rw [wk_los h1 (Or.inl h2), wk_los h1 (Or.inl (hd.trans h2))]
      | some d =>
        have hd2 := hd.trans h2
        cases h3 : opO N P p d with
        | none => rw [wk_los h1 (Or.inr ⟨d, h2, h3⟩), wk_los h1 (Or.inr ⟨d, hd2, (ho p d).trans h3⟩)]
        | some w =>
          have h3' := (ho p d).trans h3
          have hw := (opO_lt h3).1
          have eo : oe N' w p = oe N w p := by
            unfold oe wA wB
            rw [e (15 + 6 * w) (by omega), e (16 + 6 * w) (by omega)]
          have em : wM N' w = wM N w := by
            unfold wM
            rw [e (19 + 6 * w) (by omega)]
          by_cases h4 : 8 * oe N w p + d ∈ V
          · rw [wk_rnd h1 h2 h3 h4, wk_rnd h1 hd2 h3' (by rw [eo]; exact h4), eo, em]
          · rw [wk_on h1 h2 h3 h4, wk_on h1 hd2 h3' (by rw [eo]; exact h4), eo, em]
            exact ih _ _ _ _ _ _ _
theorem to_ag {N N' : Nat → Int32} (ag : AgS N N') (h8 : nt (N 8) ≤ 14) (x : Int32) {gl : Nat} (hg : gl < 10) : toF N' x gl = toF N x gl := by
  have eP : sP N' = sP N := funext fun s => by
    unfold sP
    rw [ag (155 + 5 * s) (by omega) (by omega)]
  have eR : sR N' = sR N := funext fun s => by
    unfold sR
    rw [ag (157 + 5 * s) (by omega) (by omega)]
  have eA : sA N' = sA N := funext fun s => funext fun r => by
    unfold sA
    rw [ag (226 + 12 * s + 2 * r) (by omega) (by omega)]
  have eF : ∀ s name k r, frF N' s name k r = frF N s name k r := by
    intro s name k
    induction k with
    | zero => intro r; rfl
    | succ k ih =>
      intro r
      rw [frF_s, frF_s, ag (225 + 12 * s + 2 * r) (by omega) (by omega), ih]
  have eO : frO N' = frO N := funext fun s => funext fun name => by
    unfold frO
    rw [eR, eF]
  have eC : ∀ p name s, sgC N' x p name s = sgC N x p name s := fun p name s => by
    unfold sgC
    rw [eP, eO, ag_read ag h8]
  have eB : ∀ s best, sgB N' s best = sgB N s best := fun s best => by
    cases best with
    | none => rfl
    | some t =>
      show decide (seenK (N' (156 + 5 * t)) < seenK (N' (156 + 5 * s))) = decide (seenK (N (156 + 5 * t)) < seenK (N (156 + 5 * s)))
      rw [ag (156 + 5 * t) (by omega) (by omega), ag (156 + 5 * s) (by omega) (by omega)]
  have eG : ∀ p name k s best, sgF N' x p name k s best = sgF N x p name k s best := by
    intro p name k
    induction k with
    | zero => intro s best; rfl
    | succ k ih =>
      intro s best
      show sgF N' x p name k (s + 1) (bif sgC N' x p name s && sgB N' s best then some s else best) = sgF N x p name k (s + 1) (bif sgC N x p name s && sgB N s best then some s else best)
      rw [eC, eB, ih]
  have eT : ∀ name p, tlO N' x name p = tlO N x name p := fun name p => by
    unfold tlO sgO rwD
    rw [ag 6 (by omega) (by omega), eG, eA, eO]
  funext p
  unfold toF
  rw [ag (136 + 2 * gl) (by omega) (by omega), eT, eT]
theorem wkP_ag {g : PH} {b : Nat} {N N' : Nat → Int32} (q : Hs g b N) (ag : AgS N N') (e0 : N' 0 = N 0) (x : Int32) {gl p : Nat} (hg : gl < nt (N 5)) : wkP N' x gl p = wkP N x gl p := by
  have h8 := q.n8
  have h20 := q.n20
  obtain ⟨-, -, -, -, -, g6⟩ := q.goal hg
  have e : ∀ j, j < 155 → N' j = N j := fun j hj => by
    by_cases c : j = 0
    · rw [c, e0]
    · exact ag j c (by omega)
  have eg : gP N' gl = gP N gl := by
    unfold gP
    rw [ag (135 + 2 * gl) (by omega) (by omega)]
  have ho := op_ag (P := fun v => passB N v x) (P' := fun v => passB N' v x) h20 e (fun v hv => ag_pass ag h8 (by omega) x)
  unfold wkP wkR
  rw [to_ag ag h8 x g6, eg]
  exact wkN_ag h20 e ho _ _ _ _ _ _ _ _ _ _
theorem stR_ag {g : PH} {b : Nat} {N N' : Nat → Int32} (q : Hs g b N) (ag : AgS N N') (e0 : N' 0 = N 0) (hg : 0 < nt (N 5)) : stR N' = stR N := by
  have eP : stP N' = stP N := by
    unfold stP
    rw [e0, ag 3 (by omega) (by omega)]
  have eG : stG N' = stG N := by
    unfold stG
    rw [e0, ag 5 (by omega) (by omega)]
  have eX : stX N' = stX N := by
    unfold stX
    rw [e0]
  have ag2 : AgS (stN N) (stN N') := fun j h1 h2 => by rw [stN_at N' h1, stN_at N h1, ag j h1 h2]
  have e2 : stN N' 0 = stN N 0 := by
    show lcg (lcg (lcg (N' 0))) = lcg (lcg (lcg (N 0)))
    rw [e0]
  have hg' : stG N < nt (stN N 5) := by
    rw [stN_at N (by omega)]
    exact drw_lt _ hg
  show wkP (stN N') (nI (stX N')) (stG N') (stP N') = wkP (stN N) (nI (stX N)) (stG N) (stP N)
  rw [eP, eG, eX]
  exact wkP_ag q.toN ag2 e2 _ hg'
