theorem folM_fr {W : List Nat × List Nat × Bool} {h0 h : PH} (f : Fr W h0 h) (hw : W.1.contains 734 = true) (t : Option (Option Nat × Nat)) : Fr W h0 (folM h t) := by
  unfold folM
  split
  · exact f.pI hw
  · exact f
theorem folM_731 (h : PH) (t : Option (Option Nat × Nat)) : hI (folM h t) 731 0 0 = hI h 731 0 0 := by
  unfold folM
  split
  · exact hI_off h (by decide) _ _ _ _ _
  · rfl
/-- how one came: a direction and a way belong together -/
def cmE (N : Nat → Int32) (c by' : Option Nat) (p : Nat) : Prop := (c = none ∧ by' = none) ∨ ∃ d w p', c = some d ∧ by' = some w ∧ d < 8 ∧ p' < 12 ∧ wO N p' d = some w ∧ p = oe N w p'
theorem only_same {h : PH} {b : Nat} {N : Nat → Int32} {P : Nat → Bool} (q : Hs h b N) {c by' : Option Nat} {p : Nat} (hc : cmE N c by' p) : omF N P p by' 8 0 none 0 = onlyO N P p (c.map (fun d => (d + 4) % 8)) := by
  refine om_on (fun e v he hv => ?_) 8 0 none 0 (by omega) (Or.inl ⟨rfl, rfl⟩)
  rcases hc with ⟨rfl, rfl⟩ | ⟨d, w, p', rfl, rfl, hd, hp', hw, rfl⟩
  · exact ⟨fun z => (by cases z), fun z => (by cases z)⟩
  · have hb := way_back q hp' hd hw he (opO_lt hv).2.1
    refine ⟨fun z => ?_, fun z => ?_⟩
    · cases z
      show some ((d + 4) % 8) = some e
      rw [hb.mp rfl]
    · have z' : some ((d + 4) % 8) = some e := z
      cases z'
      rw [hb.mpr rfl]
theorem toldAt_M {h g : PH} {b gl p : Nat} {N : Nat → Int32} {P : Nat → Bool} {x : Int32} {th : Nat → Option Nat} (q : MwE h N P x th) (hs : Hs g b N) (hg : gl < nt (N 5)) (hp : p < 12) : X12_toldAt 0 (nI p) (nI gl) h = some (some (.inl (oI ((tdF th (toF N x gl) p).map Prod.snd))), folM h (tdF th (toF N x gl) p)) := by
  rw [toldAt_eq q hs hg hp]
  cases tdF th (toF N x gl) p with
  | none => rfl
  | some v =>
    obtain ⟨o, d⟩ := v
    cases o <;> rfl
theorem td_lt {th : Nat → Option Nat} {to : Nat → Option (Nat × Nat)} {p : Nat} (h1 : ∀ v, to p = some v → v.2 < 8) (h2 : ∀ d, th p = some d → d < 8) {v : Option Nat × Nat} (e : tdF th to p = some v) : v.2 < 8 := by
  unfold tdF at e
  cases ct : th p with
  | some d =>
    rw [ct] at e
    cases e
    exact h2 d ct
  | none =>
    rw [ct] at e
    cases co : to p with
    | none => rw [co] at e; cases e
    | some w =>
      rw [co] at e
      cases e
      exact h1 w co
section
variable {h g : PH} {b gl p : Nat} {N : Nat → Int32} {P : Nat → Bool} {x : Int32} {th : Nat → Option Nat} {c by' : Option Nat} {G : (Nat → Int32 → Int32 → Int32 → PH → Option Rs) × (Nat → Int32 → Int32 → Int32 → Int32 → PH → Option Rs)}
theorem mw_head (q : MwE h N P x th) (hs : Hs g b N) (hg : gl < nt (N 5)) (hp : p < nt (N 3)) (h0 : hI h 731 0 0 = nI 0) (hc : cmE N c by' p) (hby : ∀ e, by' = some e → e < 2 ^ 31) : X12_walks_g56 G 0 (nI gl) (nI p) (oI c) (oI by') h = if p = gP N gl then some (none, pI h 731 0 0 1) else X12_walks_g120 G 0 (nI gl) (nI p) (oI (dirO N P (tdF th (toF N x gl) p) c p)) (folM h (tdF th (toF N x gl) p)) := by
  have q0 := q
  obtain ⟨⟨a, hN, hP⟩, hrd, hth⟩ := q
  have n12 := hs.n12
  have h20 := hs.n20
  obtain ⟨g1, g2, g3, g4, g5, g6⟩ := hs.goal hg
  unfold X12_walks_g56 X12_walks_f56
  rw [h0, if_pos (show nI 0 = 0 from rfl), X12_placeOf_eq a g6, cI_some, hN, g1]
  by_cases cg : p = gP N gl
  · rw [if_pos cg, if_pos (by rw [cg]), wr_eq]
  · rw [if_neg cg, if_neg (fun z => cg ((nI_eq (by omega) (by omega)).mp z).symm), toldAt_M q0 hs hg (by omega), cI_some]
    cases ct : tdF th (toF N x gl) p with
    | some v =>
      have hv : v.2 < 8 := td_lt (fun v hv => (toF_ok hs hv).2) (fun d hd => ((hth p (by omega)).1 d hd).2.2) ct
      rw [if_neg (show ¬ oI (Option.map Prod.snd (some v)) < 0 from oI_pos (show v.2 < 2 ^ 31 by omega))]
      rfl
    | none =>
      rw [if_pos (show oI (Option.map Prod.snd (none : Option (Option Nat × Nat))) < 0 from (by decide : (-1 : Int32) < 0))]
      have hfn : folM h none = h := rfl
      have g111 : X12_walks_g111 G 0 (nI gl) (nI p) (oI by') h = X12_walks_g120 G 0 (nI gl) (nI p) (oI (onlyO N P p (c.map (fun d => (d + 4) % 8)))) h := by
        unfold X12_walks_g111 X12_walks_f111
        rw [onlyFrom_eq q0.1 hs p hby, cI_some, only_same hs hc]
        rfl
      rw [hfn]
      cases c with
      | none =>
        rw [if_pos (show oI none < 0 by decide), g111]
        rfl
      | some d =>
        have hd : d < 8 := by
          rcases hc with ⟨z, -⟩ | ⟨d', w, p', z, -, hd', -⟩
          · cases z
          · cases z; exact hd'
        rw [if_neg (oI_pos (show d < 2 ^ 31 by omega))]
        show cI (X12_passFrom 0 (nI p) (nI d) h) _ = _
        rw [passFrom_eq q0.1 hs, cI_some]
        cases cw : opO N P p d with
        | none =>
          rw [if_pos (show oI none < 0 by decide), g111]
          show _ = X12_walks_g120 G 0 (nI gl) (nI p) (oI (if (opO N P p d).isSome then some d else onlyO N P p (some ((d + 4) % 8)))) h
          rw [cw]
          rfl
        | some w =>
          have hw := (opO_lt cw).1
          rw [if_neg (oI_pos (show w < 2 ^ 31 by omega))]
          show _ = X12_walks_g120 G 0 (nI gl) (nI p) (oI (if (opO N P p d).isSome then some d else onlyO N P p (some ((d + 4) % 8)))) h
          rw [cw]
          rfl
end
theorem mw_end {h : PH} {e : Nat} (he : hI h 731 0 0 = nI e) (h1 : 0 < e) (h2 : e < 4) (G : (Nat → Int32 → Int32 → Int32 → PH → Option Rs) × (Nat → Int32 → Int32 → Int32 → Int32 → PH → Option Rs)) (y1 y2 y3 y4 : Int32) : X12_walks_g56 G 0 y1 y2 y3 y4 h = some (none, h) := by
  unfold X12_walks_g56 X12_walks_f56
  rw [he, if_neg (nI_ne0 h1 (by omega))]
section
variable {h g : PH} {b gl p : Nat} {N : Nat → Int32} {P : Nat → Bool} {x : Int32} {th : Nat → Option Nat} {G : (Nat → Int32 → Int32 → Int32 → PH → Option Rs) × (Nat → Int32 → Int32 → Int32 → Int32 → PH → Option Rs)}
theorem mw_lost (q : MwE h N P x th) (hs : Hs g b N) {o : Option Nat} (ho : o = none ∨ ∃ d, o = some d ∧ d < 8 ∧ opO N P p d = none) : X12_walks_g120 G 0 (nI gl) (nI p) (oI o) h = some (none, pI h 731 0 0 2) := by
  have fin : ∀ y, X12_walks_g136 G 0 (nI gl) (nI p) y (-1) h = some (none, pI h 731 0 0 2) := fun y => by
    unfold X12_walks_g136 X12_walks_f136
    rw [if_pos (by decide), wr_eq]
  unfold X12_walks_g120 X12_walks_f120
  rcases ho with rfl | ⟨d, rfl, hd, e⟩
  · rw [if_pos (show oI none < 0 by decide)]
    exact fin _
  · rw [if_neg (oI_pos (show d < 2 ^ 31 by omega))]
    show cI (X12_passFrom 0 (nI p) (nI d) h) _ = _
    rw [passFrom_eq q.1 hs, cI_some, e]
    exact fin _
theorem mw_on (q : MwE h N P x th) (hs : Hs g b N) (hp : p < 12) {mn k : Nat} {fol : Option Nat} {V : List Nat} {path : Nat → Nat} (w : MsE h mn k fol V path) (hk : k < 60) {d v : Nat} (hd : d < 8) (e : opO N P p d = some v) : X12_walks_g120 G 0 (nI gl) (nI p) (nI d) h = G.2 0 (nI gl) (nI (oe N v p)) (nI d) (nI v) (pI (pI (mtH h (oe N v p) (mn + wM N v) (k + 1)) 731 0 0 (bif decide (8 * oe N v p + d ∈ V) then 3 else 0)) 3648 0 (8 * oe N v p + d) 1) := by
  obtain ⟨⟨a, hN, hP⟩, -, -⟩ := q
  obtain ⟨w1, w2, w3, w4, w5⟩ := w
  have n12 := hs.n12
  have h20 := hs.n20
  have hv := (opO_lt e).1
  have ho := hs.oeL hv p
  obtain ⟨-, -, -, v4, -⟩ := hs.way hv
  have x0 : (15 : Int32) + 6 * nI v = nI (15 + 6 * v) := by rw [show (15 : Int32) = nI 15 from rfl, show (6 : Int32) = nI 6 from rfl, nI_mul, nI_add]
  have x4 : nI (15 + 6 * v) + 4 = nI (19 + 6 * v) := by rw [show (4 : Int32) = nI 4 from rfl, nI_add]; congr 1; omega
  have a24 : SH (pI h 732 0 0 (nI (mn + wM N v))) := a
  have N24 : hI (pI h 732 0 0 (nI (mn + wM N v))) 2624 0 = N := (funext fun j => hI_off h (by decide) _ _ _ _ _).trans hN
  have c24 : hI (pI h 732 0 0 (nI (mn + wM N v))) 733 0 0 = nI k := (hI_off h (by decide) _ _ _ _ _).trans w2
  have a27 : SH (pI (pI h 732 0 0 (nI (mn + wM N v))) 733 0 0 (nI (k + 1))) := a
  have c27 : hI (pI (pI h 732 0 0 (nI (mn + wM N v))) 733 0 0 (nI (k + 1))) 733 0 0 = nI (k + 1) := by rw [hI_pI, if_pos ⟨rfl, rfl, rfl⟩]
  have a30 : SH (mtH h (oe N v p) (mn + wM N v) (k + 1)) := a
  have c30 : hI (mtH h (oe N v p) (mn + wM N v) (k + 1)) 3648 0 (8 * oe N v p + d) = b2 (decide (8 * oe N v p + d ∈ V)) := by
    unfold mtH
    rw [hI_off _ (by decide), hI_off _ (by decide), hI_off _ (by decide)]
    exact w5 _ (by omega)
  have x8 : (8 : Int32) * nI (oe N v p) + nI d = nI (8 * oe N v p + d) := by rw [show (8 : Int32) = nI 8 from rfl, nI_mul, nI_add]
  have g222 : ∀ y, X12_walks_g222 G 0 (nI gl) (nI (oe N v p)) (nI d) (nI v) y 0 (mtH h (oe N v p) (mn + wM N v) (k + 1)) = G.2 0 (nI gl) (nI (oe N v p)) (nI d) (nI v) (pI (pI (mtH h (oe N v p) (mn + wM N v) (k + 1)) 731 0 0 y) 3648 0 (8 * oe N v p + d) 1) := fun y => by
    unfold X12_walks_g222 X12_walks_f222
    rw [wr_eq, nnE (sh_736 (h := pI (mtH h (oe N v p) (mn + wM N v) (k + 1)) 731 0 0 y) a), ixE (ln_57 (h := pI (mtH h (oe N v p) (mn + wM N v) (k + 1)) 731 0 0 y) a) x8 (show 8 * oe N v p + d < 96 by omega) (by decide), wr_eq]
    rfl
  unfold X12_walks_g120 X12_walks_f120
  rw [if_neg (nI_pos (show d < 2 ^ 31 by omega)), passFrom_eq ⟨a, hN, hP⟩ hs, cI_some, e]
  unfold X12_walks_g136 X12_walks_f136
  rw [if_neg (oI_pos (show v < 2 ^ 31 by omega))]
  show (nn (hR h 704 0 0) fun r22 => ix ((15 + (6 * nI v)) + 4) (hL h 41 r22) _) = _
  rw [nnE (sh_704 a), x0, x4, ixE (ln_41 a) rfl (show 19 + 6 * v < 1765 by omega) (by decide), hN, v4, w1, nI_add, wr_eq]
  show cI (X12_otherEnd 0 (nI v) (nI p) (pI h 732 0 0 (nI (mn + wM N v)))) _ = _
  rw [otherEnd_eq a24 N24 hs hv hp, cI_some, c24, nI_1, wr_eq, nnE (sh_735 a27), ixE (ln_56 a27) c27 (show k + 1 < 120 by omega) (by decide), wr_eq]
  show (nn (hR (mtH h (oe N v p) (mn + wM N v) (k + 1)) 736 0 0) fun r31 => ix ((8 * nI (oe N v p)) + nI d) (hL (mtH h (oe N v p) (mn + wM N v) (k + 1)) 57 r31) fun j32 => if (hI (mtH h (oe N v p) (mn + wM N v) (k + 1)) 3648 r31 j32) = 0 then X12_walks_g222 G 0 (nI gl) (nI (oe N v p)) (nI d) (nI v) 0 0 (mtH h (oe N v p) (mn + wM N v) (k + 1)) else X12_walks_g222 G 0 (nI gl) (nI (oe N v p)) (nI d) (nI v) 3 0 (mtH h (oe N v p) (mn + wM N v) (k + 1))) = _
  rw [nnE (sh_736 a30), ixE (ln_57 a30) x8 (show 8 * oe N v p + d < 96 by omega) (by decide), c30, g222, g222]
  cases decide (8 * oe N v p + d ∈ V) with
  | false => rw [if_pos b2f]; rfl
  | true => rw [if_neg b2t]; rfl
end
theorem mw_loop {h0 g : PH} {b gl : Nat} {N : Nat → Int32} {P : Nat → Bool} {x : Int32} {th : Nat → Option Nat} (q : MwE h0 N P x th) (hs : Hs g b N) (hg : gl < nt (N 5)) : ∀ n p c by' mn k fol V path h, k + n ≤ 60 → Fr mwW h0 h → MsE h mn k fol V path → hI h 731 0 0 = nI 0 → p < nt (N 3) → cmE N c by' p → (∀ e, by' = some e → e < 2 ^ 31) → (wkN N P (gP N gl) (tdF th (toF N x gl)) n p c mn k fol V path).1 ≠ 0 → ∃ z h', (X12_walks_fam z).2 0 (nI gl) (nI p) (oI c) (oI by') h = some (none, h') ∧ Fr mwW h0 h' ∧ MfE h' (wkN N P (gP N gl) (tdF th (toF N x gl)) n p c mn k fol V path) := by
  intro n
  induction n with
  | zero => intro p c by' mn k fol V path h hk f w h0' hp hc hby hne; exact absurd rfl hne
  | succ n ih =>
    intro p c by' mn k fol V path h hk f w h0' hp hc hby hne
    have qh := q.fr f (by decide) (by decide)
    have n12 := hs.n12
    have h20 := hs.n20
    have hp12 : p < 12 := by omega
    have ff : Fr mwW h0 (folM h (tdF th (toF N x gl) p)) := folM_fr f (by decide) _
    have qf := q.fr ff (by decide) (by decide)
    have wf := w.fol (tdF th (toF N x gl) p)
    by_cases cg : p = gP N gl
    · rw [wk_arr cg]
      have hend : hI (pI h 731 0 0 1) 731 0 0 = nI 1 := by
        rw [hI_pI, if_pos ⟨rfl, rfl, rfl⟩]
        rfl
      refine ⟨1, pI h 731 0 0 1, ?_, f.pI (by decide), (w.p731 1).end' hend⟩
      show X12_walks_g56 _ 0 (nI gl) (nI p) (oI c) (oI by') h = _
      rw [mw_head qh hs hg hp h0' hc hby, if_pos cg]
    · have lost : (dirO N P (tdF th (toF N x gl) p) c p = none ∨ ∃ d, dirO N P (tdF th (toF N x gl) p) c p = some d ∧ d < 8 ∧ opO N P p d = none) → ∃ z h', (X12_walks_fam z).2 0 (nI gl) (nI p) (oI c) (oI by') h = some (none, h') ∧ Fr mwW h0 h' ∧ MfE h' (wkN N P (gP N gl) (tdF th (toF N x gl)) (n + 1) p c mn k fol V path) := fun ho => by
        rw [wk_los cg (by
          rcases ho with ho | ⟨d, h1, h2, h3⟩
          · exact Or.inl ho
          · exact Or.inr ⟨d, h1, h3⟩)]
        have hend : hI (pI (folM h (tdF th (toF N x gl) p)) 731 0 0 2) 731 0 0 = nI 2 := by
          rw [hI_pI, if_pos ⟨rfl, rfl, rfl⟩]
          rfl
        refine ⟨1, pI (folM h (tdF th (toF N x gl) p)) 731 0 0 2, ?_, ff.pI (by decide), (wf.p731 2).end' hend⟩
        show X12_walks_g56 _ 0 (nI gl) (nI p) (oI c) (oI by') h = _
        rw [mw_head qh hs hg hp h0' hc hby, if_neg cg]
        exact mw_lost qf hs ho
      cases cd : dirO N P (tdF th (toF N x gl) p) c p with
      | none => exact lost (Or.inl cd)
      | some d =>
        have hd : d < 8 := dirO_lt (fun v hv => td_lt (fun v hv => (toF_ok hs hv).2) (fun d hd => ((q.2.2 p hp12).1 d hd).2.2) hv) (fun e he => by
          rcases hc with ⟨z, -⟩ | ⟨d', w, p', z, -, hd', -⟩
          · rw [z] at he; cases he
          · rw [z] at he; cases he; exact hd') cd
        cases cw : opO N P p d with
        | none => exact lost (Or.inr ⟨d, cd, hd, cw⟩)
        | some v =>
          obtain ⟨hv, hvw, -⟩ := opO_lt cw
          have ho := hs.oeL hv p
          by_cases cm : 8 * oe N v p + d ∈ V
          · rw [wk_rnd cg cd cw cm]
            have wt := MsE.take wf (q := oe N v p) (mn' := mn + wM N v) (d := d) 3
            have hend : hI (pI (pI (mtH (folM h (tdF th (toF N x gl) p)) (oe N v p) (mn + wM N v) (k + 1)) 731 0 0 3) 3648 0 (8 * oe N v p + d) 1) 731 0 0 = nI 3 := by
              rw [hI_off _ (by decide), hI_pI, if_pos ⟨rfl, rfl, rfl⟩]
              rfl
            refine ⟨2, _, ?_, ?_, wt.end' hend⟩
            · show X12_walks_g56 (X12_walks_fam 1) 0 (nI gl) (nI p) (oI c) (oI by') h = _
              rw [mw_head qh hs hg hp h0' hc hby, if_neg cg, cd]
              show X12_walks_g120 (X12_walks_fam 1) 0 (nI gl) (nI p) (nI d) _ = _
              rw [mw_on qf hs hp12 wf (show k < 60 by omega) hd cw, decide_eq_true cm]
              exact mw_end hend (by decide) (by decide) (X12_walks_fam 0) (nI gl) (nI (oe N v p)) (nI d) (nI v)
            · exact ((((ff.pI (by decide)).pI (by decide)).pI (by decide)).pI (by decide)).pI (by decide)
          · rw [wk_on cg cd cw cm] at hne ⊢
            have wt := MsE.take wf (q := oe N v p) (mn' := mn + wM N v) (d := d) 0
            have h731 : hI (pI (pI (mtH (folM h (tdF th (toF N x gl) p)) (oe N v p) (mn + wM N v) (k + 1)) 731 0 0 0) 3648 0 (8 * oe N v p + d) 1) 731 0 0 = nI 0 := by
              rw [hI_off _ (by decide), hI_pI, if_pos ⟨rfl, rfl, rfl⟩]
              rfl
            obtain ⟨z, h', g1, g2, g3⟩ := ih (oe N v p) (some d) (some v) (mn + wM N v) (k + 1) (folO (tdF th (toF N x gl) p) fol) ((8 * oe N v p + d) :: V) (updN path (k + 1) (oe N v p)) _ (by omega) (((((ff.pI (by decide)).pI (by decide)).pI (by decide)).pI (by decide)).pI (by decide)) wt h731 ho (Or.inr ⟨d, v, p, rfl, rfl, hd, hp12, hvw, rfl⟩) (fun e he => by cases he; omega) hne
            refine ⟨z + 1, h', ?_, g2, g3⟩
            show X12_walks_g56 (X12_walks_fam z) 0 (nI gl) (nI p) (oI c) (oI by') h = _
            rw [mw_head qh hs hg hp h0' hc hby, if_neg cg, cd]
            show X12_walks_g120 (X12_walks_fam z) 0 (nI gl) (nI p) (nI d) _ = _
            rw [mw_on qf hs hp12 wf (show k < 60 by omega) hd cw, decide_eq_false cm]
            exact g1
