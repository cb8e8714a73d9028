/-! a whole walk of the house's walker -/
def goW : List Nat × List Nat × Bool := ([521, 523, 524, 525, 526, 527, 2240, 2304], [], false)
theorem pI_comm (z : PH) {c c' : Nat} (hc : c ≠ c') (i j i' j' : Nat) (v v' : Int32) : pI (pI z c i j v) c' i' j' v' = pI (pI z c' i' j' v') c i j v := by
  refine Prod.ext (funext fun a => funext fun b => funext fun d => ?_) rfl
  show (if a = c' ∧ b = i' ∧ d = j' then v' else if a = c ∧ b = i ∧ d = j then v else hI z a b d) = (if a = c ∧ b = i ∧ d = j then v else if a = c' ∧ b = i' ∧ d = j' then v' else hI z a b d)
  by_cases d1 : a = c'
  · have d2 : ¬ a = c := fun e => hc (e.symm.trans d1)
    rw [if_neg (show ¬ (a = c ∧ b = i ∧ d = j) from fun z => d2 z.1), if_neg (show ¬ (a = c ∧ b = i ∧ d = j) from fun z => d2 z.1)]
  · rw [if_neg (show ¬ (a = c' ∧ b = i' ∧ d = j') from fun z => d1 z.1), if_neg (show ¬ (a = c' ∧ b = i' ∧ d = j') from fun z => d1 z.1)]
theorem go_end {h : PH} {i e : Nat} (he : hI h 523 i 0 = nI e) (h1 : 0 < e) (h2 : e < 4) (G : Nat → Int32 → Int32 → PH → Option Rs) (x y : Int32) : X9_go_g46 G i x y h = some (some (.inl (nI e)), h) := by
  unfold X9_go_g46 X9_go_f46
  have g103 : X9_go_g103 G i h = some (some (.inl (nI e)), h) := by
    unfold X9_go_g103 X9_go_f103
    rw [he]
  by_cases c : y < 60
  · rw [if_pos c, he, if_neg (nI_ne0 h1 (by omega)), g103]
  · rw [if_neg c, g103]
theorem tkH_fr {W : List Nat × List Nat × Bool} {h0 h : PH} {i q mn k : Nat} (f : Fr W h0 h) (h1 : W.1.contains 524 = true) (h2 : W.1.contains 526 = true) (h3 : W.1.contains 525 = true) (h4 : W.1.contains 2304 = true) : Fr W h0 (tkH h i q mn k) := (((f.pI h1).pI h2).pI h3).pI h4
/-- the other walker is left alone -/
def OthE (h h' : PH) (i : Nat) : Prop := ∀ i', i' < 2 → i' ≠ i → ∀ j, hI h' 521 i' j = hI h 521 i' j ∧ hI h' 2240 i' j = hI h 2240 i' j
theorem OthE.rf {h : PH} {i : Nat} : OthE h h i := fun _ _ _ _ => ⟨rfl, rfl⟩
theorem OthE.tr {h h1 h2 : PH} {i : Nat} (a : OthE h h1 i) (b : OthE h1 h2 i) : OthE h h2 i := fun i' h2 hi j => ⟨(b i' h2 hi j).1.trans (a i' h2 hi j).1, (b i' h2 hi j).2.trans (a i' h2 hi j).2⟩
theorem OthE.pI {h0 h : PH} {i : Nat} (q : OthE h0 h i) (c j : Nat) (v : Int32) : OthE h0 (pI h c i j v) i := fun i' h2 hi k => by
  rw [hI_pI, hI_pI, if_neg (fun z => hi z.2.1), if_neg (fun z => hi z.2.1)]
  exact q i' h2 hi k
theorem OthE.fr {W : List Nat × List Nat × Bool} {h h' : PH} {i : Nat} (a : SH h) (f : Fr W h h') (h1 : W.1.contains 521 = false) (h2 : W.1.contains 2240 = false) : OthE h h' i := fun i' hi' _ j => ⟨f.1 521 i' j h1 (a.n8 hi'), f.1 2240 i' j h2 (a.n35 hi')⟩
theorem OthE.fol {h0 h : PH} {i : Nat} (q : OthE h0 h i) (t : Option (Option Nat × Nat)) : OthE h0 (folH h i t) i := by
  unfold folH
  split
  · exact q.pI _ _ _
  · exact q
theorem OthE.tk {h0 h : PH} {i : Nat} (o : OthE h0 h i) (q mn k : Nat) : OthE h0 (tkH h i q mn k) i := (((o.pI _ _ _).pI _ _ _).pI _ _ _).pI _ _ _
theorem go_loop {h0 : PH} {i b gl cn : Nat} {N : Nat → Int32} {P : Nat → Bool} {to : Nat → Option (Nat × Nat)} {th : Nat → Option Nat} (q : WkE h0 i b N P gl to th) (hcn : cn < 2 ^ 31) : ∀ n st p c mn k fol V path h, st + n = 60 → k ≤ st → Fr goW h0 h → OthE h0 h i → WsE h i cn p mn k fol V path → hI h 523 i 0 = nI 0 → p < nt (N 3) → (∀ e, c = some e → e < 8) → ∃ z h', X9_go_fam z i (oI c) (nI st) h = some (some (.inl (nI (wkN N P (gP N gl) (tdF th to) n p c mn k fol V path).1)), h') ∧ Fr goW h0 h' ∧ OthE h0 h' i ∧ WfE h' i cn (wkN N P (gP N gl) (tdF th to) n p c mn k fol V path) := by
  intro n
  induction n with
  | zero =>
    intro st p c mn k fol V path h e hk f o w he hp hc
    have hlt : ¬ nI st < 60 := nI_nlt (b := 60) (by omega) (by omega)
    refine ⟨1, h, ?_, f, o, w.end' he⟩
    show X9_go_g46 _ i (oI c) (nI st) h = _
    unfold X9_go_g46 X9_go_f46
    rw [if_neg hlt]
    unfold X9_go_g103 X9_go_f103
    rw [he]
    rfl
  | succ n ih =>
    intro st p c mn k fol V path h e hk f o w he hp hc
    have hlt : nI st < 60 := nI_lt (b := 60) (by omega) (by decide)
    have qh := q.fr f (by decide +kernel) (by decide +kernel)
    obtain ⟨q1, q2, q3, q4, q5, q6, q7, q8⟩ := qh
    have a := q1.1.1
    have hi := q1.2.1
    have hb := q1.1.2.1
    have n12 := q1.1.n12
    have hp12 : p < 12 := by omega
    obtain ⟨g1, g2, g3, g4, g5, g6⟩ := q1.1.goal q4
    have head : ∀ G, X9_go_g46 G i (oI c) (nI st) h = if nI p = nI (gP N gl) then X9_go_g97 G i (oI c) (nI st) (pI h 523 i 0 1) else cI (X9_directionFrom i (oI c) h) fun v14 h13 => cV (X9_take i v14 h13) fun h15 => X9_go_g97 G i v14 (nI st) h15 := fun G => by
      unfold X9_go_g46 X9_go_f46
      rw [if_pos hlt, he, if_pos (show nI 0 = 0 from rfl), nnE q2, nnE (sh_66 a b hb), ixE (ln_16 a b hb) q3 g6 (by decide), w.1, g3, wr_eq]
    have g97 : ∀ (G : Nat → Int32 → Int32 → PH → Option Rs) x z, X9_go_g97 G i x (nI st) z = G i x (nI (st + 1)) z := fun G x z => by
      unfold X9_go_g97 X9_go_f97
      rw [nI_1]
    by_cases cg : p = gP N gl
    · rw [wk_arr cg]
      have hend : hI (pI h 523 i 0 1) 523 i 0 = nI 1 := by
        rw [hI_pI, if_pos ⟨rfl, rfl, rfl⟩]
        rfl
      refine ⟨2, pI h 523 i 0 1, ?_, f.pI (by decide), o.pI _ _ _, (w.p523 1).end' hend⟩
      show X9_go_g46 (X9_go_fam 1) i (oI c) (nI st) h = _
      rw [head, if_pos (by rw [cg]), g97]
      exact go_end hend (by decide) (by decide) _ _ _
    · have hdir := directionFrom_eq ⟨q1, q2, q3, q4, q5, q6, q7, q8⟩ hp12 w.1 hc
      have hne : ¬ nI p = nI (gP N gl) := fun z => cg ((nI_eq (by omega) (by omega)).mp z)
      have wf := w.fol (tdF th to p)
      have ff : Fr goW h0 (folH h i (tdF th to p)) := folH_fr f (by decide) _
      have qf := q.fr ff (by decide +kernel) (by decide +kernel)
      have lost : (dirO N P (tdF th to p) c p = none ∨ ∃ d, dirO N P (tdF th to p) c p = some d ∧ d < 8 ∧ opO N P p d = none) → ∃ z h', X9_go_fam z i (oI c) (nI st) h = some (some (.inl (nI (wkN N P (gP N gl) (tdF th to) (n + 1) p c mn k fol V path).1)), h') ∧ Fr goW h0 h' ∧ OthE h0 h' i ∧ WfE h' i cn (wkN N P (gP N gl) (tdF th to) (n + 1) p c mn k fol V path) := fun ho => by
        rw [wk_los cg (by
          rcases ho with ho | ⟨d, h1, h2, h3⟩
          · exact Or.inl ho
          · exact Or.inr ⟨d, h1, h3⟩)]
        have hend : hI (pI (folH h i (tdF th to p)) 523 i 0 2) 523 i 0 = nI 2 := by
          rw [hI_pI, if_pos ⟨rfl, rfl, rfl⟩]
          rfl
        refine ⟨2, pI (folH h i (tdF th to p)) 523 i 0 2, ?_, ff.pI (by decide), (o.fol _).pI _ _ _, (wf.p523 2).end' hend⟩
        show X9_go_g46 (X9_go_fam 1) i (oI c) (nI st) h = _
        rw [head, if_neg hne, hdir, cI_some, take_lost qf hp12 wf.1 ho, cV_some, g97]
        exact go_end hend (by decide) (by decide) _ _ _
      cases cd : dirO N P (tdF th to p) c p with
      | none => exact lost (Or.inl cd)
      | some d =>
        have hd : d < 8 := dirO_lt (fun v hv => (tdF_lt q6 q8 hv).1) hc cd
        cases cw : opO N P p d with
        | none => exact lost (Or.inr ⟨d, cd, hd, cw⟩)
        | some v =>
          have hv := (opO_lt cw).1
          have ho := q1.1.oeL hv p
          have htake := take_on qf hp12 (show k < 60 by omega) wf hd cw
          have hdir' : X9_directionFrom i (oI c) h = some (some (.inl (nI d)), folH h i (tdF th to p)) := by
            rw [hdir, cd]
            rfl
          have wt := WsE.take wf (q := oe N v p) (mn' := mn + wM N v) (d := d)
          have b96 : 8 * oe N v p + d < 96 := by omega
          by_cases cm : 8 * oe N v p + d ∈ V
          · rw [wk_rnd cg cd cw cm]
            have hm := (wf.2.2.2.2.2.2 _ b96).1 cm
            have hend : hI (pI (pI (tkH (folH h i (tdF th to p)) i (oe N v p) (mn + wM N v) (k + 1)) 523 i 0 3) 2240 i (8 * oe N v p + d) (nI cn)) 523 i 0 = nI 3 := by
              rw [hI_off _ (by decide), hI_pI, if_pos ⟨rfl, rfl, rfl⟩]
              rfl
            have comm : ∀ z : PH, pI (pI z 523 i 0 3) 2240 i (8 * oe N v p + d) (nI cn) = pI (pI z 2240 i (8 * oe N v p + d) (nI cn)) 523 i 0 3 := fun z => pI_comm z (by decide) _ _ _ _ _ _
            rw [comm] at hend
            refine ⟨2, pI (pI (tkH (folH h i (tdF th to p)) i (oe N v p) (mn + wM N v) (k + 1)) 2240 i (8 * oe N v p + d) (nI cn)) 523 i 0 3, ?_, ((tkH_fr ff (by decide) (by decide) (by decide) (by decide)).pI (by decide)).pI (by decide), (((o.fol _).tk _ _ _).pI _ _ _).pI _ _ _, (wt.p523 3).end' hend⟩
            show X9_go_g46 (X9_go_fam 1) i (oI c) (nI st) h = _
            rw [head, if_neg hne, hdir', cI_some, htake, if_pos hm, cV_some, g97, comm]
            exact go_end hend (by decide) (by decide) _ _ _
          · rw [wk_on cg cd cw cm]
            have hm : ¬ hI (folH h i (tdF th to p)) 2240 i (8 * oe N v p + d) = nI cn := by
              obtain ⟨c', m1, m2⟩ := (wf.2.2.2.2.2.2 _ b96).2 cm
              rw [m2]
              intro z
              have := (nI_eq (by omega) hcn).mp z
              omega
            have h523 : hI (pI (tkH (folH h i (tdF th to p)) i (oe N v p) (mn + wM N v) (k + 1)) 2240 i (8 * oe N v p + d) (nI cn)) 523 i 0 = nI 0 := by
              unfold tkH
              rw [hI_off _ (by decide), hI_off _ (by decide), hI_off _ (by decide), hI_off _ (by decide), hI_off _ (by decide), folH_523, he]
            obtain ⟨z, h', g1, g2, g4, g3⟩ := ih (st + 1) (oe N v p) (some d) (mn + wM N v) (k + 1) (folO (tdF th to p) fol) ((8 * oe N v p + d) :: V) (updN path (k + 1) (oe N v p)) _ (by omega) (by omega) ((tkH_fr ff (by decide) (by decide) (by decide) (by decide)).pI (by decide)) (((o.fol _).tk _ _ _).pI _ _ _) wt h523 ho (fun e' he' => by cases he'; exact hd)
            refine ⟨z + 1, h', ?_, g2, g4, g3⟩
            show X9_go_g46 (X9_go_fam z) i (oI c) (nI st) h = _
            rw [head, if_neg hne, hdir', cI_some, htake, if_neg hm, cV_some, g97]
            exact g1
/-- how many walks there were, and that no mark is later than the latest -/
def WcE (h : PH) (i cn : Nat) : Prop := hI h 521 i 0 = nI cn ∧ ∀ j, j < 96 → ∃ c', c' ≤ cn ∧ hI h 2240 i j = nI c'
theorem WfE.wc {h : PH} {i cn : Nat} {r : Wr} (q : WfE h i cn r) : WcE h i cn := ⟨q.2.2.2.2.2.2.1, q.2.2.2.2.2.2.2⟩
/-- what becomes of a walk -/
def wkR (N : Nat → Int32) (P : Nat → Bool) (gl : Nat) (td : Nat → Option (Option Nat × Nat)) (p : Nat) : Wr := wkN N P (gP N gl) td 60 p none 0 0 none [] (fun _ => p)
theorem X9_go_eq {h : PH} {i b gl cn p : Nat} {N : Nat → Int32} {P : Nat → Bool} {to : Nat → Option (Nat × Nat)} {th : Nat → Option Nat} (q : WkE h i b N P gl to th) (hc : WcE h i cn) (hcn : cn + 1 < 2 ^ 31) (hp : p < nt (N 3)) : ∃ h', X9_go i (nI p) h = some (some (.inl (nI (wkR N P gl (tdF th to) p).1)), h') ∧ Fr goW h h' ∧ OthE h h' i ∧ WfE h' i (cn + 1) (wkR N P gl (tdF th to) p) := by
  have a := q.1.1.1
  have hi := q.1.2.1
  have n12 := q.1.1.n12
  generalize hh : pI (pI (pI (pI (pI (pI (pI h 521 i 0 (nI (cn + 1))) 524 i 0 0) 525 i 0 0) 527 i 0 (-1)) 526 i 0 (nI p)) 2304 i 0 (nI p)) 523 i 0 0 = h9
  have f9 : Fr goW h h9 := by
    subst hh
    exact ((((((Fr.rf.pI (by decide)).pI (by decide)).pI (by decide)).pI (by decide)).pI (by decide)).pI (by decide)).pI (by decide)
  have o9 : OthE h h9 i := by
    subst hh
    exact ((((((OthE.rf.pI _ _ _).pI _ _ _).pI _ _ _).pI _ _ _).pI _ _ _).pI _ _ _).pI _ _ _
  have w9 : WsE h9 i (cn + 1) p 0 0 none [] (fun _ => p) := by
    subst hh
    refine ⟨?_, ?_, ?_, ?_, ?_, fun j hj => ?_, fun j hj => ⟨fun c => by (cases c), fun _ => ?_⟩⟩
    · rw [hI_off _ (by decide), hI_off _ (by decide), hI_pI, if_pos ⟨rfl, rfl, rfl⟩]
    · rw [hI_off _ (by decide), hI_off _ (by decide), hI_off _ (by decide), hI_off _ (by decide), hI_off _ (by decide), hI_pI, if_pos ⟨rfl, rfl, rfl⟩]; rfl
    · rw [hI_off _ (by decide), hI_off _ (by decide), hI_off _ (by decide), hI_off _ (by decide), hI_pI, if_pos ⟨rfl, rfl, rfl⟩]; rfl
    · rw [hI_off _ (by decide), hI_off _ (by decide), hI_off _ (by decide), hI_pI, if_pos ⟨rfl, rfl, rfl⟩]; rfl
    · rw [hI_off _ (by decide), hI_off _ (by decide), hI_off _ (by decide), hI_off _ (by decide), hI_off _ (by decide), hI_off _ (by decide), hI_pI, if_pos ⟨rfl, rfl, rfl⟩]
    · have : j = 0 := by omega
      subst this
      rw [hI_off _ (by decide), hI_pI, if_pos ⟨rfl, rfl, rfl⟩]
    · obtain ⟨c', h1, h2⟩ := hc.2 j hj
      refine ⟨c', by omega, ?_⟩
      rw [hI_off _ (by decide), hI_off _ (by decide), hI_off _ (by decide), hI_off _ (by decide), hI_off _ (by decide), hI_off _ (by decide), hI_off _ (by decide), h2]
  have e9 : hI h9 523 i 0 = nI 0 := by
    subst hh
    rw [hI_pI, if_pos ⟨rfl, rfl, rfl⟩]
    rfl
  obtain ⟨z, h', g1, g2, g4, g3⟩ := go_loop (q.fr f9 (by decide +kernel) (by decide +kernel)) (show cn + 1 < 2 ^ 31 from hcn) 60 0 p none 0 0 none [] (fun _ => p) h9 (by omega) (by omega) Fr.rf OthE.rf w9 e9 hp (fun e he => by cases he)
  refine ⟨h', X9_go_iff.mpr ⟨z, ?_⟩, f9.tr g2, o9.tr g4, g3⟩
  have a5 : SH (pI (pI (pI (pI (pI h 521 i 0 (nI (cn + 1))) 524 i 0 0) 525 i 0 0) 527 i 0 (-1)) 526 i 0 (nI p)) := a
  unfold X9_go_g0 X9_go_f0
  rw [hc.1, nI_1, wr_eq, wr_eq, wr_eq, wr_eq, wr_eq]
  unfold X9_go_g30 X9_go_f30
  rw [nnE (sh_522 a5 i hi), ixE (ln_36 a5 i hi) (show (0 : Int32) = nI 0 from rfl) (by decide) (by decide), wr_eq, wr_eq, hh]
  exact g1
