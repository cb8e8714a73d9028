/-! the model's whole walk -/
theorem wk_cong {h : PH} {b gp : Nat} {N : Nat → Int32} {P : Nat → Bool} (q : Hs h b N) {td td' : Nat → Option (Option Nat × Nat)} (htd : ∀ p, p < nt (N 3) → td p = td' p) : ∀ n p c mn k fol V path, p < nt (N 3) → wkN N P gp td n p c mn k fol V path = wkN N P gp td' n p c mn k fol V path := by
  intro n
  induction n with
  | zero => intro p c mn k fol V path hp; rfl
  | succ n ih =>
    intro p c mn k fol V path hp
    have e := htd p hp
    by_cases cg : p = gp
    · rw [wk_arr cg, wk_arr cg]
    · cases cd : dirO N P (td p) c p with
      | none => rw [wk_los cg (Or.inl cd), wk_los cg (Or.inl (e ▸ cd)), e]
      | some d =>
        have cd' : dirO N P (td' p) c p = some d := e ▸ cd
        cases cw : opO N P p d with
        | none => rw [wk_los cg (Or.inr ⟨d, cd, cw⟩), wk_los cg (Or.inr ⟨d, cd', cw⟩), e]
        | some w =>
          by_cases cm : 8 * oe N w p + d ∈ V
          · rw [wk_rnd cg cd cw cm, wk_rnd cg cd' cw cm, e]
          · rw [wk_on cg cd cw cm, wk_on cg cd' cw cm, e]
            exact ih _ _ _ _ _ _ _ (q.oeL (opO_lt cw).1 p)
theorem X12_walks_first {h0 g : PH} {b gl p : Nat} {N : Nat → Int32} {P : Nat → Bool} {x : Int32} {th : Nat → Option Nat} (q : MwE h0 N P x th) (hs : Hs g b N) (hg : gl < nt (N 5)) (hp : p < nt (N 3)) : ∀ k j h, j + k = 96 → Fr mwW h0 h → (∀ i, i < j → hI h 3648 0 i = 0) → ∃ z h', (X12_walks_fam z).1 0 (nI p) (nI gl) (nI j) h = some (none, h') ∧ Fr mwW h0 h' ∧ MfE h' (wkR N P gl (tdF th (toF N x gl)) p) := by
  intro k
  induction k with
  | zero =>
    intro j h e f hz
    have hlt : ¬ nI j < 96 := nI_nlt (b := 96) (by omega) (by omega)
    have n12 := hs.n12
    have qh := q.fr f (by decide) (by decide)
    have a := qh.1.1
    have a4 : SH (pI (pI (pI (pI h 731 0 0 0) 732 0 0 0) 733 0 0 0) 734 0 0 (-1)) := a
    have f7 : Fr mwW h0 (pI (pI (pI (pI (pI h 731 0 0 0) 732 0 0 0) 733 0 0 0) 734 0 0 (-1)) 3584 0 0 (nI p)) := ((((f.pI (by decide)).pI (by decide)).pI (by decide)).pI (by decide)).pI (by decide)
    have w7 : MsE (pI (pI (pI (pI (pI h 731 0 0 0) 732 0 0 0) 733 0 0 0) 734 0 0 (-1)) 3584 0 0 (nI p)) 0 0 none [] (fun _ => p) := by
      refine ⟨?_, ?_, ?_, fun i hi => ?_, fun i hi => ?_⟩
      · rw [hI_off _ (by decide), hI_off _ (by decide), hI_off _ (by decide), hI_pI, if_pos ⟨rfl, rfl, rfl⟩]; rfl
      · rw [hI_off _ (by decide), hI_off _ (by decide), hI_pI, if_pos ⟨rfl, rfl, rfl⟩]; rfl
      · rw [hI_off _ (by decide), hI_pI, if_pos ⟨rfl, rfl, rfl⟩]; rfl
      · have : i = 0 := by omega
        subst this
        rw [hI_pI, if_pos ⟨rfl, rfl, rfl⟩]
      · rw [hI_off _ (by decide), hI_off _ (by decide), hI_off _ (by decide), hI_off _ (by decide), hI_off _ (by decide), hz i (by omega)]
        rfl
    have e7 : hI (pI (pI (pI (pI (pI h 731 0 0 0) 732 0 0 0) 733 0 0 0) 734 0 0 (-1)) 3584 0 0 (nI p)) 731 0 0 = nI 0 := by
      rw [hI_off _ (by decide), hI_off _ (by decide), hI_off _ (by decide), hI_off _ (by decide), hI_pI, if_pos ⟨rfl, rfl, rfl⟩]
      rfl
    have hne : (wkN N P (gP N gl) (tdF (fun p => if p < 12 then th p else none) (toF N x gl)) 60 p none 0 0 none [] (fun _ => p)).1 ≠ 0 := wk_ends hs (fun p' v hv => td_lt (fun v hv => (toF_ok hs hv).2) (fun d hd => by
        by_cases c : p' < 12
        · have hd' : (if p' < 12 then th p' else none) = some d := hd
          rw [if_pos c] at hd'
          exact ((q.2.2 p' c).1 d hd').2.2
        · have hd' : (if p' < 12 then th p' else none) = some d := hd
          rw [if_neg c] at hd'
          cases hd') hv) 60 p none 0 0 none [] (fun _ => p) hp (fun e he => by cases he) List.nodup_nil (fun x hx => by cases hx) (by decide)
    have hne' : (wkN N P (gP N gl) (tdF th (toF N x gl)) 60 p none 0 0 none [] (fun _ => p)).1 ≠ 0 := by
      rw [← wk_cong hs (td := tdF (fun p => if p < 12 then th p else none) (toF N x gl)) (fun p' hp' => ?_) 60 p none 0 0 none [] (fun _ => p) hp]
      · exact hne
      · have e12 : (fun p => if p < 12 then th p else none) p' = th p' := if_pos (by omega)
        unfold tdF
        rw [e12]
    obtain ⟨z, h', g1, g2, g3⟩ := mw_loop q hs hg 60 p none none 0 0 none [] (fun _ => p) _ (by omega) f7 w7 e7 hp (Or.inl ⟨rfl, rfl⟩) (fun e he => by cases he) hne'
    refine ⟨z + 1, h', ?_, g2, g3⟩
    show X12_walks_g2 (X12_walks_fam z) 0 (nI p) (nI gl) (nI j) h = _
    unfold X12_walks_g2 X12_walks_f2
    rw [if_neg hlt, wr_eq, wr_eq, wr_eq, wr_eq, nnE (sh_735 a4), ixE (ln_56 a4) (show (0 : Int32) = nI 0 from rfl) (by decide) (by decide), wr_eq]
    exact g1
  | succ k ih =>
    intro j h e f hz
    have hlt : nI j < 96 := nI_lt (b := 96) (by omega) (by decide)
    have a := (q.fr f (by decide) (by decide)).1.1
    obtain ⟨z, h', g1, g2, g3⟩ := ih (j + 1) (pI h 3648 0 j 0) (by omega) (f.pI (by decide)) (fun i hi => by
      rw [hI_pI]
      by_cases c : i = j
      · rw [if_pos ⟨rfl, rfl, c⟩]
      · rw [if_neg (fun z => c z.2.2)]
        exact hz i (by omega))
    refine ⟨z + 1, h', ?_, g2, g3⟩
    show X12_walks_g2 (X12_walks_fam z) 0 (nI p) (nI gl) (nI j) h = _
    unfold X12_walks_g2 X12_walks_f2
    rw [if_pos hlt, nnE (sh_736 a), ixE (ln_57 a) rfl (show j < 96 by omega) (by decide), wr_eq, nI_1]
    exact g1
theorem X12_walks_eq {h g : PH} {b gl p : Nat} {N : Nat → Int32} {P : Nat → Bool} {x : Int32} {th : Nat → Option Nat} (q : MwE h N P x th) (hs : Hs g b N) (hg : gl < nt (N 5)) (hp : p < nt (N 3)) : ∃ h', X12_walks 0 (nI p) (nI gl) h = some (none, h') ∧ Fr mwW h h' ∧ MfE h' (wkR N P gl (tdF th (toF N x gl)) p) := by
  obtain ⟨z, h', g1, g2, g3⟩ := X12_walks_first q hs hg hp 96 0 h (by omega) Fr.rf (fun i hi => by omega)
  exact ⟨h', X12_walks_iff.mpr ⟨z, g1⟩, g2, g3⟩
