/-! walks come to an end; the model's walk -/
theorem nodup_sub : ∀ (V E : List Nat), V.Nodup → (∀ x ∈ V, x ∈ E) → V.length ≤ E.length
  | [], E, _, _ => Nat.zero_le _
  | x :: t, E, hn, hs => by
    have hx := hs x (List.mem_cons_self ..)
    obtain ⟨n1, n2⟩ := List.nodup_cons.mp hn
    have := nodup_sub t (E.erase x) n2 (fun y hy => by
      have hne : y ≠ x := fun e => n1 (e ▸ hy)
      exact (List.mem_erase_of_ne hne).mpr (hs y (List.mem_cons_of_mem _ hy)))
    have h5 := List.length_erase_of_mem hx
    have h6 : 0 < E.length := List.length_pos_of_mem hx
    rw [List.length_cons]
    omega
def enL (N : Nat → Int32) : Nat → List Nat
  | 0 => []
  | k + 1 => (8 * wB N k + wD N k) :: (8 * wA N k + (wD N k + 4) % 8) :: enL N k
theorem enL_len (N : Nat → Int32) : ∀ k, (enL N k).length = 2 * k
  | 0 => rfl
  | k + 1 => by
    show (enL N k).length + 1 + 1 = _
    rw [enL_len N k]
    omega
theorem enL_mem {N : Nat → Int32} : ∀ {k w : Nat}, w < k → 8 * wB N w + wD N w ∈ enL N k ∧ 8 * wA N w + (wD N w + 4) % 8 ∈ enL N k
  | 0, w, h => by omega
  | k + 1, w, h => by
    by_cases e : w = k
    · subst e
      exact ⟨List.mem_cons_self .., List.mem_cons_of_mem _ (List.mem_cons_self ..)⟩
    · have := enL_mem (N := N) (k := k) (w := w) (by omega)
      exact ⟨List.mem_cons_of_mem _ (List.mem_cons_of_mem _ this.1), List.mem_cons_of_mem _ (List.mem_cons_of_mem _ this.2)⟩
theorem come_mem {h : PH} {b : Nat} {N : Nat → Int32} {P : Nat → Bool} (q : Hs h b N) {p d w : Nat} (hp : p < 12) (hd : d < 8) (e : opO N P p d = some w) : 8 * oe N w p + d ∈ enL N (nt (N 4)) := by
  obtain ⟨hw, e1, -⟩ := opO_lt e
  have l1 := wO_ld q hp hd e1
  obtain ⟨-, -, -, -, g1, g2, g3, g4, -⟩ := q.way hw
  have hm := enL_mem (N := N) hw
  unfold ldN at l1
  unfold oe
  rcases l1 with ⟨m1, m2⟩ | ⟨m1, m2⟩
  · rw [if_pos m1, ← m2]
    exact hm.1
  · rw [if_neg (by omega), ← m2]
    exact hm.2
theorem wk_ends {h : PH} {b gp : Nat} {N : Nat → Int32} {P : Nat → Bool} (q : Hs h b N) {td : Nat → Option (Option Nat × Nat)} (htd : ∀ p v, td p = some v → v.2 < 8) : ∀ n p c mn k fol V path, p < nt (N 3) → (∀ e, c = some e → e < 8) → V.Nodup → (∀ x ∈ V, x ∈ enL N (nt (N 4))) → 41 ≤ n + V.length → (wkN N P gp td n p c mn k fol V path).1 ≠ 0 := by
  intro n
  induction n with
  | zero =>
    intro p c mn k fol V path hp hc hn hs hl
    have h1 := nodup_sub V _ hn hs
    rw [enL_len] at h1
    have := q.n20
    omega
  | succ n ih =>
    intro p c mn k fol V path hp hc hn hs hl
    have n12 := q.n12
    by_cases cg : p = gp
    · rw [wk_arr cg]
      exact Nat.one_ne_zero
    · cases cd : dirO N P (td p) c p with
      | none =>
        rw [wk_los cg (Or.inl cd)]
        exact (by decide : (2 : Nat) ≠ 0)
      | some d =>
        have hd : d < 8 := dirO_lt (fun v hv => htd p v hv) hc cd
        cases cw : opO N P p d with
        | none =>
          rw [wk_los cg (Or.inr ⟨d, cd, cw⟩)]
          exact (by decide : (2 : Nat) ≠ 0)
        | some w =>
          by_cases cm : 8 * oe N w p + d ∈ V
          · rw [wk_rnd cg cd cw cm]
            exact (by decide : (3 : Nat) ≠ 0)
          · rw [wk_on cg cd cw cm]
            refine ih _ _ _ _ _ _ _ (q.oeL (opO_lt cw).1 p) (fun e he => by cases he; exact hd) (List.nodup_cons.mpr ⟨cm, hn⟩) (fun x hx => ?_) (by rw [List.length_cons]; omega)
            rcases List.mem_cons.mp hx with rfl | hx
            · exact come_mem q (by omega) hd cw
            · exact hs x hx
theorem wk_here {N : Nat → Int32} {P : Nat → Bool} {gp : Nat} {td : Nat → Option (Option Nat × Nat)} : ∀ n p c mn k fol V path, path k = p → (wkN N P gp td n p c mn k fol V path).2.2.2.2.2 (wkN N P gp td n p c mn k fol V path).2.2.1 = (wkN N P gp td n p c mn k fol V path).2.2.2.1 ∧ (wkN N P gp td n p c mn k fol V path).2.2.1 ≤ k + n := by
  intro n
  induction n with
  | zero => intro p c mn k fol V path e; exact ⟨e, Nat.le_refl _⟩
  | succ n ih =>
    intro p c mn k fol V path e
    by_cases cg : p = gp
    · rw [wk_arr cg]
      exact ⟨e, by show k ≤ _; omega⟩
    · cases cd : dirO N P (td p) c p with
      | none =>
        rw [wk_los cg (Or.inl cd)]
        exact ⟨e, by show k ≤ _; omega⟩
      | some d =>
        cases cw : opO N P p d with
        | none =>
          rw [wk_los cg (Or.inr ⟨d, cd, cw⟩)]
          exact ⟨e, by show k ≤ _; omega⟩
        | some w =>
          by_cases cm : 8 * oe N w p + d ∈ V
          · rw [wk_rnd cg cd cw cm]
            refine ⟨?_, by show k + 1 ≤ _; omega⟩
            show updN path (k + 1) (oe N w p) (k + 1) = oe N w p
            unfold updN
            rw [if_pos rfl]
          · rw [wk_on cg cd cw cm]
            obtain ⟨h1, h2⟩ := ih (oe N w p) (some d) (mn + wM N w) (k + 1) (folO (td p) fol) ((8 * oe N w p + d) :: V) (updN path (k + 1) (oe N w p)) (by unfold updN; rw [if_pos rfl])
            exact ⟨h1, by omega⟩
def MsE (h : PH) (mn k : Nat) (fol : Option Nat) (V : List Nat) (path : Nat → Nat) : Prop := hI h 732 0 0 = nI mn ∧ hI h 733 0 0 = nI k ∧ hI h 734 0 0 = oI fol ∧ (∀ j, j ≤ k → hI h 3584 0 j = nI (path j)) ∧ ∀ j, j < 96 → hI h 3648 0 j = b2 (decide (j ∈ V))
def MfE (h : PH) (r : Wr) : Prop := hI h 731 0 0 = nI r.1 ∧ hI h 732 0 0 = nI r.2.1 ∧ hI h 733 0 0 = nI r.2.2.1 ∧ hI h 734 0 0 = oI r.2.2.2.2.1 ∧ ∀ j, j ≤ r.2.2.1 → hI h 3584 0 j = nI (r.2.2.2.2.2 j)
def mwW : List Nat × List Nat × Bool := ([731, 732, 733, 734, 3584, 3648], [], false)
theorem SH.n11 {h : PH} (a : SH h) : 0 < hN h 11 := a.k1 (k := 11) (n := 1) (by decide +kernel) (by decide)
theorem SH.n58 {h : PH} (a : SH h) : 0 < hN h 58 := a.nl (n := 12) (show (58, 0, 12) ∈ lnList by decide +kernel)
theorem MwE.fr {W : List Nat × List Nat × Bool} {h h' : PH} {N : Nat → Int32} {P : Nat → Bool} {x : Int32} {th : Nat → Option Nat} (q : MwE h N P x th) (f : Fr W h h') (hw : [2624, 3392, 3456, 737, 3712].all (fun c => !W.1.contains c) = true) (hv : W.2.1.all (fun c => !shCols.contains c) = true) : MwE h' N P x th := by
  obtain ⟨q1, q2, q3⟩ := q
  refine ⟨q1.fr f (ninW hw (by decide)) (ninW hw (by decide)) hv, fun s hs => ?_, fun p hp => ?_⟩
  · rw [f.1 3456 0 s (ninW hw (by decide)) q1.1.n54]
    exact q2 s hs
  · rw [f.1 737 0 0 (ninW hw (by decide)) q1.1.n11, f.1 3712 0 p (ninW hw (by decide)) q1.1.n58]
    exact q3 p hp
def folM (h : PH) (t : Option (Option Nat × Nat)) : PH := match t with
  | some (some s, _) => pI h 734 0 0 (nI s)
  | _ => h
theorem MsE.fol {h : PH} {mn k : Nat} {fol : Option Nat} {V : List Nat} {path : Nat → Nat} (q : MsE h mn k fol V path) (t : Option (Option Nat × Nat)) : MsE (folM h t) mn k (folO t fol) V path := by
  obtain ⟨q1, q2, q3, q4, q5⟩ := q
  cases t with
  | none => exact ⟨q1, q2, q3, q4, q5⟩
  | some v =>
    obtain ⟨o, d⟩ := v
    cases o with
    | none => exact ⟨q1, q2, q3, q4, q5⟩
    | some s =>
      refine ⟨(hI_off h (by decide) _ _ _ _ _).trans q1, (hI_off h (by decide) _ _ _ _ _).trans q2, ?_, fun j hj => (hI_off h (by decide) _ _ _ _ _).trans (q4 j hj), fun j hj => (hI_off h (by decide) _ _ _ _ _).trans (q5 j hj)⟩
      show hI (pI h 734 0 0 (nI s)) 734 0 0 = oI (some s)
      rw [hI_pI, if_pos ⟨rfl, rfl, rfl⟩]
      rfl
theorem MsE.p731 {h : PH} {mn k : Nat} {fol : Option Nat} {V : List Nat} {path : Nat → Nat} (q : MsE h mn k fol V path) (v : Int32) : MsE (pI h 731 0 0 v) mn k fol V path := by
  obtain ⟨q1, q2, q3, q4, q5⟩ := q
  exact ⟨(hI_off h (by decide) _ _ _ _ _).trans q1, (hI_off h (by decide) _ _ _ _ _).trans q2, (hI_off h (by decide) _ _ _ _ _).trans q3, fun j hj => (hI_off h (by decide) _ _ _ _ _).trans (q4 j hj), fun j hj => (hI_off h (by decide) _ _ _ _ _).trans (q5 j hj)⟩
theorem MsE.end' {h : PH} {mn k p : Nat} {fol : Option Nat} {V : List Nat} {path : Nat → Nat} (q : MsE h mn k fol V path) {e : Nat} (he : hI h 731 0 0 = nI e) : MfE h (e, mn, k, p, fol, path) := ⟨he, q.1, q.2.1, q.2.2.1, q.2.2.2.1⟩
def mtH (h : PH) (q mn k : Nat) : PH := pI (pI (pI h 732 0 0 (nI mn)) 733 0 0 (nI k)) 3584 0 k (nI q)
theorem MsE.take {h : PH} {mn k : Nat} {fol : Option Nat} {V : List Nat} {path : Nat → Nat} (w : MsE h mn k fol V path) {q mn' d : Nat} (v : Int32) : MsE (pI (pI (mtH h q mn' (k + 1)) 731 0 0 v) 3648 0 (8 * q + d) 1) mn' (k + 1) fol ((8 * q + d) :: V) (updN path (k + 1) q) := by
  obtain ⟨w1, w2, w3, w4, w5⟩ := w
  unfold mtH
  refine ⟨?_, ?_, ?_, fun j hj => ?_, fun j hj => ?_⟩
  · rw [hI_off _ (by decide), hI_off _ (by decide), hI_off _ (by decide), hI_off _ (by decide), hI_pI, if_pos ⟨rfl, rfl, rfl⟩]
  · rw [hI_off _ (by decide), hI_off _ (by decide), hI_off _ (by decide), hI_pI, if_pos ⟨rfl, rfl, rfl⟩]
  · rw [hI_off _ (by decide), hI_off _ (by decide), hI_off _ (by decide), hI_off _ (by decide), hI_off _ (by decide), w3]
  · rw [hI_off _ (by decide), hI_off _ (by decide), hI_pI]
    unfold updN
    by_cases c : j = k + 1
    · rw [if_pos ⟨rfl, rfl, c⟩, if_pos c]
    · rw [if_neg (fun z => c z.2.2), if_neg c, hI_off _ (by decide), hI_off _ (by decide)]
      exact w4 j (by omega)
  · rw [hI_pI]
    by_cases e : j = 8 * q + d
    · rw [if_pos ⟨rfl, rfl, e⟩, decide_eq_true (by rw [e]; exact List.mem_cons_self ..)]
      rfl
    · rw [if_neg (fun z => e z.2.2), hI_off _ (by decide), hI_off _ (by decide), hI_off _ (by decide), hI_off _ (by decide), w5 j hj]
      congr 1
      by_cases c : j ∈ V
      · rw [decide_eq_true c, decide_eq_true (List.mem_cons_of_mem _ c)]
      · rw [decide_eq_false c, decide_eq_false (fun z => by rcases List.mem_cons.mp z with z | z; exact e z; exact c z)]
