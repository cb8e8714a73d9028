/-! both walkers have entered -/
def GR (P : PH → Prop) (o : Option Rs) : Prop := ∀ r, o = some r → P r.2
theorem gr_nn {P : PH → Prop} {r : Nat} {f : Nat → Option Rs} (k : ∀ i, r = i + 1 → GR P (f i)) : GR P (nn r f) := fun z e => by
  cases r with
  | zero => cases e
  | succ i => exact k i rfl z e
theorem gr_ix {P : PH → Prop} {x : Int32} {n : Nat} {f : Nat → Option Rs} (k : ∀ j, GR P (f j)) : GR P (ix x n f) := fun z e => by
  unfold ix at e
  by_cases c : x < 0 ∨ n ≤ x.toNatClampNeg
  · rw [if_pos c] at e
    cases e
  · rw [if_neg c] at e
    exact k _ z e
theorem gr_if {P : PH → Prop} {c : Prop} [Decidable c] {a b : Option Rs} (ha : GR P a) (hb : GR P b) : GR P (if c then a else b) := fun z e => by
  by_cases d : c
  · rw [if_pos d] at e
    exact ha z e
  · rw [if_neg d] at e
    exact hb z e
theorem gr_cI {P : PH → Prop} {o : Option Rs} {f : Int32 → PH → Option Rs} (k : ∀ v h, o = some (some (.inl v), h) → GR P (f v h)) : GR P (cI o f) := fun z e => by
  unfold cI at e
  split at e
  · exact k _ _ rfl z e
  · cases e
theorem gr_cV {P : PH → Prop} {o : Option Rs} {f : PH → Option Rs} (k : ∀ h, o = some (none, h) → GR P (f h)) : GR P (cV o f) := fun z e => by
  unfold cV at e
  split at e
  · exact k _ rfl z e
  · cases e
theorem gr_wr {P : PH → Prop} {h : PH} {f : PH → Option Rs} (k : GR P (f h)) : GR P (wr h f) := k
theorem gr_some {P : PH → Prop} {v : Option PV} {h : PH} (k : P h) : GR P (some (v, h)) := fun z e => by
  cases e
  exact k
/-- the other walker's columns stay -/
def OI (i : Nat) (h h' : PH) : Prop := SH h' ∧ ∀ i', i' < 2 → i' ≠ i → (∀ c, c = 515 ∨ c = 1536 ∨ c = 1984 → ∀ j, hI h' c i' j = hI h c i' j) ∧ hR h' 193 i' 0 = hR h 193 i' 0 ∧ hR h' 513 i' 0 = hR h 513 i' 0
theorem OI.pI {i : Nat} {h h' : PH} (q : OI i h h') (c j : Nat) (v : Int32) : OI i h (pI h' c i j v) := ⟨q.1, fun i' h2 hi => by
  obtain ⟨q1, q2, q3⟩ := q.2 i' h2 hi
  exact ⟨fun c' hc' j' => by rw [hI_pI, if_neg (fun z => hi z.2.1)]; exact q1 c' hc' j', q2, q3⟩⟩
theorem pR_fr2 (h' : PH) {c i : Nat} (hc : c = 193 ∨ c = 513) (v : Nat) : Fr ([], [193, 513], false) h' (pR h' c i 0 v) := Fr.rf.pR (by rcases hc with rfl | rfl <;> decide)
theorem OI.pR {i : Nat} {h h' : PH} (q : OI i h h') {c : Nat} (hc : c = 193 ∨ c = 513) (v : Nat) : OI i h (pR h' c i 0 v) := by
  have f := pR_fr2 h' (i := i) hc v
  refine ⟨q.1.fr f (by decide +kernel), fun i' h2 hi => ?_⟩
  obtain ⟨q1, q2, q3⟩ := q.2 i' h2 hi
  exact ⟨q1, by rw [hR_pR, if_neg (fun z => hi z.2.1)]; exact q2, by rw [hR_pR, if_neg (fun z => hi z.2.1)]; exact q3⟩
theorem OI.fr {W : List Nat × List Nat × Bool} {i : Nat} {h h1 h2 : PH} (q : OI i h h1) (f : Fr W h1 h2) (hw : [515, 1536, 1984].all (fun c => !W.1.contains c) = true) (hv : (193 :: 513 :: shCols).all (fun c => !W.2.1.contains c) = true) : OI i h h2 := by
  have a := q.1
  have hv' : W.2.1.all (fun c => !shCols.contains c) = true := by
    rw [List.all_eq_true] at hv ⊢
    intro c hc
    cases e : shCols.contains c with
    | false => rfl
    | true =>
      have := hv c (List.mem_cons_of_mem _ (List.mem_cons_of_mem _ (List.contains_iff_mem.mp e)))
      rw [List.contains_iff_mem.mpr hc] at this
      cases this
  refine ⟨a.fr f hv', fun i' h2' hi => ?_⟩
  obtain ⟨q1, q2, q3⟩ := q.2 i' h2' hi
  refine ⟨fun c hc j => ?_, by rw [f.2.1 193 i' 0 (ninW hv (by decide +kernel)) (a.n3 h2')]; exact q2, by rw [f.2.1 513 i' 0 (ninW hv (by decide +kernel)) (a.n8 h2')]; exact q3⟩
  rw [← q1 c hc j]
  rcases hc with rfl | rfl | rfl
  · exact f.1 515 i' j (ninW hw (by decide)) (a.n8 h2')
  · exact f.1 1536 i' j (ninW hw (by decide)) (a.n24 h2')
  · exact f.1 1984 i' j (ninW hw (by decide)) (a.n31 h2')
theorem survey_oi {h0 : PH} {i : Nat} (hi : i < 2) : ∀ n x h, OI i h0 h → GR (OI i h0) (X4_survey_fam n i x h)
  | 0, _, _, _ => fun z e => by cases e
  | n + 1, x, h, q => by
    show GR (OI i h0) (X4_survey_g7 (X4_survey_fam n) i x h)
    unfold X4_survey_g7 X4_survey_f7
    refine gr_nn fun r2 _ => gr_if (gr_nn fun r3 _ => gr_nn fun r4 _ => gr_ix fun j5 => gr_nn fun r6 _ => gr_cI fun v8 h7 e8 => gr_nn fun r9 e9 => gr_ix fun j10 => gr_wr ?_) (gr_some q)
    have f := X1_passes_fr _ _ _ _ _ e8
    have q7 := q.fr f (by decide) (by decide +kernel)
    have r9i : r9 = i := by
      rw [sh_194 q.1 i hi] at e9
      omega
    subst r9i
    exact survey_oi hi n _ _ (q7.pI _ _ _)
theorem enter_oi {h0 : PH} {i : Nat} (hi : i < 2) : ∀ n, (∀ x h, OI i h0 h → GR (OI i h0) ((X9_enter_fam n).1 i x h)) ∧ ∀ x y h, OI i h0 h → GR (OI i h0) ((X9_enter_fam n).2 i x y h)
  | 0 => ⟨fun _ _ _ _ e => by (cases e), fun _ _ _ _ _ e => by (cases e)⟩
  | n + 1 => by
    obtain ⟨i1, i2⟩ := enter_oi (h0 := h0) hi n
    have g112 : ∀ x y h, OI i h0 h → GR (OI i h0) (X9_enter_g112 (X9_enter_fam n) i x y h) := fun x y h q => i2 x (y + 1) h q
    refine ⟨fun x h q => ?_, fun x y h q => ?_⟩
    · show GR (OI i h0) (X9_enter_g21 (X9_enter_fam n) i x h)
      unfold X9_enter_g21 X9_enter_f21
      exact gr_if (i2 x 0 h q) (gr_some q)
    · show GR (OI i h0) (X9_enter_g27 (X9_enter_fam n) i x y h)
      unfold X9_enter_g27 X9_enter_f27
      refine gr_nn fun r5 _ => gr_if (gr_nn fun r6 _ => gr_nn fun r7 _ => gr_ix fun j8 => gr_nn fun r9 _ => gr_cI fun v11 h10 e11 => ?_) (i1 _ h q)
      have q10 : OI i h0 h10 := by
        have f := se3_fr _ _ _ e11
        exact q.fr f (by decide) (by decide +kernel)
      refine gr_if (gr_nn fun r12 _ => gr_cI fun v14 h13 e14 => ?_) (g112 x y h10 q10)
      have q13 := q10.fr (X1_isLit_fr _ _ _ _ e14) (by decide) (by decide +kernel)
      refine gr_if (g112 x y h13 q13) (gr_nn fun r15 _ => gr_nn fun r16 _ => gr_cI fun v18 h17 e18 => ?_)
      have q17 := q13.fr (X1_isObeyed_fr _ _ _ _ _ e18) (by decide) (by decide +kernel)
      refine gr_if (g112 x y h17 q17) (gr_nn fun r19 e19 => gr_ix fun j20 => gr_wr (gr_wr ?_))
      have r19i : r19 = i := by
        rw [sh_514 q17.1 i hi] at e19
        omega
      subst r19i
      exact g112 x y _ ((q17.pI _ _ _).pI _ _ _)
theorem X9_enter_oi {h h' : PH} {i b : Nat} (a : SH h) (hi : i < 2) (e : X9_enter i (b + 1) h = some (none, h')) : OI i h h' := by
  obtain ⟨n, e⟩ := X9_enter_iff.mp e
  have q0 : OI i h h := ⟨a, fun _ _ _ => ⟨fun _ _ _ => rfl, rfl, rfl⟩⟩
  have : GR (OI i h) (X9_enter_g0 (X9_enter_fam n) i (b + 1) h) := by
    unfold X9_enter_g0 X9_enter_f0
    have q1 := q0.pR (c := 513) (Or.inr rfl) (b + 1)
    refine gr_wr (gr_nn fun r2 e2 => gr_cV fun h3 e3 => gr_wr ?_)
    have r2i : r2 = i := by
      rw [sh_512 q1.1 i hi] at e2
      omega
    subst r2i
    obtain ⟨n3, e3⟩ := X4_survey_iff.mp e3
    have q3 : OI r2 h h3 := by
      unfold X4_survey_g0 X4_survey_f0 at e3
      exact survey_oi hi n3 0 _ (q1.pR (c := 193) (Or.inl rfl) (b + 1)) _ e3
    exact (enter_oi hi n).1 6 _ (q3.pI _ _ _)
  exact this _ e
def EnE (h : PH) (b : Nat) (N : Nat → Int32) : Prop := ∀ i, i < 2 → hR h 513 i 0 = b + 1 ∧ RdE h i b N (fun v => passB N v (nI i)) ∧ RF h i (ordO N (nI i) (nt (N 6)) 6)
theorem enterBoth_eq {h : PH} {b : Nat} {N : Nat → Int32} (q : Hs h b N) (hx : ∀ i, i < 2 → hI h 192 i 0 = nI i) : ∃ h', X11_enterBoth 0 (b + 1) h = some (none, h') ∧ Fr X9_enter_W h h' ∧ EnE h' b N := by
  have a := q.1
  obtain ⟨h1, e1, f1, r1, d1, l1⟩ := X9_enter_eq q (i := 0) (by decide) (hx 0 (by decide))
  have q1 := q.fr f1 (by decide +kernel) (by decide +kernel)
  have a1 := q1.1
  obtain ⟨h2, e2, f2, r2, d2, l2⟩ := X9_enter_eq q1 (i := 1) (by decide) ((f1.1 192 1 0 (by decide) (a.n3 (by decide))).trans (hx 1 (by decide)))
  have q2 := q1.fr f2 (by decide +kernel) (by decide +kernel)
  obtain ⟨-, o⟩ := X9_enter_oi a1 (by decide) e2
  obtain ⟨o1, o2, o3⟩ := o 0 (by decide) (by decide)
  refine ⟨h2, ?_, f1.tr f2, fun i hi => ?_⟩
  · unfold X11_enterBoth X11_enterBoth_g0 X11_enterBoth_f0
    rw [nnE (sh_643 a), ixE (x := 0) (j := 0) (ln_37 a) rfl (by decide) (by decide), nnE (sh_2368 a 0 (by decide)), e1, cV_some, nnE (sh_643 a1), ixE (x := 1) (j := 1) (ln_37 a1) rfl (by decide) (by decide), nnE (sh_2368 a1 1 (by decide)), e2, cV_some]
  · have hi' : i = 0 ∨ i = 1 := by omega
    rcases hi' with rfl | rfl
    · refine ⟨o3.trans r1, ⟨q2, by decide, o2.trans d1.2.2.1, fun v hv => ?_⟩, ?_, fun j v hj => ?_⟩
      · rw [o1 1536 (by omega)]
        exact d1.2.2.2 v hv
      · rw [o1 515 (by omega)]
        exact l1.1
      · rw [o1 1984 (by omega)]
        exact l1.2 j v hj
    · exact ⟨r2, d2, l2⟩
