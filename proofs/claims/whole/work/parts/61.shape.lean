/-! the shape: references that never change, lengths, what is there -/
def rg (n : Nat) (f : Nat → Nat × Nat × Nat × Nat) : List (Nat × Nat × Nat × Nat) := (List.range n).map f
def shList : List (Nat × Nat × Nat × Nat) :=
  [(640, 0, 0, 1), (641, 0, 0, 2), (643, 0, 0, 1), (644, 0, 0, 1), (645, 0, 0, 1), (646, 0, 0, 1), (647, 0, 0, 1), (648, 0, 0, 1), (128, 0, 0, 1), (135, 0, 0, 1), (0, 0, 0, 1)] ++
  (rg 8 (fun f => (64 + f, 0, 0, 1)) ++ rg 8 (fun f => (64 + f, 1, 0, 2)) ++ rg 20 (fun j => (896, 0, j, j + 1)) ++ rg 20 (fun j => (896, 1, j, 21 + j)) ++ rg 14 (fun j => (1152, 0, j, j + 1)) ++ rg 14 (fun j => (1152, 1, j, 15 + j))) ++
  (rg 28 (fun s => (325, s, 0, s + 1)) ++ rg 28 (fun s => (326, s, 0, s + 1)) ++ rg 2 (fun i => (194, i, 0, i + 1)) ++ rg 2 (fun i => (195, i, 0, i + 1)) ++ rg 9 (fun i => (258, i, 0, i + 1)) ++ rg 5 (fun i => (388, i, 0, i + 5))) ++
  (rg 2 (fun i => (512, i, 0, i + 1)) ++ rg 2 (fun i => (514, i, 0, i + 1)) ++ rg 2 (fun i => (517, i, 0, i + 1)) ++ rg 2 (fun i => (518, i, 0, i + 1)) ++ rg 2 (fun i => (519, i, 0, i + 1)) ++ rg 2 (fun i => (520, i, 0, i + 1)) ++ rg 2 (fun i => (522, i, 0, i + 1))) ++
  (rg 2 (fun j => (2368, 0, j, j + 1)) ++ rg 4 (fun j => (2432, 0, j, j + 1)) ++ rg 5 (fun j => (2496, 0, j, j + 1)) ++ rg 16 (fun j => (768, 0, j, j + 1))) ++
  [704, 705, 706, 708, 710, 718, 719, 720, 723, 725, 726, 727, 728, 729, 730, 735, 736, 738, 742, 743, 744, 745, 746, 747, 748, 749, 750, 751, 752, 753].map (fun c => (c, 0, 0, 1))
def rl3 (n : Nat) (f : Nat → Nat × Nat × Nat) : List (Nat × Nat × Nat) := (List.range n).map f
def lnList : List (Nat × Nat × Nat) :=
  (rl3 2 (fun i => (14, i, 20)) ++ rl3 2 (fun i => (15, i, 96)) ++ rl3 2 (fun i => (16, i, 10)) ++ rl3 2 (fun i => (17, i, 10)) ++ rl3 2 (fun i => (18, i, 14)) ++ rl3 2 (fun i => (19, i, 14)) ++ rl3 2 (fun i => (20, i, 3)) ++ rl3 2 (fun i => (21, i, 6))) ++
  [(22, 0, 96), (23, 0, 96), (12, 0, 16), (37, 0, 2), (38, 0, 4), (39, 0, 5), (40, 0, 60)] ++
  (rl3 2 (fun i => (24, i, 20)) ++ rl3 2 (fun i => (25, i, 120)) ++ rl3 9 (fun i => (26, i, 24)) ++ rl3 28 (fun i => (27, i, 6)) ++ rl3 28 (fun i => (28, i, 6)) ++ rl3 2 (fun i => (31, i, 14)) ++ rl3 2 (fun i => (32, i, 12)) ++ rl3 2 (fun i => (33, i, 12)) ++ rl3 2 (fun i => (34, i, 12)) ++ rl3 2 (fun i => (35, i, 96)) ++ rl3 2 (fun i => (36, i, 61)) ++ rl3 16 (fun i => (13, i, 98))) ++
  [(41, 0, 1765), (42, 0, 1765), (43, 0, 1765), (44, 0, 2912), (45, 0, 96), (46, 0, 13), (47, 0, 4), (48, 0, 96), (49, 0, 96), (50, 0, 10), (51, 0, 96), (52, 0, 4), (53, 0, 20), (54, 0, 14), (55, 0, 12), (56, 0, 120), (57, 0, 96), (58, 0, 12), (59, 0, 120), (60, 0, 120), (61, 0, 10), (62, 0, 4), (63, 0, 4), (64, 0, 96), (65, 0, 5), (66, 0, 5), (67, 0, 5), (68, 0, 120), (69, 0, 24), (70, 0, 60)]
def cnList : List (Nat × Nat) := [(0, 1), (1, 2), (2, 1), (3, 2), (4, 9), (5, 28), (6, 5), (8, 2), (9, 40), (10, 1), (11, 1)]
abbrev SH (h : PH) : Prop := (∀ e ∈ shList, hR h e.1 e.2.1 e.2.2.1 = e.2.2.2 ∧ e.2.1 < hN h (e.1 / 64)) ∧ (∀ e ∈ lnList, hL h e.1 e.2.1 = e.2.2 ∧ e.2.1 < hN h e.1) ∧ (∀ e ∈ cnList, e.2 ≤ hN h e.1)
def shCols : List Nat := shList.map (·.1)
/-- the shape is kept by whoever writes none of its columns -/
theorem SH.fr {W : List Nat × List Nat × Bool} {h h' : PH} (a : SH h) (f : Fr W h h') (hw : W.2.1.all (fun c => !shCols.contains c) = true) : SH h' := by
  refine ⟨fun e he => ?_, fun e he => ?_, fun e he => Nat.le_trans (a.2.2 e he) (f.2.2.2.1 _)⟩
  · obtain ⟨h1, h2⟩ := a.1 e he
    refine ⟨(f.2.1 _ _ _ ?_ h2).trans h1, Nat.lt_of_lt_of_le h2 (f.2.2.2.1 _)⟩
    cases ec : W.2.1.contains e.1 with
    | false => rfl
    | true =>
      have h3 := List.all_eq_true.mp hw e.1 (by rw [← List.contains_iff_mem]; exact ec)
      have h4 : shCols.contains e.1 = true := by
        rw [List.contains_iff_mem]
        exact List.mem_map.mpr ⟨e, he, rfl⟩
      rw [h4] at h3
      cases h3
  · obtain ⟨h1, h2⟩ := a.2.1 e he
    exact ⟨(f.2.2.1 _ _ h2).trans h1, Nat.lt_of_lt_of_le h2 (f.2.2.2.1 _)⟩
/-! both constructors, worked out -/
noncomputable def J15e (a : Nat) (v : Int32) (h : PH) : Option Rs := J7_fill_53178_15_g0 (J7_fill_53178_15_fam 98) a v h
noncomputable def J20e (a : Nat) (v : Int32) (h : PH) : Option Rs := J7_fill_53178_20_g0 (J7_fill_53178_20_fam 5) a v h
theorem J15e_mo (a : Nat) (v : Int32) (h : PH) : Mo (J15e a v h) (J7_fill_53178_15 a v h) := fun _ e => J7_fill_53178_15_iff.mpr ⟨98, e⟩
theorem J20e_mo (a : Nat) (v : Int32) (h : PH) : Mo (J20e a v h) (J7_fill_53178_20 a v h) := fun _ e => J7_fill_53178_20_iff.mpr ⟨5, e⟩
theorem mo_cV2 {o p : Option Rs} {f g : PH → Option Rs} (a : Mo o p) (b : ∀ h, Mo (f h) (g h)) : Mo (cV o f) (cV p g) := by
  intro r e
  unfold cV at e
  split at e
  · rw [a _ rfl]
    exact b _ r e
  · cases e
noncomputable def E1 : Nat → (Nat → Int32 → PH → Option Rs) × (Nat → Int32 → PH → Option Rs)
  | 0 => (fun _ _ _ => none, fun _ _ _ => none)
  | n + 1 => (X1_init_f118 X10_init (E1 n).1 (E1 n).2, X1_init_f145 J15e J20e X6_init (E1 n).2)
theorem E1_mo : ∀ n, (∀ t x h, Mo ((E1 n).1 t x h) ((X1_init_fam n).1 t x h)) ∧ (∀ t x h, Mo ((E1 n).2 t x h) ((X1_init_fam n).2 t x h))
  | 0 => ⟨fun _ _ _ => mo_no, fun _ _ _ => mo_no⟩
  | n + 1 => by
    obtain ⟨a, b⟩ := E1_mo n
    refine ⟨fun t x h => X1_init_m118 a b t x h, fun t x h => ?_⟩
    show Mo (X1_init_f145 J15e J20e X6_init (E1 n).2 t x h) (X1_init_f145 J7_fill_53178_15 J7_fill_53178_20 X6_init (X1_init_fam n).2 t x h)
    unfold X1_init_f145
    refine mo_if (mo_wr fun _ => mo_nn fun _ => mo_cV fun _ => mo_nn fun _ => mo_ix fun _ => mo_wr fun _ => b _ _ _) (mo_cV2 (J15e_mo _ _ _) fun _ => mo_cV2 (J20e_mo _ _ _) fun _ => mo_rf)
noncomputable def X1e (t : Nat) (h : PH) : Option Rs := X1_init_f0 (X1_init_f29 (X1_init_f55 (X1_init_f75 (X1_init_f100 (E1 40).1)))) t h
theorem X1e_mo (t : Nat) (h : PH) : Mo (X1e t h) (X1_init t h) := fun r e => X1_init_iff.mpr ⟨40, X1_init_m0 (fun t h => X1_init_m29 (fun t h => X1_init_m55 (fun t h => X1_init_m75 (fun t h => X1_init_m100 (E1_mo 40).1 t h) t h) t h) t h) t h r e⟩
noncomputable def E11 : Nat → (Nat → Int32 → PH → Option Rs) × (Nat → Int32 → PH → Option Rs)
  | 0 => (fun _ _ _ => none, fun _ _ _ => none)
  | n + 1 => (X11_init_f136 X5_init (E11 n).1 (E11 n).2, X11_init_f162 X7_init (E11 n).2)
theorem E11_eq : ∀ n, E11 n = X11_init_fam n
  | 0 => rfl
  | n + 1 => by
    show (X11_init_f136 X5_init (E11 n).1 (E11 n).2, X11_init_f162 X7_init (E11 n).2) = X11_init_fam (n + 1)
    rw [E11_eq n]
    rfl
noncomputable def X11e (t : Nat) (h : PH) : Option Rs := X11_init_f0 X1e X4_init X9_init X0_init X3_init (X11_init_f121 (E11 12).1) t h
theorem X11e_mo (t : Nat) (h : PH) : Mo (X11e t h) (X11_init t h) := by
  intro r e
  refine X11_init_iff.mpr ⟨12, ?_⟩
  show X11_init_f0 X1_init X4_init X9_init X0_init X3_init (X11_init_f121 (X11_init_fam 12).1) t h = some r
  rw [← E11_eq 12]
  revert e
  unfold X11e X11_init_f0
  have key : ∀ (hh : PH) (a b : PH → Option Rs), (∀ z, Mo (a z) (b z)) → ∀ i, Mo (cV (X1e i hh) a) (cV (X1_init i hh) b) := fun hh a b k i => mo_cV2 (X1e_mo i hh) k
  exact (mo_wr fun _ => mo_nn fun _ => key _ _ _ (fun _ => mo_wr fun _ => mo_wr fun _ => mo_nn fun _ => key _ _ _ (fun _ => mo_rf) _) _) r
noncomputable def chkR (o : Option Rs) (f : Rs → Bool) : Bool := match o with
  | some r => f r
  | none => false
theorem chkR_some {o : Option Rs} {f : Rs → Bool} (h : chkR o f = true) : ∃ r, o = some r ∧ f r = true := by
  cases o with
  | none => cases h
  | some r => exact ⟨r, rfl, h⟩
theorem cV_of2 {o : Option Rs} {f : PH → Option Rs} {r : Rs} (e : cV o f = some r) : ∃ h, o = some (none, h) ∧ f h = some r := by
  unfold cV at e
  split at e
  · exact ⟨_, rfl, e⟩
  · cases e
/-- the heap when both are made -/
noncomputable def both : Option Rs := cV (X11e 0 (nw h00 10 0 10)) (fun h => X12_init 0 (nw h 11 0 51))
set_option maxRecDepth 100000 in
theorem both_sh : chkR both (fun r => r.1.isNone && decide (SH r.2)) = true := by decide +kernel
set_option maxRecDepth 100000 in
theorem X11e_n : chkR (X11e 0 (nw h00 10 0 10)) (fun r => Nat.beq (hN r.2 11) 0) = true := by decide +kernel
