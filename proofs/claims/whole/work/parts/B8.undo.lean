/-! pair: undo -/
/-- the rows of the signs below s are those of the model's saved block -/
def TbE (g h0 : PH) (s blk : Nat) : Prop := ∀ t, t < s → hI g 324 t 0 = hI h0 2816 0 (182 * blk + t) ∧ ∀ r, r < nt (hI h0 2816 0 (182 * blk + t)) → hI g 1728 t r = hI h0 2816 0 (182 * blk + 14 + 12 * t + 2 * r) ∧ hI g 1792 t r = hI h0 2816 0 (182 * blk + 15 + 12 * t + 2 * r)
def TbK (g h0 : PH) : Prop := ∀ c, c = 324 ∨ c = 1728 ∨ c = 1792 → ∀ i j, 14 ≤ i → hI g c i j = hI h0 c i j
theorem aRC_oth {h : PH} {s n : Nat} {x y : Int32} {c i j : Nat} (hi : i ≠ s) : hI (aRC h s n x y) c i j = hI h c i j := by
  unfold aRC
  rw [hI_pI, if_neg (fun z => hi z.2.1), hI_pI, if_neg (fun z => hi z.2.1), hI_pI, if_neg (fun z => hi z.2.1)]
theorem aRC_324 {h : PH} {s n : Nat} {x y : Int32} : hI (aRC h s n x y) 324 s 0 = nI (n + 1) := by
  unfold aRC
  rw [hI_pI, if_pos ⟨rfl, rfl, rfl⟩]
theorem aRC_1728 {h : PH} {s n : Nat} {x y : Int32} (j : Nat) : hI (aRC h s n x y) 1728 s j = if j = n then x else hI h 1728 s j := by
  unfold aRC
  rw [hI_off _ (by decide), hI_off _ (by decide), hI_pI]
  by_cases w : j = n
  · rw [if_pos ⟨rfl, rfl, w⟩, if_pos w]
  · rw [if_neg (fun y => w y.2.2), if_neg w]
theorem aRC_1792 {h : PH} {s n : Nat} {x y : Int32} (j : Nat) : hI (aRC h s n x y) 1792 s j = if j = n then y else hI h 1792 s j := by
  unfold aRC
  rw [hI_off _ (by decide), hI_pI]
  by_cases w : j = n
  · rw [if_pos ⟨rfl, rfl, w⟩, if_pos w]
  · rw [if_neg (fun y => w y.2.2), if_neg w, hI_off _ (by decide)]
theorem aRC_fr {h : PH} {s n : Nat} {x y : Int32} : Fr rwW h (aRC h s n x y) := ((Fr.rf.pI (by decide)).pI (by decide)).pI (by decide)
theorem tb_inner {h0 : PH} (a0 : SH h0) {rho blk s cnt : Nat} (hrho : rho < 16) (hs : s < 14) (hc6 : cnt ≤ 6) (c2 : hI h0 832 rho (7 * s) = nI cnt) (c3 : hI h0 2816 0 (182 * blk + s) = nI cnt) (c4 : ∀ r, r < cnt → ∃ nm ar, nm < 14 ∧ ar < 8 ∧ hI h0 832 rho (7 * s + 1 + r) = nI (8 * nm + ar) ∧ hI h0 2816 0 (182 * blk + 14 + 12 * s + 2 * r) = nI nm ∧ hI h0 2816 0 (182 * blk + 15 + 12 * s + 2 * r) = nI ar) : ∀ k r h, r + k = cnt → Fr rwW h0 h → TbK h h0 → TbE h h0 s blk → hI h 324 s 0 = nI r → (∀ r', r' < r → hI h 1728 s r' = hI h0 2816 0 (182 * blk + 14 + 12 * s + 2 * r') ∧ hI h 1792 s r' = hI h0 2816 0 (182 * blk + 15 + 12 * s + 2 * r')) → ∃ h1, Fr rwW h0 h1 ∧ TbK h1 h0 ∧ TbE h1 h0 (s + 1) blk ∧ ∀ n z, (X0_takeBack_fam n).1 0 1 (rho + 1) (nI (s + 1)) h1 = some z → ∃ n', (X0_takeBack_fam n').2 0 1 (rho + 1) (nI s) (s + 1) (nI r) h = some z := by
  have x7 : nI s * 7 = nI (7 * s) := by rw [show (7 : Int32) = nI 7 from rfl, nI_mul, Nat.mul_comm]
  intro k
  induction k with
  | zero =>
    intro r h e f hk ht h3 hr
    have a : SH h := a0.fr f (by decide +kernel)
    have e2 : hI h 832 rho (7 * s) = nI cnt := (f.1 832 rho _ (by decide) (a0.n13 hrho)).trans c2
    have hlt : ¬ nI r < nI cnt := nI_nlt (by omega) (by omega)
    have er : r = cnt := by omega
    refine ⟨h, f, hk, fun t ht' => ?_, fun n z hz => ⟨n + 1, ?_⟩⟩
    · by_cases c : t = s
      · subst c
        refine ⟨by rw [c3, h3, er], fun r' hr' => hr r' ?_⟩
        rw [c3, nt_nI (by omega)] at hr'
        omega
      · exact ht t (by omega)
    · show X0_takeBack_g37 (X0_takeBack_fam n) 0 1 (rho + 1) (nI s) (s + 1) (nI r) h = _
      unfold X0_takeBack_g37 X0_takeBack_f37
      rw [nnE rfl, ixE (ln_13 a rho hrho) x7 (show 7 * s < 98 by omega) (by decide), e2, if_neg hlt, nI_1]
      exact hz
  | succ k ih =>
    intro r h e f hk ht h3 hr
    have a : SH h := a0.fr f (by decide +kernel)
    have e2 : hI h 832 rho (7 * s) = nI cnt := (f.1 832 rho _ (by decide) (a0.n13 hrho)).trans c2
    have hlt : nI r < nI cnt := nI_lt (by omega) (by omega)
    obtain ⟨nm, ar, d1, d2, d3, d4, d5⟩ := c4 r (by omega)
    have e3 : hI h 832 rho (7 * s + 1 + r) = nI (8 * nm + ar) := (f.1 832 rho _ (by decide) (a0.n13 hrho)).trans d3
    have x1 : nI s * 7 + 1 + nI r = nI (7 * s + 1 + r) := by
      rw [show (7 : Int32) = nI 7 from rfl, nI_mul, nI_1, nI_add, Nat.mul_comm]
    have ed : nI (8 * nm + ar) / 8 = nI nm := by
      rw [show (8 : Int32) = nI 8 from rfl, pk_div (by omega) (by decide) (by decide)]
      congr 1
      omega
    have em : jrem (nI (8 * nm + ar)) 8 = nI ar := by
      unfold jrem
      rw [show (8 : Int32) = nI 8 from rfl]
      refine (pk_rem (by omega) (by decide) (by decide)).trans ?_
      congr 1
      omega
    obtain ⟨h1, g5, g6, g7, g8⟩ := ih (r + 1) (aRC h s r (nI nm) (nI ar)) (by omega) (f.tr aRC_fr) (fun c hc i j hi => (aRC_oth (by omega)).trans (hk c hc i j hi)) (fun t ht' => by
        have ne : t ≠ s := by omega
        obtain ⟨n1, n2⟩ := ht t ht'
        exact ⟨(aRC_oth ne).trans n1, fun r' hr' => ⟨(aRC_oth ne).trans (n2 r' hr').1, (aRC_oth ne).trans (n2 r' hr').2⟩⟩) aRC_324 (fun r' hr' => by
        rw [aRC_1728, aRC_1792]
        by_cases c : r' = r
        · subst c
          rw [if_pos rfl, if_pos rfl, d4, d5]
          exact ⟨rfl, rfl⟩
        · rw [if_neg c, if_neg c]
          exact hr r' (by omega))
    refine ⟨h1, g5, g6, g7, fun n z hz => ?_⟩
    obtain ⟨n', hn'⟩ := g8 n z hz
    refine ⟨n' + 1, ?_⟩
    show X0_takeBack_g37 (X0_takeBack_fam n') 0 1 (rho + 1) (nI s) (s + 1) (nI r) h = _
    unfold X0_takeBack_g37 X0_takeBack_f37
    rw [nnE rfl, ixE (ln_13 a rho hrho) x7 (show 7 * s < 98 by omega) (by decide), e2, if_pos hlt, nnE rfl, ixE (ln_13 a rho hrho) x1 (show 7 * s + 1 + r < 98 by omega) (by decide), dv_ok (by decide), dv_ok (by decide), nnE rfl, e3, ed, em, addRow_eq a (show s < 28 by omega) (show r < 6 by omega) h3, cV_some, nI_1]
    exact hn'
def tbW : List Nat × List Nat × Bool := ([1, 2, 324, 1728, 1792], [], false)
theorem tb_outer {h0 : PH} (a0 : SH h0) {rho blk S n l : Nat} (hrho : rho < 16) (hS : S ≤ 14) (h75 : hI h0 75 0 0 = nI S) (hl : l < 16) (hn : n < 16) (hl1 : hI h0 1 0 0 = nI l) (hn1 : hI h0 2 0 0 = nI (n + 1)) (o : ChgOne h0 S rho blk) : ∀ k s h, s + k = S → Fr rwW h0 h → TbK h h0 → TbE h h0 s blk → ∃ z h', (X0_takeBack_fam z).1 0 1 (rho + 1) (nI s) h = some (none, h') ∧ Fr tbW h0 h' ∧ TbK h' h0 ∧ TbE h' h0 S blk ∧ hI h' 1 0 0 = nI ((l + 15) % 16) ∧ hI h' 2 0 0 = nI n := by
  have n0 : 0 < hN h0 0 := a0.k1 (k := 0) (n := 1) (by decide +kernel) (by decide)
  have n1 : 0 < hN h0 1 := a0.k1 (k := 1) (n := 2) (by decide +kernel) (by decide)
  intro k
  induction k with
  | zero =>
    intro s h e f hk ht
    have e75 : hI h 75 0 0 = nI S := (f.1 75 0 0 (by decide) n1).trans h75
    have e1 : hI h 1 0 0 = nI l := (f.1 1 0 0 (by decide) n0).trans hl1
    have e2 : hI h 2 0 0 = nI (n + 1) := (f.1 2 0 0 (by decide) n0).trans hn1
    have hlt : ¬ nI s < nI S := nI_nlt (by omega) (by omega)
    have er : jrem (nI l + 16 - 1) 16 = nI ((l + 15) % 16) := by
      unfold jrem
      rw [show (16 : Int32) = nI 16 from rfl, nI_add, show l + 16 = (l + 15) + 1 from rfl, nI_pred]
      exact pk_rem (by omega) (by decide) (by decide)
    have es : s = S := by omega
    refine ⟨1, pI (pI h 1 0 0 (nI ((l + 15) % 16))) 2 0 0 (nI n), ?_, ((f.sub (by decide)).pI (by decide)).pI (by decide), fun c hc i j hi => ?_, fun t ht' => ?_, ?_, ?_⟩
    · show X0_takeBack_g12 (X0_takeBack_fam 0) 0 1 (rho + 1) (nI s) h = _
      unfold X0_takeBack_g12 X0_takeBack_f12
      rw [nnE rfl, e75, if_neg hlt, dv_ok (by decide), e1, er, wr_eq, hI_off _ (by decide), e2, nI_pred, wr_eq]
    · have e9 : c ≠ 1 ∧ c ≠ 2 := by omega
      rw [hI_off _ e9.2, hI_off _ e9.1]
      exact hk c hc i j hi
    · rw [hI_off _ (by decide), hI_off _ (by decide)]
      obtain ⟨t1, t2⟩ := ht t (by omega)
      refine ⟨t1, fun r hr => ?_⟩
      rw [hI_off _ (by decide), hI_off _ (by decide), hI_off _ (by decide), hI_off _ (by decide)]
      exact t2 r hr
    · rw [hI_off _ (by decide), hI_pI, if_pos ⟨rfl, rfl, rfl⟩]
    · rw [hI_pI, if_pos ⟨rfl, rfl, rfl⟩]
  | succ k ih =>
    intro s h e f hk ht
    have a : SH h := a0.fr f (by decide +kernel)
    have e75 : hI h 75 0 0 = nI S := (f.1 75 0 0 (by decide) n1).trans h75
    have hlt : nI s < nI S := nI_lt (by omega) (by omega)
    obtain ⟨cnt, c1, c2, c3, c4⟩ := o s (by omega)
    have hs14 : s < 14 := by omega
    obtain ⟨h1, g5, g6, g7, g8⟩ := tb_inner a0 hrho hs14 c1 c2 c3 c4 cnt 0 (pI h 324 s 0 0) (by omega) (f.pI (by decide)) (fun c hc i j hi => by rw [hI_pI, if_neg (fun z => by omega)]; exact hk c hc i j hi) (fun t ht' => by
        obtain ⟨t1, t2⟩ := ht t ht'
        refine ⟨by rw [hI_pI, if_neg (fun z => by omega)]; exact t1, fun r hr => ?_⟩
        rw [hI_off _ (by decide), hI_off _ (by decide)]
        exact t2 r hr) (by rw [hI_pI, if_pos ⟨rfl, rfl, rfl⟩]; rfl) (fun r' hr' => by omega)
    obtain ⟨z, h', e1, e2⟩ := ih (s + 1) h1 (by omega) g5 g6 g7
    obtain ⟨z', hz'⟩ := g8 z _ e1
    refine ⟨z' + 1, h', ?_, e2⟩
    show X0_takeBack_g12 (X0_takeBack_fam z') 0 1 (rho + 1) (nI s) h = _
    unfold X0_takeBack_g12 X0_takeBack_f12
    rw [nnE rfl, e75, if_pos hlt, nnE rfl, nnE (sh_68 a 0 (by decide)), ixE (ln_18 a 0 (by decide)) rfl hs14 (by decide), sh_1152_0 a s hs14, nnE rfl, wr_eq]
    exact hz'
/-- the model's block put back -/
def unF (N M : Nat → Int32) (u v : Nat) : Nat → Int32 := fun j => if 225 ≤ j ∧ j < 225 + v then M (14 + (j - 225)) else if 157 ≤ j ∧ j < 157 + 5 * u ∧ (j - 157) % 5 = 0 then M ((j - 157) / 5) else N j
theorem un_l2 {h0 : PH} (a0 : SH h0) {c : Nat} (hc : c ≤ 15) (h9 : hI h0 709 0 0 = nI c) (N M : Nat → Int32) (hM : ∀ j, j < 182 → hI h0 2816 0 (182 * c + j) = M j) : ∀ k j h, j + k = 168 → Fr ([2624], [], false) h0 h → hI h 2624 0 = unF N M 14 j → ∃ n h', (X12_undo_fam n).2 0 (nI j) h = some (some (.inl (nI c)), h') ∧ Fr ([2624], [], false) h0 h' ∧ hI h' 2624 0 = unF N M 14 168 := by
  intro k
  induction k with
  | zero =>
    intro j h e f hd
    have hj : j = 168 := by omega
    subst hj
    refine ⟨1, h, ?_, f, hd⟩
    show X12_undo_g65 (X12_undo_fam 0) 0 (nI 168) h = _
    unfold X12_undo_g65 X12_undo_f65
    rw [if_neg (by decide), f.1 709 0 0 (by decide) a0.n11, h9]
  | succ k ih =>
    intro j h e f hd
    have a := a0.fr f (by decide +kernel)
    have hlt : nI j < 168 := nI_lt (b := 168) (by omega) (by decide)
    have e9 : hI h 709 0 0 = nI c := (f.1 709 0 0 (by decide) a0.n11).trans h9
    have x1 : (225 : Int32) + nI j = nI (225 + j) := by rw [show (225 : Int32) = nI 225 from rfl, nI_add]
    have x2 : (182 : Int32) * nI c + 14 + nI j = nI (182 * c + 14 + j) := by rw [show (182 : Int32) = nI 182 from rfl, show (14 : Int32) = nI 14 from rfl, nI_mul, nI_add, nI_add]
    have eM : hI h 2816 0 (182 * c + 14 + j) = M (14 + j) := by
      rw [f.1 2816 0 _ (by decide) a0.n44, Nat.add_assoc]
      exact hM _ (by omega)
    obtain ⟨n, h', e1, e2, e3⟩ := ih (j + 1) (pI h 2624 0 (225 + j) (M (14 + j))) (by omega) (f.pI (by decide)) (by
      rw [hI_upd, hd]
      funext i
      unfold updF unF
      by_cases d : i = 225 + j
      · rw [if_pos d, if_pos (by omega), d, show 225 + j - 225 = j by omega]
      · rw [if_neg d]
        by_cases d2 : 225 ≤ i ∧ i < 225 + j
        · rw [if_pos d2, if_pos (by omega)]
        · rw [if_neg d2, if_neg (show ¬ (225 ≤ i ∧ i < 225 + (j + 1)) by omega)])
    refine ⟨n + 1, h', ?_, e2, e3⟩
    show X12_undo_g65 (X12_undo_fam n) 0 (nI j) h = _
    unfold X12_undo_g65 X12_undo_f65
    rw [if_pos hlt, nnE (sh_708 a), e9, ixE (ln_44 a) x2 (show 182 * c + 14 + j < 2912 by omega) (by decide), nnE (sh_704 a), ixE (ln_41 a) x1 (show 225 + j < 1765 by omega) (by decide), eM, wr_eq, nI_1]
    exact e1
theorem un_l1 {h0 : PH} (a0 : SH h0) {c : Nat} (hc : c ≤ 15) (h9 : hI h0 709 0 0 = nI c) (N M : Nat → Int32) (hM : ∀ j, j < 182 → hI h0 2816 0 (182 * c + j) = M j) : ∀ k j h, j + k = 14 → Fr ([2624], [], false) h0 h → hI h 2624 0 = unF N M j 0 → ∃ n h', (X12_undo_fam n).1 0 (nI j) h = some (some (.inl (nI c)), h') ∧ Fr ([2624], [], false) h0 h' ∧ hI h' 2624 0 = unF N M 14 168 := by
  intro k
  induction k with
  | zero =>
    intro j h e f hd
    have hj : j = 14 := by omega
    subst hj
    obtain ⟨n, h', e1, e2⟩ := un_l2 a0 hc h9 N M hM 168 0 h (by omega) f hd
    refine ⟨n + 1, h', ?_, e2⟩
    show X12_undo_g22 (X12_undo_fam n) 0 (nI 14) h = _
    unfold X12_undo_g22 X12_undo_f22
    rw [if_neg (by decide)]
    exact e1
  | succ k ih =>
    intro j h e f hd
    have a := a0.fr f (by decide +kernel)
    have hlt : nI j < 14 := nI_lt (b := 14) (by omega) (by decide)
    have e9 : hI h 709 0 0 = nI c := (f.1 709 0 0 (by decide) a0.n11).trans h9
    have x1 : (155 : Int32) + 5 * nI j + 2 = nI (157 + 5 * j) := by
      rw [show (155 : Int32) = nI 155 from rfl, show (5 : Int32) = nI 5 from rfl, show (2 : Int32) = nI 2 from rfl, nI_mul, nI_add, nI_add]
      congr 1
      omega
    have x2 : (182 : Int32) * nI c + nI j = nI (182 * c + j) := by rw [show (182 : Int32) = nI 182 from rfl, nI_mul, nI_add]
    have eM : hI h 2816 0 (182 * c + j) = M j := by
      rw [f.1 2816 0 _ (by decide) a0.n44]
      exact hM _ (by omega)
    obtain ⟨n, h', e1, e2⟩ := ih (j + 1) (pI h 2624 0 (157 + 5 * j) (M j)) (by omega) (f.pI (by decide)) (by
      rw [hI_upd, hd]
      funext i
      unfold updF unF
      by_cases d : i = 157 + 5 * j
      · rw [if_pos d, if_neg (by omega), if_pos (by omega), d, show (157 + 5 * j - 157) / 5 = j by omega]
      · have w0 : ¬ (225 ≤ i ∧ i < 225 + 0) := by omega
        rw [if_neg d, if_neg w0, if_neg w0]
        by_cases d2 : 157 ≤ i ∧ i < 157 + 5 * j ∧ (i - 157) % 5 = 0
        · rw [if_pos d2, if_pos (by omega)]
        · rw [if_neg d2, if_neg (show ¬ (157 ≤ i ∧ i < 157 + 5 * (j + 1) ∧ (i - 157) % 5 = 0) by omega)])
    refine ⟨n + 1, h', ?_, e2⟩
    show X12_undo_g22 (X12_undo_fam n) 0 (nI j) h = _
    unfold X12_undo_g22 X12_undo_f22
    rw [if_pos hlt, nnE (sh_708 a), e9, ixE (ln_44 a) x2 (show 182 * c + j < 2912 by omega) (by decide), nnE (sh_704 a), ixE (ln_41 a) x1 (show 157 + 5 * j < 1765 by omega) (by decide), eM, wr_eq, nI_1]
    exact e1
theorem pair_undo (m : Nat) (h : PH) (_ : m < 64) (r : R m h) : Pr (R (m + 1)) (X11_undo 0) (X12_undo 0) h := by
  have r0 := r
  obtain ⟨a, q, -, q3, -⟩ := r
  obtain ⟨n', l, k1, k2, k3, k4, k5, k6⟩ := q3
  rcases Nat.eq_zero_or_pos n' with c0 | c0
  · subst c0
    refine r0.same (v := -1000000002) ?_ (X12_undo_iff.mpr ⟨0, ?_⟩)
    · unfold X11_undo X11_undo_g0 X11_undo_f0
      rw [nnE (sh_644 a), k3, if_pos (by decide)]
    · unfold X12_undo_g0 X12_undo_f0
      rw [k4, if_pos (by decide)]
  obtain ⟨n, rfl⟩ : ∃ n, n' = n + 1 := ⟨n' - 1, by omega⟩
  have ne0 : ¬ nI (n + 1) = 0 := fun e => by have := (nI_eq (b := 0) (by omega) (by decide)).mp e; omega
  obtain ⟨S, hS, h14, hSn, hSi, h75⟩ := q.signs
  have o := k6 0 (by omega)
  rw [hSn, show (l + 16 - 0) % 16 = l by omega, show n + 1 - 1 - 0 = n by omega] at o
  obtain ⟨z, h1, e1, e2, e3, e4, e5, e6⟩ := tb_outer a k2 h14 h75 k2 (show n < 16 by omega) k5 k3 o S 0 h (by omega) Fr.rf (fun _ _ _ _ _ => rfl) (fun t ht => by omega)
  have a1 : SH h1 := a.fr e2 (by decide +kernel)
  have hN1 : hI h1 2624 0 = hI h 2624 0 := now_fr a e2 (by decide)
  have k41 : hI h1 709 0 0 = nI (n + 1) := (e2.1 709 0 0 (by decide) a.n11).trans k4
  generalize hh2 : pI h1 709 0 0 (nI n) = h2
  have f12 : Fr ([709], [], false) h1 h2 := by
    subst hh2
    exact Fr.rf.pI (by decide)
  have a2 : SH h2 := a1.fr f12 (by decide +kernel)
  have hN2 : hI h2 2624 0 = hI h 2624 0 := (now_fr a1 f12 (by decide)).trans hN1
  have k42 : hI h2 709 0 0 = nI n := by
    subst hh2
    rw [hI_pI, if_pos ⟨rfl, rfl, rfl⟩]
  have hM : ∀ j, j < 182 → hI h2 2816 0 (182 * n + j) = hI h 2816 0 (182 * n + j) := fun j _ => (f12.1 2816 0 _ (by decide) a1.n44).trans (e2.1 2816 0 _ (by decide) a.n44)
  obtain ⟨z2, h3, g1, g2, g3⟩ := un_l1 a2 (show n ≤ 15 by omega) k42 (hI h 2624 0) (fun j => hI h 2816 0 (182 * n + j)) hM 14 0 h2 (by omega) Fr.rf (by
    rw [hN2]
    funext j
    unfold unF
    rw [if_neg (by omega), if_neg (by omega)])
  have a3 : SH h3 := a2.fr g2 (by decide +kernel)
  have f3 : Fr rnW h h3 := ((e2.sub (by decide)).tr (f12.sub (by decide))).tr (g2.sub (by decide))
  have f13 : Fr ([709, 2624], [], false) h1 h3 := (f12.sub (by decide)).tr (g2.sub (by decide))
  have hN3 : ∀ j, j < 155 ∨ 393 ≤ j → hI h3 2624 0 j = hI h 2624 0 j := fun j hj => by
    rw [g3]
    unfold unF
    rw [if_neg (by omega), if_neg (by omega)]
  have k1 : ∀ cc, cc = 324 ∨ cc = 1728 ∨ cc = 1792 → ∀ i j, i < 28 → hI h3 cc i j = hI h1 cc i j := fun cc hc i j hi => by
    have e9 : ∀ c, c = 324 ∨ c = 1728 ∨ c = 1792 → ([709, 2624] : List Nat).contains c = false ∧ (c / 64 = 5 ∨ c / 64 = 27 ∨ c / 64 = 28) := by
      rintro c (rfl | rfl | rfl) <;> decide
    obtain ⟨z1, z4⟩ := e9 cc hc
    refine f13.1 cc i j z1 ?_
    rcases z4 with w | w | w
    · rw [w]; exact a1.s1 hi
    · rw [w]; exact a1.n27 hi
    · rw [w]; exact a1.n28 hi
  refine ⟨nI n, h1, h3, ?_, X12_undo_iff.mpr ⟨z2, ?_⟩, r0.rows f3 ?_ hN3 (fun cc hc i j h1 h2 => (k1 cc hc i j h2).trans (e3 cc hc i j h1)) (fun t ht => ?_)⟩
  · have et : X0_takeBack 0 1 h = some (none, h1) := X0_takeBack_iff.mpr ⟨z, by
      unfold X0_takeBack_g0 X0_takeBack_f0
      rw [nnE (sh_0 a), ixE (ln_12 a) k5 k2 (by decide), sh_768 a _ k2]
      exact e1⟩
    unfold X11_undo X11_undo_g0 X11_undo_f0
    rw [nnE (sh_644 a), k3, if_neg ne0, nnE (sh_644 a), sh_640 a, et, cV_some, nnE (sh_644 a1), e6]
  · unfold X12_undo_g0 X12_undo_f0
    rw [k41, if_neg ne0, nI_pred, wr_eq, hh2]
    exact g1
  · refine ⟨n, (l + 15) % 16, by omega, Nat.mod_lt _ (by decide), ?_, ?_, ?_, fun k hk => ?_⟩
    · exact (f13.1 2 0 0 (by decide) (a1.k1 (k := 0) (n := 1) (by decide +kernel) (by decide))).trans e6
    · exact (g2.1 709 0 0 (by decide) a2.n11).trans k42
    · exact (f13.1 1 0 0 (by decide) (a1.k1 (k := 0) (n := 1) (by decide +kernel) (by decide))).trans e5
    · have o := k6 (k + 1) (by omega)
      rw [show ((l + 15) % 16 + 16 - k) % 16 = (l + 16 - (k + 1)) % 16 by omega, show n - 1 - k = n + 1 - 1 - (k + 1) by omega]
      have f8 : ∀ i j, i < 16 → hI h3 832 i j = hI h 832 i j := fun i j hi => (f13.1 832 i j (by decide) (a1.n13 hi)).trans (e2.1 832 i j (by decide) (a.n13 hi))
      have f28 : ∀ j, hI h3 2816 0 j = hI h 2816 0 j := fun j => (f13.1 2816 0 j (by decide) a1.n44).trans (e2.1 2816 0 j (by decide) a.n44)
      intro s hs
      obtain ⟨cnt, c1, c2, c3, c4⟩ := o s hs
      refine ⟨cnt, c1, by rw [f8 _ _ (Nat.mod_lt _ (by decide))]; exact c2, by rw [f28]; exact c3, fun r hr => ?_⟩
      rw [f8 _ _ (Nat.mod_lt _ (by decide)), f28, f28]
      exact c4 r hr
  · rw [hN3 6 (by omega)] at ht
    have ht14 : t < S := by omega
    obtain ⟨p1, p2, p3, p4, p5, p6, p7, p8, p9, p10⟩ := q.2.2.1.2.2.2.2.1.one ht
    rw [Nat.mul_zero, Nat.zero_add] at p1 p2 p4 p5
    obtain ⟨cnt, c1, c2, c3, c4⟩ := o t ht14
    obtain ⟨t1, t2⟩ := e4 t ht14
    have f5 : ∀ cc, cc = 320 ∨ cc = 321 ∨ cc = 322 ∨ cc = 323 → hI h3 cc t 0 = hI h cc t 0 := fun cc hc => by
      have e9 : ∀ c, c = 320 ∨ c = 321 ∨ c = 322 ∨ c = 323 → rnW.1.contains c = false ∧ c / 64 = 5 := by
        rintro c (rfl | rfl | rfl | rfl) <;> decide
      obtain ⟨z1, z2'⟩ := e9 cc hc
      exact f3.1 cc t 0 z1 (by rw [z2']; exact a.s1 (by omega))
    have up : ∀ j, j < 225 → (j - 157) % 5 ≠ 0 ∨ j < 157 → hI h3 2624 0 j = hI h 2624 0 j := fun j w1 w2 => by
      rw [g3]
      unfold unF
      rw [if_neg (by omega), if_neg (by omega)]
    have u157 : hI h3 2624 0 (157 + 5 * t) = nI cnt := by
      rw [g3]
      unfold unF
      rw [if_neg (by omega), if_pos (by omega), show (157 + 5 * t - 157) / 5 = t by omega]
      exact c3
    have u225 : ∀ i, i < 168 → hI h3 2624 0 (225 + i) = hI h 2816 0 (182 * n + 14 + i) := fun i hi => by
      rw [g3]
      unfold unF
      rw [if_pos (by omega), show 225 + i - 225 = i by omega, Nat.add_assoc]
    rw [Nat.mul_zero, Nat.zero_add, f5 320 (by omega), f5 321 (by omega), f5 322 (by omega), f5 323 (by omega), up (155 + 5 * t) (by omega) (by omega), up (156 + 5 * t) (by omega) (by omega), u157, up (158 + 5 * t) (by omega) (by omega), up (159 + 5 * t) (by omega) (by omega), up 3 (by omega) (by omega), k1 324 (by omega) t 0 (by omega), t1, c3]
    refine ⟨p1, p2, rfl, p4, p5, p6, p7, ⟨by rw [nI_toInt (by omega)]; omega, by rw [nI_toInt (by omega)]; omega⟩, p9, fun r' hr' => ?_⟩
    rw [nI_toInt (by omega)] at hr'
    obtain ⟨nm, ar, d1, d2, d3, d4, d5⟩ := c4 r' (by omega)
    obtain ⟨w1, w2⟩ := t2 r' (by rw [c3, nt_nI (by omega)]; omega)
    have v1 := u225 (12 * t + 2 * r') (by omega)
    have v2 := u225 (12 * t + 2 * r' + 1) (by omega)
    rw [show 225 + (12 * t + 2 * r') = 225 + 12 * t + 2 * r' by omega, show 182 * n + 14 + (12 * t + 2 * r') = 182 * n + 14 + 12 * t + 2 * r' by omega, d4] at v1
    rw [show 225 + (12 * t + 2 * r' + 1) = 226 + 12 * t + 2 * r' by omega, show 182 * n + 14 + (12 * t + 2 * r' + 1) = 182 * n + 15 + 12 * t + 2 * r' by omega, d5] at v2
    rw [k1 1728 (by omega) t r' (by omega), k1 1792 (by omega) t r' (by omega), w1, w2, v1, v2, d4, d5]
    exact ⟨rfl, rfl, ⟨by rw [nI_toInt (by omega)]; omega, by rw [nI_toInt (by omega)]; omega⟩, ⟨by rw [nI_toInt (by omega)]; omega, by rw [nI_toInt (by omega)]; omega⟩⟩
