/-! pair: feed -/
theorem bv_255 (b : BitVec 32) : ((b.signExtend 8).signExtend 32) &&& 255#32 = b &&& 255#32 := by
  refine BitVec.eq_of_getLsbD_eq fun i hi => ?_
  rw [BitVec.getLsbD_and, BitVec.getLsbD_and, BitVec.getLsbD_signExtend]
  by_cases c : i < 8
  · rw [if_pos c, BitVec.getLsbD_signExtend, if_pos (by omega)]
    simp [c, hi]
  · have : (255#32).getLsbD i = false := (by decide : ∀ i, i < 32 → ¬ i < 8 → (255#32).getLsbD i = false) i hi c
    rw [this, Bool.and_false, Bool.and_false]
theorem jb_255 (x : Int32) : jb x &&& 255 = x &&& 255 := by
  apply Int32.toBitVec_inj.mp
  rw [Int32.toBitVec_and, Int32.toBitVec_and]
  unfold jb
  rw [Int8.toBitVec_toInt32, Int32.toBitVec_toInt8]
  exact bv_255 x.toBitVec
theorem nar_bb (x : Int32) : vp_nar .byte (jb x) = jb x := by
  rw [vp_nar_byte]
  unfold jb
  simp
theorem jb_rg (x : Int32) : rgI (jb x) (-128) 127 := by
  unfold jb rgI
  have h1 := Int8.le_toInt x.toInt8
  have h2 := Int8.toInt_lt x.toInt8
  rw [Int8.toInt_toInt32]
  omega
def fdX (x1 x2 x3 : Int32) (j : Nat) : Int32 := if j < 4 then x1 else if j < 8 then x2 else x3
def fdF (x1 x2 x3 : Int32) (j : Nat) : Int32 := jshr (fdX x1 x2 x3 j) (nI (24 - 8 * (j % 4)))
def app1 (h : PH) (L : Nat) (y : Int32) : PH := pI (pI h 1408 0 L (jb y)) 129 0 0 (nI (L + 1))
def Apd (g h : PH) (L : Nat) (f : Nat → Int32) (n : Nat) : Prop := Fr ([129, 1408], [], false) h g ∧ hI g 129 0 0 = nI (L + n) ∧ (∀ j, j < n → hI g 1408 0 (L + j) = jb (f j)) ∧ ∀ j, j < L → hI g 1408 0 j = hI h 1408 0 j
theorem Apd.step {g h : PH} {L n : Nat} {f : Nat → Int32} (q : Apd g h L f n) {y : Int32} (hy : y = f n) : Apd (app1 g (L + n) y) h L f (n + 1) := by
  obtain ⟨q1, q2, q3, q4⟩ := q
  refine ⟨(q1.pI (by decide)).pI (by decide), ?_, fun j hj => ?_, fun j hj => ?_⟩
  · unfold app1
    rw [hI_pI, if_pos ⟨rfl, rfl, rfl⟩]
    rfl
  · unfold app1
    rw [hI_off _ (by decide), hI_pI]
    by_cases c : j = n
    · subst c
      rw [if_pos ⟨rfl, rfl, rfl⟩, hy]
    · rw [if_neg (fun z => by omega)]
      exact q3 j (by omega)
  · unfold app1
    rw [hI_off _ (by decide), hI_pI, if_neg (fun z => by omega)]
    exact q4 j hj
theorem append_eq {h : PH} (a : SH h) {L : Nat} (hL : L + 4 ≤ 96) (h9 : hI h 129 0 0 = nI L) (x : Int32) : X3_append 0 x h = some (none, app1 (app1 (app1 (app1 h L (jshr x 24)) (L + 1) (jshr x 16)) (L + 2) (jshr x 8)) (L + 3) (jshr x 0)) := by
  have step : ∀ (g : PH) (K n : Nat) (s : Int32), SH g → K < 96 → hI g 129 0 0 = nI K → ¬ s < 0 → X3_append_fam (n + 1) 0 x s g = X3_append_fam n 0 x (s + (-8)) (app1 g K (jshr x s)) := by
    intro g K n s ag hK h9 hs
    show X3_append_g3 (X3_append_fam n) 0 x s g = _
    have y1 : hI (pI g 1408 0 K (jb (jshr x s))) 129 0 0 = nI K := (hI_off g (by decide) _ _ _ _ _).trans h9
    unfold X3_append_g3 X3_append_f3
    rw [if_neg hs, h9, if_pos (show nI K < 96 from nI_lt (b := 96) hK (by decide)), nnE (sh_128 ag), ixE (ln_22 ag) rfl hK (by decide), nar_bb, wr_eq, y1, nI_1, wr_eq]
    rfl
  have sa : ∀ (g : PH) (K : Nat) (y : Int32), SH g → SH (app1 g K y) := fun g K y ag => ag
  have l9 : ∀ (g : PH) (K : Nat) (y : Int32), hI (app1 g K y) 129 0 0 = nI (K + 1) := fun g K y => by
    unfold app1
    rw [hI_pI, if_pos ⟨rfl, rfl, rfl⟩]
  refine X3_append_iff.mpr ⟨5, ?_⟩
  unfold X3_append_g0 X3_append_f0
  rw [step h L 4 24 a (by omega) h9 (by decide), show (24 : Int32) + (-8) = 16 by decide, step _ (L + 1) 3 16 (sa h L _ a) (by omega) (l9 _ _ _) (by decide), show (16 : Int32) + (-8) = 8 by decide, step _ (L + 2) 2 8 (sa _ (L + 1) _ (sa h L _ a)) (by omega) (l9 _ _ _) (by decide), show (8 : Int32) + (-8) = 0 by decide, step _ (L + 3) 1 0 (sa _ (L + 2) _ (sa _ (L + 1) _ (sa h L _ a))) (by omega) (l9 _ _ _) (by decide)]
  show X3_append_g3 (X3_append_fam 0) 0 x (0 + (-8)) _ = _
  unfold X3_append_g3 X3_append_f3
  rw [if_pos (by decide)]
theorem append_apd {g h : PH} (a : SH g) {L n : Nat} (hL : L + n + 4 ≤ 96) {f : Nat → Int32} (q : Apd g h L f n) {x : Int32} (f0 : f n = jshr x 24) (f1 : f (n + 1) = jshr x 16) (f2 : f (n + 2) = jshr x 8) (f3 : f (n + 3) = jshr x 0) : ∃ g', X3_append 0 x g = some (none, g') ∧ Apd g' h L f (n + 4) := ⟨_, append_eq a hL q.2.1 x, (((q.step f0.symm).step f1.symm).step f2.symm).step f3.symm⟩
def Mpd (g h : PH) (L : Nat) (f : Nat → Int32) (n : Nat) : Prop := Fr ([2880], [], false) h g ∧ (∀ j, j < n → hI g 2880 0 (L + j) = f j &&& 255) ∧ ∀ j, j < L → hI g 2880 0 j = hI h 2880 0 j
theorem feed_loop {h0 : PH} (a0 : SH h0) {L : Nat} (hL : L + 12 ≤ 96) (h7 : hI h0 711 0 0 = nI L) (x1 x2 x3 : Int32) : ∀ k j h, j + k = 12 → Mpd h h0 L (fdF x1 x2 x3) j → ∃ n h', X12_feed_fam n 0 x1 x2 x3 (nI j) h = some (some (.inl (nI (L + 12))), pI h' 711 0 0 (nI (L + 12))) ∧ Mpd h' h0 L (fdF x1 x2 x3) 12 := by
  intro k
  induction k with
  | zero =>
    intro j h e q
    have hj : j = 12 := by omega
    subst hj
    have e7 : hI h 711 0 0 = nI L := (q.1.1 711 0 0 (by decide) a0.n11).trans h7
    have e12 : nI L + 12 = nI (L + 12) := by rw [show (12 : Int32) = nI 12 from rfl, nI_add]
    refine ⟨1, h, ?_, q⟩
    show X12_feed_g18 (X12_feed_fam 0) 0 x1 x2 x3 (nI 12) h = _
    unfold X12_feed_g18 X12_feed_f18
    rw [if_neg (by decide), e7, e12, wr_eq, hI_pI, if_pos ⟨rfl, rfl, rfl⟩]
  | succ k ih =>
    intro j h e q
    have a : SH h := a0.fr q.1 (by decide +kernel)
    have e7 : hI h 711 0 0 = nI L := (q.1.1 711 0 0 (by decide) a0.n11).trans h7
    have hlt : nI j < 12 := nI_lt (b := 12) (by omega) (by decide)
    have es : (24 : Int32) - 8 * jrem (nI j) 4 = nI (24 - 8 * (j % 4)) := (by decide +kernel : ∀ j, j < 12 → (24 : Int32) - 8 * jrem (nI j) 4 = nI (24 - 8 * (j % 4))) j (by omega)
    obtain ⟨n, h', e1, e2⟩ := ih (j + 1) (pI h 2880 0 (L + j) (fdF x1 x2 x3 j &&& 255)) (by omega) ⟨q.1.pI (by decide), fun i hi => by
      rw [hI_pI]
      by_cases c : i = j
      · subst c
        rw [if_pos ⟨rfl, rfl, rfl⟩]
      · rw [if_neg (fun z => by omega)]
        exact q.2.1 i (by omega), fun i hi => by rw [hI_pI, if_neg (fun z => by omega)]; exact q.2.2 i hi⟩
    refine ⟨n + 1, h', ?_, e2⟩
    have go : ∀ s, s = fdX x1 x2 x3 j → X12_feed_g47 (X12_feed_fam n) 0 x1 x2 x3 (nI j) s h = some (some (.inl (nI (L + 12))), pI h' 711 0 0 (nI (L + 12))) := fun s hs => by
      unfold X12_feed_g47 X12_feed_f47
      rw [dv_ok (by decide), nnE (sh_710 a), e7, ixE (ln_45 a) (nI_add L j) (show L + j < 96 by omega) (by decide), es, hs, wr_eq, nI_1]
      exact e1
    show X12_feed_g18 (X12_feed_fam n) 0 x1 x2 x3 (nI j) h = _
    unfold X12_feed_g18 X12_feed_f18
    rw [if_pos hlt]
    by_cases c1 : j < 4
    · rw [if_pos (show nI j < 4 from nI_lt (b := 4) c1 (by decide))]
      exact go x1 (by unfold fdX; rw [if_pos c1])
    · rw [if_neg (show ¬ nI j < 4 from nI_nlt (b := 4) (by omega) (by omega))]
      by_cases c2 : j < 8
      · rw [if_pos (show nI j < 8 from nI_lt (b := 8) c2 (by decide))]
        exact go x2 (by unfold fdX; rw [if_neg c1, if_pos c2])
      · rw [if_neg (show ¬ nI j < 8 from nI_nlt (b := 8) (by omega) (by omega))]
        exact go x3 (by unfold fdX; rw [if_neg c1, if_neg c2])
theorem pair_feed (m : Nat) (h : PH) (x1 x2 x3 : Int32) (_ : m < 64) (r : R m h) : Pr (R (m + 1)) (X11_feed 0 x1 x2 x3) (X12_feed 0 x1 x2 x3) h := by
  have r0 := r
  obtain ⟨a, -, -, -, ⟨L, t1, t2, t3, t4⟩, q5, q6, q7, -⟩ := r
  have e12 : nI L + 12 = nI (L + 12) := by rw [show (12 : Int32) = nI 12 from rfl, nI_add]
  by_cases c : 96 < L + 12
  · have hlt : (96 : Int32) < nI (L + 12) := nI_lt (a := 96) c (by omega)
    refine r0.same (v := -1000000003) ?_ (X12_feed_iff.mpr ⟨0, ?_⟩)
    · unfold X11_feed X11_feed_g0 X11_feed_f0
      rw [nnE (sh_645 a), t2, e12, if_pos hlt]
    · unfold X12_feed_g0 X12_feed_f0
      rw [t3, e12, if_pos hlt]
  have hlt : ¬ (96 : Int32) < nI (L + 12) := nI_nlt (a := 96) (b := L + 12) (by omega) (by decide)
  have q0 : Apd h h L (fdF x1 x2 x3) 0 := ⟨Fr.rf, t2, fun j hj => by omega, fun _ _ => rfl⟩
  obtain ⟨h1, e1, p1⟩ := append_apd a (by omega) q0 (x := x1) rfl rfl rfl rfl
  have a1 : SH h1 := a.fr p1.1 (by decide +kernel)
  obtain ⟨h2, e2, p2⟩ := append_apd a1 (by omega) p1 (x := x2) rfl rfl rfl rfl
  have a2 : SH h2 := a.fr p2.1 (by decide +kernel)
  obtain ⟨h3, e3, p3⟩ := append_apd a2 (by omega) p2 (x := x3) rfl rfl rfl rfl
  have a3 : SH h3 := a.fr p3.1 (by decide +kernel)
  have t33 : hI h3 711 0 0 = nI L := (p3.1.1 711 0 0 (by decide) a.n11).trans t3
  obtain ⟨n, h4, e4, p4⟩ := feed_loop a3 (show L + 12 ≤ 96 by omega) t33 x1 x2 x3 12 0 h3 (by omega) ⟨Fr.rf, fun j hj => by omega, fun _ _ => rfl⟩
  have a4 : SH h4 := a3.fr p4.1 (by decide +kernel)
  generalize hh5 : pI h4 711 0 0 (nI (L + 12)) = h5 at e4
  have f45 : Fr ([711], [], false) h4 h5 := by
    subst hh5
    exact Fr.rf.pI (by decide)
  have a5 : SH h5 := a4.fr f45 (by decide +kernel)
  have f5 : Fr ([129, 1408, 2880, 711], [], false) h h5 := ((p3.1.sub (by decide)).tr (p4.1.sub (by decide))).tr (f45.sub (by decide))
  refine ⟨nI (L + 12), h3, h5, ?_, X12_feed_iff.mpr ⟨n, ?_⟩, r0.oth f5 (by decide +kernel) (by decide +kernel) rfl ?_ (q5.fr a f5 (by decide +kernel)) (q6.fr a f5 (by decide +kernel)) (q7.fr a f5 (by decide +kernel))⟩
  · unfold X11_feed X11_feed_g0 X11_feed_f0
    rw [nnE (sh_645 a), t2, e12, if_neg hlt, nnE (sh_645 a), e1, cV_some, nnE (sh_645 a1), e2, cV_some, nnE (sh_645 a2), e3, cV_some, nnE (sh_645 a3), p3.2.1]
  · unfold X12_feed_g0 X12_feed_f0
    rw [t33, e12, if_neg hlt]
    exact e4
  · have n22 : ∀ y, SH y → 0 < hN y 22 := fun y ay => ay.nl (k := 22) (n := 96) (by decide +kernel)
    have n45 : ∀ y, SH y → 0 < hN y 45 := fun y ay => ay.nl (k := 45) (n := 96) (by decide +kernel)
    have n2 : ∀ y, SH y → 0 < hN y 2 := fun y ay => ay.k1 (k := 2) (n := 1) (by decide +kernel) (by decide)
    have f35 : Fr ([2880, 711], [], false) h3 h5 := (p4.1.sub (by decide)).tr (f45.sub (by decide))
    refine ⟨L + 12, by omega, ?_, ?_, fun j hj => ?_⟩
    · exact (f35.1 129 0 0 (by decide) (n2 _ a3)).trans p3.2.1
    · subst hh5
      rw [hI_pI, if_pos ⟨rfl, rfl, rfl⟩]
    · rw [f35.1 1408 0 j (by decide) (n22 _ a3), f45.1 2880 0 j (by decide) (n45 _ a4)]
      by_cases c2 : j < L
      · rw [p4.2.2 j c2, p3.2.2.2 j c2, p3.1.1 2880 0 j (by decide) (n45 _ a)]
        exact t4 j c2
      · obtain ⟨i, rfl⟩ : ∃ i, j = L + i := ⟨j - L, by omega⟩
        rw [p4.2.1 i (by omega), p3.2.2.1 i (by omega), jb_255]
        exact ⟨rfl, jb_rg _⟩
