/-! fewest: whether all arrive, the model -/
def hdZ (N : Nat → Int32) (P : Nat → Bool) (F : Nat → Nat) (p : Nat) : Option Nat := if p < nt (N 3) then headO N P F p else none
theorem hdZ_lt {N : Nat → Int32} {P : Nat → Bool} {F : Nat → Nat} {p v : Nat} (e : hdZ N P F p = some v) : v < 8 := by
  unfold hdZ at e
  by_cases c : p < nt (N 3)
  · rw [if_pos c] at e
    exact headO_lt e
  · rw [if_neg c] at e
    cases e
def ldW : List Nat × List Nat × Bool := ([3712], [], false)
theorem SH.n55 {h : PH} (a : SH h) : 0 < hN h 55 := a.nl (n := 12) (show (55, 0, 12) ∈ lnList by decide +kernel)
theorem leads_loop {h0 g : PH} {gl : Nat} {N : Nat → Int32} {P : Nat → Bool} {F : Nat → Nat} (q : AwE h0 N P) (hs : Hs g 0 N) (hF : LdE h0 F) (hZ : ∀ j, F j ≤ 1000000) : ∀ k j h, j + k = 12 → Fr ldW h0 h → (∀ p, p < j → hI h 3712 0 p = oI (hdZ N P F p)) → ∃ h1, Fr ldW h0 h1 ∧ (∀ p, p < 12 → hI h1 3712 0 p = oI (hdZ N P F p)) ∧ ∀ n r, (X12_fewest_fam n).2 0 (nI gl) (-1) 0 h1 = some r → ∃ n', (X12_fewest_fam n').1 0 (nI gl) (nI j) h = some r := by
  obtain ⟨Z, z1, z2, z3, z4, z5⟩ := hs.places
  intro k
  induction k with
  | zero =>
    intro j h e f v
    refine ⟨h, f, fun p hp => v p (by omega), fun n r er => ⟨n + 1, ?_⟩⟩
    show X12_fewest_g30 (X12_fewest_fam n) 0 (nI gl) (nI j) h = some r
    unfold X12_fewest_g30 X12_fewest_f30
    rw [if_neg (show ¬ nI j < 12 from nI_nlt (b := 12) (by omega) (by omega))]
    exact er
  | succ k ih =>
    intro j h e f v
    have qh := q.fr f (by decide) (by decide) (by decide)
    have a := qh.1
    have hFh : LdE h F := fun p hp => (f.1 3520 0 p (by decide) q.1.n55).trans (hF p hp)
    have e3 : hI h 2624 0 3 = nI Z := by rw [qh.2.1, z1]
    have hn := X12_nextFrom_eq qh hs hFh hZ (p := j) (by omega)
    have pre : ∀ n, (X12_fewest_fam (n + 1)).1 0 (nI gl) (nI j) h = (X12_fewest_fam n).1 0 (nI gl) (nI (j + 1)) (pI h 3712 0 j (oI (hdZ N P F j))) := fun n => by
      show X12_fewest_g30 (X12_fewest_fam n) 0 (nI gl) (nI j) h = _
      unfold X12_fewest_g30 X12_fewest_f30
      have g60 : ∀ v, X12_fewest_g60 (X12_fewest_fam n) 0 (nI gl) (nI j) v (nI j) (hR h 738 0 0) h = (X12_fewest_fam n).1 0 (nI gl) (nI (j + 1)) (pI h 3712 0 j v) := fun v => by
        unfold X12_fewest_g60 X12_fewest_f60
        rw [nnE (sh_738 a), ixE (ln_58 a) rfl (show j < 12 by omega) (by decide), wr_eq, nI_1]
      rw [if_pos (show nI j < 12 from nI_lt (b := 12) (by omega) (by decide)), nnE (sh_704 a), ixE (x := 3) (j := 3) (ln_41 a) rfl (by decide) (by decide), e3]
      unfold hdZ
      by_cases c : j < nt (N 3)
      · rw [if_pos c, if_pos (nI_lt (by omega) (by omega)), hn, cI_some, g60]
      · rw [if_neg c, if_neg (nI_nlt (by omega) (by omega)), g60]
        rfl
    obtain ⟨h1, y1, y2, y3⟩ := ih (j + 1) (pI h 3712 0 j (oI (hdZ N P F j))) (by omega) (f.pI (by decide)) (fun p hp => by
      rw [hI_pI]
      by_cases c : p = j
      · subst c
        rw [if_pos ⟨rfl, rfl, rfl⟩]
      · rw [if_neg (fun z => c z.2.2)]
        exact v p (by omega))
    refine ⟨h1, y1, y2, fun n r er => ?_⟩
    obtain ⟨n', y4⟩ := y3 n r er
    exact ⟨n' + 1, by rw [pre]; exact y4⟩
/-- the model, when it is ready but for the set -/
def Mw0 (h : PH) (N : Nat → Int32) (P : Nat → Bool) (x : Int32) (F : Nat → Nat) : Prop := AwE h N P ∧ (∀ s, s < nt (N 6) → hI h 3456 0 s = b2 (readB N x s)) ∧ ∀ p, p < 12 → hI h 3712 0 p = oI (hdZ N P F p)
theorem Mw0.fr {W : List Nat × List Nat × Bool} {h h' : PH} {N : Nat → Int32} {P : Nat → Bool} {x : Int32} {F : Nat → Nat} (q : Mw0 h N P x F) (f : Fr W h h') (hw : [2624, 3392, 3456, 3712].all (fun c => !W.1.contains c) = true) (hv : W.2.1.all (fun c => !shCols.contains c) = true) : Mw0 h' N P x F := by
  obtain ⟨q1, q2, q3⟩ := q
  exact ⟨q1.fr f (ninW hw (by decide)) (ninW hw (by decide)) hv, fun s hs => (f.1 3456 0 s (ninW hw (by decide)) q1.1.n54).trans (q2 s hs), fun p hp => (f.1 3712 0 p (ninW hw (by decide)) q1.1.n58).trans (q3 p hp)⟩
def lgW : List Nat × List Nat × Bool := ([737], [], false)
def mgW : List Nat × List Nat × Bool := ([737, 731, 732, 733, 734, 3584, 3648], [], false)
theorem arm_first {h0 g : PH} {gl set : Nat} {N : Nat → Int32} (a0 : SH h0) (hN0 : hI h0 2624 0 = N) (hs : Hs g 0 N) (hset : set < 64) : ∀ k j h, j + k = nt (N 7) → Fr lgW h0 h → hI h 737 0 0 = nI (lmN N set j) → ∃ h1, Fr lgW h0 h1 ∧ hI h1 737 0 0 = nI (lmN N set (nt (N 7))) ∧ ∀ n r, (X12_allArrive_fam n).2 0 (nI gl) 0 h1 = some r → ∃ n', (X12_allArrive_fam n').1 0 (nI gl) (nI set) (nI j) h = some r := by
  obtain ⟨C, c1, c2, c3, c4, c5⟩ := hs.chosen
  have n12 := hs.n12
  intro k
  induction k with
  | zero =>
    intro j h e f v
    have a : SH h := a0.fr f (by decide)
    have hN : hI h 2624 0 = N := (now_fr a0 f (by decide)).trans hN0
    have ej : j = nt (N 7) := by omega
    subst ej
    refine ⟨h, f, v, fun n r er => ⟨n + 1, ?_⟩⟩
    show X12_allArrive_g7 (X12_allArrive_fam n) 0 (nI gl) (nI set) (nI (nt (N 7))) h = some r
    unfold X12_allArrive_g7 X12_allArrive_f7
    rw [nnE (sh_704 a), ixE (x := 7) (j := 7) (ln_41 a) rfl (by decide) (by decide), hN, c1, if_neg (nI_nlt (by rw [nt_nI (by omega)]; omega) (by rw [nt_nI (by omega)]; omega))]
    exact er
  | succ k ih =>
    intro j h e f v
    have a : SH h := a0.fr f (by decide)
    have hN : hI h 2624 0 = N := (now_fr a0 f (by decide)).trans hN0
    obtain ⟨u1, u2, u3⟩ := hs.cho (k := j) (by omega)
    have e9 : (9 : Int32) + nI j = nI (9 + j) := by rw [show (9 : Int32) = nI 9 from rfl, nI_add]
    have pre : ∀ n, (X12_allArrive_fam (n + 1)).1 0 (nI gl) (nI set) (nI j) h = (X12_allArrive_fam n).1 0 (nI gl) (nI set) (nI (j + 1)) (pI h 737 0 0 (nI (lmN N set (j + 1)))) := fun n => by
      show X12_allArrive_g7 (X12_allArrive_fam n) 0 (nI gl) (nI set) (nI j) h = _
      unfold X12_allArrive_g7 X12_allArrive_f7
      have g47 : ∀ w : Nat, X12_allArrive_g47 (X12_allArrive_fam n) 0 (nI gl) (nI set) (nI j) (nI w) (hI h 737 0 0) 0 h = (X12_allArrive_fam n).1 0 (nI gl) (nI set) (nI (j + 1)) (pI h 737 0 0 (nI (lmN N set j ||| w))) := fun w => by
        unfold X12_allArrive_g47 X12_allArrive_f47
        rw [wr_eq, v, nI_or, nI_1]
      have l : lmN N set (j + 1) = lmN N set j ||| (if set.testBit j = true then 2 ^ cP N j else 0) := rfl
      rw [nnE (sh_704 a), ixE (x := 7) (j := 7) (ln_41 a) rfl (by decide) (by decide), hN, c1, if_pos (nI_lt (by omega) (by omega)), l]
      by_cases c : set.testBit j = true
      · rw [if_pos c, if_pos ((bitN (by omega) (by omega)).mpr c), nnE (sh_704 a), ixE (ln_41 a) e9 (show 9 + j < 1765 by omega) (by decide), hN, u1, shl12 _ (by omega), g47]
      · rw [if_neg c, if_neg (fun z => c ((bitN (by omega) (by omega)).mp z))]
        exact g47 0
    obtain ⟨h1, y1, y2, y3⟩ := ih (j + 1) (pI h 737 0 0 (nI (lmN N set (j + 1)))) (by omega) (f.pI (by decide)) (by rw [hI_pI, if_pos ⟨rfl, rfl, rfl⟩])
    refine ⟨h1, y1, y2, fun n r er => ?_⟩
    obtain ⟨n', y4⟩ := y3 n r er
    exact ⟨n' + 1, by rw [pre]; exact y4⟩
theorem Mw0.to {h g : PH} {set : Nat} {N : Nat → Int32} {P : Nat → Bool} {x : Int32} {F : Nat → Nat} (q : Mw0 h N P x F) (hs : Hs g 0 N) (e : hI h 737 0 0 = nI (lmN N set (nt (N 7)))) : MwE h N P x (thS N (headO N P F) set (nt (N 7))) := by
  have n12 := hs.n12
  refine ⟨q.1, q.2.1, fun p hp => ?_⟩
  have lt : lmN N set (nt (N 7)) < 4096 := lm_lt (fun j hj => by have := (hs.cho hj).2.1; omega)
  have b := bitN lt hp
  rw [lm_bit] at b
  rw [e, q.2.2 p hp]
  unfold thS
  cases c : ledB N set (nt (N 7)) p with
  | false =>
    refine ⟨fun d z => (by cases z), fun _ => Or.inl (fun z => ?_)⟩
    have := b.mp z
    rw [c] at this
    cases this
  | true =>
    obtain ⟨j, j1, j2⟩ := led_lt c
    have hp3 : p < nt (N 3) := by
      have := (hs.cho j1).2.1
      omega
    have eh : hdZ N P F p = headO N P F p := if_pos hp3
    rw [eh]
    refine ⟨fun d z => ?_, fun z => ?_⟩
    · have z : headO N P F p = some d := z
      refine ⟨b.mpr c, by rw [z]; rfl, headO_lt z⟩
    · have z : headO N P F p = none := z
      rw [z]
      exact Or.inr (by decide)
theorem arm_second {h0 g : PH} {gl : Nat} {N : Nat → Int32} {P : Nat → Bool} {x : Int32} {th : Nat → Option Nat} {F : Nat → Nat} (q : MwE h0 N P x th) (q0 : Mw0 h0 N P x F) (hs : Hs g 0 N) (hg : gl < nt (N 5)) {D A : Nat → Bool} (hD : ∀ p, D p = (headO N P F p).isSome) (hA : ∀ p, p < nt (N 3) → (A p = true ↔ (wkR N P gl (tdF th (toF N x gl)) p).1 = 1)) : ∀ k p h, p + k = nt (N 3) → Fr mwW h0 h → ∃ z h', (X12_allArrive_fam z).2 0 (nI gl) (nI p) h = some (some (.inl (b2 (arF D A k p))), h') ∧ Fr mwW h0 h' := by
  obtain ⟨Z, z1, z2, z3, z4, z5⟩ := hs.places
  intro k
  induction k with
  | zero =>
    intro p h e f
    have qh := q0.fr f (by decide) (by decide)
    have a := qh.1.1
    refine ⟨1, h, ?_, f⟩
    show X12_allArrive_g59 (X12_allArrive_fam 0) 0 (nI gl) (nI p) h = _
    unfold X12_allArrive_g59 X12_allArrive_f59
    rw [nnE (sh_704 a), ixE (x := 3) (j := 3) (ln_41 a) rfl (by decide) (by decide), qh.1.2.1, z1, if_neg (nI_nlt (by omega) (by omega)), bz_ok (Or.inr rfl)]
    rfl
  | succ k ih =>
    intro p h e f
    have qh := q0.fr f (by decide) (by decide)
    have mh := q.fr f (by decide) (by decide)
    have a := qh.1.1
    have v := qh.2.2 p (by omega)
    have ez : hdZ N P F p = headO N P F p := if_pos (by omega)
    rw [ez] at v
    have hDp := hD p
    have lt8 : ∀ v, headO N P F p = some v → v < 8 := fun v hv => headO_lt hv
    generalize headO N P F p = o1 at v hDp lt8
    have g94 : ∀ n y, X12_allArrive_g94 (X12_allArrive_fam n) 0 (nI gl) (nI p) y = (X12_allArrive_fam n).2 0 (nI gl) (nI (p + 1)) y := fun n y => by
      show (X12_allArrive_fam n).2 0 (nI gl) (nI p + 1) y = _
      rw [nI_1]
    rw [arF_s, hDp]
    cases o1 with
    | none =>
      obtain ⟨z, h', y1, y2⟩ := ih (p + 1) h (by omega) f
      refine ⟨z + 1, h', ?_, y2⟩
      show X12_allArrive_g59 (X12_allArrive_fam z) 0 (nI gl) (nI p) h = _
      unfold X12_allArrive_g59 X12_allArrive_f59
      rw [nnE (sh_704 a), ixE (x := 3) (j := 3) (ln_41 a) rfl (by decide) (by decide), qh.1.2.1, z1, if_pos (nI_lt (by omega) (by omega)), nnE (sh_738 a), ixE (ln_58 a) rfl (show p < 12 by omega) (by decide), v, if_pos (show oI none < 0 by decide), g94]
      exact y1
    | some d =>
      have d8 := lt8 d rfl
      obtain ⟨h2, e2, f2, w2⟩ := X12_walks_eq mh hs hg (p := p) (by omega)
      have hAp := hA p (by omega)
      have le3 : (wkR N P gl (tdF th (toF N x gl)) p).1 ≤ 3 := wk_le3 _ _ _ _ _ _ _ _
      have w2 := w2.1
      generalize (wkR N P gl (tdF th (toF N x gl)) p).1 = r at w2 hAp le3
      have pre : ∀ n, (X12_allArrive_fam (n + 1)).2 0 (nI gl) (nI p) h = if nI r = 1 then (X12_allArrive_fam n).2 0 (nI gl) (nI (p + 1)) h2 else some (some (.inl 0), h2) := fun n => by
        show X12_allArrive_g59 (X12_allArrive_fam n) 0 (nI gl) (nI p) h = _
        unfold X12_allArrive_g59 X12_allArrive_f59
        rw [nnE (sh_704 a), ixE (x := 3) (j := 3) (ln_41 a) rfl (by decide) (by decide), qh.1.2.1, z1, if_pos (nI_lt (by omega) (by omega)), nnE (sh_738 a), ixE (ln_58 a) rfl (show p < 12 by omega) (by decide), v, if_neg (oI_pos (t := d) (by omega)), e2, cV_some, w2, g94, bz_ok (Or.inl rfl)]
      by_cases c : r = 1
      · obtain ⟨z, h', y1, y2⟩ := ih (p + 1) h2 (by omega) (f.tr f2)
        refine ⟨z + 1, h', ?_, y2⟩
        rw [pre, c, if_pos (show nI 1 = 1 from rfl), hAp.mpr c]
        exact y1
      · refine ⟨1, h2, ?_, f.tr f2⟩
        rw [pre, if_neg (show ¬ nI r = 1 from fun z => c ((nI_eq (b := 1) (by omega) (by omega)).mp z)), show A p = false from Bool.eq_false_iff.mpr (fun z => c (hAp.mp z))]
        rfl
theorem arrive_m {h0 h g : PH} {gl set : Nat} {N : Nat → Int32} {P : Nat → Bool} {x : Int32} {F : Nat → Nat} (q : Mw0 h0 N P x F) (hs : Hs g 0 N) (hg : gl < nt (N 5)) (hset : set < 64) {D A : Nat → Bool} (hD : ∀ p, D p = (headO N P F p).isSome) (hA : ∀ p, p < nt (N 3) → (A p = true ↔ (wkR N P gl (tdF (thS N (headO N P F) set (nt (N 7))) (toF N x gl)) p).1 = 1)) (f : Fr mgW h0 h) : ∃ h', X12_allArrive 0 (nI gl) (nI set) h = some (some (.inl (b2 (arF D A (nt (N 3)) 0))), h') ∧ Fr mgW h0 h' := by
  have qh := q.fr f (by decide) (by decide)
  have f1 : Fr lgW h (pI h 737 0 0 0) := Fr.rf.pI (by decide)
  obtain ⟨h1, y1, y2, y3⟩ := arm_first (gl := gl) qh.1.1 qh.1.2.1 hs hset (nt (N 7)) 0 (pI h 737 0 0 0) (by omega) f1 (by
    rw [hI_pI, if_pos ⟨rfl, rfl, rfl⟩]
    rfl)
  have q1 := qh.fr y1 (by decide) (by decide)
  obtain ⟨z, h', x1, x2⟩ := arm_second (q1.to hs y2) q1 hs hg hD hA (nt (N 3)) 0 h1 (by omega) Fr.rf
  obtain ⟨n', x6⟩ := y3 z _ x1
  refine ⟨h', X12_allArrive_iff.mpr ⟨n', ?_⟩, (f.tr (y1.sub (by decide))).tr (x2.sub (by decide))⟩
  unfold X12_allArrive_g0 X12_allArrive_f0
  rw [wr_eq]
  exact x6
