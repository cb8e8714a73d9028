/-! texts: the key, and the whole of a text -/
def eqF (T : Nat → Nat) (s : Nat) (w : Nat → Nat) : Nat → Nat → Bool
  | 0, _ => true
  | k + 1, i => bif decide (T (s + i) = w i) then eqF T s w k (i + 1) else false
theorem eqF_s (T : Nat → Nat) (s : Nat) (w : Nat → Nat) (k i : Nat) : eqF T s w (k + 1) i = bif decide (T (s + i) = w i) then eqF T s w k (i + 1) else false := rfl
def wqF (T : Nat → Nat) (u : Tu) (r : Nat) : Bool := decide (u.1 = 1 ∧ u.2.2 - u.2.1 = slen.getD r 0) && eqF T u.2.1 (kbF r) (slen.getD r 0) 0
def kyF (T : Nat → Nat) (u : Tu) : Option Nat := bif wqF T u 0 then some 0 else bif wqF T u 1 then some 1 else bif wqF T u 2 then some 2 else none
theorem ky_some {T : Nat → Nat} {u : Tu} {k : Nat} (e : kyF T u = some k) : k < 3 ∧ u.1 = 1 ∧ 4 ≤ u.2.2 - u.2.1 := by
  have key : ∀ r, r < 3 → wqF T u r = true → u.1 = 1 ∧ 4 ≤ u.2.2 - u.2.1 := fun r hr h => by
    unfold wqF at h
    rw [Bool.and_eq_true] at h
    have h1 := of_decide_eq_true h.1
    have : ∀ r, r < 3 → 4 ≤ slen.getD r 0 := by decide
    have := this r hr
    exact ⟨h1.1, by omega⟩
  unfold kyF at e
  cases c0 : wqF T u 0 with
  | true =>
    rw [c0] at e
    cases e
    exact ⟨by decide, key 0 (by decide) c0⟩
  | false =>
    rw [c0, cond_false] at e
    cases c1 : wqF T u 1 with
    | true =>
      rw [c1] at e
      cases e
      exact ⟨by decide, key 1 (by decide) c1⟩
    | false =>
      rw [c1, cond_false] at e
      cases c2 : wqF T u 2 with
      | true =>
        rw [c2] at e
        cases e
        exact ⟨by decide, key 2 (by decide) c2⟩
      | false =>
        rw [c2] at e
        cases e
theorem isWord_c {h : PH} {L : Nat} {T : Nat → Nat} (a : SH h) (q : TpE h L T) {u : Tu} (v : okV T L u) (ct : CtE h u) {r : Nat} (hr : r < 6) : X3_isWord 0 (r + 1) h = some (some (.inl (b2 (wqF T u r))), h) := by
  obtain ⟨o1, o2, o3, o4, o5⟩ := v.1
  obtain ⟨k1, k2⟩ := tkC_w o1
  have hL := q.1
  have l5 := (sl_ok r hr).1
  by_cases c : u.1 = 1
  · by_cases d : u.2.2 - u.2.1 = slen.getD r 0
    · have loop : ∀ k i, i + k = slen.getD r 0 → ∃ n, X3_isWord_fam n 0 (r + 1) (nI i) h = some (some (.inl (b2 (eqF T u.2.1 (kbF r) k i))), h) := by
        intro k
        induction k with
        | zero =>
          intro i e
          refine ⟨1, ?_⟩
          show X3_isWord_g29 (X3_isWord_fam 0) 0 (r + 1) (nI i) h = _
          unfold X3_isWord_g29 X3_isWord_f29
          rw [nn_succ, length_eq hr, cI_some, if_neg (nI_nlt (by omega) (by omega)), bz_ok (Or.inr rfl)]
          rfl
        | succ k ih =>
          intro i e
          obtain ⟨n, y⟩ := ih (i + 1) (by omega)
          obtain ⟨t1, -, t2, t3⟩ := q.2.2 (u.2.1 + i) (by omega)
          obtain ⟨-, kb2⟩ := kb_ok r hr i (by omega)
          have ce := cmp_eq (k := kbF r i) kb2 t2 t3
          refine ⟨n + 1, ?_⟩
          show X3_isWord_g29 (X3_isWord_fam n) 0 (r + 1) (nI i) h = _
          unfold X3_isWord_g29 X3_isWord_f29
          rw [nn_succ, length_eq hr, cI_some, if_pos (nI_lt (by omega) (by omega)), nnE (sh_128 a), ct.2.1, nI_add, ixE (ln_22 a) rfl (show u.2.1 + i < 96 by omega) (by decide), nn_succ, charAt_eq hr (by omega), cI_some, nI_1, y, bz_ok (Or.inl rfl), eqF_s]
          by_cases z : T (u.2.1 + i) = kbF r i
          · rw [if_pos (ce.mpr z), decide_eq_true z]
            rfl
          · rw [if_neg (fun x => z (ce.mp x)), decide_eq_false z]
            rfl
      obtain ⟨n, y⟩ := loop (slen.getD r 0) 0 (by omega)
      refine X3_isWord_iff.mpr ⟨n, ?_⟩
      unfold X3_isWord_g0 X3_isWord_f0 wqF
      rw [ct.1, if_pos (k1.mpr c), nn_succ, length_eq hr, cI_some, ct.2.1, ct.2.2, nI_subN o2, d, if_pos rfl, decide_eq_true ⟨c, rfl⟩, Bool.true_and]
      exact y
    · refine X3_isWord_iff.mpr ⟨0, ?_⟩
      unfold X3_isWord_g0 X3_isWord_f0 wqF
      rw [ct.1, if_pos (k1.mpr c), nn_succ, length_eq hr, cI_some, ct.2.1, ct.2.2, nI_subN o2, if_neg (fun z => d ((nI_eq (by omega) (by omega)).mp z)), bz_ok (Or.inl rfl), decide_eq_false (fun z => d z.2), Bool.false_and]
      rfl
  · refine X3_isWord_iff.mpr ⟨0, ?_⟩
    unfold X3_isWord_g0 X3_isWord_f0 wqF
    rw [ct.1, if_neg (fun z => c (k1.mp z)), bz_ok (Or.inl rfl), decide_eq_false (fun z => c z.1), Bool.false_and]
    rfl
theorem CsE.key {h : PH} {u : Tu} {E : List Int32} {o n : Nat} (q : CsE h u E o n) (w : Int32) : CsE (pI h 134 0 0 w) u E o n := by
  obtain ⟨⟨t1, t2, t3⟩, q1, q2, q3, q4, q5, q6⟩ := q
  refine ⟨⟨?_, ?_, ?_⟩, ?_, ?_, StC.same (h := h) (fun j => hI_off _ (by decide) _ _ _ _ _) q3, ?_, ?_, ?_⟩
  · rw [hI_off _ (by decide), t1]
  · rw [hI_off _ (by decide), t2]
  · rw [hI_off _ (by decide), t3]
  · rw [hI_off _ (by decide), q1]
  · rw [hI_off _ (by decide), q2]
  · rw [hI_off _ (by decide), q4]
  · rw [hI_off _ (by decide), q5]
  · rw [hI_off _ (by decide), q6]
def rkW : List Nat × List Nat × Bool := ([130, 131, 132, 133, 134, 136, 137, 138, 139, 1472], [], false)
theorem readKey_c {h : PH} {L : Nat} {T : Nat → Nat} (a : SH h) (q : TpE h L T) {u : Tu} (v : okV T L u) {o n : Nat} (cs : CsE h u [] o n) : ∃ h', X3_readKey 0 h = some (none, h') ∧ Fr rkW h h' ∧ (∀ k, kyF T u = some k → CsE h' (nxF T L u) [] o n ∧ hI h' 134 0 0 = nI k) ∧ (kyF T u = none → hI h' 133 0 0 = nI u.2.1 ∧ hI h' 136 0 0 = nI 0) := by
  have l1 := isWord_c a q v cs.1 (r := 0) (by decide)
  have l2 := isWord_c a q v cs.1 (r := 1) (by decide)
  have l3 : ∀ w, X3_isWord 0 3 (pI h 134 0 0 w) = some (some (.inl (b2 (wqF T u 2))), pI h 134 0 0 w) := fun w => by
    have f1 : Fr rkW h (pI h 134 0 0 w) := Fr.rf.pI (by decide)
    exact isWord_c (h := pI h 134 0 0 w) a (q.fr a f1 (by decide) (by decide)) v (cs.key w).1 (r := 2) (by decide)
  have f1 : ∀ w, Fr rkW h (pI h 134 0 0 w) := fun w => Fr.rf.pI (by decide)
  have lk : ∀ w, ∃ h', X3_readKey_g57 0 (pI h 134 0 0 w) = some (none, h') ∧ Fr rkW h h' ∧ CsE h' (nxF T L u) [] o n ∧ hI h' 134 0 0 = w := fun w => by
    obtain ⟨h', e, c, f⟩ := (cs.key w).look (h := pI h 134 0 0 w) a (q.fr a (f1 w) (by decide) (by decide)) v.1
    refine ⟨h', ?_, (f1 w).tr (f.sub (by decide)), c, ?_⟩
    · unfold X3_readKey_g57 X3_readKey_f57
      rw [e, cV_some]
    · rw [f.1 134 0 0 (by decide) (show 0 < hN (pI h 134 0 0 w) 2 from a.n2), hI_pI, if_pos ⟨rfl, rfl, rfl⟩]
  have e34 : ∀ w, hI (pI h 134 0 0 w) 134 0 0 = w := fun w => by rw [hI_pI, if_pos ⟨rfl, rfl, rfl⟩]
  unfold X3_readKey X3_readKey_g0 X3_readKey_f0 kyF
  rw [show X3_isWord 0 1 h = _ from l1, cI_some, show X3_isWord 0 2 h = _ from l2, cI_some]
  cases c0 : wqF T u 0 with
  | true =>
    obtain ⟨h', y1, y2, y3, y4⟩ := lk 0
    refine ⟨h', ?_, y2, fun k e => ?_, fun e => by cases e⟩
    · rw [if_neg (show ¬ b2 true = 0 by decide)]
      unfold X3_readKey_g28 X3_readKey_f28
      rw [wr_eq, e34, if_neg (by decide)]
      exact y1
    · cases e
      exact ⟨y3, y4⟩
  | false =>
    rw [if_pos (show b2 false = 0 from rfl), cond_false]
    cases c1 : wqF T u 1 with
    | true =>
      obtain ⟨h', y1, y2, y3, y4⟩ := lk 1
      refine ⟨h', ?_, y2, fun k e => ?_, fun e => by cases e⟩
      · rw [if_neg (show ¬ b2 true = 0 by decide)]
        unfold X3_readKey_g28 X3_readKey_f28
        rw [wr_eq, e34, if_neg (by decide)]
        exact y1
      · cases e
        exact ⟨y3, y4⟩
    | false =>
      rw [if_pos (show b2 false = 0 from rfl), cond_false]
      unfold X3_readKey_g28 X3_readKey_f28
      rw [wr_eq, e34, if_pos rfl, l3, cI_some]
      cases c2 : wqF T u 2 with
      | true =>
        obtain ⟨h', y1, y2, y3, y4⟩ := lk 2
        refine ⟨h', ?_, y2, fun k e => ?_, fun e => by cases e⟩
        · rw [if_neg (show ¬ b2 true = 0 by decide)]
          exact y1
        · cases e
          exact ⟨y3, y4⟩
      | false =>
        rw [if_pos (show b2 false = 0 from rfl), wr_eq, (cs.key 2).1.2.1]
        refine ⟨_, rfl, (f1 2).pI (by decide), fun k e => (by cases e), fun _ => ⟨by rw [hI_pI, if_pos ⟨rfl, rfl, rfl⟩], ?_⟩⟩
        rw [hI_off _ (by decide)]
        exact (cs.key 2).2.2.1
theorem flt_c {h : PH} {s : Nat} (hs : s < 2 ^ 31) (e : hI h 133 0 0 = nI s) : ∀ f m, m ≤ 6 → (if m = 6 then 1 else 7 - m) ≤ f → rcF f m h = some (none, h) := by
  have ne : ¬ nI s = -1 := fun z => nI_pos hs (by rw [z]; decide)
  intro f
  induction f with
  | zero =>
    intro m hm hf
    by_cases c : m = 6
    · rw [if_pos c] at hf
      omega
    · rw [if_neg c] at hf
      omega
  | succ f ih =>
    intro m hm hf
    by_cases c6 : m = 6
    · subst c6
      rw [rc_s6]
      unfold X3_readPiece X3_readPiece_g0 X3_readPiece_f0
      rw [e, if_neg ne]
    · rw [if_neg c6] at hf
      rw [rc_sl _ (by omega)]
      by_cases c5 : m = 5
      · subst c5
        have i6 := ih 6 (by omega) (by rw [if_pos rfl]; omega)
        rw [rc_6] at i6
        refine X3_readLevel_iff.mpr ⟨0, ?_⟩
        unfold X3_readLevel_g0 X3_readLevel_f0
        rw [if_pos (show nI 5 = 5 from rfl), i6, cV_some]
      · have i1' := ih (m + 1) (by omega) (by
          by_cases z : m + 1 = 6
          · omega
          · rw [if_neg z]
            omega)
        rw [rc_l _ (by omega)] at i1'
        have n5 : ¬ nI m = 5 := fun z => by have := (nI_eq (b := 5) (by omega) (by omega)).mp z; omega
        refine X3_readLevel_iff.mpr ⟨1, ?_⟩
        have g31 : ∀ x2 x3, X3_readLevel_g31 (rlN f).1 (rlN f).2 (X3_readLevel_fam (rlN f).1 (rlN f).2 0) 0 (nI m) x2 x3 h = some (none, h) := fun x2 x3 => by
          unfold X3_readLevel_g31 X3_readLevel_f31
          rw [e, if_neg ne]
          split <;> rfl
        unfold X3_readLevel_g0 X3_readLevel_f0
        rw [if_neg n5, nI_1, i1', cV_some]
        by_cases c2 : nI m = 2
        · rw [if_pos c2]
          exact g31 1 0
        · rw [if_neg c2]
          exact g31 96 0
/-- the text on a tape: its key and its codes, or the place of its fault -/
def txG (T : Nat → Nat) (L key : Nat) : Rz := psF (nxF T L) (lfF T key) 80 0 (nxF T L (lkF T L 0 0)) 0 0
def txR (T : Nat → Nat) (L : Nat) : Option (Nat × List Int32) × Nat := match kyF T (lkF T L 0 0) with
  | none => (none, (lkF T L 0 0).2.1)
  | some key => if (txG T L key).1 = true ∧ (txG T L key).2.1.1 = 0 then (some (key, (txG T L key).2.2), 0) else (none, (txG T L key).2.1.2.1)
def rtW : List Nat × List Nat × Bool := ([129, 130, 131, 132, 133, 134, 136, 137, 138, 139, 1472], [], false)
theorem readTape_c {h : PH} {L : Nat} {T : Nat → Nat} (a : SH h) (q : TpE h L T) : ∃ v h', X3_readTape 0 h = some (some (.inl v), h') ∧ Fr rtW h h' ∧ hI h' 129 0 0 = nI 0 ∧ (∀ key E, (txR T L).1 = some (key, E) → v = -1 ∧ hI h' 134 0 0 = nI key ∧ hI h' 136 0 0 = nI E.length ∧ StC h' E ∧ hI h' 137 0 0 = nI (lvN E)) ∧ ((txR T L).1 = none → v = nI (txR T L).2 ∧ (txR T L).2 ≤ 96) := by
  have hL := q.1
  generalize hh1 : pI (pI (pI (pI (pI (pI (pI h 130 0 0 (-1)) 132 0 0 0) 133 0 0 (-1)) 136 0 0 0) 137 0 0 0) 138 0 0 0) 139 0 0 0 = h1
  have f1 : Fr rkW h h1 := by
    subst hh1
    exact ((((((Fr.rf.pI (by decide)).pI (by decide)).pI (by decide)).pI (by decide)).pI (by decide)).pI (by decide)).pI (by decide)
  have a1 : SH h1 := a.fr f1 (by decide)
  have q1 := q.fr a f1 (by decide) (by decide)
  have e130 : hI h1 130 0 0 = tkC 0 := by
    subst hh1
    rw [hI_off _ (by decide), hI_off _ (by decide), hI_off _ (by decide), hI_off _ (by decide), hI_off _ (by decide), hI_off _ (by decide), hI_pI, if_pos ⟨rfl, rfl, rfl⟩]
    rfl
  have e132 : hI h1 132 0 0 = nI 0 := by
    subst hh1
    rw [hI_off _ (by decide), hI_off _ (by decide), hI_off _ (by decide), hI_off _ (by decide), hI_off _ (by decide), hI_pI, if_pos ⟨rfl, rfl, rfl⟩]
    rfl
  have e133 : hI h1 133 0 0 = -1 := by
    subst hh1
    rw [hI_off _ (by decide), hI_off _ (by decide), hI_off _ (by decide), hI_off _ (by decide), hI_pI, if_pos ⟨rfl, rfl, rfl⟩]
  have e136 : hI h1 136 0 0 = nI 0 := by
    subst hh1
    rw [hI_off _ (by decide), hI_off _ (by decide), hI_off _ (by decide), hI_pI, if_pos ⟨rfl, rfl, rfl⟩]
    rfl
  have e137 : hI h1 137 0 0 = nI 0 := by
    subst hh1
    rw [hI_off _ (by decide), hI_off _ (by decide), hI_pI, if_pos ⟨rfl, rfl, rfl⟩]
    rfl
  have e138 : hI h1 138 0 0 = nI 0 := by
    subst hh1
    rw [hI_off _ (by decide), hI_pI, if_pos ⟨rfl, rfl, rfl⟩]
    rfl
  have e139 : hI h1 139 0 0 = nI 0 := by
    subst hh1
    rw [hI_pI, if_pos ⟨rfl, rfl, rfl⟩]
    rfl
  have hT : ∀ j, j < L → T j < 256 := fun j hj => (q.2.2 j hj).1
  obtain ⟨v0, -⟩ := lkF_okV hT 0 (b := 0) (by omega)
  obtain ⟨h2, e2, c2, f2⟩ := look_c a1 q1 (k := 0) (b := 0) (Or.inl rfl) e130 e132 (by omega)
  have a2 : SH h2 := a1.fr f2 (by decide)
  have q2 := q1.fr a1 f2 (by decide) (by decide)
  have cs2 : CsE h2 (lkF T L 0 0) [] 0 0 := ⟨c2, (f2.1 133 0 0 (by decide) a1.n2).trans e133, (f2.1 136 0 0 (by decide) a1.n2).trans e136, trivial, (f2.1 137 0 0 (by decide) a1.n2).trans e137, (f2.1 138 0 0 (by decide) a1.n2).trans e138, (f2.1 139 0 0 (by decide) a1.n2).trans e139⟩
  obtain ⟨h3, e3, f3, k3, k3'⟩ := readKey_c a2 q2 v0 cs2
  have a3 : SH h3 := a2.fr f3 (by decide)
  have q3 := q2.fr a2 f3 (by decide) (by decide)
  have f03 : Fr rtW h h3 := ((f1.sub (by decide)).tr (f2.sub (by decide))).tr (f3.sub (by decide))
  have pre : ∀ h10, rl80 [.inr (2, 1), .inl 0] h3 = some (none, h10) → X3_readTape 0 h = (if hI h10 133 0 0 = -1 then (if hI h10 130 0 0 = -1 then X3_readTape_g72 0 h10 else X3_readTape_g72 0 (pI h10 133 0 0 (hI h10 131 0 0))) else X3_readTape_g72 0 h10) := fun h10 e10 => by
    unfold X3_readTape X3_readTape_g0 X3_readTape_f0
    rw [wr_eq, wr_eq, wr_eq, wr_eq, wr_eq]
    unfold X3_readTape_g25 X3_readTape_f25
    rw [wr_eq, wr_eq, hh1, e2, cV_some, e3, cV_some, e10, cV_some, wr_eq]
  have g72 : ∀ h10, X3_readTape_g72 0 h10 = some (some (.inl (hI h10 133 0 0)), pI h10 129 0 0 (nI 0)) := fun h10 => by
    unfold X3_readTape_g72 X3_readTape_f72
    rw [wr_eq, hI_off _ (by decide)]
    rfl
  have e129 : ∀ h10, hI (pI h10 129 0 0 (nI 0)) 129 0 0 = nI 0 := fun h10 => by rw [hI_pI, if_pos ⟨rfl, rfl, rfl⟩]
  unfold txR
  cases ck : kyF T (lkF T L 0 0) with
  | none =>
    obtain ⟨z1, z2⟩ := k3' ck
    obtain ⟨o1, o2, o3, o4, o5⟩ := v0.1
    have r80 : rl80 [.inr (2, 1), .inl 0] h3 = some (none, h3) := flt_c (s := (lkF T L 0 0).2.1) (by omega) z1 80 0 (by omega) (by decide)
    refine ⟨nI (lkF T L 0 0).2.1, pI h3 129 0 0 (nI 0), ?_, f03.pI (by decide), e129 h3, fun key E e => (by cases e), fun _ => ⟨rfl, by show (lkF T L 0 0).2.1 ≤ 96; omega⟩⟩
    rw [pre h3 r80, z1, if_neg (fun z => nI_pos (n := (lkF T L 0 0).2.1) (by omega) (by rw [z]; decide)), g72, z1]
  | some key =>
    obtain ⟨cs3, z2⟩ := k3 key ck
    obtain ⟨hk, hu, h4b⟩ := ky_some ck
    obtain ⟨o1, o2, o3, o4, o5⟩ := v0.1
    obtain ⟨nv, np⟩ := nx_ok q v0
    obtain ⟨h4, e4, f4, t4, u4⟩ := cl_main a3 q3 hk z2 80 0 (nxF T L (lkF T L 0 0)) [] 0 0 h3 (by omega) (by decide) (by omega) (by omega) Fr.rf cs3 nv (by show 0 + 4 ≤ _; omega)
    obtain ⟨pv, pt⟩ := ps_okT q hk 80 0 (nxF T L (lkF T L 0 0)) 0 0 (by omega) nv
    have er : psF (nxF T L) (lfF T key) 80 0 (nxF T L (lkF T L 0 0)) 0 0 = txG T L key := rfl
    rw [er] at t4 u4 pv pt
    have r80 : rl80 [.inr (2, 1), .inl 0] h3 = some (none, h4) := e4
    have f04 : Fr rtW h h4 := f03.tr (f4.sub (by decide))
    obtain ⟨w1, w2, w3, w4, w5⟩ := pv.1
    show ∃ v h', X3_readTape 0 h = some (some (.inl v), h') ∧ Fr rtW h h' ∧ hI h' 129 0 0 = nI 0 ∧ (∀ key' E, (if (txG T L key).1 = true ∧ (txG T L key).2.1.1 = 0 then (some (key, (txG T L key).2.2), 0) else (none, (txG T L key).2.1.2.1) : Option (Nat × List Int32) × Nat).1 = some (key', E) → v = -1 ∧ hI h' 134 0 0 = nI key' ∧ hI h' 136 0 0 = nI E.length ∧ StC h' E ∧ hI h' 137 0 0 = nI (lvN E)) ∧ ((if (txG T L key).1 = true ∧ (txG T L key).2.1.1 = 0 then (some (key, (txG T L key).2.2), 0) else (none, (txG T L key).2.1.2.1) : Option (Nat × List Int32) × Nat).1 = none → v = nI (if (txG T L key).1 = true ∧ (txG T L key).2.1.1 = 0 then (some (key, (txG T L key).2.2), 0) else (none, (txG T L key).2.1.2.1) : Option (Nat × List Int32) × Nat).2 ∧ (if (txG T L key).1 = true ∧ (txG T L key).2.1.1 = 0 then (some (key, (txG T L key).2.2), 0) else (none, (txG T L key).2.1.2.1) : Option (Nat × List Int32) × Nat).2 ≤ 96)
    generalize txG T L key = r at t4 u4 pv pt w1 w2 w3 w4 w5
    by_cases c : r.1 = true ∧ r.2.1.1 = 0
    · rw [if_pos c]
      have cs4 := t4 c.1
      rw [List.append_nil] at cs4
      refine ⟨-1, pI h4 129 0 0 (nI 0), ?_, f04.pI (by decide), e129 h4, fun key' E e => ?_, fun e => by cases e⟩
      · rw [pre h4 r80, cs4.2.1, if_pos rfl, cs4.1.1, if_pos ((tkC_end w1).mpr c.2), g72, cs4.2.1]
      · cases e
        refine ⟨rfl, ?_, (hI_off _ (by decide) _ _ _ _ _).trans cs4.2.2.1, StC.same (fun j => hI_off _ (by decide) _ _ _ _ _) cs4.2.2.2.1, (hI_off _ (by decide) _ _ _ _ _).trans cs4.2.2.2.2.1⟩
        rw [hI_off _ (by decide), f4.1 134 0 0 (by decide) a3.n2, z2]
    · rw [if_neg c]
      cases rb : r.1 with
      | true =>
        have cs4 := t4 rb
        have n0 : ¬ r.2.1.1 = 0 := fun z => c ⟨rb, z⟩
        refine ⟨nI r.2.1.2.1, pI (pI h4 133 0 0 (nI r.2.1.2.1)) 129 0 0 (nI 0), ?_, (f04.pI (by decide)).pI (by decide), e129 _, fun key' E e => (by cases e), fun _ => ⟨rfl, by show r.2.1.2.1 ≤ 96; omega⟩⟩
        rw [pre h4 r80, cs4.2.1, if_pos rfl, cs4.1.1, if_neg (fun z => n0 ((tkC_end w1).mp z)), g72, cs4.1.2.1, hI_pI, if_pos ⟨rfl, rfl, rfl⟩]
      | false =>
        have cf := u4 rb
        refine ⟨nI r.2.1.2.1, pI h4 129 0 0 (nI 0), ?_, f04.pI (by decide), e129 _, fun key' E e => (by cases e), fun _ => ⟨rfl, by show r.2.1.2.1 ≤ 96; omega⟩⟩
        rw [pre h4 r80, cf.1, if_neg (fun z => nI_pos (n := r.2.1.2.1) (by omega) (by rw [z]; decide)), g72, cf.1]
