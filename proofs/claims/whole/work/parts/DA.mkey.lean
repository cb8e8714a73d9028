/-! texts: the key, and the whole of a text; the model -/
def kaF (w : Nat) : Nat := if w = 0 then 0 else if w = 1 then 5 else 9
theorem ka_ok : ∀ w, w < 3 → keyA w = nI (kaF w) ∧ keyA (w + 1) - keyA w = nI (slen.getD w 0) ∧ slen.getD w 0 ≤ 5 ∧ ∀ i, i < slen.getD w 0 → kaF w + i < 13 ∧ keyL (kaF w + i) = nI (kbF w i) := by decide +kernel
def mkW : List Nat × List Nat × Bool := ([712, 713, 714, 715, 716, 717], [], false)
theorem takesKey_m {h : PH} {L : Nat} {T : Nat → Nat} (a : SH h) (t : TmE h L T) (ky : Kys h) {u : Tu} (v : okV T L u) (q : MtE h T u) : ∃ h', X12_takesKey 0 h = some (some (.inl (b2 (kyF T u).isSome)), h') ∧ Fr mkW h h' ∧ (∀ k, kyF T u = some k → MtE h' T (nxF T L u) ∧ hI h' 717 0 0 = nI k) ∧ (kyF T u = none → hI h' 713 0 0 = nI u.2.1) := by
  obtain ⟨o1, o2, o3, o4, o5⟩ := v.1
  obtain ⟨w3, w0, w1, w2⟩ := tkM_w v.1
  have hL := t.1
  by_cases c : u.1 = 1
  · -- a word
    have fin : ∀ w, w < 3 → wqF T u w = true → ∃ h', Fr mkW h h' ∧ MtE h' T (nxF T L u) ∧ hI h' 717 0 0 = nI w ∧ ∀ N, X12_takesKey_g106 (X12_takesKey_fam N) 0 (nI w) 1 h = some (some (.inl 1), h') := fun w hw _ => by
      have f1 : Fr mkW h (pI h 717 0 0 (nI w)) := Fr.rf.pI (by decide)
      have a1 : SH (pI h 717 0 0 (nI w)) := a
      have q1 : MtE (pI h 717 0 0 (nI w)) T u := q.same (fun c hc => hI_off _ (by omega) _ _ _ _ _)
      obtain ⟨h', e, m, f⟩ := go_m a1 (t.fr a f1 (by decide) (by decide)) q1.2.1 o3 (q1.ed (Or.inl c))
      refine ⟨h', f1.tr (f.sub (by decide)), m, ?_, fun N => ?_⟩
      · rw [f.1 717 0 0 (by decide) a1.n11, hI_pI, if_pos ⟨rfl, rfl, rfl⟩]
      · unfold X12_takesKey_g106 X12_takesKey_f106
        rw [if_neg (by decide), wr_eq, e, cV_some, bz_ok (Or.inr rfl)]
    have inner : ∀ w, w < 3 → u.2.2 - u.2.1 = slen.getD w 0 → ∀ k i, i + k = slen.getD w 0 → ∀ N, ∃ N', (X12_takesKey_fam N').2 0 (nI w) (nI (slen.getD w 0)) 1 (nI i) h = X12_takesKey_g106 (X12_takesKey_fam N) 0 (nI w) (b2 (eqF T u.2.1 (kbF w) k i)) h := fun w hw hb => by
      obtain ⟨k1, k2, k3, k4⟩ := ka_ok w hw
      intro k
      induction k with
      | zero =>
        intro i e N
        refine ⟨N + 1, ?_⟩
        show X12_takesKey_g55 (X12_takesKey_fam N) 0 (nI w) (nI (slen.getD w 0)) 1 (nI i) h = _
        unfold X12_takesKey_g55 X12_takesKey_f55
        rw [if_neg (nI_nlt (by omega) (by omega))]
        rfl
      | succ k ih =>
        intro i e N
        obtain ⟨k5, k6⟩ := k4 i (by omega)
        obtain ⟨t1, t2⟩ := t.2.2 (u.2.1 + i) (by omega)
        have kb2 := (kb_ok w (by omega) i (by omega)).2
        have pre : ∀ N, (X12_takesKey_fam (N + 1)).2 0 (nI w) (nI (slen.getD w 0)) 1 (nI i) h = if T (u.2.1 + i) = kbF w i then (X12_takesKey_fam N).2 0 (nI w) (nI (slen.getD w 0)) 1 (nI (i + 1)) h else (X12_takesKey_fam N).2 0 (nI w) (nI (slen.getD w 0)) 0 (nI (i + 1)) h := fun N => by
          show X12_takesKey_g55 (X12_takesKey_fam N) 0 (nI w) (nI (slen.getD w 0)) 1 (nI i) h = _
          have g99 : ∀ s0, X12_takesKey_g99 (X12_takesKey_fam N) 0 (nI w) (nI (slen.getD w 0)) (nI i) s0 h = (X12_takesKey_fam N).2 0 (nI w) (nI (slen.getD w 0)) s0 (nI (i + 1)) h := fun s0 => by
            show (X12_takesKey_fam N).2 0 (nI w) (nI (slen.getD w 0)) s0 (nI i + 1) h = _
            rw [nI_1]
          unfold X12_takesKey_g55 X12_takesKey_f55
          rw [if_pos (nI_lt (by omega) (by omega)), if_neg (by decide), nnE (sh_710 a), q.1, nI_add, ixE (ln_45 a) rfl (show u.2.1 + i < 96 by omega) (by decide), nnE (sh_719 a), ixE (ln_47 a) rfl (show w < 4 by omega) (by decide), ky.2 w (by omega), k1, nI_add, nnE (sh_718 a), ixE (ln_46 a) rfl k5 (by decide), ky.1 _ k5, k6, t2, g99, g99]
          by_cases z : T (u.2.1 + i) = kbF w i
          · rw [if_pos (by rw [z]), if_pos z]
          · rw [if_neg (fun x => z ((nI_eq (by omega) (by omega)).mp x)), if_neg z]
        rw [eqF_s]
        by_cases z : T (u.2.1 + i) = kbF w i
        · obtain ⟨N', y⟩ := ih (i + 1) (by omega) N
          refine ⟨N' + 1, ?_⟩
          rw [pre, if_pos z, decide_eq_true z]
          exact y
        · refine ⟨N + 1 + 1, ?_⟩
          rw [pre, if_neg z, decide_eq_false z]
          show X12_takesKey_g55 (X12_takesKey_fam N) 0 (nI w) (nI (slen.getD w 0)) 0 (nI (i + 1)) h = X12_takesKey_g106 (X12_takesKey_fam N) 0 (nI w) 0 h
          unfold X12_takesKey_g55 X12_takesKey_f55
          split <;> rfl
    have outer : ∀ w, w < 3 → (wqF T u w = true → ∃ N h', (X12_takesKey_fam N).1 0 (nI w) h = some (some (.inl 1), h') ∧ Fr mkW h h' ∧ MtE h' T (nxF T L u) ∧ hI h' 717 0 0 = nI w) ∧ (wqF T u w = false → ∀ N, ∃ N', (X12_takesKey_fam N').1 0 (nI w) h = (X12_takesKey_fam N).1 0 (nI (w + 1)) h) := fun w hw => by
      obtain ⟨k1, k2, k3, k4⟩ := ka_ok w hw
      have step : ∀ N, (X12_takesKey_fam (N + 1)).1 0 (nI w) h = (X12_takesKey_fam N).2 0 (nI w) (nI (slen.getD w 0)) (if u.2.2 - u.2.1 = slen.getD w 0 then 1 else 0) (nI 0) h := fun N => by
        show X12_takesKey_g12 (X12_takesKey_fam N) 0 (nI w) h = _
        unfold X12_takesKey_g12 X12_takesKey_f12
        rw [if_pos (show nI w < 3 from nI_lt (b := 3) hw (by decide)), nnE (sh_719 a), nI_1, ixE (ln_47 a) rfl (show w + 1 < 4 by omega) (by decide), nnE (sh_719 a), ixE (ln_47 a) rfl (show w < 4 by omega) (by decide), ky.2 w (by omega), ky.2 (w + 1) (by omega), k2, q.1, q.2.1, nI_subN o2]
        by_cases z : u.2.2 - u.2.1 = slen.getD w 0
        · rw [if_pos (by rw [z]), if_pos z]
          rfl
        · rw [if_neg (fun x => z ((nI_eq (by omega) (by omega)).mp x).symm), if_neg z]
          rfl
      have no : ∀ N, X12_takesKey_g106 (X12_takesKey_fam N) 0 (nI w) 0 h = (X12_takesKey_fam N).1 0 (nI (w + 1)) h := fun N => by
        unfold X12_takesKey_g106 X12_takesKey_f106
        rw [if_pos rfl, nI_1]
      by_cases z : u.2.2 - u.2.1 = slen.getD w 0
      · have ew : wqF T u w = eqF T u.2.1 (kbF w) (slen.getD w 0) 0 := by
          unfold wqF
          rw [decide_eq_true ⟨c, z⟩, Bool.true_and]
        refine ⟨fun x => ?_, fun x N => ?_⟩
        · obtain ⟨h', f', m', k', run⟩ := fin w hw x
          obtain ⟨N', y⟩ := inner w hw z (slen.getD w 0) 0 (by omega) 0
          rw [ew] at x
          rw [x] at y
          exact ⟨N' + 1, h', by rw [step, if_pos z, y]; exact run 0, f', m', k'⟩
        · obtain ⟨N', y⟩ := inner w hw z (slen.getD w 0) 0 (by omega) N
          rw [ew] at x
          rw [x] at y
          exact ⟨N' + 1, by rw [step, if_pos z, y]; exact no N⟩
      · have ew : wqF T u w = false := by
          unfold wqF
          rw [decide_eq_false (fun x => z x.2), Bool.false_and]
        refine ⟨fun x => (by rw [ew] at x; cases x), fun _ N => ⟨N + 1 + 1, ?_⟩⟩
        rw [step, if_neg z]
        show X12_takesKey_g55 (X12_takesKey_fam N) 0 (nI w) (nI (slen.getD w 0)) 0 (nI 0) h = _
        unfold X12_takesKey_g55 X12_takesKey_f55
        rw [if_pos rfl, no]
        split <;> rfl
    have start : ∀ N, X12_takesKey_g0 (X12_takesKey_fam N) 0 h = (X12_takesKey_fam N).1 0 (nI 0) h := fun N => by
      unfold X12_takesKey_g0 X12_takesKey_f0
      rw [q.2.2.1, if_pos (w1.mpr c)]
      rfl
    have last : (X12_takesKey_fam 1).1 0 (nI 3) h = some (some (.inl 0), h) := by
      show X12_takesKey_g12 (X12_takesKey_fam 0) 0 (nI 3) h = _
      unfold X12_takesKey_g12 X12_takesKey_f12
      rw [if_neg (by decide), bz_ok (Or.inl rfl)]
    unfold kyF
    cases c0 : wqF T u 0 with
    | true =>
      obtain ⟨N, h', y1, y2, y3, y4⟩ := (outer 0 (by decide)).1 c0
      exact ⟨h', X12_takesKey_iff.mpr ⟨N, by rw [start]; exact y1⟩, y2, fun k e => (by cases e; exact ⟨y3, y4⟩), fun e => by cases e⟩
    | false =>
      rw [cond_false]
      cases c1 : wqF T u 1 with
      | true =>
        obtain ⟨N, h', y1, y2, y3, y4⟩ := (outer 1 (by decide)).1 c1
        obtain ⟨N1, z1⟩ := (outer 0 (by decide)).2 c0 N
        exact ⟨h', X12_takesKey_iff.mpr ⟨N1, by rw [start, z1]; exact y1⟩, y2, fun k e => (by cases e; exact ⟨y3, y4⟩), fun e => by cases e⟩
      | false =>
        rw [cond_false]
        cases c2 : wqF T u 2 with
        | true =>
          obtain ⟨N, h', y1, y2, y3, y4⟩ := (outer 2 (by decide)).1 c2
          obtain ⟨N1, z1⟩ := (outer 1 (by decide)).2 c1 N
          obtain ⟨N2, z2⟩ := (outer 0 (by decide)).2 c0 N1
          exact ⟨h', X12_takesKey_iff.mpr ⟨N2, by rw [start, z2, z1]; exact y1⟩, y2, fun k e => (by cases e; exact ⟨y3, y4⟩), fun e => by cases e⟩
        | false =>
          obtain ⟨N1, z1⟩ := (outer 2 (by decide)).2 c2 1
          obtain ⟨N2, z2⟩ := (outer 1 (by decide)).2 c1 N1
          obtain ⟨N3, z3⟩ := (outer 0 (by decide)).2 c0 N2
          exact ⟨h, X12_takesKey_iff.mpr ⟨N3, by rw [start, z3, z2, z1]; exact last⟩, Fr.rf, fun k e => (by cases e), fun _ => q.1⟩
  · have e0 : kyF T u = none := by
      cases e : kyF T u with
      | none => rfl
      | some k => exact absurd (ky_some e).2.1 c
    rw [e0]
    refine ⟨h, X12_takesKey_iff.mpr ⟨0, ?_⟩, Fr.rf, fun k e => (by cases e), fun _ => q.1⟩
    unfold X12_takesKey_g0 X12_takesKey_f0
    rw [q.2.2.1, if_neg (fun z => c (w1.mp z)), bz_ok (Or.inl rfl)]
    rfl
theorem takesE_m {h : PH} {L key : Nat} {T : Nat → Nat} (a : SH h) (t : TmE h L T) (hk : key < 3) (h7 : hI h 717 0 0 = nI key) {u : Tu} (v : okV T L u) (q : MtE h T u) (hu : 4 ≤ u.2.1) : ∃ h', X12_takesE 0 h = some (some (.inl (if (psF (nxF T L) (lfF T key) 80 0 u 0 0).1 = true ∧ (psF (nxF T L) (lfF T key) 80 0 u 0 0).2.1.1 = 0 then 1 else 0)), h') ∧ Fr meW h h' ∧ ((psF (nxF T L) (lfF T key) 80 0 u 0 0).1 = true ∧ (psF (nxF T L) (lfF T key) 80 0 u 0 0).2.1.1 = 0 → hI h' 721 0 0 = nI (psF (nxF T L) (lfF T key) 80 0 u 0 0).2.2.length ∧ StM 3072 h' (psF (nxF T L) (lfF T key) 80 0 u 0 0).2.2 ∧ hI h' 722 0 0 = nI (lvN (psF (nxF T L) (lfF T key) 80 0 u 0 0).2.2)) ∧ hI h' 713 0 0 = nI (psF (nxF T L) (lfF T key) 80 0 u 0 0).2.1.2.1 := by
  have hL := t.1
  generalize hh1 : pI (pI (pI (pI h 721 0 0 0) 722 0 0 0) 724 0 0 0) 3200 0 0 0 = h1
  have f1 : Fr meW h h1 := by
    subst hh1
    exact (((Fr.rf.pI (by decide)).pI (by decide)).pI (by decide)).pI (by decide)
  have a1 : SH h1 := a.fr f1 (by decide)
  have q1 : MpE h1 T u [] [] := by
    subst hh1
    refine ⟨q.same (fun c hc => by rw [hI_off _ (by omega), hI_off _ (by omega), hI_off _ (by omega), hI_off _ (by omega)]), ?_, trivial, ?_, ?_, trivial⟩
    · rw [hI_off _ (by decide), hI_off _ (by decide), hI_off _ (by decide), hI_pI, if_pos ⟨rfl, rfl, rfl⟩]
      rfl
    · rw [hI_off _ (by decide), hI_off _ (by decide), hI_pI, if_pos ⟨rfl, rfl, rfl⟩]
      rfl
    · rw [hI_off _ (by decide), hI_pI, if_pos ⟨rfl, rfl, rfl⟩]
      rfl
  have e3 : hI h1 3200 0 0 = b2 false := by
    subst hh1
    rw [hI_pI, if_pos ⟨rfl, rfl, rfl⟩]
    rfl
  obtain ⟨i1', i2'⟩ := (sm_main a t hk h7 80).2 0 (by omega) u [] [] 0 0 false h1 (by decide) (by omega) (by omega) f1 q1 v (by show 0 + 0 + 4 ≤ _; omega) rfl e3 (fun _ => rfl) (fun w S' hw => by cases hw)
  obtain ⟨pv, pt⟩ := ps_okM t hk 80 0 u 0 0 (by omega) v
  have start : ∀ N, X12_takesE_g0 (X12_takesE_fam N) 0 h = X12_takesE_fam N 0 (nI 0) (nI 0) 1 h1 := fun N => by
    have b3 : SH (pI (pI (pI h 721 0 0 0) 722 0 0 0) 724 0 0 0) := a
    unfold X12_takesE_g0 X12_takesE_f0
    rw [wr_eq, wr_eq, wr_eq, nnE (sh_725 b3), ixE (x := 0) (j := 0) (ln_50 b3) rfl (by decide) (by decide), narBo.1, wr_eq, hh1]
    rfl
  generalize psF (nxF T L) (lfF T key) 80 0 u 0 0 = r at i1' i2' pv pt
  obtain ⟨w1, w2, w3, w4, w5⟩ := pv.1
  cases rb : r.1 with
  | false =>
    obtain ⟨z, h', y1, y2, y3⟩ := i2' rb
    refine ⟨h', X12_takesE_iff.mpr ⟨z, ?_⟩, y2, fun x => (by cases x.1), y3⟩
    rw [start, y1, if_neg (fun x => by cases x.1)]
  | true =>
    obtain ⟨h3, D', X, tt', f3, q3, x3, l3, g3, g3', -, k3, run3⟩ := i1' rb
    obtain ⟨⟨p1, p2, -, -⟩, ex⟩ := pt rb
    have ln : X.length + D'.length = r.2.2.length := by
      have := congrArg List.length l3
      rw [List.length_append, List.length_append, List.length_reverse] at this
      exact this
    by_cases d4 : r.2.1.1 = 0
    · obtain ⟨h4, f4, q4, run4⟩ := mt_end a (o := 0) (n := 0) f3 q3 pv d4 (by omega) (fun w hw => ⟨(bin_all (x3 w hw).1).1, (bin_all (x3 w hw).1).2.1⟩) (fun w S' hw => by cases hw) (by rw [List.append_nil]; omega)
      obtain ⟨z', hz⟩ := run3 1 _ (run4 0)
      rw [l3, List.append_nil] at q4
      refine ⟨h4, X12_takesE_iff.mpr ⟨z', ?_⟩, f3.tr f4, fun _ => ⟨q4.2.1, q4.2.2.1, q4.2.2.2.1⟩, q4.1.1⟩
      rw [start, hz, if_pos rfl, if_pos ⟨rfl, d4⟩]
    · have st : lvK r.2.1.1 = 9 ∨ (lvK r.2.1.1 = 2 ∧ hI h3 3200 0 0 = 1) := by
        rcases lvK_r r.2.1.1 with z | z
        · by_cases z2 : lvK r.2.1.1 = 2
          · exact Or.inr ⟨z2, by rw [g3', k3 (by omega) z2]; rfl⟩
          · exact absurd rfl (ex (lvK r.2.1.1) (by omega) z z2)
        · exact Or.inl z
      have run4 := mt_stop a (n := 0) f3 q3 pv d4 (fun z => by omega) (by omega) st 0
      obtain ⟨z', hz⟩ := run3 1 _ run4
      refine ⟨h3, X12_takesE_iff.mpr ⟨z', ?_⟩, f3, fun x => absurd x.2 d4, q3.1.1⟩
      rw [start, hz, if_neg (fun x => d4 x.2)]
def mxW : List Nat × List Nat × Bool := ([711, 712, 713, 714, 715, 716, 717, 721, 722, 724, 3072, 3136, 3200], [], false)
/-- the model's text, up to where it is taken in -/
theorem text_m {h : PH} {L : Nat} {T : Nat → Nat} (a : SH h) (t : TmE h L T) (ky : Kys h) : ∃ h', Fr mxW h h' ∧ (∀ G, X12_text_g0 G 0 h = X12_text_g33 G 0 (b2 (txR T L).1.isSome) h') ∧ (∀ key E, (txR T L).1 = some (key, E) → hI h' 717 0 0 = nI key ∧ hI h' 721 0 0 = nI E.length ∧ StM 3072 h' E ∧ hI h' 722 0 0 = nI (lvN E)) ∧ ((txR T L).1 = none → hI h' 713 0 0 = nI (txR T L).2) := by
  have hL := t.1
  have hT : ∀ j, j < L → T j < 256 := fun j hj => (t.2.2 j hj).1
  generalize hh1 : pI (pI h 712 0 0 0) 716 0 0 (-1) = h1
  have f1 : Fr mxW h h1 := by
    subst hh1
    exact (Fr.rf.pI (by decide)).pI (by decide)
  have a1 : SH h1 := a.fr f1 (by decide)
  have e712 : hI h1 712 0 0 = nI 0 := by
    subst hh1
    rw [hI_off _ (by decide), hI_pI, if_pos ⟨rfl, rfl, rfl⟩]
    rfl
  have e711 : hI h1 711 0 0 = hI h 711 0 0 := by
    subst hh1
    rw [hI_off _ (by decide), hI_off _ (by decide)]
  have t1 : TmE h1 L T := ⟨t.1, e711.trans t.2.1, fun j hj => by
    rw [f1.1 2880 0 j (by decide) a.n45]
    exact t.2.2 j hj⟩
  have ed : EdE h1 0 0 := by
    refine ⟨fun z => (by cases z), fun _ s _ hs z => ?_⟩
    subst hh1
    rw [hI_pI, if_pos ⟨rfl, rfl, rfl⟩] at z
    exact nI_pos (n := s) (by omega) (by rw [z]; decide)
  obtain ⟨v0, -⟩ := lkF_okV hT 0 (b := 0) (by omega)
  obtain ⟨h2, e2, m2, f2⟩ := go_m a1 t1 e712 (by omega) ed
  have a2 : SH h2 := a1.fr f2 (by decide)
  have t2 := t1.fr a1 f2 (by decide) (by decide)
  have f02 : Fr mxW h h2 := f1.tr (f2.sub (by decide))
  have ky2 : Kys h2 := ky.fr a f02 (by decide)
  obtain ⟨h3, e3, f3, k3, k3'⟩ := takesKey_m a2 t2 ky2 v0 m2
  have a3 : SH h3 := a2.fr f3 (by decide)
  have t3 := t2.fr a2 f3 (by decide) (by decide)
  have f03 : Fr mxW h h3 := f02.tr (f3.sub (by decide))
  unfold txR
  cases ck : kyF T (lkF T L 0 0) with
  | none =>
    rw [ck] at e3
    refine ⟨h3, f03, fun G => ?_, fun key E e => (by cases e), fun _ => k3' ck⟩
    unfold X12_text_g0 X12_text_f0
    rw [wr_eq, wr_eq, hh1, e2, cV_some, e3, cI_some, if_pos (show b2 (none : Option Nat).isSome = 0 from rfl)]
    rfl
  | some key =>
    rw [ck] at e3
    obtain ⟨m3, z3⟩ := k3 key ck
    obtain ⟨hk, hu, h4b⟩ := ky_some ck
    obtain ⟨o1, o2, o3, o4, o5⟩ := v0.1
    obtain ⟨nv, np⟩ := nx_okM t v0
    obtain ⟨h4, e4, f4, y4, y4'⟩ := takesE_m a3 t3 hk z3 nv m3 (by omega)
    have er : psF (nxF T L) (lfF T key) 80 0 (nxF T L (lkF T L 0 0)) 0 0 = txG T L key := rfl
    rw [er] at e4 y4 y4'
    have z4 : hI h4 717 0 0 = nI key := (f4.1 717 0 0 (by decide) a3.n11).trans z3
    show ∃ h', Fr mxW h h' ∧ (∀ G, X12_text_g0 G 0 h = X12_text_g33 G 0 (b2 (if (txG T L key).1 = true ∧ (txG T L key).2.1.1 = 0 then (some (key, (txG T L key).2.2), 0) else (none, (txG T L key).2.1.2.1) : Option (Nat × List Int32) × Nat).1.isSome) h') ∧ (∀ key' E, (if (txG T L key).1 = true ∧ (txG T L key).2.1.1 = 0 then (some (key, (txG T L key).2.2), 0) else (none, (txG T L key).2.1.2.1) : Option (Nat × List Int32) × Nat).1 = some (key', E) → hI h' 717 0 0 = nI key' ∧ hI h' 721 0 0 = nI E.length ∧ StM 3072 h' E ∧ hI h' 722 0 0 = nI (lvN E)) ∧ ((if (txG T L key).1 = true ∧ (txG T L key).2.1.1 = 0 then (some (key, (txG T L key).2.2), 0) else (none, (txG T L key).2.1.2.1) : Option (Nat × List Int32) × Nat).1 = none → hI h' 713 0 0 = nI (if (txG T L key).1 = true ∧ (txG T L key).2.1.1 = 0 then (some (key, (txG T L key).2.2), 0) else (none, (txG T L key).2.1.2.1) : Option (Nat × List Int32) × Nat).2)
    generalize txG T L key = r at e4 y4 y4'
    have run : ∀ G, X12_text_g0 G 0 h = (if (if r.1 = true ∧ r.2.1.1 = 0 then (1 : Int32) else 0) = 0 then X12_text_g33 G 0 0 h4 else X12_text_g33 G 0 1 h4) := fun G => by
      unfold X12_text_g0 X12_text_f0
      rw [wr_eq, wr_eq, hh1, e2, cV_some, e3, cI_some, if_neg (show ¬ b2 (some key).isSome = 0 by show ¬ b2 true = 0; decide), e4, cI_some]
    refine ⟨h4, f03.tr (f4.sub (by decide)), ?_⟩
    by_cases c : r.1 = true ∧ r.2.1.1 = 0
    · rw [if_pos c]
      refine ⟨fun G => ?_, fun key' E e => ?_, fun e => by cases e⟩
      · rw [run, if_pos c, if_neg (by decide)]
        rfl
      · cases e
        exact ⟨z4, y4 c⟩
    · rw [if_neg c]
      refine ⟨fun G => ?_, fun key' E e => (by cases e), fun _ => y4'⟩
      rw [run, if_neg c, if_pos rfl]
      rfl
