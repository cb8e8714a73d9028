/-! texts: how the model reads, its turns -/
def meW : List Nat × List Nat × Bool := ([712, 713, 714, 715, 716, 721, 722, 724, 3072, 3136, 3200], [], false)
def topE (m : Nat) (S : List Int32) : Prop := ∀ v S', S = v :: S' → v = -11 ∨ rkI v ≤ m
theorem if3 {h : PH} {L : Nat} {T : Nat → Nat} {u : Tu} (q : MtE h T u) (v : okU L u) {c : Nat} (hc : c < 256) (A B : Option Rs) : (if hI h 714 0 0 = 3 then (if hI h 715 0 0 = nI c then A else B) else B) = if u.1 = c + 5 then A else B := by
  obtain ⟨w3, -, -, -⟩ := tkM_w v
  rw [q.2.2.1]
  by_cases d : 5 ≤ u.1
  · rw [if_pos (w3.mpr d)]
    by_cases e : u.1 = c + 5
    · rw [if_pos ((val_m q v d hc).mpr e), if_pos e]
    · rw [if_neg (fun z => e ((val_m q v d hc).mp z)), if_neg e]
  · rw [if_neg (fun z => d (w3.mp z)), if_neg (by omega)]
theorem nn11 (S : List Int32) : nnN (-11 :: S) = nnN S := by
  show (if (-11 : Int32) = -10 then 1 else 0) + nnN S = nnN S
  rw [if_neg (by decide), Nat.zero_add]
theorem narBo : vp_nar .boolean 0 = 0 ∧ vp_nar .boolean 1 = 1 := by decide
section
variable {h0 : PH} {L key : Nat} {T : Nat → Nat}
theorem te_one (z : Nat) (x1 x2 : Int32) (h : PH) : X12_takesE_fam (z + 1) 0 x1 x2 1 h = X12_takesE_g39 (X12_takesE_fam z) 0 x1 x2 1 h := by
  show X12_takesE_g28 (X12_takesE_fam z) 0 x1 x2 1 h = _
  unfold X12_takesE_g28 X12_takesE_f28
  rw [if_neg (by decide)]
theorem te_172 {h : PH} {u : Tu} {D S : List Int32} (a : SH h) (q : MpE h T u D S) (hS : S.length ≤ 96) (z : Nat) (x1 x3 : Int32) : X12_takesE_g172 (X12_takesE_fam z) 0 x1 x3 h = X12_takesE_fam z 0 x1 (nI (nnN S)) x3 h := by
  unfold X12_takesE_g172 X12_takesE_f172
  rw [nots_m a q hS, cI_some]
theorem mt_not (a0 : SH h0) (t0 : TmE h0 L T) {u : Tu} {D S : List Int32} {o n : Nat} {h : PH} (fh : Fr meW h0 h) (q : MpE h T u D S) (v : okV T L u) (hu : u.1 = 38) (hn : n < 8) (hS : S.length < 96) : ∃ h2, Fr meW h h2 ∧ MpE h2 T (nxF T L u) D (-10 :: S) ∧ (∀ j, hI h2 3200 0 j = hI h 3200 0 j) ∧ ∀ z, X12_takesE_fam (z + 1) 0 (nI o) (nI n) 1 h = X12_takesE_fam z 0 (nI o) (nI (nnN (-10 :: S))) 1 h2 := by
  have a : SH h := a0.fr fh (by decide)
  have t := t0.fr a0 fh (by decide) (by decide)
  have q5 := q.2.2.2.2.1
  have f1 : Fr meW h (pI (pI h 3136 0 S.length (-10)) 724 0 0 (nI (S.length + 1))) := (Fr.rf.pI (by decide)).pI (by decide)
  have a1 : SH (pI (pI h 3136 0 S.length (-10)) 724 0 0 (nI (S.length + 1))) := a
  obtain ⟨h2, e2, q2, f2⟩ := (q.push (-10)).go a1 (t.fr a f1 (by decide) (by decide)) v.1 (by omega)
  have f12 : Fr meW h h2 := f1.tr (f2.sub (by decide))
  have a2 : SH h2 := a.fr f12 (by decide)
  refine ⟨h2, f12, q2, fun j => ?_, fun z => ?_⟩
  · rw [f2.1 3200 0 j (by decide) a1.n50, hI_off _ (by decide), hI_off _ (by decide)]
  · have e33 : ∀ A B : Option Rs, (if hI h 714 0 0 = 3 then (if hI h 715 0 0 = 33 then A else B) else B) = if u.1 = 38 then A else B := fun A B => if3 q.1 v.1 (c := 33) (by decide) A B
    rw [te_one]
    unfold X12_takesE_g39 X12_takesE_f39
    rw [if_neg (by decide), e33, if_pos hu, if_pos (show nI n < 8 from nI_lt (b := 8) hn (by decide)), nnE (sh_723 a), q5, ixE (ln_49 a) rfl hS (by decide), wr_eq, hI_off _ (by decide), q5, nI_1, wr_eq, e2, cV_some, te_172 a2 q2 (by rw [List.length_cons]; omega)]
theorem mt_open (a0 : SH h0) (t0 : TmE h0 L T) {u : Tu} {D S : List Int32} {o n : Nat} {h : PH} (fh : Fr meW h0 h) (q : MpE h T u D S) (v : okV T L u) (hu : u.1 = 45) (ho : o < 8) (hS : S.length < 96) : ∃ h2, Fr meW h h2 ∧ MpE h2 T (nxF T L u) D (-11 :: S) ∧ (∀ j, j ≠ o + 1 → hI h2 3200 0 j = hI h 3200 0 j) ∧ hI h2 3200 0 (o + 1) = 0 ∧ ∀ z, X12_takesE_fam (z + 1) 0 (nI o) (nI n) 1 h = X12_takesE_fam z 0 (nI (o + 1)) (nI (nnN S)) 1 h2 := by
  have a : SH h := a0.fr fh (by decide)
  have t := t0.fr a0 fh (by decide) (by decide)
  have q5 := q.2.2.2.2.1
  generalize hh1 : pI (pI (pI h 3136 0 S.length (-11)) 724 0 0 (nI (S.length + 1))) 3200 0 (o + 1) 0 = h1
  have f1 : Fr meW h h1 := by
    subst hh1
    exact ((Fr.rf.pI (by decide)).pI (by decide)).pI (by decide)
  have a1 : SH h1 := a.fr f1 (by decide)
  have q1 : MpE h1 T u D (-11 :: S) := by
    subst hh1
    obtain ⟨p1, p2, p3, p4, p5, p6⟩ := q.push (-11)
    exact ⟨p1.same (fun c hc => hI_off _ (by omega) _ _ _ _ _), (hI_off _ (by decide) _ _ _ _ _).trans p2, StM.same (fun j => hI_off _ (by decide) _ _ _ _ _) p3, (hI_off _ (by decide) _ _ _ _ _).trans p4, (hI_off _ (by decide) _ _ _ _ _).trans p5, StM.same (fun j => hI_off _ (by decide) _ _ _ _ _) p6⟩
  obtain ⟨h2, e2, q2, f2⟩ := q1.go a1 (t.fr a f1 (by decide) (by decide)) v.1 (by omega)
  have f12 : Fr meW h h2 := f1.tr (f2.sub (by decide))
  have a2 : SH h2 := a.fr f12 (by decide)
  have g3 : ∀ j, hI h2 3200 0 j = hI h1 3200 0 j := fun j => f2.1 3200 0 j (by decide) a1.n50
  refine ⟨h2, f12, q2, fun j hj => ?_, ?_, fun z => ?_⟩
  · rw [g3]
    subst hh1
    rw [hI_pI, if_neg (fun z => hj z.2.2), hI_off _ (by decide), hI_off _ (by decide)]
  · rw [g3]
    subst hh1
    rw [hI_pI, if_pos ⟨rfl, rfl, rfl⟩]
  · have e33 : ∀ A B : Option Rs, (if hI h 714 0 0 = 3 then (if hI h 715 0 0 = 33 then A else B) else B) = if u.1 = 38 then A else B := fun A B => if3 q.1 v.1 (c := 33) (by decide) A B
    have e40 : ∀ A B : Option Rs, (if hI h 714 0 0 = 3 then (if hI h 715 0 0 = 40 then A else B) else B) = if u.1 = 45 then A else B := fun A B => if3 q.1 v.1 (c := 40) (by decide) A B
    have b1 : SH (pI (pI h 3136 0 S.length (-11)) 724 0 0 (nI (S.length + 1))) := a
    rw [te_one]
    unfold X12_takesE_g39 X12_takesE_f39
    rw [if_neg (by decide), e33, if_neg (by omega)]
    unfold X12_takesE_g97 X12_takesE_f97
    rw [e40, if_pos hu, if_pos (show nI o < 8 from nI_lt (b := 8) ho (by decide)), nnE (sh_723 a), q5, ixE (ln_49 a) rfl hS (by decide), wr_eq, hI_off _ (by decide), q5, nI_1, wr_eq, nnE (sh_725 b1), nI_1, ixE (ln_50 b1) rfl (show o + 1 < 10 by omega) (by decide), narBo.1, wr_eq, hh1, e2, cV_some, te_172 a2 q2 (by rw [List.length_cons]; omega), nn11]
theorem mt_leaf (a0 : SH h0) (t0 : TmE h0 L T) (hk : key < 3) (h7 : hI h0 717 0 0 = nI key) {u : Tu} {D S0 : List Int32} {j o n : Nat} {h : PH} (fh : Fr meW h0 h) (q : MpE h T u D (List.replicate j (-10) ++ S0)) (v : okV T L u) {x : Int32} (e : lfF T key u = some x) (ht : topE 5 S0) (hc : D.length + (List.replicate j (-10) ++ S0).length < 96) : ∃ h2, Fr meW h h2 ∧ MpE h2 T (nxF T L u) (List.replicate j (-10) ++ (x :: D)) S0 ∧ (∀ i, hI h2 3200 0 i = hI h 3200 0 i) ∧ ∀ z, X12_takesE_fam (z + 1) 0 (nI o) (nI n) 1 h = X12_takesE_fam z 0 (nI o) (nI (nnN S0)) 0 h2 := by
  have hL := t0.1
  have a : SH h := a0.fr fh (by decide)
  have t := t0.fr a0 fh (by decide) (by decide)
  have h7' : hI h 717 0 0 = nI key := (fh.1 717 0 0 (by decide) a0.n11).trans h7
  obtain ⟨x0, x1, x2⟩ := lf_ok hk v e
  have hx : ¬ x < 0 := fun z => by
    rw [i_lt, i0] at z
    omega
  have u12 : u.1 = 1 ∨ u.1 = 2 := by
    unfold lfF at e
    by_cases d1 : u.1 = 2 ∧ u.2.2 - u.2.1 ≤ 4
    · omega
    · rw [if_neg d1] at e
      by_cases d2 : u.1 = 1 ∧ u.2.2 - u.2.1 = 1
      · omega
      · rw [if_neg d2] at e
        cases e
  have ps := part_some hL hk h7' v q.1 e
  obtain ⟨q1, q2, q3, q4, q5, q6⟩ := q
  generalize hh1 : pI (pI (pI h 3072 0 D.length x) 721 0 0 (nI (D.length + 1))) 722 0 0 (nI (lvN D + 1)) = h1
  have off : ∀ c, c ≠ 3072 → c ≠ 721 → c ≠ 722 → ∀ i j, hI h1 c i j = hI h c i j := fun c h1 h2 h3 i j => by
    subst hh1
    rw [hI_off _ h3, hI_off _ h2, hI_off _ h1]
  have f1 : Fr meW h h1 := by
    subst hh1
    exact ((Fr.rf.pI (by decide)).pI (by decide)).pI (by decide)
  have a1 : SH h1 := a.fr f1 (by decide)
  have p1 : MpE h1 T u (x :: D) (List.replicate j (-10) ++ S0) := by
    refine ⟨q1.same (fun c hc => off c (by omega) (by omega) (by omega) 0 0), ?_, ⟨?_, ?_⟩, ?_, (off 724 (by decide) (by decide) (by decide) 0 0).trans q5, StM.same (fun i => off 3136 (by decide) (by decide) (by decide) 0 i) q6⟩
    · subst hh1
      rw [hI_off _ (by decide), hI_pI, if_pos ⟨rfl, rfl, rfl⟩]
      rfl
    · subst hh1
      rw [hI_off _ (by decide), hI_off _ (by decide), hI_pI, if_pos ⟨rfl, rfl, rfl⟩]
    · subst hh1
      exact StM.same (h := pI h 3072 0 D.length x) (fun i => by rw [hI_off _ (by decide), hI_off _ (by decide)]) (StM.off (Nat.le_refl _) q3)
    · subst hh1
      rw [hI_pI, if_pos ⟨rfl, rfl, rfl⟩]
      show nI (lvN D + 1) = nI ((if x < 0 then 0 else 1) + lvN D)
      rw [if_neg hx, Nat.add_comm]
  obtain ⟨h2, e2, p2, f2⟩ := settle_m (r := 6) (by omega) (fun w S' hw => by
    rcases ht w S' hw with z | z
    · exact Or.inl z
    · exact Or.inr (by omega)) (List.replicate j (-10)) (x :: D) h1 a1 p1 (fun w hw => by
    rw [(List.mem_replicate.mp hw).2]
    decide) (by rw [List.length_cons]; omega)
  rw [List.reverse_replicate] at p2
  have f12 : Fr meW h h2 := f1.tr (f2.sub (by decide))
  have a2 : SH h2 := a.fr f12 (by decide)
  obtain ⟨h3, e3, p3, f3⟩ := p2.go a2 (t.fr a f12 (by decide) (by decide)) v.1 (by omega)
  have f13 : Fr meW h h3 := f12.tr (f3.sub (by decide))
  have a3 : SH h3 := a.fr f13 (by decide)
  have hc' : D.length + ((List.replicate j (-10 : Int32)).length + S0.length) < 96 := by
    rw [← List.length_append]
    exact hc
  refine ⟨h3, f13, p3, fun i => ?_, fun z => ?_⟩
  · rw [f3.1 3200 0 i (by decide) a2.n50, f2.1 3200 0 i (by decide) a1.n50, off 3200 (by decide) (by decide) (by decide)]
  · have e33 : ∀ A B : Option Rs, (if hI h 714 0 0 = 3 then (if hI h 715 0 0 = 33 then A else B) else B) = if u.1 = 38 then A else B := fun A B => if3 q1 v.1 (c := 33) (by decide) A B
    have e40 : ∀ A B : Option Rs, (if hI h 714 0 0 = 3 then (if hI h 715 0 0 = 40 then A else B) else B) = if u.1 = 45 then A else B := fun A B => if3 q1 v.1 (c := 40) (by decide) A B
    have pt : X12_takesPart 0 h = some (some (.inl 1), h3) := by
      rw [ps]
      unfold X12_takesPart_g87 X12_takesPart_f87
      rw [nnE (sh_720 a), q2, ixE (ln_48 a) rfl (show D.length < 96 by omega) (by decide), wr_eq, hI_off _ (by decide), q2, nI_1, wr_eq, hI_off _ (by decide), hI_off _ (by decide), q4, nI_1, wr_eq, hh1, show (6 : Int32) = nI 6 from rfl, e2, cV_some, e3, cV_some, bz_ok (Or.inr rfl)]
    rw [te_one]
    unfold X12_takesE_g39 X12_takesE_f39
    rw [if_neg (by decide), e33, if_neg (by omega)]
    unfold X12_takesE_g97 X12_takesE_f97
    rw [e40, if_neg (by omega)]
    unfold X12_takesE_g158 X12_takesE_f158
    rw [pt, cI_some, if_neg (by decide), te_172 a3 p3 (by omega)]
theorem mt_bad (a0 : SH h0) (t0 : TmE h0 L T) (hk : key < 3) (h7 : hI h0 717 0 0 = nI key) {u : Tu} {D S : List Int32} {o n : Nat} {h : PH} (fh : Fr meW h0 h) (q : MpE h T u D S) (v : okV T L u) (e : lfF T key u = none) (h1 : ¬ (u.1 = 38 ∧ n < 8)) (h2 : ¬ (u.1 = 45 ∧ o < 8)) (ho : o ≤ 8) (hn : n ≤ 8) (z : Nat) : X12_takesE_fam (z + 1) 0 (nI o) (nI n) 1 h = some (some (.inl 0), h) := by
  have h7' : hI h 717 0 0 = nI key := (fh.1 717 0 0 (by decide) a0.n11).trans h7
  have e33 : ∀ A B : Option Rs, (if hI h 714 0 0 = 3 then (if hI h 715 0 0 = 33 then A else B) else B) = if u.1 = 38 then A else B := fun A B => if3 q.1 v.1 (c := 33) (by decide) A B
  have e40 : ∀ A B : Option Rs, (if hI h 714 0 0 = 3 then (if hI h 715 0 0 = 40 then A else B) else B) = if u.1 = 45 then A else B := fun A B => if3 q.1 v.1 (c := 40) (by decide) A B
  have g158 : X12_takesE_g158 (X12_takesE_fam z) 0 (nI o) h = some (some (.inl 0), h) := by
    unfold X12_takesE_g158 X12_takesE_f158
    rw [part_none t0.1 hk h7' v q.1 e, cI_some, if_pos rfl, bz_ok (Or.inl rfl)]
  have g97 : X12_takesE_g97 (X12_takesE_fam z) 0 (nI o) 1 h = some (some (.inl 0), h) := by
    unfold X12_takesE_g97 X12_takesE_f97
    rw [e40, g158]
    by_cases c : u.1 = 45
    · rw [if_pos c, if_neg (show ¬ nI o < 8 from nI_nlt (b := 8) (by omega) (by omega))]
    · rw [if_neg c]
  rw [te_one]
  unfold X12_takesE_g39 X12_takesE_f39
  rw [if_neg (by decide), e33, g97]
  by_cases c : u.1 = 38
  · rw [if_pos c, if_neg (show ¬ nI n < 8 from nI_nlt (b := 8) (by omega) (by omega))]
  · rw [if_neg c]
theorem te_237 {u : Tu} {D S : List Int32} {o n : Nat} {h : PH} (q : MpE h T u D S) (v : okV T L u) (u0 : u.1 ≠ 0) (hc : ¬ (u.1 = 46 ∧ 0 < o)) (ho : o ≤ 8) (z : Nat) : X12_takesE_fam (z + 1) 0 (nI o) (nI n) 0 h = X12_takesE_g237 (X12_takesE_fam z) 0 (nI o) (nI n) h := by
  obtain ⟨w3, w0, -, -⟩ := tkM_w v.1
  have e41 : ∀ A B : Option Rs, (if hI h 714 0 0 = 3 then (if hI h 715 0 0 = 41 then A else B) else B) = if u.1 = 46 then A else B := fun A B => if3 q.1 v.1 (c := 41) (by decide) A B
  show X12_takesE_g28 (X12_takesE_fam z) 0 (nI o) (nI n) 0 h = _
  unfold X12_takesE_g28 X12_takesE_f28
  have n0 : ¬ hI h 714 0 0 = 0 := fun z => u0 (w0.mp (q.1.2.2.1.symm.trans z))
  rw [if_pos rfl, if_neg n0]
  unfold X12_takesE_g39 X12_takesE_f39
  rw [if_pos rfl, e41]
  by_cases c : u.1 = 46
  · rw [if_pos c, if_neg (show ¬ 0 < nI o from nI_nlt (a := 0) (by omega) (by omega))]
  · rw [if_neg c]
theorem mt_stop (a0 : SH h0) {u : Tu} {D S : List Int32} {o n : Nat} {h : PH} (fh : Fr meW h0 h) (q : MpE h T u D S) (v : okV T L u) (u0 : u.1 ≠ 0) (hc : ¬ (u.1 = 46 ∧ 0 < o)) (ho : o ≤ 8) (hs : lvK u.1 = 9 ∨ (lvK u.1 = 2 ∧ hI h 3200 0 o = 1)) (z : Nat) : X12_takesE_fam (z + 1) 0 (nI o) (nI n) 0 h = some (some (.inl 0), h) := by
  have a : SH h := a0.fr fh (by decide)
  rw [te_237 q v u0 hc ho]
  unfold X12_takesE_g237 X12_takesE_f237
  rw [sign_m q.1 v.1, cI_some]
  rcases hs with c | ⟨c, d⟩
  · rw [if_neg (show ¬ lvK u.1 ≤ 4 by omega), if_pos rfl, bz_ok (Or.inl rfl)]
  · obtain ⟨-, b2, -, b4, -⟩ := sc_all (k := u.1) (by omega)
    rw [if_pos (show lvK u.1 ≤ 4 by omega), if_neg b4, rank_eq, cI_some, b2, c, if_pos (show nI (2 + 1) = 3 from rfl), nnE (sh_725 a), ixE (ln_50 a) rfl (show o < 10 by omega) (by decide), d, if_neg (by decide), bz_ok (Or.inl rfl)]
def ntB (l : Nat) (tt : Bool) : Bool := if l = 2 then true else if 2 < l then tt else false
theorem mt_sign (a0 : SH h0) (t0 : TmE h0 L T) {u : Tu} {D S X : List Int32} {o n : Nat} {tt : Bool} {h : PH} (fh : Fr meW h0 h) (q : MpE h T u D (X ++ S)) (v : okV T L u) (hl : lvK u.1 ≤ 4) (ho : o ≤ 8) (h3 : hI h 3200 0 o = b2 tt) (h2 : lvK u.1 = 2 → tt = false) (hX : ∀ w ∈ X, w < 0 ∧ w ≠ -11 ∧ lvK u.1 + 1 ≤ rkI w) (ht : topE (lvK u.1) S) (hc : D.length + (X ++ S).length < 96) : ∃ h2, Fr meW h h2 ∧ MpE h2 T (nxF T L u) (X.reverse ++ D) (scI u.1 :: S) ∧ (∀ j, j ≠ o → hI h2 3200 0 j = hI h 3200 0 j) ∧ hI h2 3200 0 o = b2 (ntB (lvK u.1) tt) ∧ ∀ z, X12_takesE_fam (z + 1) 0 (nI o) (nI n) 0 h = X12_takesE_fam z 0 (nI o) (nI n) 1 h2 := by
  have a : SH h := a0.fr fh (by decide)
  have t := t0.fr a0 fh (by decide) (by decide)
  obtain ⟨s1, s2, -, s4, -⟩ := sc_all (k := u.1) hl
  have k5 : 5 ≤ u.1 := by
    have := lvK_c hl
    omega
  generalize hh1 : pI h 3200 0 o (b2 (ntB (lvK u.1) tt)) = h1
  have f1 : Fr meW h h1 := by
    subst hh1
    exact Fr.rf.pI (by decide)
  have a1 : SH h1 := a.fr f1 (by decide)
  have q1 : MpE h1 T u D (X ++ S) := by
    subst hh1
    obtain ⟨p1, p2, p3, p4, p5, p6⟩ := q
    exact ⟨p1.same (fun c hc => hI_off _ (by omega) _ _ _ _ _), (hI_off _ (by decide) _ _ _ _ _).trans p2, StM.same (fun j => hI_off _ (by decide) _ _ _ _ _) p3, (hI_off _ (by decide) _ _ _ _ _).trans p4, (hI_off _ (by decide) _ _ _ _ _).trans p5, StM.same (fun j => hI_off _ (by decide) _ _ _ _ _) p6⟩
  have lS : S.length ≤ (X ++ S).length := by
    rw [List.length_append]
    omega
  obtain ⟨h2', e2, q2, f2⟩ := settle_m (r := lvK u.1 + 1) (by omega) (fun w S' hw => by
    rcases ht w S' hw with z | z
    · exact Or.inl z
    · exact Or.inr (by omega)) X D h1 a1 q1 hX (by omega)
  have a2 : SH h2' := a1.fr f2 (by decide)
  have f02 : Fr meW h h2' := f1.tr (f2.sub (by decide))
  have f3' : Fr meW h2' (pI (pI h2' 3136 0 S.length (scI u.1)) 724 0 0 (nI (S.length + 1))) := (Fr.rf.pI (by decide)).pI (by decide)
  have a3 : SH (pI (pI h2' 3136 0 S.length (scI u.1)) 724 0 0 (nI (S.length + 1))) := a2
  obtain ⟨h4, e4, q4, f4⟩ := (q2.push (scI u.1)).go a3 (t.fr a (f02.tr f3') (by decide) (by decide)) v.1 (by omega)
  have f04 : Fr meW h h4 := (f02.tr f3').tr (f4.sub (by decide))
  have g3 : ∀ j, hI h4 3200 0 j = hI h1 3200 0 j := fun j => by
    rw [f4.1 3200 0 j (by decide) a3.n50, hI_off _ (by decide), hI_off _ (by decide), f2.1 3200 0 j (by decide) a1.n50]
  refine ⟨h4, f04, q4, fun j hj => ?_, ?_, fun z => ?_⟩
  · rw [g3]
    subst hh1
    rw [hI_pI, if_neg (fun z => hj z.2.2)]
  · rw [g3]
    subst hh1
    rw [hI_pI, if_pos ⟨rfl, rfl, rfl⟩]
  · rw [te_237 q v (by omega) (fun z => by have := lvK_c hl; omega) ho]
    have g305 : ∀ s0, b2 (ntB (lvK u.1) tt) = s0 → vp_nar .boolean s0 = s0 → X12_takesE_g305 (X12_takesE_fam z) 0 (nI o) (nI n) (scI u.1) s0 (nI o) (hR h 725 0 0) h = X12_takesE_fam z 0 (nI o) (nI n) 1 h4 := fun s0 hs0 hn0 => by
      unfold X12_takesE_g305 X12_takesE_f305
      rw [nnE (sh_725 a), ixE (ln_50 a) rfl (show o < 10 by omega) (by decide), hn0, ← hs0, wr_eq, hh1, rank_eq, cI_some, s2, e2, cV_some, nnE (sh_723 a2), q2.2.2.2.2.1, ixE (ln_49 a2) rfl (show S.length < 96 by omega) (by decide), wr_eq, hI_off _ (by decide), q2.2.2.2.2.1, nI_1, wr_eq, e4, cV_some]
    have g268 : X12_takesE_g268 (X12_takesE_fam z) 0 (nI o) (nI n) (scI u.1) h = X12_takesE_fam z 0 (nI o) (nI n) 1 h4 := by
      unfold X12_takesE_g268 X12_takesE_f268
      rw [rank_eq, cI_some, s2]
      unfold ntB at g305
      by_cases c : lvK u.1 = 2
      · rw [if_pos (show nI (lvK u.1 + 1) = 3 by rw [c]; rfl)]
        exact g305 1 (by rw [if_pos c]; rfl) narBo.2
      · rw [if_neg (show ¬ nI (lvK u.1 + 1) = 3 from fun z => c (by have := (nI_eq (b := 3) (by omega) (by omega)).mp z; omega)), rank_eq, cI_some, s2]
        by_cases d : 2 < lvK u.1
        · rw [if_pos (show 3 < nI (lvK u.1 + 1) from nI_lt (a := 3) (by omega) (by omega)), nnE (sh_725 a), ixE (ln_50 a) rfl (show o < 10 by omega) (by decide), h3]
          cases tt with
          | false =>
            rw [if_pos (show b2 false = 0 from rfl)]
            exact g305 0 (by rw [if_neg c, if_pos d]; rfl) narBo.1
          | true =>
            rw [if_neg (show ¬ b2 true = 0 by decide)]
            exact g305 1 (by rw [if_neg c, if_pos d]; rfl) narBo.2
        · rw [if_neg (show ¬ 3 < nI (lvK u.1 + 1) from nI_nlt (a := 3) (by omega) (by omega))]
          exact g305 0 (by rw [if_neg c, if_neg d]; rfl) narBo.1
    unfold X12_takesE_g237 X12_takesE_f237
    rw [sign_m q.1 v.1, cI_some, if_pos hl, if_neg s4, rank_eq, cI_some, s2, g268]
    by_cases c : lvK u.1 = 2
    · rw [if_pos (show nI (lvK u.1 + 1) = 3 by rw [c]; rfl), nnE (sh_725 a), ixE (ln_50 a) rfl (show o < 10 by omega) (by decide), h3, h2 c, if_pos (show b2 false = 0 from rfl)]
    · rw [if_neg (show ¬ nI (lvK u.1 + 1) = 3 from fun z => c (by have := (nI_eq (b := 3) (by omega) (by omega)).mp z; omega))]
theorem mt_end (a0 : SH h0) {u : Tu} {D S X : List Int32} {o n : Nat} {h : PH} (fh : Fr meW h0 h) (q : MpE h T u D (X ++ S)) (v : okV T L u) (u0 : u.1 = 0) (ho : o ≤ 8) (hX : ∀ w ∈ X, w < 0 ∧ w ≠ -11) (hS : ∀ w S', S = w :: S' → w = -11) (hc : D.length + (X ++ S).length ≤ 96) : ∃ h2, Fr meW h h2 ∧ MpE h2 T u (X.reverse ++ D) S ∧ ∀ z, X12_takesE_fam (z + 1) 0 (nI o) (nI n) 0 h = some (some (.inl (if o = 0 then 1 else 0)), h2) := by
  have a : SH h := a0.fr fh (by decide)
  obtain ⟨w3, w0, -, -⟩ := tkM_w v.1
  obtain ⟨h2, e2, q2, f2⟩ := settle_m (r := 0) (by omega) (fun w S' hw => Or.inl (hS w S' hw)) X D h a q (fun w hw => ⟨(hX w hw).1, (hX w hw).2, by omega⟩) hc
  refine ⟨h2, f2.sub (by decide), q2, fun z => ?_⟩
  show X12_takesE_g28 (X12_takesE_fam z) 0 (nI o) (nI n) 0 h = _
  unfold X12_takesE_g28 X12_takesE_f28
  have n0 : hI h 714 0 0 = 0 := q.1.2.2.1.trans (w0.mpr u0)
  rw [if_pos rfl, if_pos n0, show X12_settle 0 0 h = _ from e2, cV_some, bz_ok (Or.inl rfl), bz_ok (Or.inr rfl)]
  by_cases c : o = 0
  · rw [if_pos c, if_pos (show nI o = 0 by rw [c]; rfl)]
  · rw [if_neg c, if_neg (show ¬ nI o = 0 from fun z => c ((nI_eq (b := 0) (by omega) (by omega)).mp z))]
theorem mt_close (a0 : SH h0) (t0 : TmE h0 L T) {u : Tu} {D S0 X : List Int32} {j o n : Nat} {h : PH} (fh : Fr meW h0 h) (q : MpE h T u D (X ++ (-11 :: (List.replicate j (-10) ++ S0)))) (v : okV T L u) (hu : u.1 = 46) (ho : o < 8) (hX : ∀ w ∈ X, w < 0 ∧ w ≠ -11) (ht : topE 5 S0) (hc : D.length + (X ++ (-11 :: (List.replicate j (-10) ++ S0))).length ≤ 96) : ∃ h2, Fr meW h h2 ∧ MpE h2 T (nxF T L u) (List.replicate j (-10) ++ (X.reverse ++ D)) S0 ∧ (∀ i, hI h2 3200 0 i = hI h 3200 0 i) ∧ ∀ z, X12_takesE_fam (z + 1) 0 (nI (o + 1)) (nI n) 0 h = X12_takesE_fam z 0 (nI o) (nI (nnN S0)) 0 h2 := by
  have a : SH h := a0.fr fh (by decide)
  have t := t0.fr a0 fh (by decide) (by decide)
  obtain ⟨w3, w0, -, -⟩ := tkM_w v.1
  have hc' : D.length + (X.length + ((List.replicate j (-10 : Int32) ++ S0).length + 1)) ≤ 96 := by
    rw [List.length_append, List.length_cons] at hc
    exact hc
  obtain ⟨h1, e1, q1, f1⟩ := settle_m (r := 0) (by omega) (fun w S' hw => by cases hw; exact Or.inl rfl) X D h a q (fun w hw => ⟨(hX w hw).1, (hX w hw).2, by omega⟩) hc
  have a1 : SH h1 := a.fr f1 (by decide)
  have q14 : hI h1 724 0 0 = nI ((List.replicate j (-10 : Int32) ++ S0).length + 1) := q1.2.2.2.2.1
  have em : nI ((List.replicate j (-10 : Int32) ++ S0).length + 1) - 1 = nI (List.replicate j (-10 : Int32) ++ S0).length := nI_subN (b := 1) (by omega)
  have a2 : SH (pI h1 724 0 0 (nI (List.replicate j (-10 : Int32) ++ S0).length)) := a1
  have f2 : Fr meW h1 (pI h1 724 0 0 (nI (List.replicate j (-10 : Int32) ++ S0).length)) := Fr.rf.pI (by decide)
  have q2 : MpE (pI h1 724 0 0 (nI (List.replicate j (-10 : Int32) ++ S0).length)) T u (X.reverse ++ D) (List.replicate j (-10) ++ S0) := by
    obtain ⟨p1, p2, p3, p4, p5, p6⟩ := q1
    exact ⟨p1.same (fun c hc => hI_off _ (by omega) _ _ _ _ _), (hI_off _ (by decide) _ _ _ _ _).trans p2, StM.same (fun i => hI_off _ (by decide) _ _ _ _ _) p3, (hI_off _ (by decide) _ _ _ _ _).trans p4, by rw [hI_pI, if_pos ⟨rfl, rfl, rfl⟩], StM.same (fun i => hI_off _ (by decide) _ _ _ _ _) p6.2⟩
  have lx : (X.reverse ++ D).length = X.length + D.length := by rw [List.length_append, List.length_reverse]
  obtain ⟨h3, e3, q3, f3⟩ := settle_m (r := 6) (by omega) (fun w S' hw => by
    rcases ht w S' hw with z | z
    · exact Or.inl z
    · exact Or.inr (by omega)) (List.replicate j (-10)) (X.reverse ++ D) _ a2 q2 (fun w hw => by
    rw [(List.mem_replicate.mp hw).2]
    decide) (by omega)
  rw [List.reverse_replicate] at q3
  have a3 : SH h3 := a2.fr f3 (by decide)
  have f03 : Fr meW h h3 := ((f1.sub (by decide)).tr f2).tr (f3.sub (by decide))
  obtain ⟨h4, e4, q4, f4⟩ := q3.go a3 (t.fr a f03 (by decide) (by decide)) v.1 (by omega)
  have l0 : S0.length ≤ (List.replicate j (-10 : Int32) ++ S0).length := by
    rw [List.length_append]
    omega
  refine ⟨h4, f03.tr (f4.sub (by decide)), q4, fun i => ?_, fun z => ?_⟩
  · rw [f4.1 3200 0 i (by decide) a3.n50, f3.1 3200 0 i (by decide) a2.n50, hI_off _ (by decide), f1.1 3200 0 i (by decide) a.n50]
  · have e41 : ∀ A B : Option Rs, (if hI h 714 0 0 = 3 then (if hI h 715 0 0 = 41 then A else B) else B) = if u.1 = 46 then A else B := fun A B => if3 q.1 v.1 (c := 41) (by decide) A B
    show X12_takesE_g28 (X12_takesE_fam z) 0 (nI (o + 1)) (nI n) 0 h = _
    unfold X12_takesE_g28 X12_takesE_f28
    have n0 : ¬ hI h 714 0 0 = 0 := fun z => by have := w0.mp (q.1.2.2.1.symm.trans z); omega
    rw [if_pos rfl, if_neg n0]
    unfold X12_takesE_g39 X12_takesE_f39
    have eo : nI (o + 1) + (-1) = nI o := by
      rw [← Int32.sub_eq_add_neg]
      exact nI_subN (b := 1) (by omega)
    rw [if_pos rfl, e41, if_pos hu, if_pos (show 0 < nI (o + 1) from nI_lt (a := 0) (by omega) (by omega)), show X12_settle 0 0 h = _ from e1, cV_some, q14, em, wr_eq, show X12_settle 0 6 _ = _ from e3, cV_some, nots_m a3 q3 (by omega), cI_some, e4, cV_some, eo]
end
