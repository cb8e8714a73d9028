/-! texts: how the class reads, all of it -/
noncomputable def rcF (f m : Nat) (h : PH) : Option Rs := if m = 6 then (rlN f).2 [.inr (2, 1)] h else (rlN f).1 [.inr (2, 1), .inl (nI m)] h
theorem rc_6 (f : Nat) (h : PH) : rcF f 6 h = (rlN f).2 [.inr (2, 1)] h := rfl
theorem rc_l (f : Nat) {m : Nat} (hm : m < 6) (h : PH) : rcF f m h = (rlN f).1 [.inr (2, 1), .inl (nI m)] h := by
  unfold rcF
  rw [if_neg (by omega)]
theorem rc_s6 (f : Nat) (h : PH) : rcF (f + 1) 6 h = X3_readPiece (rlN f).1 (rlN f).2 0 h := rfl
theorem rc_sl (f : Nat) {m : Nat} (hm : m < 6) (h : PH) : rcF (f + 1) m h = X3_readLevel (rlN f).1 (rlN f).2 0 (nI m) h := by
  rw [rc_l _ hm]
  rfl
def CrE (h0 h' : PH) (r : Rz) (E : List Int32) (o n : Nat) : Prop := Fr rdW h0 h' ∧ (r.1 = true → CsE h' r.2.1 (r.2.2 ++ E) o n) ∧ (r.1 = false → CfE h' r.2.1.2.1)
section
variable {h0 : PH} {L key : Nat} {T : Nat → Nat}
def ClE (h0 : PH) (L key : Nat) (T : Nat → Nat) (f : Nat) : Prop := ∀ m u E o n h, m ≤ 6 → ndF m o n ≤ f → o ≤ 8 → n ≤ 8 → Fr rdW h0 h → CsE h u E o n → okV T L u → E.length + 4 ≤ u.2.1 → ∃ h', rcF f m h = some (none, h') ∧ CrE h0 h' (psF (nxF T L) (lfF T key) f m u o n) E o n
theorem nx_ok (q0 : TpE h0 L T) {u : Tu} (v : okV T L u) : okV T L (nxF T L u) ∧ u.2.2 ≤ (nxF T L u).2.1 := lkF_okV (fun j hj => (q0.2.2 j hj).1) u.1 v.1.2.2.1
theorem ps_okT (q0 : TpE h0 L T) (hk : key < 3) (f m : Nat) (u : Tu) (o n : Nat) (hm : m ≤ 6) (v : okV T L u) : okV T L (psF (nxF T L) (lfF T key) f m u o n).2.1 ∧ ((psF (nxF T L) (lfF T key) f m u o n).1 = true → AcE (if key = 2 then 10004 else 10003) u.2.1 (psF (nxF T L) (lfF T key) f m u o n).2.1 (psF (nxF T L) (lfF T key) f m u o n).2.2 ∧ exT m (psF (nxF T L) (lfF T key) f m u o n).2.1) :=
  ps_ok (V := okV T L) (by split <;> omega) (by split <;> omega) q0.1 (fun _ w => w.1) (fun _ w => nx_ok q0 w) (fun _ _ w e => lf_ok hk w e) f m u o n hm v
theorem cl_piece (a0 : SH h0) (q0 : TpE h0 L T) (hk : key < 3) (h4 : hI h0 134 0 0 = nI key) {f : Nat} (ih : ClE h0 L key T f) {u : Tu} {E : List Int32} {o n : Nat} {h : PH} (hf : ndF 6 o n ≤ f + 1) (ho : o ≤ 8) (hn : n ≤ 8) (fh : Fr rdW h0 h) (c : CsE h u E o n) (v : okV T L u) (hE : E.length + 4 ≤ u.2.1) : ∃ h', rcF (f + 1) 6 h = some (none, h') ∧ CrE h0 h' (psF (nxF T L) (lfF T key) (f + 1) 6 u o n) E o n := by
  have hL := q0.1
  have a : SH h := a0.fr fh (by decide)
  have q := q0.fr a0 fh (by decide) (by decide)
  have h4' : hI h 134 0 0 = nI key := (fh.1 134 0 0 (by decide) a0.n2).trans h4
  obtain ⟨o1, o2, o3, o4, o5⟩ := v.1
  obtain ⟨nv, np⟩ := nx_ok q0 v
  rw [nd_6] at hf
  rw [rc_s6]
  cases e : lfF T key u with
  | some x =>
    obtain ⟨x0, x1, x2⟩ := lf_ok hk v e
    have hx : ¬ x < 0 := fun z => by
      rw [i_lt, i0] at z
      omega
    rw [ps_leaf e, pc_leaf a q hk h4' v c e]
    obtain ⟨⟨t1, t2, t3⟩, c1, c2, c3, c4, c5, c6⟩ := c
    unfold X3_readPiece_g71 X3_readPiece_f71
    rw [put_c a c2 (by omega) (stepOf x), cV_some, wr_eq]
    have off : ∀ cc, cc ≠ 1472 → cc ≠ 136 → ∀ i j, hI (pI (pI h 1472 0 E.length (stepOf x)) 136 0 0 (nI (E.length + 1))) cc i j = hI h cc i j := fun cc h1 h2 i j => by rw [hI_off _ h2, hI_off _ h1]
    rw [off 137 (by decide) (by decide), c4, nI_1]
    generalize hh1 : pI (pI (pI h 1472 0 E.length (stepOf x)) 136 0 0 (nI (E.length + 1))) 137 0 0 (nI (lvN E + 1)) = h1
    have f1 : Fr rdW h h1 := by
      subst hh1
      exact ((Fr.rf.pI (by decide)).pI (by decide)).pI (by decide)
    have a1 : SH h1 := a.fr f1 (by decide)
    have q1 := q.fr a f1 (by decide) (by decide)
    have off1 : ∀ cc, cc ≠ 1472 → cc ≠ 136 → cc ≠ 137 → ∀ i j, hI h1 cc i j = hI h cc i j := fun cc h1 h2 h3 i j => by
      subst hh1
      rw [hI_off _ h3, off cc h1 h2]
    have cs1 : CsE h1 u (x :: E) o n := by
      refine ⟨⟨?_, ?_, ?_⟩, ?_, ?_, ⟨?_, ?_⟩, ?_, ?_, ?_⟩
      · rw [off1 _ (by decide) (by decide) (by decide), t1]
      · rw [off1 _ (by decide) (by decide) (by decide), t2]
      · rw [off1 _ (by decide) (by decide) (by decide), t3]
      · rw [off1 _ (by decide) (by decide) (by decide), c1]
      · subst hh1
        rw [hI_off _ (by decide), hI_pI, if_pos ⟨rfl, rfl, rfl⟩]
        rfl
      · subst hh1
        rw [hI_off _ (by decide), hI_off _ (by decide), hI_pI, if_pos ⟨rfl, rfl, rfl⟩]
      · subst hh1
        exact StC.same (h := pI h 1472 0 E.length (stepOf x)) (fun j => by rw [hI_off _ (by decide), hI_off _ (by decide)]) (StC.off (Nat.le_refl _) c3)
      · subst hh1
        rw [hI_pI, if_pos ⟨rfl, rfl, rfl⟩]
        show nI (lvN E + 1) = nI ((if x < 0 then 0 else 1) + lvN E)
        rw [if_neg hx, Nat.add_comm]
      · rw [off1 _ (by decide) (by decide) (by decide), c5]
      · rw [off1 _ (by decide) (by decide) (by decide), c6]
    obtain ⟨h', e', cs', f'⟩ := cs1.look a1 q1 v.1
    rw [e', cV_some]
    exact ⟨h', rfl, (fh.tr f1).tr (f'.sub (by decide)), fun _ => cs', fun z => by cases z⟩
  | none =>
    rw [ps_none e, pc_none a q hk h4' v c e]
    have ct := c.1
    have tk := ct.1
    have c5 := c.2.2.2.2.2.1
    have c6 := c.2.2.2.2.2.2
    unfold X3_readPiece_g91 X3_readPiece_f91
    have bad : ∀ (_ : ¬ (u.1 = 45 ∧ o < 8)), ∃ h', X3_readPiece_g146 (rlN f).1 (rlN f).2 0 h = some (none, h') ∧ CrE h0 h' (false, u, []) E o n := fun hb => by
      have g200 : X3_readPiece_g200 (rlN f).1 (rlN f).2 0 h = some (none, pI h 133 0 0 (nI u.2.1)) := by
        unfold X3_readPiece_g200 X3_readPiece_f200
        rw [ct.2.1, wr_eq]
      refine ⟨pI h 133 0 0 (nI u.2.1), ?_, fh.pI (by decide), fun z => (by cases z), fun _ => ⟨by rw [hI_pI, if_pos ⟨rfl, rfl, rfl⟩], E.length, by omega, (hI_off _ (by decide) _ _ _ _ _).trans c.2.2.1⟩⟩
      unfold X3_readPiece_g146 X3_readPiece_f146
      rw [tk, c5]
      by_cases d : u.1 = 45
      · rw [if_pos (show tkC u.1 = 40 from (tkC_c o1 (c := 40) (by decide)).mpr d), if_neg (show ¬ nI o < 8 from nI_nlt (b := 8) (by omega) (by omega)), g200]
      · rw [if_neg (show ¬ tkC u.1 = 40 from fun z => d ((tkC_c o1 (c := 40) (by decide)).mp z)), g200]
    by_cases d1 : u.1 = 38 ∧ n < 8
    · rw [if_pos d1, tk, if_pos (show tkC u.1 = 33 from (tkC_c o1 (c := 33) (by decide)).mpr d1.1), c6, if_pos (show nI n < 8 from nI_lt (b := 8) d1.2 (by decide)), nI_1, wr_eq]
      have f1 : Fr rdW h (pI h 139 0 0 (nI (n + 1))) := Fr.rf.pI (by decide)
      obtain ⟨h2, e2, cs2, f2⟩ := (c.neg (n + 1)).look (h := pI h 139 0 0 (nI (n + 1))) a (q.fr a f1 (by decide) (by decide)) v.1
      rw [e2, cV_some]
      have fh2 : Fr rdW h0 h2 := (fh.tr f1).tr (f2.sub (by decide))
      have lt := o5 (by omega)
      obtain ⟨h3, e3, fr3, t3, u3⟩ := ih 6 (nxF T L u) E o (n + 1) h2 (by omega) (by rw [nd_6]; omega) ho (by omega) fh2 cs2 nv (by omega)
      rw [rc_6] at e3
      obtain ⟨pv, pt⟩ := ps_okT q0 hk f 6 (nxF T L u) o (n + 1) (by omega) nv
      rw [e3, cV_some]
      have a3 : SH h3 := a0.fr fr3 (by decide)
      unfold afN
      generalize psF (nxF T L) (lfF T key) f 6 (nxF T L u) o (n + 1) = r at t3 u3 pv pt
      cases rb : r.1 with
      | true =>
        have cs3 := t3 rb
        obtain ⟨⟨p1, p2, -, -⟩, -⟩ := pt rb
        have o9 := cs3.2.2.2.2.2.2
        obtain ⟨-, w2, w3, -, -⟩ := pv.1
        have cs4 := cs3.neg n
        have em : nI (n + 1) - 1 = nI n := nI_subN (a := n + 1) (b := 1) (by omega)
        rw [o9, em, wr_eq]
        have a4 : SH (pI h3 139 0 0 (nI n)) := a3
        rw [put_c a4 cs4.2.2.1 (by rw [List.length_append]; omega) (-33), cV_some]
        refine ⟨_, rfl, ((fr3.pI (by decide)).pI (by decide)).pI (by decide), fun _ => ?_, fun z => by cases z⟩
        exact cs4.put (v := -10) (by decide)
      | false =>
        have cf := u3 rb
        rw [wr_eq]
        obtain ⟨h5, e5, cf5, f5⟩ := put_f (h := pI h3 139 0 0 (hI h3 139 0 0 - 1)) a3 (cf.off (by decide) (by decide)) (-33)
        rw [e5, cV_some]
        exact ⟨h5, rfl, (fr3.pI (by decide)).tr f5, fun z => (by cases z), fun _ => cf5⟩
    · have to146 : (if hI h 130 0 0 = 33 then (if hI h 139 0 0 < 8 then (wr (pI h 139 0 0 ((hI h 139 0 0) + 1)) fun h10 => cV (X3_look 0 h10) fun h11 => cV ((rlN f).2 [.inr (2, 0 + 1)] h11) fun h12 => wr (pI h12 139 0 0 ((hI h12 139 0 0) - 1)) fun h13 => cV (X3_put 0 (-33) h13) fun h14 => some (none, h14)) else X3_readPiece_g146 (rlN f).1 (rlN f).2 0 h) else X3_readPiece_g146 (rlN f).1 (rlN f).2 0 h : Option Rs) = X3_readPiece_g146 (rlN f).1 (rlN f).2 0 h := by
        rw [tk, c6]
        by_cases d : u.1 = 38
        · rw [if_pos (show tkC u.1 = 33 from (tkC_c o1 (c := 33) (by decide)).mpr d), if_neg (show ¬ nI n < 8 from nI_nlt (b := 8) (by omega) (by omega))]
        · rw [if_neg (show ¬ tkC u.1 = 33 from fun z => d ((tkC_c o1 (c := 33) (by decide)).mp z))]
      rw [to146, if_neg d1]
      by_cases d2 : u.1 = 45 ∧ o < 8
      · rw [if_pos d2]
        unfold X3_readPiece_g146 X3_readPiece_f146
        rw [tk, if_pos (show tkC u.1 = 40 from (tkC_c o1 (c := 40) (by decide)).mpr d2.1), c5, if_pos (show nI o < 8 from nI_lt (b := 8) d2.2 (by decide)), nI_1, wr_eq]
        have f1 : Fr rdW h (pI h 138 0 0 (nI (o + 1))) := Fr.rf.pI (by decide)
        obtain ⟨h2, e2, cs2, f2⟩ := (c.opn (o + 1)).look (h := pI h 138 0 0 (nI (o + 1))) a (q.fr a f1 (by decide) (by decide)) v.1
        rw [e2, cV_some]
        have fh2 : Fr rdW h0 h2 := (fh.tr f1).tr (f2.sub (by decide))
        have lt := o5 (by omega)
        obtain ⟨h3, e3, fr3, t3, u3⟩ := ih 0 (nxF T L u) E (o + 1) n h2 (by omega) (by rw [nd_l (by omega)]; omega) (by omega) hn fh2 cs2 nv (by omega)
        rw [rc_l _ (by omega)] at e3
        obtain ⟨pv, pt⟩ := ps_okT q0 hk f 0 (nxF T L u) (o + 1) n (by omega) nv
        rw [show (0 : Int32) = nI 0 from rfl, e3, cV_some]
        have a3 : SH h3 := a0.fr fr3 (by decide)
        have q3 := q0.fr a0 fr3 (by decide) (by decide)
        unfold afB
        generalize psF (nxF T L) (lfF T key) f 0 (nxF T L u) (o + 1) n = r at t3 u3 pv pt
        unfold X3_readClosing X3_readClosing_g0 X3_readClosing_f0
        cases rb : r.1 with
        | true =>
          have cs3 := t3 rb
          obtain ⟨⟨p1, p2, -, -⟩, -⟩ := pt rb
          obtain ⟨w1, w2, w3, w4, w5⟩ := pv.1
          rw [cs3.2.1, if_pos rfl, cs3.1.1]
          have em : nI (o + 1) - 1 = nI o := nI_subN (a := o + 1) (b := 1) (by omega)
          by_cases d3 : r.2.1.1 = 46
          · rw [if_pos (show tkC r.2.1.1 = 41 from (tkC_c w1 (c := 41) (by decide)).mpr d3), if_pos ⟨rfl, d3⟩]
            obtain ⟨h5, e5, cs5, f5⟩ := cs3.look a3 q3 pv.1
            rw [e5, cV_some, cV_some, cs5.2.2.2.2.2.1, em, wr_eq]
            exact ⟨_, rfl, (fr3.tr (f5.sub (by decide))).pI (by decide), fun _ => cs5.opn o, fun z => by cases z⟩
          · rw [if_neg (show ¬ tkC r.2.1.1 = 41 from fun z => d3 ((tkC_c w1 (c := 41) (by decide)).mp z)), if_neg (fun z => d3 z.2), wr_eq, cV_some, wr_eq, cs3.1.2.1]
            refine ⟨_, rfl, (fr3.pI (by decide)).pI (by decide), fun z => (by cases z), fun _ => CfE.off ⟨by rw [hI_pI, if_pos ⟨rfl, rfl, rfl⟩], (r.2.2 ++ E).length, ?_, (hI_off _ (by decide) _ _ _ _ _).trans cs3.2.2.1⟩ (by decide) (by decide)⟩
            rw [List.length_append]
            omega
        | false =>
          have cf := u3 rb
          obtain ⟨w1, w2, w3, w4, w5⟩ := pv.1
          rw [cf.1, if_neg (show ¬ nI r.2.1.2.1 = -1 from fun z => nI_pos (n := r.2.1.2.1) (by omega) (by rw [z]; decide)), cV_some, wr_eq, if_neg (fun z => by cases z.1)]
          exact ⟨_, rfl, fr3.pI (by decide), fun z => (by cases z), fun _ => cf.off (by decide) (by decide)⟩
      · rw [if_neg d2]
        exact bad d2
theorem cl_lev (a0 : SH h0) (q0 : TpE h0 L T) (hk : key < 3) {f : Nat} (ih : ClE h0 L key T f) {m o n : Nat} (hm : m < 5) (hf : ndF m o n ≤ f + 1) (ho : o ≤ 8) (hn : n ≤ 8) {E : List Int32} {c : Nat} (hc : c ≤ 96) : ∀ k j u Er h, j + k = c → Fr rdW h0 h → CsE h u (Er ++ E) o n → okV T L u → (Er ++ E).length + 4 ≤ u.2.1 → ∃ N h', X3_readLevel_fam (rlN f).1 (rlN f).2 N 0 (nI m) (nI c) (nI j) h = some (none, h') ∧ CrE h0 h' (lpF (nxF T L) (fun w => psF (nxF T L) (lfF T key) f (m + 1) w o n) m k u Er) E o n := by
  have hL := q0.1
  rw [nd_l (by omega)] at hf
  intro k
  induction k with
  | zero =>
    intro j u Er h e fh cs v hE
    refine ⟨1, h, ?_, fh, fun _ => cs, fun z => by cases z⟩
    show X3_readLevel_g31 (rlN f).1 (rlN f).2 (X3_readLevel_fam (rlN f).1 (rlN f).2 0) 0 (nI m) (nI c) (nI j) h = _
    unfold X3_readLevel_g31 X3_readLevel_f31
    rw [if_neg (nI_nlt (by omega) (by omega))]
  | succ k ihk =>
    intro j u Er h e fh cs v hE
    have a : SH h := a0.fr fh (by decide)
    have q := q0.fr a0 fh (by decide) (by decide)
    obtain ⟨o1, o2, o3, o4, o5⟩ := v.1
    obtain ⟨nv, np⟩ := nx_ok q0 v
    rw [lpF_s]
    by_cases d : lvK u.1 = m
    · rw [if_pos d]
      obtain ⟨b1, -, b3, -, b5⟩ := sc_all (k := u.1) (by omega)
      have n0 : u.1 ≠ 0 := fun z => by
        rw [z] at d
        have : lvK 0 = 9 := by decide
        omega
      have lt := o5 n0
      obtain ⟨h2, e2, cs2, f2⟩ := cs.look a q v.1
      have fh2 : Fr rdW h0 h2 := fh.tr (f2.sub (by decide))
      obtain ⟨h3, e3, fr3, t3, u3⟩ := ih (m + 1) (nxF T L u) (Er ++ E) o n h2 (by omega) (by rw [nd_l (by omega)]; omega) ho hn fh2 cs2 nv (by omega)
      rw [rc_l _ (by omega)] at e3
      obtain ⟨pv, pt⟩ := ps_okT q0 hk f (m + 1) (nxF T L u) o n (by omega) nv
      have a3 : SH h3 := a0.fr fr3 (by decide)
      have tk : hI h 130 0 0 = nI (u.1 - 5) := by
        rw [cs.1.1]
        exact (tkC_c o1 (c := u.1 - 5) (by rcases o1 with z | z | z | z | z <;> omega)).mpr (by
          have := lvK_c (k := u.1) (by omega)
          omega)
      have pre : ∀ N, X3_readLevel_fam (rlN f).1 (rlN f).2 (N + 1) 0 (nI m) (nI c) (nI j) h = cV (X3_put 0 (stepOf (scI u.1)) h3) fun h7 => X3_readLevel_fam (rlN f).1 (rlN f).2 N 0 (nI m) (nI c) (nI (j + 1)) h7 := fun N => by
        show X3_readLevel_g31 (rlN f).1 (rlN f).2 (X3_readLevel_fam (rlN f).1 (rlN f).2 N) 0 (nI m) (nI c) (nI j) h = _
        unfold X3_readLevel_g31 X3_readLevel_f31
        rw [if_pos (nI_lt (by omega) (by omega)), cs.2.1, if_pos rfl, joining_c o1 cs.1.1 (by omega), cI_some, if_pos d, if_neg (by decide), e2, cV_some, nI_1, e3, cV_some, tk, b3, nI_1]
      generalize psF (nxF T L) (lfF T key) f (m + 1) (nxF T L u) o n = r at t3 u3 pv pt
      cases rb : r.1 with
      | true =>
        have cs3 := t3 rb
        obtain ⟨⟨p1, p2, -, -⟩, -⟩ := pt rb
        obtain ⟨-, w2, w3, -, -⟩ := pv.1
        have hl : (r.2.2 ++ (Er ++ E)).length + 5 ≤ r.2.1.2.1 := by
          rw [List.length_append]
          omega
        have cs4 := cs3.put (v := scI u.1) (by rw [i_lt, i0]; omega)
        have el : scI u.1 :: (r.2.2 ++ (Er ++ E)) = (scI u.1 :: (r.2.2 ++ Er)) ++ E := by
          rw [List.cons_append, List.append_assoc]
        rw [el] at cs4
        obtain ⟨N, h', y1, y2⟩ := ihk (j + 1) r.2.1 (scI u.1 :: (r.2.2 ++ Er)) _ (by omega) ((fr3.pI (by decide)).pI (by decide)) cs4 pv (by rw [← el, List.length_cons]; omega)
        refine ⟨N + 1, h', ?_, y2⟩
        rw [pre, put_c a3 cs3.2.2.1 (by omega), cV_some]
        exact y1
      | false =>
        have cf := u3 rb
        obtain ⟨w1, w2, w3, w4, w5⟩ := pv.1
        obtain ⟨h5, e5, cf5, f5⟩ := put_f a3 cf (stepOf (scI u.1))
        refine ⟨2, h5, ?_, fr3.tr f5, fun z => (by cases z), fun _ => cf5⟩
        rw [pre, e5, cV_some]
        show X3_readLevel_g31 (rlN f).1 (rlN f).2 (X3_readLevel_fam (rlN f).1 (rlN f).2 0) 0 (nI m) (nI c) (nI (j + 1)) h5 = _
        unfold X3_readLevel_g31 X3_readLevel_f31
        rw [cf5.1, if_neg (show ¬ nI r.2.1.2.1 = -1 from fun z => nI_pos (n := r.2.1.2.1) (by omega) (by rw [z]; decide))]
        split <;> rfl
    · rw [if_neg d]
      refine ⟨1, h, ?_, fh, fun _ => cs, fun z => by cases z⟩
      show X3_readLevel_g31 (rlN f).1 (rlN f).2 (X3_readLevel_fam (rlN f).1 (rlN f).2 0) 0 (nI m) (nI c) (nI j) h = _
      unfold X3_readLevel_g31 X3_readLevel_f31
      rw [if_pos (nI_lt (by omega) (by omega)), cs.2.1, if_pos rfl, joining_c o1 cs.1.1 (by omega), cI_some, if_neg d, if_pos rfl]
theorem cl_main (a0 : SH h0) (q0 : TpE h0 L T) (hk : key < 3) (h4 : hI h0 134 0 0 = nI key) : ∀ f, ClE h0 L key T f := by
  intro f
  induction f with
  | zero =>
    intro m u E o n h hm hf
    exfalso
    by_cases c : m = 6
    · subst c
      rw [nd_6] at hf
      omega
    · rw [nd_l (by omega)] at hf
      omega
  | succ f ih =>
    intro m u E o n h hm hf ho hn fh cs v hE
    by_cases c6 : m = 6
    · subst c6
      exact cl_piece a0 q0 hk h4 ih hf ho hn fh cs v hE
    · by_cases c5 : m = 5
      · subst c5
        rw [nd_l (by omega)] at hf
        obtain ⟨h', e', y⟩ := ih 6 u E o n h (by omega) (by rw [nd_6]; omega) ho hn fh cs v hE
        rw [rc_6] at e'
        refine ⟨h', ?_, y⟩
        rw [rc_sl _ (by omega)]
        refine X3_readLevel_iff.mpr ⟨0, ?_⟩
        unfold X3_readLevel_g0 X3_readLevel_f0
        rw [if_pos (show nI 5 = 5 from rfl), e', cV_some]
      · have hf' := hf
        rw [nd_l (by omega)] at hf'
        obtain ⟨h1, e1, fr1, t1, u1⟩ := ih (m + 1) u E o n h (by omega) (by rw [nd_l (by omega)]; omega) ho hn fh cs v hE
        rw [rc_l _ (by omega)] at e1
        obtain ⟨pv, pt⟩ := ps_okT q0 hk f (m + 1) u o n (by omega) v
        rw [ps_lev (by omega), rc_sl _ (by omega)]
        unfold afL
        have n5 : ¬ nI m = 5 := fun z => by have := (nI_eq (b := 5) (by omega) (by omega)).mp z; omega
        have pre : ∀ N, X3_readLevel_g0 (rlN f).1 (rlN f).2 (X3_readLevel_fam (rlN f).1 (rlN f).2 N) 0 (nI m) h = X3_readLevel_fam (rlN f).1 (rlN f).2 N 0 (nI m) (nI (ctL m)) (nI 0) h1 := fun N => by
          unfold X3_readLevel_g0 X3_readLevel_f0
          rw [if_neg n5, nI_1, e1, cV_some]
          unfold ctL
          by_cases c2 : m = 2
          · subst c2
            rw [if_pos (show nI 2 = 2 from rfl), if_pos rfl]
            rfl
          · rw [if_neg (show ¬ nI m = 2 from fun z => c2 ((nI_eq (b := 2) (by omega) (by omega)).mp z)), if_neg c2]
            rfl
        have hct : ctL m ≤ 96 := by
          unfold ctL
          split <;> omega
        cases rb : (psF (nxF T L) (lfF T key) f (m + 1) u o n).1 with
        | true =>
          have cs1 := t1 rb
          obtain ⟨⟨p1, p2, -, -⟩, -⟩ := pt rb
          rw [cond_true]
          obtain ⟨N, h', y1, y2⟩ := cl_lev a0 q0 hk ih (by omega) hf ho hn hct (ctL m) 0 _ _ h1 (by omega) fr1 cs1 pv (by rw [List.length_append]; omega)
          exact ⟨h', X3_readLevel_iff.mpr ⟨N, by rw [pre]; exact y1⟩, y2⟩
        | false =>
          have cf := u1 rb
          obtain ⟨w1, w2, w3, w4, w5⟩ := pv.1
          have hL := q0.1
          rw [cond_false]
          refine ⟨h1, X3_readLevel_iff.mpr ⟨1, ?_⟩, fr1, fun z => (by rw [rb] at z; cases z), fun _ => cf⟩
          rw [pre]
          show X3_readLevel_g31 (rlN f).1 (rlN f).2 (X3_readLevel_fam (rlN f).1 (rlN f).2 0) 0 (nI m) (nI (ctL m)) (nI 0) h1 = _
          unfold X3_readLevel_g31 X3_readLevel_f31
          rw [cf.1, if_neg (show ¬ nI (psF (nxF T L) (lfF T key) f (m + 1) u o n).2.1.2.1 = -1 from fun z => nI_pos (n := (psF (nxF T L) (lfF T key) f (m + 1) u o n).2.1.2.1) (by omega) (by rw [z]; decide))]
          split <;> rfl
end
