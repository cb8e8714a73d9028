/-! one stranger, on both sides -/
def stN (N : Nat → Int32) : Nat → Int32 := updF N 0 (lcg (lcg (lcg (N 0))))
def stP (N : Nat → Int32) : Nat := drw (lcg (N 0)) (nt (N 3))
def stG (N : Nat → Int32) : Nat := drw (lcg (lcg (N 0))) (nt (N 5))
def stX (N : Nat → Int32) : Nat := if drw (lcg (lcg (lcg (N 0)))) 4 = 0 then 1 else 0
def stR (N : Nat → Int32) : Wr := wkP (stN N) (nI (stX N)) (stG N) (stP N)
def stV (N : Nat → Int32) (s : Nat) : Int32 := if N (158 + 5 * s) < 9999 then N (158 + 5 * s) + 1 else 9999
def stU (N : Nat → Int32) (s : Nat) : Nat → Int32 := updF (stN N) (158 + 5 * s) (stV N s)
def oF (r : Wr) : Option Nat := if r.1 = 1 then none else r.2.2.2.2.1
def stB (N : Nat → Int32) (o : Option Nat) : Nat → Int32 := match o with
  | none => stN N
  | some s => stU N s
def stA (N : Nat → Int32) : Nat → Int32 := stB N (oF (stR N))
theorem oF_some {r : Wr} {s : Nat} (e : oF r = some s) : r.1 ≠ 1 ∧ r.2.2.2.2.1 = some s := by
  unfold oF at e
  by_cases c : r.1 = 1
  · rw [if_pos c] at e
    cases e
  · rw [if_neg c] at e
    exact ⟨c, e⟩
theorem oF_yes {r : Wr} (c : r.1 = 1) : oF r = none := if_pos c
theorem oF_no {r : Wr} (c : r.1 ≠ 1) : oF r = r.2.2.2.2.1 := if_neg c
theorem stX_lt (N : Nat → Int32) : stX N < 2 := by
  unfold stX
  split <;> omega
theorem pI_twice (h : PH) (c i j : Nat) (v w : Int32) : pI (pI h c i j v) c i j w = pI h c i j w := by
  refine Prod.ext (funext fun c' => funext fun i' => funext fun j' => ?_) rfl
  show hI (pI (pI h c i j v) c i j w) c' i' j' = hI (pI h c i j w) c' i' j'
  rw [hI_pI, hI_pI, hI_pI]
  by_cases d : c' = c ∧ i' = i ∧ j' = j
  · rw [if_pos d, if_pos d]
  · rw [if_neg d, if_neg d, if_neg d]
theorem draw_z {h : PH} {b n : Nat} {z : Int32} (hz : hI h 80 b 0 = z) (hn : 0 < n) (hn31 : n < 2 ^ 31) : X1_draw b (nI n) h = some (some (.inl (nI (drw (lcg z) n))), pI h 80 b 0 (lcg z)) := by
  subst hz
  exact draw_c hn hn31
theorem wk_le3 {N : Nat → Int32} {P : Nat → Bool} {gp : Nat} {td : Nat → Option (Option Nat × Nat)} : ∀ n p c mn k fol V path, (wkN N P gp td n p c mn k fol V path).1 ≤ 3 := by
  intro n
  induction n with
  | zero => intro p c mn k fol V path; exact Nat.zero_le _
  | succ n ih =>
    intro p c mn k fol V path
    by_cases h1 : p = gp
    · rw [wk_arr h1]
      show 1 ≤ 3
      omega
    · cases h2 : dirO N P (td p) c p with
      | none =>
        rw [wk_los h1 (Or.inl h2)]
        show 2 ≤ 3
        omega
      | some d =>
        cases h3 : opO N P p d with
        | none =>
          rw [wk_los h1 (Or.inr ⟨d, h2, h3⟩)]
          show 2 ≤ 3
          omega
        | some w =>
          by_cases h4 : 8 * oe N w p + d ∈ V
          · rw [wk_rnd h1 h2 h3 h4]
            show 3 ≤ 3
            omega
          · rw [wk_on h1 h2 h3 h4]
            exact ih _ _ _ _ _ _ _
theorem stR_le (N : Nat → Int32) : (stR N).1 ≤ 3 := wk_le3 _ _ _ _ _ _ _ _
theorem stN_at (N : Nat → Int32) {j : Nat} (hj : j ≠ 0) : stN N j = N j := if_neg hj
theorem Hs.toN {h : PH} {b : Nat} {N : Nat → Int32} (q : Hs h b N) : Hs (pI h 80 b 0 (lcg (lcg (lcg (N 0))))) b (stN N) := q.seed _
theorem stV_eq {v : Int32} (hv : rgI v 0 9999) : (if 9999 < v + 1 then 9999 else v + 1) = (if v < 9999 then v + 1 else 9999) ∧ rgI (if v < 9999 then v + 1 else 9999) 0 9999 := by
  obtain ⟨h1, h2⟩ := hv
  have e9 : (9999 : Int32).toInt = 9999 := by decide
  have e1 : (v + 1).toInt = v.toInt + 1 := by rw [i_add (by rw [i1]; omega), i1]
  by_cases c : v < 9999
  · have c' := c
    rw [i_lt, e9] at c'
    rw [if_pos c, if_neg (by rw [i_lt, e9, e1]; omega)]
    exact ⟨rfl, by rw [e1]; omega, by rw [e1]; omega⟩
  · have c' := c
    rw [i_lt, e9] at c'
    rw [if_neg c, if_pos (by rw [i_lt, e9, e1]; omega)]
    exact ⟨rfl, by decide, by decide⟩
theorem stO_lt {h : PH} {b : Nat} {N : Nat → Int32} (q : Hs h b N) {s : Nat} (e : oF (stR N) = some s) : s < nt (N 6) := by
  have := wkP_fol q.toN (oF_some e).2
  rw [stN_at N (by omega)] at this
  exact this
theorem Hs.toU {h : PH} {b : Nat} {N : Nat → Int32} (q : Hs h b N) {g : PH} (q' : Hs g b (stN N)) {s : Nat} (hs : s < nt (N 6)) : Hs (pI g 323 (14 * b + s) 0 (stV N s)) b (stU N s) := by
  obtain ⟨-, -, -, -, -, -, e7⟩ := q.sign hs
  exact q'.astray (s := s) (by rw [stN_at N (by omega)]; exact hs) (stV_eq e7).2
theorem Hs.toB {h : PH} {b : Nat} {N : Nat → Int32} (q : Hs h b N) {o : Option Nat} (ho : ∀ s, o = some s → s < nt (N 6)) : ∃ g, Hs g b (stB N o) := by
  cases o with
  | none => exact ⟨_, q.toN⟩
  | some s => exact ⟨_, q.toU q.toN (ho s rfl)⟩
theorem Hs.toA {h : PH} {b : Nat} {N : Nat → Int32} (q : Hs h b N) : ∃ g, Hs g b (stA N) := q.toB (fun _ e => stO_lt q e)
theorem AgS.toN (N : Nat → Int32) : AgS N (stN N) := AgS.seed N _
theorem AgS.toB {h : PH} {b : Nat} {N : Nat → Int32} (q : Hs h b N) {o : Option Nat} (ho : ∀ s, o = some s → s < nt (N 6)) : AgS N (stB N o) := by
  cases o with
  | none => exact AgS.toN N
  | some s =>
    have hs := ho s rfl
    obtain ⟨S, hS, h14, hSn, -⟩ := q.signs
    exact (AgS.toN N).tr (AgS.astray _ (by omega) _)
theorem AgS.toA {h : PH} {b : Nat} {N : Nat → Int32} (q : Hs h b N) : AgS N (stA N) := AgS.toB q (fun _ e => stO_lt q e)
theorem class_one {h : PH} {b : Nat} {N : Nat → Int32} (q : Hs h b N) (en : EnE h b N) (hp : 0 < nt (N 3)) (hg : 0 < nt (N 5)) {cn : Nat} (wc : WcE h (stX N) cn) (hcn : cn + 1 < 2 ^ 31) : ∃ h', X11_walkStranger 0 (b + 1) h = some (some (.inr (8, stX N + 1)), h') ∧ Hs h' b (stN N) ∧ EnE h' b (stN N) ∧ Fr X11_walkStranger_W h h' ∧ OthE h h' (stX N) ∧ WfE h' (stX N) (cn + 1) (stR N) ∧ ∀ i j, i < 2 → i ≠ b → hI h' 80 i j = hI h 80 i j := by
  have a := q.1
  have hb := q.2.1
  obtain ⟨Z, hZ, h12, hZn, hZi, h72⟩ := q.places
  obtain ⟨K, hK, h10, hKn, hKi, h74⟩ := q.goals
  have e0 : hI h 80 b 0 = N 0 := q.2.2.1.1.2.2.2.2.2.2.2.2
  have hi := stX_lt N
  generalize hh10 : pI h 80 b 0 (lcg (lcg (lcg (N 0)))) = h10'
  have f10 : Fr ([80], [], false) h h10' := by
    subst hh10
    exact Fr.rf.pI (by decide)
  have q10 : Hs h10' b (stN N) := by
    subst hh10
    exact q.toN
  have a10 := q10.1
  have en10 := en.ag q q10 (AgS.toN N) f10 (by decide) (by decide)
  obtain ⟨r10, d10, l10⟩ := en10 (stX N) hi
  have wc10 : WcE h10' (stX N) cn := by
    subst hh10
    exact ⟨(hI_off _ (by decide) _ _ _ _ _).trans wc.1, fun j hj => by
      obtain ⟨c', u1, u2⟩ := wc.2 j hj
      exact ⟨c', u1, (hI_off _ (by decide) _ _ _ _ _).trans u2⟩⟩
  have hp' : stP N < nt (stN N 3) := by
    rw [stN_at N (by omega)]
    exact drw_lt _ hp
  have hg' : stG N < nt (stN N 5) := by
    rw [stN_at N (by omega)]
    exact drw_lt _ hg
  obtain ⟨h1, h2, e1, e2, f1, f2, o2, w2⟩ := walk_go q10 hi r10 d10 l10 hg' hp' wc10 hcn
  have q2 := (q10.fr f1 (by decide +kernel) (by decide +kernel)).fr f2 (by decide +kernel) (by decide +kernel)
  have f12 : Fr ([516, 2048, 2112, 2176, 521, 523, 524, 525, 526, 527, 2240, 2304], [], false) h10' h2 := (f1.sub (by decide)).tr (f2.sub (by decide))
  have g41 : X11_walkStranger_g41 (nI (stP N)) (nI (stG N)) (stX N + 1) h10' = some (some (.inr (8, stX N + 1)), h2) := by
    unfold X11_walkStranger_g41 X11_walkStranger_f41
    rw [nnE rfl, e1, cV_some, nnE rfl, e2, cI_some]
  have run : X11_walkStranger 0 (b + 1) h = some (some (.inr (8, stX N + 1)), h2) := by
    have hz1 : hI (pI h 80 b 0 (lcg (N 0))) 80 b 0 = lcg (N 0) := by rw [hI_pI, if_pos ⟨rfl, rfl, rfl⟩]
    have hz2 : hI (pI h 80 b 0 (lcg (lcg (N 0)))) 80 b 0 = lcg (lcg (N 0)) := by rw [hI_pI, if_pos ⟨rfl, rfl, rfl⟩]
    have e4 : X1_draw b 4 (pI h 80 b 0 (lcg (lcg (N 0)))) = some (some (.inl (nI (drw (lcg (lcg (lcg (N 0)))) 4))), pI (pI h 80 b 0 (lcg (lcg (N 0)))) 80 b 0 (lcg (lcg (lcg (N 0))))) := draw_z (n := 4) hz2 (by decide) (by decide)
    unfold X11_walkStranger X11_walkStranger_g0 X11_walkStranger_f0
    rw [nnE rfl, nnE rfl, h72, draw_z e0 (show 0 < Z by omega) (by omega), cI_some, nnE rfl, nnE rfl, hI_off h (by decide), h74, draw_z hz1 (show 0 < K by omega) (by omega), cI_some, pI_twice, nnE rfl, e4, cI_some, pI_twice, hh10]
    have eP : nI (drw (lcg (N 0)) Z) = nI (stP N) := by
      unfold stP
      rw [hZn]
    have eG : nI (drw (lcg (lcg (N 0))) K) = nI (stG N) := by
      unfold stG
      rw [hKn]
    rw [eP, eG]
    by_cases c : drw (lcg (lcg (lcg (N 0)))) 4 = 0
    · have eX : stX N = 1 := if_pos c
      rw [eX] at g41
      rw [c, if_pos (show nI 0 = 0 from rfl), nnE (sh_643 a10), ixE (x := 1) (j := 1) (ln_37 a10) rfl (by decide) (by decide), sh_2368 a10 1 (by decide), eX]
      exact g41
    · have eX : stX N = 0 := if_neg c
      rw [eX] at g41
      have := drw_lt (lcg (lcg (lcg (N 0)))) (show 0 < 4 by decide)
      rw [if_neg (show ¬ nI (drw (lcg (lcg (lcg (N 0)))) 4) = 0 from fun z => c ((nI_eq (b := 0) (by omega) (by omega)).mp z)), nnE (sh_643 a10), ixE (x := 0) (j := 0) (ln_37 a10) rfl (by decide) (by decide), sh_2368 a10 0 (by decide), eX]
      exact g41
  refine ⟨h2, run, q2, en10.ag q10 q2 AgS.rf f12 (by decide) (by decide), X11_walkStranger_fr _ _ _ _ run, (OthE.fr a f10 (by decide) (by decide)).tr o2, w2, fun i j hi2 hib => ?_⟩
  rw [f12.1 80 i j (by decide) (a10.b1 hi2)]
  subst hh10
  rw [hI_pI, if_neg (fun z => hib z.2.1)]
theorem walks_st {h g : PH} {b : Nat} {N : Nat → Int32} (mw : MwE h (stN N) (fun v => passB (stN N) v (nI (stX N))) (nI (stX N)) noT) (q : Hs g b (stN N)) (hp : stP N < nt (stN N 3)) (hg : stG N < nt (stN N 5)) : ∃ h', X12_walks 0 (nI (stP N)) (nI (stG N)) h = some (none, h') ∧ Fr mwW h h' ∧ MfE h' (stR N) := X12_walks_eq mw q hg hp
theorem astray_ix (s : Nat) : (155 + (5 * nI s)) + 3 = nI (158 + 5 * s) := by
  rw [show (155 : Int32) = nI 155 from rfl, show (5 : Int32) = nI 5 from rfl, show (3 : Int32) = nI 3 from rfl, nI_mul, nI_add, nI_add]
  congr 1
  omega
/-- what follows the walk -/
theorem model_end {h13 g : PH} {b : Nat} {N : Nat → Int32} (a13 : SH h13) (q : Hs g b N) (hN13 : hI h13 2624 0 = stN N) (r : Wr) (hle : r.1 ≤ 3) (m13 : MfE h13 r) (ho : ∀ s, oF r = some s → s < nt (N 6)) : ∃ h', (if hI h13 731 0 0 = 1 then some (none, h13) else if hI h13 734 0 0 < 0 then some (none, h13) else nn (hR h13 704 0 0) fun r14 => ix ((155 + (5 * (hI h13 734 0 0))) + 3) (hL h13 41 r14) fun j15 => if (hI h13 2624 r14 j15) < 9999 then (nn (hR h13 704 0 0) fun r16 => ix ((155 + (5 * (hI h13 734 0 0))) + 3) (hL h13 41 r16) fun j17 => X12_aStranger_g118 ((hI h13 2624 r16 j17) + 1) ((155 + (5 * (hI h13 734 0 0))) + 3) (hR h13 704 0 0) h13) else X12_aStranger_g118 9999 ((155 + (5 * (hI h13 734 0 0))) + 3) (hR h13 704 0 0) h13 : Option Rs) = some (none, h') ∧ hI h' 2624 0 = stB N (oF r) ∧ hI h' 731 0 0 = nI r.1 ∧ hI h' 732 0 0 = nI r.2.1 := by
  obtain ⟨m1, m2, m3, m4, -⟩ := m13
  by_cases c : r.1 = 1
  · refine ⟨h13, by rw [m1, c, if_pos (by decide)], ?_, m1, m2⟩
    rw [oF_yes c]
    exact hN13
  · rw [m1, if_neg (show ¬ nI r.1 = 1 from fun z => c ((nI_eq (b := 1) (by omega) (by omega)).mp z)), m4]
    rw [oF_no c] at ho ⊢
    cases hr : r.2.2.2.2.1 with
    | none =>
      refine ⟨h13, by rw [if_pos (by decide)], ?_, m1, m2⟩
      exact hN13
    | some s =>
      have hs := ho s hr
      obtain ⟨-, -, -, -, -, s14, -⟩ := q.sign hs
      have v8 : hI h13 2624 0 (158 + 5 * s) = N (158 + 5 * s) := by rw [hN13, stN_at N (by omega)]
      have res : hI (pI h13 2624 0 (158 + 5 * s) (stV N s)) 2624 0 = stB N (some s) := by
        rw [hI_upd, hN13]
        rfl
      refine ⟨pI h13 2624 0 (158 + 5 * s) (stV N s), ?_, res, (hI_off _ (by decide) _ _ _ _ _).trans m1, (hI_off _ (by decide) _ _ _ _ _).trans m2⟩
      rw [if_neg (oI_pos (t := s) (by omega)), show oI (some s) = nI s from rfl, astray_ix, nnE (sh_704 a13), ixE (ln_41 a13) rfl (show 158 + 5 * s < 1765 by omega) (by decide), v8]
      have g118 : ∀ v, X12_aStranger_g118 v (nI (158 + 5 * s)) (hR h13 704 0 0) h13 = some (none, pI h13 2624 0 (158 + 5 * s) v) := fun v => by
        unfold X12_aStranger_g118 X12_aStranger_f118
        rw [nnE (sh_704 a13), ixE (ln_41 a13) rfl (show 158 + 5 * s < 1765 by omega) (by decide), wr_eq]
      by_cases c9 : N (158 + 5 * s) < 9999
      · have eV : stV N s = N (158 + 5 * s) + 1 := if_pos c9
        rw [if_pos c9, nnE (sh_704 a13), ixE (ln_41 a13) rfl (show 158 + 5 * s < 1765 by omega) (by decide), v8, g118, eV]
      · have eV : stV N s = 9999 := if_neg c9
        rw [if_neg c9, g118, eV]
theorem model_38 {h9 g : PH} {b : Nat} {N : Nat → Int32} (a9 : SH h9) (hN9 : hI h9 2624 0 = stN N) (q : Hs g b N) (hp : 0 < nt (N 3)) (hg : 0 < nt (N 5)) : ∃ h', X12_aStranger_g38 0 (nI (stP N)) (nI (stG N)) (nI (stX N)) h9 = some (none, h') ∧ hI h' 2624 0 = stA N ∧ hI h' 731 0 0 = nI (stR N).1 ∧ hI h' 732 0 0 = nI (stR N).2.1 := by
  have q9 : Hs (pI g 80 b 0 (lcg (lcg (lcg (N 0))))) b (stN N) := q.toN
  generalize pI g 80 b 0 (lcg (lcg (lcg (N 0)))) = g9 at q9
  have hp' : stP N < nt (stN N 3) := by
    rw [stN_at N (by omega)]
    exact drw_lt _ hp
  have hg' : stG N < nt (stN N 5) := by
    rw [stN_at N (by omega)]
    exact drw_lt _ hg
  obtain ⟨h11, e11, mw, f11⟩ := X12_walk_ready a9 (by rw [hN9]; exact q9) (nI (stX N))
  rw [hN9] at mw
  obtain ⟨h13, e13, f13, m13⟩ := walks_st mw q9 hp' hg'
  have a12 := mw.1.1
  have a13 : SH h13 := a12.fr f13 (by decide)
  have hN13 : hI h13 2624 0 = stN N := (now_fr a12 f13 (by decide)).trans mw.1.2.1
  obtain ⟨h', g1, g2⟩ := model_end a13 q hN13 (stR N) (stR_le N) m13 (fun _ e => stO_lt q e)
  refine ⟨h', ?_, g2⟩
  unfold X12_aStranger_g38 X12_aStranger_f38
  rw [e11, cV_some, wr_eq, e13, cV_some]
  exact g1
theorem model_one {h g : PH} {b : Nat} {N : Nat → Int32} (a : SH h) (hN : hI h 2624 0 = N) (q : Hs g b N) (hp : 0 < nt (N 3)) (hg : 0 < nt (N 5)) : ∃ h', X12_aStranger 0 h = some (none, h') ∧ hI h' 2624 0 = stA N ∧ Fr X12_aStranger_W h h' ∧ hI h' 731 0 0 = nI (stR N).1 ∧ hI h' 732 0 0 = nI (stR N).2.1 := by
  obtain ⟨Z, hZ, h12, hZn, hZi, -⟩ := q.places
  obtain ⟨K, hK, h10, hKn, hKi, -⟩ := q.goals
  have d1 : X12_draw 0 h = some (some (.inl (jushr (lcg (N 0)) 8)), pI h 2624 0 0 (lcg (N 0))) := by rw [draw_m a, hN]
  have d2 : X12_draw 0 (pI h 2624 0 0 (lcg (N 0))) = some (some (.inl (jushr (lcg (lcg (N 0))) 8)), pI h 2624 0 0 (lcg (lcg (N 0)))) := by rw [draw_m (h := pI h 2624 0 0 (lcg (N 0))) a, hI_pI, if_pos ⟨rfl, rfl, rfl⟩, pI_twice]
  have d3 : X12_draw 0 (pI h 2624 0 0 (lcg (lcg (N 0)))) = some (some (.inl (jushr (lcg (lcg (lcg (N 0)))) 8)), pI h 2624 0 0 (lcg (lcg (lcg (N 0))))) := by rw [draw_m (h := pI h 2624 0 0 (lcg (lcg (N 0)))) a, hI_pI, if_pos ⟨rfl, rfl, rfl⟩, pI_twice]
  have n3 : hI (pI h 2624 0 0 (lcg (N 0))) 2624 0 3 = nI Z := by rw [hI_pI, if_neg (by omega), hN, hZ]
  have n5 : hI (pI h 2624 0 0 (lcg (lcg (N 0)))) 2624 0 5 = nI K := by rw [hI_pI, if_neg (by omega), hN, hK]
  have hN9 : hI (pI h 2624 0 0 (lcg (lcg (lcg (N 0))))) 2624 0 = stN N := by
    rw [hI_upd, hN]
    rfl
  have eP : drw (lcg (N 0)) Z = stP N := by
    unfold stP
    rw [hZn]
  have eG : drw (lcg (lcg (N 0))) K = stG N := by
    unfold stG
    rw [hKn]
  have v1 : jrem (jushr (lcg (N 0)) 8) (nI Z) = nI (stP N) := by rw [drw_eq _ (by omega) (by omega), eP]
  have v2 : jrem (jushr (lcg (lcg (N 0))) 8) (nI K) = nI (stG N) := by rw [drw_eq _ (by omega) (by omega), eG]
  have v3 : jrem (jushr (lcg (lcg (lcg (N 0)))) 8) 4 = nI (drw (lcg (lcg (lcg (N 0)))) 4) := drw_eq _ (n := 4) (by decide) (by decide)
  have x1 : drw (lcg (lcg (lcg (N 0)))) 4 < 4 := drw_lt _ (by decide)
  have xE : stX N = if drw (lcg (lcg (lcg (N 0)))) 4 = 0 then 1 else 0 := rfl
  have b1 : SH (pI h 2624 0 0 (lcg (N 0))) := a
  have b2' : SH (pI h 2624 0 0 (lcg (lcg (N 0)))) := a
  have b3 : SH (pI h 2624 0 0 (lcg (lcg (lcg (N 0))))) := a
  obtain ⟨h', g1, g2, g3, g4⟩ := model_38 b3 hN9 q hp hg
  generalize pI h 2624 0 0 (lcg (N 0)) = z1 at d1 d2 n3 b1
  generalize pI h 2624 0 0 (lcg (lcg (N 0))) = z2 at d2 d3 n5 b2'
  generalize pI h 2624 0 0 (lcg (lcg (lcg (N 0)))) = z3 at d3 g1
  generalize jushr (lcg (N 0)) 8 = w1 at d1 v1
  generalize jushr (lcg (lcg (N 0))) 8 = w2 at d2 v2
  generalize jushr (lcg (lcg (lcg (N 0)))) 8 = w3 at d3 v3
  generalize drw (lcg (lcg (lcg (N 0)))) 4 = x at v3 x1 xE
  have run : X12_aStranger 0 h = some (none, h') := by
    unfold X12_aStranger X12_aStranger_g0 X12_aStranger_f0
    rw [d1, cI_some, nnE (sh_704 b1), ixE (x := 3) (j := 3) (ln_41 b1) rfl (by decide) (by decide), n3, dv_ok (fun z => by have := (nI_eq (b := 0) (by omega) (by omega)).mp z; omega), d2, cI_some, nnE (sh_704 b2'), ixE (x := 5) (j := 5) (ln_41 b2') rfl (by decide) (by decide), n5, dv_ok (fun z => by have := (nI_eq (b := 0) (by omega) (by omega)).mp z; omega), d3, cI_some, dv_ok (by decide), v1, v2, v3]
    by_cases c : x = 0
    · rw [if_pos c] at xE
      rw [xE] at g1
      rw [c, if_pos (show nI 0 = 0 from rfl)]
      exact g1
    · rw [if_neg c] at xE
      rw [xE] at g1
      rw [if_neg (show ¬ nI x = 0 from fun z => c ((nI_eq (b := 0) (by omega) (by omega)).mp z))]
      exact g1
  exact ⟨h', run, g2, X12_aStranger_fr _ _ _ run, g3, g4⟩
