/-! pair: strangers -/
def arB (r : Wr) : Nat := if r.1 = 1 then 1 else 0
def stL : Nat → (Nat → Int32) → (Nat → Int32)
  | 0, N => N
  | k + 1, N => stL k (stA N)
def stC : Nat → (Nat → Int32) → Nat
  | 0, _ => 0
  | k + 1, N => arB (stR N) + stC k (stA N)
theorem AgS.NB {N : Nat → Int32} {o : Option Nat} (ho : ∀ s, o = some s → s < 14) : AgS (stN N) (stB N o) := by
  cases o with
  | none => exact AgS.rf
  | some s => exact AgS.astray _ (ho s rfl) _
theorem class_end {h4 g : PH} {N : Nat → Int32} (q4 : Hs h4 0 (stN N)) (q : Hs g 0 N) {i : Nat} (r : Wr) (hle : r.1 ≤ 3) (w3 : hI h4 523 i 0 = nI r.1) (w7 : hI h4 527 i 0 = oI r.2.2.2.2.1) (ho : ∀ s, oF r = some s → s < nt (N 6)) : ∃ h5, Hs h5 0 (stB N (oF r)) ∧ Fr ([323], [], false) h4 h5 ∧ (∀ i' j, 14 ≤ i' → hI h5 323 i' j = hI h4 323 i' j) ∧ ∀ (G : Nat → Int32 → Int32 → Int32 → PH → Option Rs) (n c j : Nat), (nn (i + 1) fun r6 => if (hI h4 523 r6 0) = 1 then X11_strangers_g104 G 0 (nI n) (nI c + 1) (nI j) h4 else nn (i + 1) fun r7 => if (hI h4 527 r7 0) = (-1) then X11_strangers_g104 G 0 (nI n) (nI c) (nI j) h4 else nn (hR h4 640 0 0) fun r8 => nn (i + 1) fun r9 => nn (hR h4 68 r8 0) fun r10 => ix (hI h4 527 r9 0) (hL h4 18 r10) fun j11 => nn (hR h4 1152 r10 j11) fun r12 => cV (X6_leadAstray r12 h4) fun h13 => X11_strangers_g104 G 0 (nI n) (nI c) (nI j) h13) = G 0 (nI n) (nI (c + arB r)) (nI (j + 1)) h5 := by
  have a := q4.1
  have nx : ∀ (G : Nat → Int32 → Int32 → Int32 → PH → Option Rs) (n c j : Nat) h', X11_strangers_g104 G 0 (nI n) (nI c) (nI j) h' = G 0 (nI n) (nI c) (nI (j + 1)) h' := fun G n c j h' => by
    show G 0 (nI n) (nI c) (nI j + 1) h' = _
    rw [nI_1]
  by_cases c1 : r.1 = 1
  · rw [oF_yes c1]
    refine ⟨h4, q4, Fr.rf, fun _ _ _ => rfl, fun G n c j => ?_⟩
    have eA : arB r = 1 := if_pos c1
    rw [nnE rfl, w3, c1, if_pos (show nI 1 = 1 from rfl), nI_1, nx, eA]
  · have eA : arB r = 0 := if_neg c1
    have hn1 : ¬ nI r.1 = 1 := fun z => c1 ((nI_eq (b := 1) (by omega) (by omega)).mp z)
    rw [oF_no c1] at ho ⊢
    cases hr : r.2.2.2.2.1 with
    | none =>
      rw [hr] at w7
      refine ⟨h4, q4, Fr.rf, fun _ _ _ => rfl, fun G n c j => ?_⟩
      rw [nnE rfl, w3, if_neg hn1, nnE rfl, w7, if_pos (show oI none = -1 from rfl), nx, eA, Nat.add_zero]
    | some s =>
      rw [hr] at w7
      have hs := ho s hr
      obtain ⟨-, -, -, -, -, s14, -⟩ := q.sign hs
      obtain ⟨-, -, -, -, -, -, e7⟩ := q.sign hs
      have q5 := q.toU q4 hs
      rw [Nat.mul_zero, Nat.zero_add] at q5
      have v3 : hI h4 323 s 0 = N (158 + 5 * s) := by
        obtain ⟨-, -, -, f4, -⟩ := q4.signF (s := s) (by rw [stN_at N (by omega)]; exact hs)
        rw [Nat.mul_zero, Nat.zero_add] at f4
        rw [f4, stN_at N (by omega)]
      have ld : X6_leadAstray s h4 = some (none, pI h4 323 s 0 (stV N s)) := by
        unfold X6_leadAstray X6_leadAstray_g0 X6_leadAstray_f0
        rw [wr_eq, v3, (stV_eq e7).1]
        rfl
      refine ⟨pI h4 323 s 0 (stV N s), q5, Fr.rf.pI (by decide), fun i' j hi' => by rw [hI_pI, if_neg (by omega)], fun G n c j => ?_⟩
      rw [nnE rfl, w3, if_neg hn1, nnE rfl, w7, if_neg (oI_ne (t := s) (by omega)), nnE (sh_640 a), nnE rfl, nnE (sh_68 a 0 (by decide)), w7, ixE (x := oI (some s)) (j := s) (ln_18 a 0 (by decide)) rfl s14 (by decide), nnE (sh_1152_0 a s s14), ld, cV_some, nx, eA, Nat.add_zero]
def stW : List Nat × List Nat × Bool := ([80, 323, 516, 521, 523, 524, 525, 526, 527, 2048, 2112, 2176, 2240, 2304], [], false)
theorem WcE.oth {h h' : PH} {i i' cn : Nat} (w : WcE h i' cn) (o : OthE h h' i) (h2 : i' < 2) (hi : i' ≠ i) : WcE h' i' cn := ⟨(o i' h2 hi 0).1.trans w.1, fun j hj => by
  obtain ⟨c', u1, u2⟩ := w.2 j hj
  exact ⟨c', u1, (o i' h2 hi j).2.trans u2⟩⟩
theorem WcE.fr {W : List Nat × List Nat × Bool} {h h' : PH} {i cn : Nat} (w : WcE h i cn) (a : SH h) (hi : i < 2) (f : Fr W h h') (h1 : W.1.contains 521 = false) (h2 : W.1.contains 2240 = false) : WcE h' i cn := ⟨(f.1 521 i 0 h1 (a.n8 hi)).trans w.1, fun j hj => by
  obtain ⟨c', u1, u2⟩ := w.2 j hj
  exact ⟨c', u1, (f.1 2240 i j h2 (a.n35 hi)).trans u2⟩⟩
theorem class_loop {h0 : PH} (a0 : SH h0) {n : Nat} (hn : n < 2 ^ 31) : ∀ k j c h (N : Nat → Int32) (cn : Nat → Nat), j + k = n → Hs h 0 N → EnE h 0 N → 0 < nt (N 3) → 0 < nt (N 5) → (∀ i, i < 2 → WcE h i (cn i)) → (∀ i, i < 2 → cn i + k < 2 ^ 31) → (∀ y, hI h 80 1 y = hI h0 80 1 y) → (∀ i y, 14 ≤ i → i < 28 → hI h 323 i y = hI h0 323 i y) → Fr stW h0 h → ∃ z h', X11_strangers_fam z 0 (nI n) (nI c) (nI j) h = some (some (.inl (nI (c + stC k N))), h') ∧ Hs h' 0 (stL k N) ∧ (∀ i, i < 2 → ∃ c', c' ≤ cn i + k ∧ WcE h' i c') ∧ (∀ y, hI h' 80 1 y = hI h0 80 1 y) ∧ (∀ i y, 14 ≤ i → i < 28 → hI h' 323 i y = hI h0 323 i y) ∧ Fr stW h0 h' := by
  intro k
  induction k with
  | zero =>
    intro j c h N cn e q en hp hg wc hcn o1 o2 f
    refine ⟨1, h, ?_, q, fun i hi => ⟨cn i, by omega, wc i hi⟩, o1, o2, f⟩
    show X11_strangers_g49 (X11_strangers_fam 0) 0 (nI n) (nI c) (nI j) h = _
    unfold X11_strangers_g49 X11_strangers_f49
    rw [if_neg (nI_nlt (by omega) (by omega))]
    rfl
  | succ k ih =>
    intro j c h N cn e q en hp hg wc hcn o1 o2 f
    have a := q.1
    have hi := stX_lt N
    obtain ⟨h4, e4, q4, en4, f4, t4, w4, b4⟩ := class_one q en hp hg (wc (stX N) hi) (by have := hcn (stX N) hi; omega)
    obtain ⟨w3, -, -, -, w7, -, -, -⟩ := w4
    have ho : ∀ s, oF (stR N) = some s → s < nt (N 6) := fun s es => stO_lt q es
    obtain ⟨h5, q5, f5, o5, run⟩ := class_end q4 q (stR N) (stR_le N) w3 w7 ho
    have h14 : nt (N 6) ≤ 14 := by
      obtain ⟨S, hS, h14, hSn, -⟩ := q.signs
      omega
    have en5 : EnE h5 0 (stA N) := en4.ag q4 q5 (AgS.NB (fun s es => by have := ho s es; omega)) f5 (by decide) (by decide)
    have ag := AgS.toA q
    have a4 := q4.1
    have wc5 : ∀ i, i < 2 → WcE h5 i (if i = stX N then cn i + 1 else cn i) := fun i h2 => by
      by_cases ci : i = stX N
      · rw [if_pos ci, ci]
        exact (w4.wc).fr a4 hi f5 (by decide) (by decide)
      · rw [if_neg ci]
        exact ((wc i h2).oth t4 h2 ci).fr a4 h2 f5 (by decide) (by decide)
    obtain ⟨z, h', y1, y2, y3, y4, y5, y6⟩ := ih (j + 1) (c + arB (stR N)) h5 (stA N) (fun i => if i = stX N then cn i + 1 else cn i) (by omega) q5 en5 (by rw [ag 3 (by omega) (by omega)]; exact hp) (by rw [ag 5 (by omega) (by omega)]; exact hg) wc5 (fun i h2 => by
      have := hcn i h2
      show (if i = stX N then cn i + 1 else cn i) + k < 2 ^ 31
      split <;> omega) (fun y => by rw [f5.1 80 1 y (by decide) (a4.b1 (by decide)), b4 1 y (by decide) (by decide), o1]) (fun i y u1 u2 => by rw [o5 i y u1, f4.1 323 i y (by decide) (a.s1 u2), o2 i y u1 u2]) ((f.tr (f4.sub (by decide))).tr (f5.sub (by decide)))
    refine ⟨z + 1, h', ?_, y2, fun i h2 => ?_, y4, y5, y6⟩
    · show X11_strangers_g49 (X11_strangers_fam z) 0 (nI n) (nI c) (nI j) h = _
      unfold X11_strangers_g49 X11_strangers_f49
      rw [if_pos (nI_lt (by omega) hn), sh_640 a, e4, cR_some]
      refine (run (X11_strangers_fam z) n c j).trans ?_
      rw [y1, show stC (k + 1) N = arB (stR N) + stC k (stA N) from rfl, Nat.add_assoc]
    · obtain ⟨c', u1, u2⟩ := y3 i h2
      refine ⟨c', ?_, u2⟩
      have : (if i = stX N then cn i + 1 else cn i) ≤ cn i + 1 := by split <;> omega
      have u1 : c' ≤ (if i = stX N then cn i + 1 else cn i) + k := u1
      omega
theorem model_loop {h0 : PH} (a0 : SH h0) {b n : Nat} (hn : n < 2 ^ 31) : ∀ k j c h (N : Nat → Int32), j + k = n → SH h → hI h 2624 0 = N → (∃ g, Hs g b N) → 0 < nt (N 3) → 0 < nt (N 5) → Fr X12_aStranger_W h0 h → ∃ z h', X12_strangers_fam z 0 (nI n) (nI c) (nI j) h = some (some (.inl (nI (c + stC k N))), h') ∧ hI h' 2624 0 = stL k N ∧ Fr X12_aStranger_W h0 h' := by
  intro k
  induction k with
  | zero =>
    intro j c h N e a hN q hp hg f
    refine ⟨1, h, ?_, hN, f⟩
    show X12_strangers_g38 (X12_strangers_fam 0) 0 (nI n) (nI c) (nI j) h = _
    unfold X12_strangers_g38 X12_strangers_f38
    rw [if_neg (nI_nlt (by omega) (by omega))]
    rfl
  | succ k ih =>
    intro j c h N e a hN ⟨g, q⟩ hp hg f
    obtain ⟨h4, e4, n4, f4, w4, -⟩ := model_one a hN q hp hg
    have a4 : SH h4 := a.fr f4 (by decide)
    have ag := AgS.toA q
    obtain ⟨z, h', y1, y2, y3⟩ := ih (j + 1) (c + arB (stR N)) h4 (stA N) (by omega) a4 n4 q.toA (by rw [ag 3 (by omega) (by omega)]; exact hp) (by rw [ag 5 (by omega) (by omega)]; exact hg) (f.tr f4)
    refine ⟨z + 1, h', ?_, y2, y3⟩
    show X12_strangers_g38 (X12_strangers_fam z) 0 (nI n) (nI c) (nI j) h = _
    unfold X12_strangers_g38 X12_strangers_f38
    have nx : ∀ s0 : Nat, X12_strangers_g61 (X12_strangers_fam z) 0 (nI n) (nI j) (nI s0) (nI c) h4 = X12_strangers_fam z 0 (nI n) (nI (c + s0)) (nI (j + 1)) h4 := fun s0 => by
      show X12_strangers_fam z 0 (nI n) (nI c + nI s0) (nI j + 1) h4 = _
      rw [nI_add, nI_1]
    have step : ∀ r : Wr, r.1 ≤ 3 → hI h4 731 0 0 = nI r.1 → (if hI h4 731 0 0 = 1 then X12_strangers_g61 (X12_strangers_fam z) 0 (nI n) (nI j) 1 (nI c) h4 else X12_strangers_g61 (X12_strangers_fam z) 0 (nI n) (nI j) 0 (nI c) h4) = X12_strangers_fam z 0 (nI n) (nI (c + arB r)) (nI (j + 1)) h4 := fun r hle hr => by
      by_cases c1 : r.1 = 1
      · have eA : arB r = 1 := if_pos c1
        rw [hr, c1, if_pos (show nI 1 = 1 from rfl), eA]
        exact nx 1
      · have eA : arB r = 0 := if_neg c1
        rw [hr, if_neg (fun z => c1 ((nI_eq (b := 1) (by omega) (by omega)).mp z)), eA]
        exact nx 0
    rw [if_pos (nI_lt (by omega) hn), e4, cV_some]
    refine (step (stR N) (stR_le N) w4).trans ?_
    rw [y1, show stC (k + 1) N = arB (stR N) + stC k (stA N) from rfl, Nat.add_assoc]
def pu2Cols : List Nat := 642 :: 707 :: 2688 :: tapCols ++ shtCols ++ sltCols ++ watCols ++ kysCols
theorem R.put2 {W : List Nat × List Nat × Bool} {m : Nat} {h h' : PH} (r : R m h) (f : Fr W h h') (hw : pu2Cols.all (fun c => !W.1.contains c) = true) (hv : hsRefs.all (fun c => !W.2.1.contains c) = true) (hc : W.2.2 = false) (q0 : Hs h' 0 (hI h' 2624 0)) (k1 : Same h h' 1 hsCols) (hC : Chg h' (nt (hI h' 2624 0 6))) (hk : Wlk (m + 1) h') : R (m + 1) h' := by
  obtain ⟨a, q1, q2, q3, q4, q5, q6, q7, q8, q9, q10⟩ := r
  have sub : ∀ L : List Nat, (∀ c ∈ L, c ∈ pu2Cols) → L.all (fun c => !W.1.contains c) = true := fun L hL => by
    rw [List.all_eq_true] at hw ⊢
    exact fun c hc => hw c (hL c hc)
  have hrT : ∀ b c i j, c ∈ trRefs → i < hN h (c / 64) → (c = 1216 → i = b) → hR h' c i j = hR h c i j := fun _ c i j hc' hi _ => f.2.1 c i j (ninW hv (List.mem_append_right _ hc')) hi
  refine ⟨q0.1, q0, ?_, hC, q4.fr a f (sub tapCols (by decide +kernel)), q5.fr a f (sub shtCols (by decide +kernel)), q6.fr a f (sub sltCols (by decide +kernel)), q7.fr a f (sub watCols (by decide +kernel)), hk, q9.fr a f (sub kysCols (by decide +kernel)), (q10.fr f hc).mono⟩
  have e1 := f.1 642 0 0 (ninW hw (by decide +kernel)) (a.k1 (k := 10) (n := 1) (by decide +kernel) (by decide))
  have e2 := f.1 707 0 0 (ninW hw (by decide +kernel)) a.n11
  have e3 : hI h' 2688 0 = hI h 2688 0 := funext fun j => f.1 2688 0 j (ninW hw (by decide +kernel)) (a.nl (k := 42) (n := 1765) (by decide +kernel))
  unfold Img at q2 ⊢
  rw [e1, e2, e3]
  refine ⟨q2.1, ?_⟩
  rcases q2.2 with c | ⟨c, d⟩
  · exact Or.inl c
  · exact Or.inr ⟨c, d.same q0.1 k1 f.2.2.2.1 (hrT 1) f.2.2.1⟩
theorem AgS.toL {b : Nat} : ∀ k (N : Nat → Int32), (∃ g, Hs g b N) → AgS N (stL k N)
  | 0, _, _ => AgS.rf
  | k + 1, N, ⟨g, q⟩ => (AgS.toA q).tr (AgS.toL k (stA N) q.toA)
def sgW : List Nat × List Nat × Bool := ([515, 1536, 1920, 1984, 80, 323, 516, 521, 523, 524, 525, 526, 527, 2048, 2112, 2176, 2240, 2304, 731, 732, 733, 734, 737, 2624, 3264, 3328, 3392, 3456, 3584, 3648], [193, 513], false)
theorem pair_strangers (m : Nat) (h : PH) (x1 : Int32) (hm : m < 64) (r : R m h) : Pr (R (m + 1)) (X11_strangers 0 x1) (X12_strangers 0 x1) h := by
  have r0 := r
  obtain ⟨a, q, -, q3, -, -, -, -, q8, -⟩ := r
  obtain ⟨Z, hZ, h12, hZn, hZi, h72⟩ := q.places
  obtain ⟨K, hK, h10, hKn, hKi, h74⟩ := q.goals
  by_cases d1 : x1 < 1
  · refine r0.same (v := -1000000001) (X11_strangers_iff.mpr ⟨0, ?_⟩) (X12_strangers_iff.mpr ⟨0, ?_⟩)
    · unfold X11_strangers_g0 X11_strangers_f0
      rw [if_pos d1]
    · unfold X12_strangers_g0 X12_strangers_f0
      rw [X12_in_eq, cI_some, if_pos d1, if_pos rfl]
  by_cases d2 : 60 < x1
  · refine r0.same (v := -1000000001) (X11_strangers_iff.mpr ⟨0, ?_⟩) (X12_strangers_iff.mpr ⟨0, ?_⟩)
    · unfold X11_strangers_g0 X11_strangers_f0
      rw [if_neg d1, if_pos d2]
    · unfold X12_strangers_g0 X12_strangers_f0
      rw [X12_in_eq, cI_some, if_neg d1, if_pos d2, if_pos rfl]
  by_cases d3 : Z = 0
  · subst d3
    refine r0.same (v := -1000000002) (X11_strangers_iff.mpr ⟨0, ?_⟩) (X12_strangers_iff.mpr ⟨0, ?_⟩)
    · unfold X11_strangers_g0 X11_strangers_f0
      rw [if_neg d1, if_neg d2, nnE (sh_640 a), h72, if_pos (show nI 0 = 0 from rfl)]
    · unfold X12_strangers_g0 X12_strangers_f0
      rw [X12_in_eq, cI_some, if_neg d1, if_neg d2, if_neg (by decide), nnE (sh_704 a), ixE (x := 3) (j := 3) (ln_41 a) rfl (by decide) (by decide), hZ, if_pos (show nI 0 = 0 from rfl)]
  have d3' : ¬ nI Z = 0 := fun z => d3 ((nI_eq (b := 0) (by omega) (by omega)).mp z)
  by_cases d4 : K = 0
  · subst d4
    refine r0.same (v := -1000000002) (X11_strangers_iff.mpr ⟨0, ?_⟩) (X12_strangers_iff.mpr ⟨0, ?_⟩)
    · unfold X11_strangers_g0 X11_strangers_f0
      rw [if_neg d1, if_neg d2, nnE (sh_640 a), h72, if_neg d3', nnE (sh_640 a), h74, if_pos (show nI 0 = 0 from rfl)]
    · unfold X12_strangers_g0 X12_strangers_f0
      rw [X12_in_eq, cI_some, if_neg d1, if_neg d2, if_neg (by decide), nnE (sh_704 a), ixE (x := 3) (j := 3) (ln_41 a) rfl (by decide) (by decide), hZ, if_neg d3', nnE (sh_704 a), ixE (x := 5) (j := 5) (ln_41 a) rfl (by decide) (by decide), hK, if_pos (show nI 0 = 0 from rfl)]
  have d4' : ¬ nI K = 0 := fun z => d4 ((nI_eq (b := 0) (by omega) (by omega)).mp z)
  obtain ⟨n, hn31, rfl⟩ := nI_of (x := x1) (fun z => d1 (by rw [i_lt, i0] at z; rw [i_lt, i1]; omega))
  have hn60 : n ≤ 60 := by
    rw [i_lt, nI_toInt hn31, show (60 : Int32).toInt = 60 by decide] at d2
    omega
  obtain ⟨h1, e1, f1, en1⟩ := enterBoth_eq q (fun i hi => (q8 i hi).1)
  have q1 := q.fr f1 (by decide +kernel) (by decide +kernel)
  have a1 := q1.1
  have wc : ∀ i, i < 2 → ∃ c, c ≤ 1000 * m ∧ WcE h1 i c := fun i hi => by
    obtain ⟨-, c, u1, u2, u3⟩ := q8 i hi
    exact ⟨c, u1, (show WcE h i c from ⟨u2, u3⟩).fr a hi f1 (by decide) (by decide)⟩
  obtain ⟨c0, k0, w0⟩ := wc 0 (by decide)
  obtain ⟨c1, k1, w1⟩ := wc 1 (by decide)
  obtain ⟨z, h2, y1, y2, y3, y4, y5, y6⟩ := class_loop a1 hn31 n 0 0 h1 (hI h 2624 0) (fun i => if i = 0 then c0 else c1) (by omega) q1 en1 (by omega) (by omega) (fun i hi => by
    have : i = 0 ∨ i = 1 := by omega
    rcases this with rfl | rfl
    · exact w0
    · exact w1) (fun i hi => by
    show (if i = 0 then c0 else c1) + n < 2 ^ 31
    split <;> omega) (fun _ => rfl) (fun _ _ _ _ => rfl) Fr.rf
  have a2 := y2.1
  have hN2 : hI h2 2624 0 = hI h 2624 0 := (now_fr a1 y6 (by decide)).trans (now_fr a f1 (by decide))
  obtain ⟨z3, h3, v1, v2, v3⟩ := model_loop a2 (b := 0) hn31 n 0 0 h2 (hI h 2624 0) (by omega) a2 hN2 ⟨h, q⟩ (by omega) (by omega) Fr.rf
  have a3 : SH h3 := a2.fr v3 (by decide)
  have q3' : Hs h3 0 (hI h3 2624 0) := by
    rw [v2]
    exact y2.fr v3 (by decide +kernel) (by decide +kernel)
  have fA : Fr sgW h h3 := ((f1.sub (by decide)).tr (y6.sub (by decide))).tr (v3.sub (by decide))
  have ag := AgS.toL (b := 0) n (hI h 2624 0) ⟨h, q⟩
  refine ⟨nI (stC n (hI h 2624 0)), h2, h3, X11_strangers_iff.mpr ⟨z, ?_⟩, X12_strangers_iff.mpr ⟨z3, ?_⟩, r0.put2 fA (by decide +kernel) (by decide +kernel) rfl q3' ?_ ?_ ?_⟩
  · unfold X11_strangers_g0 X11_strangers_f0
    rw [if_neg d1, if_neg d2, nnE (sh_640 a), h72, if_neg d3', nnE (sh_640 a), h74, if_neg d4', sh_640 a, show X11_enterBoth 0 1 h = _ from e1, cV_some]
    rw [Nat.zero_add] at y1
    exact y1
  · unfold X12_strangers_g0 X12_strangers_f0
    rw [X12_in_eq, cI_some, if_neg d1, if_neg d2, if_neg (by decide), nnE (sh_704 a2), ixE (x := 3) (j := 3) (ln_41 a2) rfl (by decide) (by decide), hN2, hZ, if_neg d3', nnE (sh_704 a2), ixE (x := 5) (j := 5) (ln_41 a2) rfl (by decide) (by decide), hN2, hK, if_neg d4']
    rw [Nat.zero_add] at v1
    exact v1
  · intro c hc i j hi hb
    by_cases c8 : c = 80
    · subst c8
      have hi1 : i = 1 := hb.2.2 ⟨by decide, by decide, by decide⟩
      subst hi1
      rw [v3.1 80 1 j (by decide) (a2.b1 (by decide)), y4, f1.1 80 1 j (by decide) (a.b1 (by decide))]
    · by_cases c3 : c = 323
      · subst c3
        have := hb.2.1 (by decide)
        rw [v3.1 323 i j (by decide) (a2.s1 (by omega)), y5 i j (by omega) (by omega), f1.1 323 i j (by decide) (a.s1 (by omega))]
      · have e9 : ∀ c ∈ hsCols, c ≠ 80 → c ≠ 323 → sgW.1.contains c = false := by decide +kernel
        exact fA.1 c i j (e9 c hc c8 c3) hi
  · rw [v2, ag 6 (by omega) (by omega)]
    exact q3.fr a fA (by decide +kernel)
  · intro i hi
    obtain ⟨c', u1, u2⟩ := y3 i hi
    have u2 := u2.fr a2 hi v3 (by decide) (by decide)
    have u1 : c' ≤ (if i = 0 then c0 else c1) + n := u1
    have : (if i = 0 then c0 else c1) ≤ 1000 * m := by split <;> omega
    exact ⟨(fA.1 192 i 0 (by decide) (a.n3 hi)).trans (q8 i hi).1, c', by omega, u2.1, u2.2⟩
