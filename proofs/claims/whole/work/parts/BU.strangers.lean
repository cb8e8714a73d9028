/-! pair: strangers -/
def arB (r : Wr) : Nat := if r.1 = 1 then 1 else 0
def itA (A : (Nat → Int32) → (Nat → Int32)) : Nat → (Nat → Int32) → (Nat → Int32)
  | 0, N => N
  | k + 1, N => itA A k (A N)
def itC (A : (Nat → Int32) → (Nat → Int32)) (Rr : (Nat → Int32) → Wr) : Nat → (Nat → Int32) → Nat
  | 0, _ => 0
  | k + 1, N => arB (Rr N) + itC A Rr k (A N)
theorem AgS.NB {N : Nat → Int32} {o : Option Nat} (ho : ∀ s, o = some s → s < 14) : AgS (stN N) (stB N o) := by
  cases o with
  | none => exact AgS.rf
  | some s => exact AgS.astray _ (ho s rfl) _
theorem class_end {h4 g : PH} {N : Nat → Int32} (q4 : Hs h4 0 (stN N)) (q : Hs g 0 N) {i : Nat} (r : Wr) (hle : r.1 ≤ 3) (w3 : hI h4 523 i 0 = nI r.1) (w7 : hI h4 527 i 0 = oI r.2.2.2.2.1) (ho : ∀ s, oF r = some s → s < nt (N 6)) : ∃ h5, Hs h5 0 (stB N (oF r)) ∧ Fr ([323], [], false) h4 h5 ∧ (∀ i' j, 14 ≤ i' → hI h5 323 i' j = hI h4 323 i' j) ∧ ∀ (G : Nat → Int32 → Int32 → Int32 → PH → Option Rs) (n c j : Nat), (nn (i + 1) fun r6 => if (hI h4 523 r6 0) = 1 then X11_strangers_g104 G 0 (nI n) (nI c + 1) (nI j) h4 else nn (i + 1) fun r7 => if (hI h4 527 r7 0) = (-1) then X11_strangers_g104 G 0 (nI n) (nI c) (nI j) h4 else nn (hR h4 640 0 0) fun r8 => nn (i + 1) fun r9 => nn (hR h4 68 r8 0) fun r10 => ix (hI h4 527 r9 0) (hL h4 18 r10) fun j11 => nn (hR h4 1152 r10 j11) fun r12 => cV (X6_leadAstray r12 h4) fun h13 => X11_strangers_g104 G 0 (nI n) (nI c) (nI j) h13) = G 0 (nI n) (nI (c + arB r)) (nI (j + 1)) h5 := by
  have a := q4.1
  have nx : ∀ (G : Nat → Int32 → Int32 → Int32 → PH → Option Rs) (n c j : Nat) h', X11_strangers_g104 G 0 (nI n) (nI c) (nI j) h' = G 0 (nI n) (nI c) (nI (j + 1)) h' := fun G n c j h' => by
    show G 0 (nI n) (nI c) (nI j + 1) h' = _
    rw [nI_1]
  by_cases c1 : r.1 = 1
  · rw [oF_yes c1]
    refine ⟨h4, q4, Fr.rf, fun _ _ _ => rfl, fun G n c j => ?_⟩
    have eA : arB r = 1 := if_pos c1
    rw [nnE rfl, w3, c1, if_pos (show nI 1 = 1 from rfl), nI_1, nx, eA]
  · have eA : arB r = 0 := if_neg c1
    have hn1 : ¬ nI r.1 = 1 := fun z => c1 ((nI_eq (b := 1) (by omega) (by omega)).mp z)
    rw [oF_no c1] at ho ⊢
    cases hr : r.2.2.2.2.1 with
    | none =>
      rw [hr] at w7
      refine ⟨h4, q4, Fr.rf, fun _ _ _ => rfl, fun G n c j => ?_⟩
      rw [nnE rfl, w3, if_neg hn1, nnE rfl, w7, if_pos (show oI none = -1 from rfl), nx, eA]
      rfl
    | some s =>
      rw [hr] at w7
      have hs := ho s hr
      obtain ⟨-, -, -, -, -, s14, -⟩ := q.sign hs
      obtain ⟨-, -, -, -, -, -, e7⟩ := q.sign hs
      have q5 := q.toU q4 hs
      rw [Nat.mul_zero, Nat.zero_add] at q5
      have v3 : hI h4 323 s 0 = N (158 + 5 * s) := by
        obtain ⟨-, -, -, f4, -⟩ := q4.signF (s := s) (by rw [stN_at N (by omega)]; exact hs)
        rw [Nat.mul_zero, Nat.zero_add] at f4
        rw [f4, stN_at N (by omega)]
      have ld : X6_leadAstray s h4 = some (none, pI h4 323 s 0 (stV N s)) := by
        unfold X6_leadAstray X6_leadAstray_g0 X6_leadAstray_f0
        rw [wr_eq, v3, (stV_eq e7).1]
        rfl
      refine ⟨pI h4 323 s 0 (stV N s), q5, Fr.rf.pI (by decide), fun i' j hi' => by rw [hI_pI, if_neg (by omega)], fun G n c j => ?_⟩
      rw [nnE rfl, w3, if_neg hn1, nnE rfl, w7, if_neg (oI_ne (t := s) (by omega)), nnE (sh_640 a), nnE rfl, nnE (sh_68 a 0 (by decide)), w7, ixE (x := oI (some s)) (j := s) (ln_18 a 0 (by decide)) rfl s14 (by decide), nnE (sh_1152_0 a s s14), ld, cV_some, nx, eA]
      rfl
def stW : List Nat × List Nat × Bool := ([80, 323, 516, 521, 523, 524, 525, 526, 527, 2048, 2112, 2176, 2240, 2304], [], false)
theorem WcE.oth {h h' : PH} {i i' cn : Nat} (w : WcE h i' cn) (o : OthE h h' i) (h2 : i' < 2) (hi : i' ≠ i) : WcE h' i' cn := ⟨(o i' h2 hi 0).1.trans w.1, fun j hj => by
  obtain ⟨c', u1, u2⟩ := w.2 j hj
  exact ⟨c', u1, (o i' h2 hi j).2.trans u2⟩⟩
theorem WcE.fr {W : List Nat × List Nat × Bool} {h h' : PH} {i cn : Nat} (w : WcE h i cn) (a : SH h) (hi : i < 2) (f : Fr W h h') (h1 : W.1.contains 521 = false) (h2 : W.1.contains 2240 = false) : WcE h' i cn := ⟨(f.1 521 i 0 h1 (a.n8 hi)).trans w.1, fun j hj => by
  obtain ⟨c', u1, u2⟩ := w.2 j hj
  exact ⟨c', u1, (f.1 2240 i j h2 (a.n35 hi)).trans u2⟩⟩
def ClS (A : (Nat → Int32) → (Nat → Int32)) (Rr : (Nat → Int32) → Wr) : Prop := ∀ (h : PH) (N : Nat → Int32) (cn : Nat → Nat), Hs h 0 N → EnE h 0 N → 0 < nt (N 3) → 0 < nt (N 5) → (∀ i, i < 2 → WcE h i (cn i)) → (∀ i, i < 2 → cn i + 1 < 2 ^ 31) → ∃ (h5 : PH) (cn' : Nat → Nat), Hs h5 0 (A N) ∧ EnE h5 0 (A N) ∧ 0 < nt (A N 3) ∧ 0 < nt (A N 5) ∧ (∀ i, i < 2 → WcE h5 i (cn' i) ∧ cn' i ≤ cn i + 1) ∧ (∀ y, hI h5 80 1 y = hI h 80 1 y) ∧ (∀ i y, 14 ≤ i → i < 28 → hI h5 323 i y = hI h 323 i y) ∧ Fr stW h h5 ∧ ∀ z n c j, j < n → n < 2 ^ 31 → X11_strangers_fam (z + 1) 0 (nI n) (nI c) (nI j) h = X11_strangers_fam z 0 (nI n) (nI (c + arB (Rr N))) (nI (j + 1)) h5
theorem class_step : ClS stA stR := by
  intro h N cn q en hp hg wc hcn
  have a := q.1
  have hi := stX_lt N
  obtain ⟨h4, e4, q4, en4, f4, t4, w4, b4⟩ := class_one q en hp hg (wc (stX N) hi) (hcn (stX N) hi)
  have ho : ∀ s, oF (stR N) = some s → s < nt (N 6) := fun s es => stO_lt q es
  obtain ⟨h5, q5, f5, o5, run⟩ := class_end q4 q (stR N) (stR_le N) w4.1 w4.2.2.2.2.1 ho
  have h14 : nt (N 6) ≤ 14 := by
    obtain ⟨S, hS, h14, hSn, -⟩ := q.signs
    omega
  have en5 : EnE h5 0 (stA N) := en4.ag q4 q5 (AgS.NB (fun s es => by have := ho s es; omega)) f5 (by decide) (by decide)
  have ag := AgS.toA q
  have a4 := q4.1
  have w4c := w4.wc
  have f45 : Fr stW h h5 := (f4.sub (by decide)).tr (f5.sub (by decide))
  refine ⟨h5, ?_⟩
  generalize stX N = i0 at hi e4 t4 w4c run
  refine ⟨fun i => if i = i0 then cn i + 1 else cn i, q5, en5, by rw [ag 3 (by omega) (by omega)]; exact hp, by rw [ag 5 (by omega) (by omega)]; exact hg, fun i h2 => ?_, fun y => by rw [f5.1 80 1 y (by decide) (a4.b1 (by decide)), b4 1 y (by decide) (by decide)], fun i y u1 u2 => by rw [o5 i y u1, f4.1 323 i y (by decide) (a.s1 u2)], f45, fun z n c j hj hn => ?_⟩
  · show WcE h5 i (if i = i0 then cn i + 1 else cn i) ∧ (if i = i0 then cn i + 1 else cn i) ≤ cn i + 1
    by_cases ci : i = i0
    · subst ci
      rw [if_pos rfl]
      exact ⟨w4c.fr a4 hi f5 (by decide) (by decide), Nat.le_refl _⟩
    · rw [if_neg ci]
      exact ⟨((wc i h2).oth t4 h2 ci).fr a4 h2 f5 (by decide) (by decide), by omega⟩
  · show X11_strangers_g49 (X11_strangers_fam z) 0 (nI n) (nI c) (nI j) h = _
    unfold X11_strangers_g49 X11_strangers_f49
    rw [if_pos (nI_lt hj hn), sh_640 a, e4, cR_some]
    exact run (X11_strangers_fam z) n c j
theorem class_loop {A : (Nat → Int32) → (Nat → Int32)} {Rr : (Nat → Int32) → Wr} (st : ClS A Rr) {h0 : PH} {n : Nat} (hn : n < 2 ^ 31) : ∀ k j c h (N : Nat → Int32) (cn : Nat → Nat), j + k = n → Hs h 0 N → EnE h 0 N → 0 < nt (N 3) → 0 < nt (N 5) → (∀ i, i < 2 → WcE h i (cn i)) → (∀ i, i < 2 → cn i + k < 2 ^ 31) → (∀ y, hI h 80 1 y = hI h0 80 1 y) → (∀ i y, 14 ≤ i → i < 28 → hI h 323 i y = hI h0 323 i y) → Fr stW h0 h → ∃ z h', X11_strangers_fam z 0 (nI n) (nI c) (nI j) h = some (some (.inl (nI (c + itC A Rr k N))), h') ∧ Hs h' 0 (itA A k N) ∧ (∀ i, i < 2 → ∃ c', c' ≤ cn i + k ∧ WcE h' i c') ∧ (∀ y, hI h' 80 1 y = hI h0 80 1 y) ∧ (∀ i y, 14 ≤ i → i < 28 → hI h' 323 i y = hI h0 323 i y) ∧ Fr stW h0 h' := by
  intro k
  induction k with
  | zero =>
    intro j c h N cn e q en hp hg wc hcn o1 o2 f
    refine ⟨1, h, ?_, q, fun i hi => ⟨cn i, by omega, wc i hi⟩, o1, o2, f⟩
    show X11_strangers_g49 (X11_strangers_fam 0) 0 (nI n) (nI c) (nI j) h = _
    unfold X11_strangers_g49 X11_strangers_f49
    rw [if_neg (nI_nlt (by omega) (by omega))]
    rfl
  | succ k ih =>
    intro j c h N cn e q en hp hg wc hcn o1 o2 f
    obtain ⟨h5, cn', q5, en5, hp5, hg5, wc5, p1, p2, f5, run⟩ := st h N cn q en hp hg wc (fun i hi => by have := hcn i hi; omega)
    obtain ⟨z, h', y1, y2, y3, y4, y5, y6⟩ := ih (j + 1) (c + arB (Rr N)) h5 (A N) cn' (by omega) q5 en5 hp5 hg5 (fun i h2 => (wc5 i h2).1) (fun i h2 => by
      have := hcn i h2
      have := (wc5 i h2).2
      omega) (fun y => (p1 y).trans (o1 y)) (fun i y u1 u2 => (p2 i y u1 u2).trans (o2 i y u1 u2)) (f.tr f5)
    refine ⟨z + 1, h', ?_, y2, fun i h2 => ?_, y4, y5, y6⟩
    · rw [run z n c j (by omega) hn, y1, show itC A Rr (k + 1) N = arB (Rr N) + itC A Rr k (A N) from rfl, Nat.add_assoc]
    · obtain ⟨c', u1, u2⟩ := y3 i h2
      have := (wc5 i h2).2
      exact ⟨c', by omega, u2⟩
def MoS (A : (Nat → Int32) → (Nat → Int32)) (Rr : (Nat → Int32) → Wr) (b : Nat) : Prop := ∀ (h : PH) (N : Nat → Int32), SH h → hI h 2624 0 = N → (∃ g, Hs g b N) → 0 < nt (N 3) → 0 < nt (N 5) → (Rr N).1 ≤ 3 ∧ ∃ h', X12_aStranger 0 h = some (none, h') ∧ hI h' 2624 0 = A N ∧ Fr X12_aStranger_W h h' ∧ hI h' 731 0 0 = nI (Rr N).1 ∧ hI h' 732 0 0 = nI (Rr N).2.1 ∧ (∃ g, Hs g b (A N)) ∧ 0 < nt (A N 3) ∧ 0 < nt (A N 5) ∧ AgS N (A N)
theorem model_step (b : Nat) : MoS stA stR b := by
  intro h N a hN ⟨g, q⟩ hp hg
  obtain ⟨h', e1, e2, e3, e4, e5⟩ := model_one a hN q hp hg
  have ag := AgS.toA q
  exact ⟨stR_le N, h', e1, e2, e3, e4, e5, q.toA, by rw [ag 3 (by omega) (by omega)]; exact hp, by rw [ag 5 (by omega) (by omega)]; exact hg, ag⟩
theorem model_loop {A : (Nat → Int32) → (Nat → Int32)} {Rr : (Nat → Int32) → Wr} {b : Nat} (st : MoS A Rr b) {h0 : PH} {n : Nat} (hn : n < 2 ^ 31) : ∀ k j c h (N : Nat → Int32), j + k = n → SH h → hI h 2624 0 = N → (∃ g, Hs g b N) → 0 < nt (N 3) → 0 < nt (N 5) → Fr X12_aStranger_W h0 h → ∃ z h', X12_strangers_fam z 0 (nI n) (nI c) (nI j) h = some (some (.inl (nI (c + itC A Rr k N))), h') ∧ hI h' 2624 0 = itA A k N ∧ Fr X12_aStranger_W h0 h' ∧ AgS N (itA A k N) := by
  intro k
  induction k with
  | zero =>
    intro j c h N e a hN q hp hg f
    refine ⟨1, h, ?_, hN, f, AgS.rf⟩
    show X12_strangers_g38 (X12_strangers_fam 0) 0 (nI n) (nI c) (nI j) h = _
    unfold X12_strangers_g38 X12_strangers_f38
    rw [if_neg (nI_nlt (by omega) (by omega))]
    rfl
  | succ k ih =>
    intro j c h N e a hN q hp hg f
    obtain ⟨hle, h4, e4, n4, f4, w4, -, q4, hp4, hg4, ag⟩ := st h N a hN q hp hg
    have a4 : SH h4 := a.fr f4 (by decide)
    obtain ⟨z, h', y1, y2, y3, y4⟩ := ih (j + 1) (c + arB (Rr N)) h4 (A N) (by omega) a4 n4 q4 hp4 hg4 (f.tr f4)
    refine ⟨z + 1, h', ?_, y2, y3, ag.tr y4⟩
    show X12_strangers_g38 (X12_strangers_fam z) 0 (nI n) (nI c) (nI j) h = _
    unfold X12_strangers_g38 X12_strangers_f38
    have nx : ∀ s0 : Nat, X12_strangers_g61 (X12_strangers_fam z) 0 (nI n) (nI j) (nI s0) (nI c) h4 = X12_strangers_fam z 0 (nI n) (nI (c + s0)) (nI (j + 1)) h4 := fun s0 => by
      show X12_strangers_fam z 0 (nI n) (nI c + nI s0) (nI j + 1) h4 = _
      rw [nI_add, nI_1]
    rw [if_pos (nI_lt (by omega) hn), e4, cV_some, w4, show itC A Rr (k + 1) N = arB (Rr N) + itC A Rr k (A N) from rfl, ← Nat.add_assoc]
    by_cases c1 : (Rr N).1 = 1
    · have eA : arB (Rr N) = 1 := if_pos c1
      rw [eA] at y1 ⊢
      rw [c1, if_pos (show nI 1 = 1 from rfl)]
      exact (nx 1).trans y1
    · have eA : arB (Rr N) = 0 := if_neg c1
      rw [eA] at y1 ⊢
      rw [if_neg (show ¬ nI (Rr N).1 = 1 from fun z => c1 ((nI_eq (b := 1) (by omega) (by omega)).mp z))]
      exact (nx 0).trans y1
def pu2Cols : List Nat := 642 :: 707 :: 2688 :: tapCols ++ shtCols ++ sltCols ++ watCols ++ kysCols
theorem R.put2 {W : List Nat × List Nat × Bool} {m : Nat} {h h' : PH} (r : R m h) (f : Fr W h h') (hw : pu2Cols.all (fun c => !W.1.contains c) = true) (hv : hsRefs.all (fun c => !W.2.1.contains c) = true) (hc : W.2.2 = false) (q0 : Hs h' 0 (hI h' 2624 0)) (k1 : Same h h' 1 hsCols) (hC : Chg h' (nt (hI h' 2624 0 6))) (hk : Wlk (m + 1) h') : R (m + 1) h' := by
  obtain ⟨a, q1, q2, q3, q4, q5, q6, q7, q8, q9, q10⟩ := r
  have sub : ∀ L : List Nat, (∀ c ∈ L, c ∈ pu2Cols) → L.all (fun c => !W.1.contains c) = true := fun L hL => by
    rw [List.all_eq_true] at hw ⊢
    exact fun c hc => hw c (hL c hc)
  have hrT : ∀ b c i j, c ∈ trRefs → i < hN h (c / 64) → (c = 1216 → i = b) → hR h' c i j = hR h c i j := fun _ c i j hc' hi _ => f.2.1 c i j (ninW hv (List.mem_append_right _ hc')) hi
  refine ⟨q0.1, q0, ?_, hC, q4.fr a f (sub tapCols (by decide +kernel)), q5.fr a f (sub shtCols (by decide +kernel)), q6.fr a f (sub sltCols (by decide +kernel)), q7.fr a f (sub watCols (by decide +kernel)), hk, q9.fr a f (sub kysCols (by decide +kernel)), (q10.fr f hc).mono⟩
  have e1 := f.1 642 0 0 (ninW hw (by decide +kernel)) (a.k1 (k := 10) (n := 1) (by decide +kernel) (by decide))
  have e2 := f.1 707 0 0 (ninW hw (by decide +kernel)) a.n11
  have e3 : hI h' 2688 0 = hI h 2688 0 := funext fun j => f.1 2688 0 j (ninW hw (by decide +kernel)) (a.nl (k := 42) (n := 1765) (by decide +kernel))
  unfold Img at q2 ⊢
  rw [e1, e2, e3]
  refine ⟨q2.1, ?_⟩
  rcases q2.2 with c | ⟨c, d⟩
  · exact Or.inl c
  · exact Or.inr ⟨c, d.same q0.1 k1 f.2.2.2.1 (hrT 1) f.2.2.1⟩
def sgW : List Nat × List Nat × Bool := ([515, 1536, 1920, 1984, 80, 323, 516, 521, 523, 524, 525, 526, 527, 2048, 2112, 2176, 2240, 2304, 731, 732, 733, 734, 737, 2624, 3264, 3328, 3392, 3456, 3584, 3648], [193, 513], false)
theorem pair_strangers (m : Nat) (h : PH) (x1 : Int32) (hm : m < 64) (r : R m h) : Pr (R (m + 1)) (X11_strangers 0 x1) (X12_strangers 0 x1) h := by
  have r0 := r
  obtain ⟨a, q, -, q3, -, -, -, -, q8, -⟩ := r
  obtain ⟨Z, hZ, h12, hZn, hZi, h72⟩ := q.places
  obtain ⟨K, hK, h10, hKn, hKi, h74⟩ := q.goals
  by_cases d1 : x1 < 1
  · refine r0.same (v := -1000000001) (X11_strangers_iff.mpr ⟨0, ?_⟩) (X12_strangers_iff.mpr ⟨0, ?_⟩)
    · unfold X11_strangers_g0 X11_strangers_f0
      rw [if_pos d1]
    · unfold X12_strangers_g0 X12_strangers_f0
      rw [X12_in_eq, cI_some, if_pos d1, if_pos rfl]
  by_cases d2 : 60 < x1
  · refine r0.same (v := -1000000001) (X11_strangers_iff.mpr ⟨0, ?_⟩) (X12_strangers_iff.mpr ⟨0, ?_⟩)
    · unfold X11_strangers_g0 X11_strangers_f0
      rw [if_neg d1, if_pos d2]
    · unfold X12_strangers_g0 X12_strangers_f0
      rw [X12_in_eq, cI_some, if_neg d1, if_pos d2, if_pos rfl]
  by_cases d3 : Z = 0
  · subst d3
    refine r0.same (v := -1000000002) (X11_strangers_iff.mpr ⟨0, ?_⟩) (X12_strangers_iff.mpr ⟨0, ?_⟩)
    · unfold X11_strangers_g0 X11_strangers_f0
      rw [if_neg d1, if_neg d2, nnE (sh_640 a), h72, if_pos (show nI 0 = 0 from rfl)]
    · unfold X12_strangers_g0 X12_strangers_f0
      rw [X12_in_eq, cI_some, if_neg d1, if_neg d2, if_neg (by decide), nnE (sh_704 a), ixE (x := 3) (j := 3) (ln_41 a) rfl (by decide) (by decide), hZ, if_pos (show nI 0 = 0 from rfl)]
  have d3' : ¬ nI Z = 0 := fun z => d3 ((nI_eq (b := 0) (by omega) (by omega)).mp z)
  by_cases d4 : K = 0
  · subst d4
    refine r0.same (v := -1000000002) (X11_strangers_iff.mpr ⟨0, ?_⟩) (X12_strangers_iff.mpr ⟨0, ?_⟩)
    · unfold X11_strangers_g0 X11_strangers_f0
      rw [if_neg d1, if_neg d2, nnE (sh_640 a), h72, if_neg d3', nnE (sh_640 a), h74, if_pos (show nI 0 = 0 from rfl)]
    · unfold X12_strangers_g0 X12_strangers_f0
      rw [X12_in_eq, cI_some, if_neg d1, if_neg d2, if_neg (by decide), nnE (sh_704 a), ixE (x := 3) (j := 3) (ln_41 a) rfl (by decide) (by decide), hZ, if_neg d3', nnE (sh_704 a), ixE (x := 5) (j := 5) (ln_41 a) rfl (by decide) (by decide), hK, if_pos (show nI 0 = 0 from rfl)]
  have d4' : ¬ nI K = 0 := fun z => d4 ((nI_eq (b := 0) (by omega) (by omega)).mp z)
  have d0 : ¬ x1 < 0 := fun z => d1 (by rw [i_lt, i0] at z; rw [i_lt, i1]; omega)
  obtain ⟨n, hn31, rfl⟩ := nI_of d0
  have hn60 : n ≤ 60 := by
    rw [i_lt, nI_toInt hn31, show (60 : Int32).toInt = 60 by decide] at d2
    omega
  obtain ⟨h1, e1, f1, en1⟩ := enterBoth_eq q (fun i hi => (q8 i hi).1)
  have q1 := q.fr f1 (by decide +kernel) (by decide +kernel)
  have a1 := q1.1
  have wc : ∀ i, i < 2 → ∃ c, c ≤ 1000 * m ∧ WcE h1 i c := fun i hi => by
    obtain ⟨-, c, u1, u2, u3⟩ := q8 i hi
    exact ⟨c, u1, (show WcE h i c from ⟨u2, u3⟩).fr a hi f1 (by decide) (by decide)⟩
  obtain ⟨c0, k0, w0⟩ := wc 0 (by decide)
  obtain ⟨c1, k1, w1⟩ := wc 1 (by decide)
  obtain ⟨z, h2, y1, y2, y3, y4, y5, y6⟩ := class_loop class_step (h0 := h1) hn31 n 0 0 h1 (hI h 2624 0) (fun i => if i = 0 then c0 else c1) (by omega) q1 en1 (by omega) (by omega) (fun i hi => by
    have : i = 0 ∨ i = 1 := by omega
    rcases this with rfl | rfl
    · exact w0
    · exact w1) (fun i hi => by
    show (if i = 0 then c0 else c1) + n < 2 ^ 31
    split <;> omega) (fun _ => rfl) (fun _ _ _ _ => rfl) Fr.rf
  have a2 := y2.1
  have hN2 : hI h2 2624 0 = hI h 2624 0 := (now_fr a1 y6 (by decide)).trans (now_fr a f1 (by decide))
  obtain ⟨z3, h3, v1, v2, v3, ag⟩ := model_loop (model_step 0) (h0 := h2) hn31 n 0 0 h2 (hI h 2624 0) (by omega) a2 hN2 ⟨h, q⟩ (by omega) (by omega) Fr.rf
  have a3 : SH h3 := a2.fr v3 (by decide)
  have q3' : Hs h3 0 (hI h3 2624 0) := by
    rw [v2]
    exact y2.fr v3 (by decide +kernel) (by decide +kernel)
  have fA : Fr sgW h h3 := ((f1.sub (by decide)).tr (y6.sub (by decide))).tr (v3.sub (by decide))
  refine ⟨nI (itC stA stR n (hI h 2624 0)), h2, h3, X11_strangers_iff.mpr ⟨z, ?_⟩, X12_strangers_iff.mpr ⟨z3, ?_⟩, r0.put2 fA (by decide +kernel) (by decide +kernel) rfl q3' ?_ ?_ ?_⟩
  · unfold X11_strangers_g0 X11_strangers_f0
    rw [if_neg d1, if_neg d2, nnE (sh_640 a), h72, if_neg d3', nnE (sh_640 a), h74, if_neg d4', sh_640 a, show X11_enterBoth 0 1 h = _ from e1, cV_some]
    rw [Nat.zero_add] at y1
    exact y1
  · unfold X12_strangers_g0 X12_strangers_f0
    rw [X12_in_eq, cI_some, if_neg d1, if_neg d2, if_neg (by decide), nnE (sh_704 a2), ixE (x := 3) (j := 3) (ln_41 a2) rfl (by decide) (by decide), hN2, hZ, if_neg d3', nnE (sh_704 a2), ixE (x := 5) (j := 5) (ln_41 a2) rfl (by decide) (by decide), hN2, hK, if_neg d4']
    rw [Nat.zero_add] at v1
    exact v1
  · intro c hc i j hi hb
    by_cases c8 : c = 80
    · subst c8
      have hi1 : i = 1 := hb.2.2 ⟨by decide, by decide, by decide⟩
      subst hi1
      rw [v3.1 80 1 j (by decide) (a2.b1 (by decide)), y4, f1.1 80 1 j (by decide) (a.b1 (by decide))]
    · by_cases c3 : c = 323
      · subst c3
        have := hb.2.1 (by decide)
        rw [v3.1 323 i j (by decide) (a2.s1 (by omega)), y5 i j (by omega) (by omega), f1.1 323 i j (by decide) (a.s1 (by omega))]
      · have e9 : ∀ c ∈ hsCols, c ≠ 80 → c ≠ 323 → sgW.1.contains c = false := by decide +kernel
        exact fA.1 c i j (e9 c hc c8 c3) hi
  · rw [v2, ag 6 (by omega) (by omega)]
    exact q3.fr a fA (by decide +kernel)
  · intro i hi
    obtain ⟨c', u1, u2⟩ := y3 i hi
    have u2 := u2.fr a2 hi v3 (by decide) (by decide)
    have u1 : c' ≤ (if i = 0 then c0 else c1) + n := u1
    have : (if i = 0 then c0 else c1) ≤ 1000 * m := by split <;> omega
    exact ⟨(fA.1 192 i 0 (by decide) (a.n3 hi)).trans (q8 i hi).1, c', by omega, u2.1, u2.2⟩
