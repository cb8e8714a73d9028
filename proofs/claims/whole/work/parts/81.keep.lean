/-! what is kept along a frame -/
theorem ninW {W : List Nat} {L : List Nat} (hw : L.all (fun c => !W.contains c) = true) {c : Nat} (hc : c ∈ L) : W.contains c = false := by
  have := List.all_eq_true.mp hw c hc
  simpa using this
theorem SH.nl {h : PH} (a : SH h) {k i n : Nat} (e : (k, i, n) ∈ lnList) : i < hN h k := (a.2.1 _ e).2
theorem SH.b1 {h : PH} (a : SH h) {b : Nat} (hb : b < 2) : b < hN h 1 := Nat.lt_of_lt_of_le hb (a.n (show (1, 2) ∈ cnList by decide +kernel))
theorem SH.w1 {h : PH} (a : SH h) {i : Nat} (hi : i < 40) : i < hN h 9 := Nat.lt_of_lt_of_le hi (a.n (show (9, 40) ∈ cnList by decide +kernel))
theorem SH.s1 {h : PH} (a : SH h) {i : Nat} (hi : i < 28) : i < hN h 5 := Nat.lt_of_lt_of_le hi (a.n (show (5, 28) ∈ cnList by decide +kernel))
theorem SH.n15 {h : PH} (a : SH h) {i : Nat} (hi : i < 2) : i < hN h 15 := a.nl (n := 96) ((by decide +kernel : ∀ i, i < 2 → (15, i, 96) ∈ lnList) i hi)
theorem SH.n16 {h : PH} (a : SH h) {i : Nat} (hi : i < 2) : i < hN h 16 := a.nl (n := 10) ((by decide +kernel : ∀ i, i < 2 → (16, i, 10) ∈ lnList) i hi)
theorem SH.n17 {h : PH} (a : SH h) {i : Nat} (hi : i < 2) : i < hN h 17 := a.nl (n := 10) ((by decide +kernel : ∀ i, i < 2 → (17, i, 10) ∈ lnList) i hi)
theorem SH.n19 {h : PH} (a : SH h) {i : Nat} (hi : i < 2) : i < hN h 19 := a.nl (n := 14) ((by decide +kernel : ∀ i, i < 2 → (19, i, 14) ∈ lnList) i hi)
theorem SH.n20 {h : PH} (a : SH h) {i : Nat} (hi : i < 2) : i < hN h 20 := a.nl (n := 3) ((by decide +kernel : ∀ i, i < 2 → (20, i, 3) ∈ lnList) i hi)
theorem SH.n21 {h : PH} (a : SH h) {i : Nat} (hi : i < 2) : i < hN h 21 := a.nl (n := 6) ((by decide +kernel : ∀ i, i < 2 → (21, i, 6) ∈ lnList) i hi)
theorem SH.n27 {h : PH} (a : SH h) {i : Nat} (hi : i < 28) : i < hN h 27 := a.nl (n := 6) ((by decide +kernel : ∀ i, i < 28 → (27, i, 6) ∈ lnList) i hi)
theorem SH.n28 {h : PH} (a : SH h) {i : Nat} (hi : i < 28) : i < hN h 28 := a.nl (n := 6) ((by decide +kernel : ∀ i, i < 28 → (28, i, 6) ∈ lnList) i hi)
theorem HRel.fr {W : List Nat × List Nat × Bool} {h h' : PH} {b : Nat} {N : Nat → Int32} (q : HRel h b N) (a : SH h) (hb : b < 2) (f : Fr W h h') (hw : hrCols.all (fun c => !W.1.contains c) = true) : HRel h' b N := by
  have e : ∀ c i j, c ∈ hrCols → i < hN h (c / 64) → hI h' c i j = hI h c i j := fun c i j hc hi => f.1 c i j (ninW hw hc) hi
  obtain ⟨a1, a2, a3, a4, a5, a6⟩ := q
  have hK : (N 4).toInt ≤ 20 := a2.2.1.2
  have hS : (N 6).toInt ≤ 14 := a2.2.2.2.1.2
  refine ⟨?_, a2, ⟨?_, ?_⟩, ?_, ?_, ?_⟩
  · unfold HScal at a1 ⊢
    rw [e 72 b 0 (by decide) (a.b1 hb), e 73 b 0 (by decide) (a.b1 hb), e 74 b 0 (by decide) (a.b1 hb), e 75 b 0 (by decide) (a.b1 hb), e 76 b 0 (by decide) (a.b1 hb), e 77 b 0 (by decide) (a.b1 hb), e 78 b 0 (by decide) (a.b1 hb), e 79 b 0 (by decide) (a.b1 hb), e 80 b 0 (by decide) (a.b1 hb)]
    exact a1
  · intro w hw2
    refine ⟨fun g hg => ?_, (a3.1 w hw2).2⟩
    have m1 : 576 + g ∈ hrCols := (by decide : ∀ g, g < 6 → 576 + g ∈ hrCols) g hg
    have m2 : (576 + g) / 64 = 9 := (by decide : ∀ g, g < 6 → (576 + g) / 64 = 9) g hg
    rw [e (576 + g) _ _ m1 (by rw [m2]; exact a.w1 (by omega))]
    exact (a3.1 w hw2).1 g hg
  · intro p d hp hd
    rw [e 960 b _ (by decide) (a.n15 hb)]
    exact a3.2 p d hp hd
  · intro g hg
    rw [e 1024 b _ (by decide) (a.n16 hb), e 1088 b _ (by decide) (a.n17 hb)]
    exact a4 g hg
  · intro s hs
    obtain ⟨q1, q2, q3, q4, q5, q6, q7, q8, q9, q10⟩ := a5 s hs
    have hi : 14 * b + s < 28 := by omega
    rw [e 320 _ _ (by decide) (a.s1 hi), e 321 _ _ (by decide) (a.s1 hi), e 322 _ _ (by decide) (a.s1 hi), e 323 _ _ (by decide) (a.s1 hi), e 324 _ _ (by decide) (a.s1 hi)]
    refine ⟨q1, q2, q3, q4, q5, q6, q7, q8, q9, fun r hr => ?_⟩
    rw [e 1728 _ _ (by decide) (a.n27 hi), e 1792 _ _ (by decide) (a.n28 hi)]
    exact q10 r hr
  · intro k hk
    rw [e 1344 b _ (by decide) (a.n21 hb)]
    exact a6 k hk
def trCols : List Nat := [448, 449, 1856, 1280]
def trRefs : List Nat := [1216, 450, 451]
theorem TOne.fr {W : List Nat × List Nat × Bool} {h h' : PH} {b t : Nat} {N : Nat → Int32} (q : TOne h b N t) (a : SH h) (hb : b < 2) (f : Fr W h h') (hw : trCols.all (fun c => !W.1.contains c) = true) (hv : trRefs.all (fun c => !W.2.1.contains c) = true) : TOne h' b N t := by
  obtain ⟨T, S, V, key, many, atoms, ⟨r1, r2, r3, r4, r5, r6, r7, r8, r9, r10, r11⟩, q2⟩ := q
  have e : ∀ c i j, c ∈ trCols → i < hN h (c / 64) → hI h' c i j = hI h c i j := fun c i j hc hi => f.1 c i j (ninW hw hc) hi
  have e2 : ∀ c i j, c ∈ trRefs → i < hN h (c / 64) → hR h' c i j = hR h c i j := fun c i j hc hi => f.2.1 c i j (ninW hv hc) hi
  refine ⟨T, S, V, key, many, atoms, ⟨?_, Nat.lt_of_lt_of_le r2 (f.2.2.2.1 _), ?_, ?_, ?_, Nat.lt_of_lt_of_le r6 (f.2.2.2.1 _), ?_, ?_, Nat.lt_of_lt_of_le r9 (f.2.2.2.1 _), ?_, fun j hj => ?_⟩, q2⟩
  · rw [e2 1216 b t (by decide) (a.n19 hb)]; exact r1
  · rw [e 448 T 0 (by decide) r2]; exact r3
  · rw [e 449 T 0 (by decide) r2]; exact r4
  · rw [e2 450 T 0 (by decide) r2]; exact r5
  · rw [f.2.2.1 29 S r6]; exact r7
  · rw [e2 451 T 0 (by decide) r2]; exact r8
  · rw [f.2.2.1 30 V r9]; exact r10
  · rw [e 1856 S j (by decide) r6]; exact r11 j hj
theorem TRel.fr {W : List Nat × List Nat × Bool} {h h' : PH} {b : Nat} {N : Nat → Int32} (q : TRel h b N) (a : SH h) (hb : b < 2) (f : Fr W h h') (hw : trCols.all (fun c => !W.1.contains c) = true) (hv : trRefs.all (fun c => !W.2.1.contains c) = true) : TRel h' b N := by
  obtain ⟨K, t1, t2, t3, t4⟩ := q
  refine ⟨K, t1, t2, fun t ht => (t3 t ht).fr a hb f hw hv, fun key hk => ?_⟩
  rw [f.1 1280 b key (ninW hw (by decide)) (a.n20 hb)]
  exact t4 key hk
