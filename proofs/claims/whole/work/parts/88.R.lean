/-! the whole relation -/
def Img (h : PH) : Prop := hI h 642 0 0 = hI h 707 0 0 ∧ (hI h 707 0 0 = 0 ∨ (hI h 707 0 0 = 1 ∧ Hs h 1 (hI h 2688 0)))
/-- the k-th change from behind, of n: the class's in a ring, the model's in a row -/
def ChgOne (h : PH) (S rho blk : Nat) : Prop := ∀ s, s < S → ∃ cnt, cnt ≤ 6 ∧ hI h 832 rho (7 * s) = nI cnt ∧ hI h 2816 0 (182 * blk + s) = nI cnt ∧ ∀ r, r < cnt → ∃ nm ar, nm < 14 ∧ ar < 8 ∧ hI h 832 rho (7 * s + 1 + r) = nI (8 * nm + ar) ∧ hI h 2816 0 (182 * blk + 14 + 12 * s + 2 * r) = nI nm ∧ hI h 2816 0 (182 * blk + 15 + 12 * s + 2 * r) = nI ar
def Chg (h : PH) (S : Nat) : Prop := ∃ n l, n ≤ 16 ∧ l < 16 ∧ hI h 2 0 0 = nI n ∧ hI h 709 0 0 = nI n ∧ hI h 1 0 0 = nI l ∧ ∀ k, k < n → ChgOne h S ((l + 16 - k) % 16) (n - 1 - k)
def Tape (h : PH) : Prop := ∃ L, L ≤ 96 ∧ hI h 129 0 0 = nI L ∧ hI h 711 0 0 = nI L ∧ ∀ j, j < L → hI h 2880 0 j = (hI h 1408 0 j &&& 255) ∧ rgI (hI h 1408 0 j) (-128) 127
def Shts (h : PH) : Prop := ∀ s, s < 4 → hI h 256 s 0 = hI h 3968 0 s ∧ hI h 257 s 0 = hI h 4032 0 s ∧ rgI (hI h 3968 0 s) (-1) 1 ∧ rgI (hI h 4032 0 s) 0 24 ∧ ∀ k, k < 24 → hI h 1664 s k = hI h 4096 0 (24 * s + k)
def Slts (h : PH) : Prop := ∀ t, t < 5 → hI h 384 t 0 = hI h 4160 0 t ∧ rgI (hI h 4160 0 t) 0 3 ∧ (hI h 4160 0 t = 1 → hI h 385 t 0 = hI h 4224 0 t ∧ hI h 386 t 0 = hI h 4288 0 t ∧ rgI (hI h 4224 0 t) 0 5) ∧ (hI h 4160 0 t = 2 → hI h 257 (4 + t) 0 = hI h 4224 0 t ∧ rgI (hI h 4224 0 t) 0 24 ∧ ∀ k, k < 24 → hI h 1664 (4 + t) k = hI h 4352 0 (24 * t + k)) ∧ (hI h 4160 0 t = 3 → hI h 387 t 0 = hI h 4224 0 t)
def Wait (h : PH) : Prop := ∃ n, n ≤ 60 ∧ hI h 649 0 0 = nI n ∧ hI h 754 0 0 = nI n ∧ ∀ j, j < n → hI h 2560 0 j = hI h 4480 0 j
def Wlk (m : Nat) (h : PH) : Prop := ∀ i, i < 2 → hI h 192 i 0 = nI i ∧ ∃ c, c ≤ 1000 * m ∧ hI h 521 i 0 = nI c ∧ ∀ j, j < 96 → ∃ c', c' ≤ c ∧ hI h 2240 i j = nI c'
def keyL (j : Nat) : Int32 := if j = 0 then 108 else if j = 1 then 105 else if j = 2 then 103 else if j = 3 then 104 else if j = 4 then 116 else if j = 5 then 103 else if j = 6 then 97 else if j = 7 then 116 else if j = 8 then 101 else if j = 9 then 111 else if j = 10 then 98 else if j = 11 then 101 else 121
def keyA (j : Nat) : Int32 := if j = 0 then 0 else if j = 1 then 5 else if j = 2 then 9 else 13
def Kys (h : PH) : Prop := (∀ j, j < 13 → hI h 2944 0 j = keyL j) ∧ ∀ j, j < 4 → hI h 3008 0 j = keyA j
def Cst (m : Nat) (h : PH) : Prop := hC h ≤ 2000 + 3 * m ∧ hS h ≤ 60000 + 400 * m
def R (m : Nat) (h : PH) : Prop := SH h ∧ Hs h 0 (hI h 2624 0) ∧ Img h ∧ Chg h (nt (hI h 2624 0 6)) ∧ Tape h ∧ Shts h ∧ Slts h ∧ Wait h ∧ Wlk m h ∧ Kys h ∧ Cst m h
def imgCols : List Nat := 642 :: 707 :: 2688 :: hsCols
def chgCols : List Nat := [1, 2, 709, 832, 2816]
def tapCols : List Nat := [129, 711, 1408, 2880]
def shtCols : List Nat := [256, 257, 1664, 3968, 4032, 4096]
def sltCols : List Nat := [257, 384, 385, 386, 387, 1664, 4160, 4224, 4288, 4352]
def watCols : List Nat := [649, 754, 2560, 4480]
def wlkCols : List Nat := [192, 521, 2240]
def kysCols : List Nat := [2944, 3008]
theorem SH.k1 {h : PH} (a : SH h) {k i n : Nat} (e : (k, n) ∈ cnList) (hi : i < n) : i < hN h k := Nat.lt_of_lt_of_le hi (a.n e)
theorem Img.fr {W : List Nat × List Nat × Bool} {h h' : PH} (q : Img h) (a : SH h) (f : Fr W h h') (hw : imgCols.all (fun c => !W.1.contains c) = true) (hv : hsRefs.all (fun c => !W.2.1.contains c) = true) : Img h' := by
  have e : ∀ c i j, c ∈ imgCols → i < hN h (c / 64) → hI h' c i j = hI h c i j := fun c i j hc hi => f.1 c i j (ninW hw hc) hi
  have e1 := e 642 0 0 (by decide) (a.k1 (k := 10) (n := 1) (by decide +kernel) (by decide))
  have e2 := e 707 0 0 (by decide) (a.k1 (k := 11) (n := 1) (by decide +kernel) (by decide))
  have e3 : hI h' 2688 0 = hI h 2688 0 := funext fun j => e 2688 0 j (by decide) (a.nl (k := 42) (n := 1765) (by decide +kernel))
  unfold Img at q ⊢
  rw [e1, e2, e3]
  refine ⟨q.1, ?_⟩
  rcases q.2 with c | ⟨c, d⟩
  · exact Or.inl c
  · refine Or.inr ⟨c, d.fr f ?_ hv⟩
    rw [List.all_eq_true] at hw ⊢
    intro c hc
    exact hw c (List.mem_cons_of_mem _ (List.mem_cons_of_mem _ (List.mem_cons_of_mem _ hc)))
theorem Chg.fr {W : List Nat × List Nat × Bool} {h h' : PH} {S : Nat} (q : Chg h S) (a : SH h) (f : Fr W h h') (hw : chgCols.all (fun c => !W.1.contains c) = true) : Chg h' S := by
  have e : ∀ c i j, c ∈ chgCols → i < hN h (c / 64) → hI h' c i j = hI h c i j := fun c i j hc hi => f.1 c i j (ninW hw hc) hi
  have n0 : 0 < hN h 0 := a.k1 (k := 0) (n := 1) (by decide +kernel) (by decide)
  have n11 : 0 < hN h 11 := a.k1 (k := 11) (n := 1) (by decide +kernel) (by decide)
  have n44 : 0 < hN h 44 := a.nl (k := 44) (n := 2912) (by decide +kernel)
  have n13 : ∀ i, i < 16 → i < hN h 13 := fun i hi => a.nl (k := 13) (n := 98) ((by decide +kernel : ∀ i, i < 16 → (13, i, 98) ∈ lnList) i hi)
  obtain ⟨n, l, q1, q2, q3, q4, q5, q6⟩ := q
  refine ⟨n, l, q1, q2, ?_, ?_, ?_, fun k hk s hs => ?_⟩
  · rw [e 2 0 0 (by decide) n0]; exact q3
  · rw [e 709 0 0 (by decide) n11]; exact q4
  · rw [e 1 0 0 (by decide) n0]; exact q5
  · obtain ⟨cnt, c1, c2, c3, c4⟩ := q6 k hk s hs
    have hr : (l + 16 - k) % 16 < hN h 13 := n13 _ (Nat.mod_lt _ (by decide))
    refine ⟨cnt, c1, ?_, ?_, fun r hr2 => ?_⟩
    · rw [e 832 _ _ (by decide) hr]; exact c2
    · rw [e 2816 0 _ (by decide) n44]; exact c3
    · obtain ⟨nm, ar, d1, d2, d3, d4, d5⟩ := c4 r hr2
      refine ⟨nm, ar, d1, d2, ?_, ?_, ?_⟩
      · rw [e 832 _ _ (by decide) hr]; exact d3
      · rw [e 2816 0 _ (by decide) n44]; exact d4
      · rw [e 2816 0 _ (by decide) n44]; exact d5
theorem Tape.fr {W : List Nat × List Nat × Bool} {h h' : PH} (q : Tape h) (a : SH h) (f : Fr W h h') (hw : tapCols.all (fun c => !W.1.contains c) = true) : Tape h' := by
  have e : ∀ c i j, c ∈ tapCols → i < hN h (c / 64) → hI h' c i j = hI h c i j := fun c i j hc hi => f.1 c i j (ninW hw hc) hi
  obtain ⟨L, q1, q2, q3, q4⟩ := q
  refine ⟨L, q1, ?_, ?_, fun j hj => ?_⟩
  · rw [e 129 0 0 (by decide) (a.k1 (k := 2) (n := 1) (by decide +kernel) (by decide))]; exact q2
  · rw [e 711 0 0 (by decide) (a.k1 (k := 11) (n := 1) (by decide +kernel) (by decide))]; exact q3
  · rw [e 2880 0 j (by decide) (a.nl (k := 45) (n := 96) (by decide +kernel)), e 1408 0 j (by decide) (a.nl (k := 22) (n := 96) (by decide +kernel))]
    exact q4 j hj
theorem SH.n26 {h : PH} (a : SH h) {i : Nat} (hi : i < 9) : i < hN h 26 := a.nl (n := 24) ((by decide +kernel : ∀ i, i < 9 → (26, i, 24) ∈ lnList) i hi)
theorem SH.n4 {h : PH} (a : SH h) {i : Nat} (hi : i < 9) : i < hN h 4 := a.k1 (k := 4) (n := 9) (by decide +kernel) hi
theorem Shts.fr {W : List Nat × List Nat × Bool} {h h' : PH} (q : Shts h) (a : SH h) (f : Fr W h h') (hw : shtCols.all (fun c => !W.1.contains c) = true) : Shts h' := by
  have e : ∀ c i j, c ∈ shtCols → i < hN h (c / 64) → hI h' c i j = hI h c i j := fun c i j hc hi => f.1 c i j (ninW hw hc) hi
  intro s hs
  obtain ⟨q1, q2, q3, q4, q5⟩ := q s hs
  rw [e 256 s 0 (by decide) (a.n4 (by omega)), e 257 s 0 (by decide) (a.n4 (by omega)), e 3968 0 s (by decide) (a.nl (k := 62) (n := 4) (by decide +kernel)), e 4032 0 s (by decide) (a.nl (k := 63) (n := 4) (by decide +kernel))]
  refine ⟨q1, q2, q3, q4, fun k hk => ?_⟩
  rw [e 1664 s k (by decide) (a.n26 (by omega)), e 4096 0 _ (by decide) (a.nl (k := 64) (n := 96) (by decide +kernel))]
  exact q5 k hk
theorem Slts.fr {W : List Nat × List Nat × Bool} {h h' : PH} (q : Slts h) (a : SH h) (f : Fr W h h') (hw : sltCols.all (fun c => !W.1.contains c) = true) : Slts h' := by
  have e : ∀ c i j, c ∈ sltCols → i < hN h (c / 64) → hI h' c i j = hI h c i j := fun c i j hc hi => f.1 c i j (ninW hw hc) hi
  intro t ht
  obtain ⟨q1, q2, q3, q4, q5⟩ := q t ht
  have n6 : t < hN h 6 := a.k1 (k := 6) (n := 5) (by decide +kernel) ht
  rw [e 384 t 0 (by decide) n6, e 385 t 0 (by decide) n6, e 386 t 0 (by decide) n6, e 387 t 0 (by decide) n6, e 4160 0 t (by decide) (a.nl (k := 65) (n := 5) (by decide +kernel)), e 4224 0 t (by decide) (a.nl (k := 66) (n := 5) (by decide +kernel)), e 4288 0 t (by decide) (a.nl (k := 67) (n := 5) (by decide +kernel)), e 257 (4 + t) 0 (by decide) (a.n4 (by omega))]
  refine ⟨q1, q2, q3, fun h2 => ?_, q5⟩
  obtain ⟨d1, d2, d3⟩ := q4 h2
  refine ⟨d1, d2, fun k hk => ?_⟩
  rw [e 1664 (4 + t) k (by decide) (a.n26 (by omega)), e 4352 0 _ (by decide) (a.nl (k := 68) (n := 120) (by decide +kernel))]
  exact d3 k hk
theorem Wait.fr {W : List Nat × List Nat × Bool} {h h' : PH} (q : Wait h) (a : SH h) (f : Fr W h h') (hw : watCols.all (fun c => !W.1.contains c) = true) : Wait h' := by
  have e : ∀ c i j, c ∈ watCols → i < hN h (c / 64) → hI h' c i j = hI h c i j := fun c i j hc hi => f.1 c i j (ninW hw hc) hi
  obtain ⟨n, q1, q2, q3, q4⟩ := q
  refine ⟨n, q1, ?_, ?_, fun j hj => ?_⟩
  · rw [e 649 0 0 (by decide) (a.k1 (k := 10) (n := 1) (by decide +kernel) (by decide))]; exact q2
  · rw [e 754 0 0 (by decide) (a.k1 (k := 11) (n := 1) (by decide +kernel) (by decide))]; exact q3
  · rw [e 2560 0 j (by decide) (a.nl (k := 40) (n := 60) (by decide +kernel)), e 4480 0 j (by decide) (a.nl (k := 70) (n := 60) (by decide +kernel))]
    exact q4 j hj
theorem SH.n35 {h : PH} (a : SH h) {i : Nat} (hi : i < 2) : i < hN h 35 := a.nl (n := 96) ((by decide +kernel : ∀ i, i < 2 → (35, i, 96) ∈ lnList) i hi)
theorem SH.n8 {h : PH} (a : SH h) {i : Nat} (hi : i < 2) : i < hN h 8 := a.k1 (k := 8) (n := 2) (by decide +kernel) hi
theorem Wlk.fr {W : List Nat × List Nat × Bool} {h h' : PH} {m : Nat} (q : Wlk m h) (a : SH h) (f : Fr W h h') (hw : wlkCols.all (fun c => !W.1.contains c) = true) : Wlk m h' := by
  have e : ∀ c i j, c ∈ wlkCols → i < hN h (c / 64) → hI h' c i j = hI h c i j := fun c i j hc hi => f.1 c i j (ninW hw hc) hi
  intro i hi
  obtain ⟨q1, c, q2, q3, q4⟩ := q i hi
  rw [e 192 i 0 (by decide) (a.n3 hi), e 521 i 0 (by decide) (a.n8 hi)]
  refine ⟨q1, c, q2, q3, fun j hj => ?_⟩
  rw [e 2240 i j (by decide) (a.n35 hi)]
  exact q4 j hj
theorem Kys.fr {W : List Nat × List Nat × Bool} {h h' : PH} (q : Kys h) (a : SH h) (f : Fr W h h') (hw : kysCols.all (fun c => !W.1.contains c) = true) : Kys h' := by
  have e : ∀ c i j, c ∈ kysCols → i < hN h (c / 64) → hI h' c i j = hI h c i j := fun c i j hc hi => f.1 c i j (ninW hw hc) hi
  refine ⟨fun j hj => ?_, fun j hj => ?_⟩
  · rw [e 2944 0 j (by decide) (a.nl (k := 46) (n := 13) (by decide +kernel))]; exact q.1 j hj
  · rw [e 3008 0 j (by decide) (a.nl (k := 47) (n := 4) (by decide +kernel))]; exact q.2 j hj
theorem Cst.fr {W : List Nat × List Nat × Bool} {h h' : PH} {m : Nat} (q : Cst m h) (f : Fr W h h') (hw : W.2.2 = false) : Cst m h' := by
  have e := f.2.2.2.2 hw
  unfold Cst hC hS at *
  rw [e]
  exact q
theorem Wlk.mono {m : Nat} {h : PH} (q : Wlk m h) : Wlk (m + 1) h := fun i hi => by
  obtain ⟨q1, c, q2, q3, q4⟩ := q i hi
  exact ⟨q1, c, by omega, q3, q4⟩
theorem Cst.mono {m : Nat} {h : PH} (q : Cst m h) : Cst (m + 1) h := ⟨by have := q.1; omega, by have := q.2; omega⟩
theorem R.mono {m : Nat} {h : PH} (q : R m h) : R (m + 1) h := by
  obtain ⟨a, q1, q2, q3, q4, q5, q6, q7, q8, q9, q10⟩ := q
  exact ⟨a, q1, q2, q3, q4, q5, q6, q7, q8.mono, q9, q10.mono⟩
/-- all columns of the relation but the walkers' -/
def rCols : List Nat := 2624 :: imgCols ++ chgCols ++ tapCols ++ shtCols ++ sltCols ++ watCols ++ kysCols
theorem R.keep {W : List Nat × List Nat × Bool} {m : Nat} {h h' : PH} (q : R m h) (f : Fr W h h') (hw : rCols.all (fun c => !W.1.contains c) = true) (hv : hsRefs.all (fun c => !W.2.1.contains c) = true) (hc : W.2.2 = false) (hk : Wlk m h → Wlk (m + 1) h') : R (m + 1) h' := by
  obtain ⟨a, q1, q2, q3, q4, q5, q6, q7, q8, q9, q10⟩ := q
  have sub : ∀ L : List Nat, (∀ c ∈ L, c ∈ rCols) → L.all (fun c => !W.1.contains c) = true := fun L hL => by
    rw [List.all_eq_true] at hw ⊢
    exact fun c hc => hw c (hL c hc)
  have s1 := sub hsCols (by decide +kernel)
  have hN : hI h' 2624 0 = hI h 2624 0 := now_fr a f (ninW hw (by decide +kernel))
  unfold R
  rw [hN]
  have q1' := q1.fr f s1 hv
  exact ⟨q1'.1, q1', q2.fr a f (sub imgCols (by decide +kernel)) hv, q3.fr a f (sub chgCols (by decide +kernel)), q4.fr a f (sub tapCols (by decide +kernel)), q5.fr a f (sub shtCols (by decide +kernel)), q6.fr a f (sub sltCols (by decide +kernel)), q7.fr a f (sub watCols (by decide +kernel)), hk q8, q9.fr a f (sub kysCols (by decide +kernel)), (q10.fr f hc).mono⟩
