/-! what a change of one house leaves of the rest -/
def instB (c b i : Nat) : Prop := (c / 64 = 9 → 20 * b ≤ i ∧ i < 20 * b + 20) ∧ (c / 64 = 5 ∨ c / 64 = 27 ∨ c / 64 = 28 → 14 * b ≤ i ∧ i < 14 * b + 14) ∧ (¬ c / 64 = 9 ∧ ¬ (c / 64 = 5 ∨ c / 64 = 27 ∨ c / 64 = 28) ∧ ¬ (c / 64 = 7 ∨ c / 64 = 29) → i = b)
def Same (h h' : PH) (b : Nat) (cs : List Nat) : Prop := ∀ c, c ∈ cs → ∀ i j, i < hN h (c / 64) → instB c b i → hI h' c i j = hI h c i j
theorem Same.rf {h : PH} {b : Nat} {cs : List Nat} : Same h h b cs := fun _ _ _ _ _ _ => rfl
theorem Same.pI {h0 h : PH} {b : Nat} {cs : List Nat} (q : Same h0 h b cs) {c i j : Nat} {v : Int32} (hc : c ∈ cs → ¬ instB c b i) : Same h0 (pI h c i j v) b cs := fun c' hc' i' j' hi' hb => by
  rw [hI_pI, if_neg]
  · exact q c' hc' i' j' hi' hb
  · rintro ⟨rfl, rfl, -⟩
    exact hc hc' hb
theorem Same.fr {W : List Nat × List Nat × Bool} {h h' : PH} {b : Nat} {cs : List Nat} (f : Fr W h h') (hw : cs.all (fun c => !W.1.contains c) = true) : Same h h' b cs := fun c hc i j hi _ => f.1 c i j (ninW hw hc) hi
theorem Same.sub {h h' : PH} {b : Nat} {cs ds : List Nat} (q : Same h h' b cs) (hs : ∀ c ∈ ds, c ∈ cs) : Same h h' b ds := fun c hc => q c (hs c hc)
theorem instB_b {c b : Nat} (h : (c / 64 = 9 ∨ c / 64 = 5 ∨ c / 64 = 27 ∨ c / 64 = 28) → False) : instB c b b := ⟨fun e => (h (Or.inl e)).elim, fun e => (h (Or.inr e)).elim, fun _ => rfl⟩
theorem instB_w {c b w : Nat} (hc : c / 64 = 9) (hw : w < 20) : instB c b (20 * b + w) := ⟨fun _ => ⟨by omega, by omega⟩, fun e => by omega, fun e => by omega⟩
theorem instB_s {c b s : Nat} (hc : c / 64 = 5 ∨ c / 64 = 27 ∨ c / 64 = 28) (hs : s < 14) : instB c b (14 * b + s) := ⟨fun e => by omega, fun _ => ⟨by omega, by omega⟩, fun e => (e.2.1 hc).elim⟩
theorem instB_t {c b T : Nat} (hc : c / 64 = 7 ∨ c / 64 = 29) : instB c b T := ⟨fun e => by omega, fun e => by omega, fun e => (e.2.2 hc).elim⟩
def wayCs : List Nat := [576, 577, 578, 579, 580, 581, 960]
def goalCs : List Nat := [1024, 1088]
def signCs : List Nat := [320, 321, 322, 323, 324, 1728, 1792]
theorem HWays.cong {h h' : PH} {b : Nat} {N N' : Nat → Int32} (q : HWays h b N) (a : SH h) (hb : b < 2) (hK : (N 4).toInt ≤ 20) (e4 : N' 4 = N 4) (e : ∀ j, 15 ≤ j → j < 135 → N' j = N j) (h3 : (N 3).toInt ≤ (N' 3).toInt) (s : Same h h' b wayCs) : HWays h' b N' := by
  have ld : ∀ w : Nat, (w : Int) < (N 4).toInt → ∀ p d, leads N' w p d ↔ leads N w p d := fun w hw p d => by
    unfold leads
    rw [e (15 + 6 * w) (by omega) (by omega), e (16 + 6 * w) (by omega) (by omega), e (17 + 6 * w) (by omega) (by omega)]
  refine ⟨fun w hw => ?_, fun p d hp hd => ?_⟩
  · rw [e4] at hw
    obtain ⟨q1, q2, q3, q4, q5, q6, q7, q8⟩ := q.1 w hw
    rw [e (15 + 6 * w) (by omega) (by omega), e (16 + 6 * w) (by omega) (by omega), e (17 + 6 * w) (by omega) (by omega), e (18 + 6 * w) (by omega) (by omega), e (19 + 6 * w) (by omega) (by omega), e (20 + 6 * w) (by omega) (by omega)]
    refine ⟨fun f hf => ?_, ⟨q2.1, by omega⟩, ⟨q3.1, by omega⟩, q4, q5, q6, q7, q8⟩
    have m1 : 576 + f ∈ wayCs := (by decide : ∀ g, g < 6 → 576 + g ∈ wayCs) f hf
    have m2 : (576 + f) / 64 = 9 := (by decide : ∀ g, g < 6 → (576 + g) / 64 = 9) f hf
    rw [e (15 + 6 * w + f) (by omega) (by omega), s (576 + f) m1 _ _ (by rw [m2]; exact a.w1 (by omega)) (instB_w m2 (by omega))]
    exact q1 f hf
  · rw [s 960 (by decide) b _ (a.n15 hb) (instB_b (by decide)), e4]
    rcases q.2 p d hp hd with ⟨c1, c2⟩ | ⟨w, c1, c2, c3, c4⟩
    · exact Or.inl ⟨c1, fun w hw hl => c2 w hw ((ld w hw p d).mp hl)⟩
    · exact Or.inr ⟨w, c1, c2, (ld w c1 p d).mpr c3, fun w2 h2 hl => c4 w2 h2 ((ld w2 h2 p d).mp hl)⟩
theorem HGoals.cong {h h' : PH} {b : Nat} {N N' : Nat → Int32} (q : HGoals h b N) (a : SH h) (hb : b < 2) (hK : (N 5).toInt ≤ 10) (e5 : N' 5 = N 5) (e : ∀ j, 135 ≤ j → j < 155 → N' j = N j) (h3 : (N 3).toInt ≤ (N' 3).toInt) (s : Same h h' b goalCs) : HGoals h' b N' := fun g hg => by
  rw [e5] at hg
  obtain ⟨q1, q2, q3, q4⟩ := q g hg
  rw [e (135 + 2 * g) (by omega) (by omega), e (136 + 2 * g) (by omega) (by omega), s 1024 (by decide) b _ (a.n16 hb) (instB_b (by decide)), s 1088 (by decide) b _ (a.n17 hb) (instB_b (by decide))]
  exact ⟨q1, q2, ⟨q3.1, by omega⟩, q4⟩
theorem HSigns.cong {h h' : PH} {b : Nat} {N N' : Nat → Int32} (q : HSigns h b N) (a : SH h) (hb : b < 2) (hK : (N 6).toInt ≤ 14) (e6 : N' 6 = N 6) (e : ∀ j, 155 ≤ j → j < 393 → N' j = N j) (h3 : (N 3).toInt ≤ (N' 3).toInt) (s : Same h h' b signCs) : HSigns h' b N' := fun t ht => by
  rw [e6] at ht
  obtain ⟨q1, q2, q3, q4, q5, q6, q7, q8, q9, q10⟩ := q t ht
  have hi : 14 * b + t < 28 := by omega
  have i5 : ∀ c, c / 64 = 5 ∨ c / 64 = 27 ∨ c / 64 = 28 → instB c b (14 * b + t) := fun c hc => instB_s hc (by omega)
  rw [e (155 + 5 * t) (by omega) (by omega), e (156 + 5 * t) (by omega) (by omega), e (157 + 5 * t) (by omega) (by omega), e (158 + 5 * t) (by omega) (by omega), e (159 + 5 * t) (by omega) (by omega),
    s 320 (by decide) _ _ (a.s1 hi) (i5 320 (by decide)), s 321 (by decide) _ _ (a.s1 hi) (i5 321 (by decide)), s 322 (by decide) _ _ (a.s1 hi) (i5 322 (by decide)), s 323 (by decide) _ _ (a.s1 hi) (i5 323 (by decide)), s 324 (by decide) _ _ (a.s1 hi) (i5 324 (by decide))]
  refine ⟨q1, q2, q3, q4, q5, ⟨q6.1, by omega⟩, q7, q8, q9, fun r hr => ?_⟩
  obtain ⟨q8a, q8b⟩ := q8
  rw [e (225 + 12 * t + 2 * r) (by omega) (by omega), e (226 + 12 * t + 2 * r) (by omega) (by omega), s 1728 (by decide) _ _ (a.n27 hi) (i5 1728 (by decide)), s 1792 (by decide) _ _ (a.n28 hi) (i5 1792 (by decide))]
  exact q10 r hr
theorem HChosen.cong {h h' : PH} {b : Nat} {N N' : Nat → Int32} (q : HChosen h b N) (a : SH h) (hb : b < 2) (hK : (N 7).toInt ≤ 6) (e7 : N' 7 = N 7) (e : ∀ j, 9 ≤ j → j < 15 → N' j = N j) (h3 : (N 3).toInt ≤ (N' 3).toInt) (s : Same h h' b [1344]) : HChosen h' b N' := fun k hk => by
  rw [e7] at hk
  obtain ⟨q1, q2⟩ := q k hk
  rw [e (9 + k) (by omega) (by omega), s 1344 (by decide) b _ (a.n21 hb) (instB_b (by decide))]
  exact ⟨q1, q2.1, by omega⟩
theorem cntO_cong {N N' : Nat → Int32} {key : Int32} : ∀ {k : Nat}, (∀ t, t < k → N' (393 + 2 * t) = N (393 + 2 * t)) → cntO N' key k = cntO N key k
  | 0, _ => rfl
  | k + 1, h => by
    unfold cntO
    rw [h k (by omega), cntO_cong (fun t ht => h t (by omega))]
theorem TOne.cong {h h' : PH} {b t : Nat} {N N' : Nat → Int32} (q : TOne h b N t) (a : SH h) (hb : b < 2) (ht : t < 14) (e : ∀ j, 393 ≤ j → j < 1765 → N' j = N j) (s : Same h h' b trCols) (hn : ∀ k, hN h k ≤ hN h' k) (hr : ∀ c i j, c ∈ trRefs → i < hN h (c / 64) → (c = 1216 → i = b) → hR h' c i j = hR h c i j) (hl : ∀ k i, i < hN h k → hL h' k i = hL h k i) : TOne h' b N' t := by
  obtain ⟨T, S, V, key, many, atoms, ⟨r1, r2, r3, r4, r5, r6, r7, r8, r9, r10, r11⟩, q2, q3, q4, q5, q6, q7, q8, q9⟩ := q
  have hc : ∀ j, j < 96 → codeT N' t j = codeT N t j := fun j hj => e _ (by omega) (by omega)
  have hwf : ∀ n k d, k + n ≤ 96 → wfD (codeT N t) atoms n k d → wfD (codeT N' t) atoms n k d := by
    intro n
    induction n with
    | zero => intro k d hk h; exact h
    | succ n ih =>
      intro k d hk h
      unfold wfD at h ⊢
      rw [hc k (by omega)]
      rcases h with ⟨h1, h2, h3, h4⟩ | ⟨h1, h2, h3⟩ | ⟨h1, h2, h3⟩
      · exact Or.inl ⟨h1, h2, h3, ih _ _ (by omega) h4⟩
      · exact Or.inr (Or.inl ⟨h1, h2, ih _ _ (by omega) h3⟩)
      · exact Or.inr (Or.inr ⟨h1, h2, ih _ _ (by omega) h3⟩)
  refine ⟨T, S, V, key, many, atoms, ⟨?_, Nat.lt_of_lt_of_le r2 (hn _), ?_, ?_, ?_, Nat.lt_of_lt_of_le r6 (hn _), ?_, ?_, Nat.lt_of_lt_of_le r9 (hn _), ?_, fun j hj => ?_⟩, ?_, q3, q4, ?_, q6, q7, hwf _ _ _ (by omega) q8, fun hk j hj => ?_⟩
  · rw [hr 1216 b t (by decide) (a.n19 hb) (fun _ => rfl)]; exact r1
  · rw [s 448 (by decide) T 0 r2 (instB_t (by decide))]; exact r3
  · rw [s 449 (by decide) T 0 r2 (instB_t (by decide))]; exact r4
  · rw [hr 450 T 0 (by decide) r2 (fun z => absurd z (by decide))]; exact r5
  · rw [hl 29 S r6]; exact r7
  · rw [hr 451 T 0 (by decide) r2 (fun z => absurd z (by decide))]; exact r8
  · rw [hl 30 V r9]; exact r10
  · rw [s 1856 (by decide) S j r6 (instB_t (by decide)), hc j (by omega)]; exact r11 j hj
  · rw [e _ (by omega) (by omega)]; exact q2
  · rw [e _ (by omega) (by omega)]; exact q5
  · rw [hc j (by omega)]; exact q9 hk j hj
theorem TRel.cong {h h' : PH} {b : Nat} {N N' : Nat → Int32} (q : TRel h b N) (a : SH h) (hb : b < 2) (e8 : N' 8 = N 8) (e : ∀ j, 393 ≤ j → j < 1765 → N' j = N j) (s : Same h h' b trCols) (hn : ∀ k, hN h k ≤ hN h' k) (hr : ∀ c i j, c ∈ trRefs → i < hN h (c / 64) → (c = 1216 → i = b) → hR h' c i j = hR h c i j) (hl : ∀ k i, i < hN h k → hL h' k i = hL h k i) : TRel h' b N' := by
  obtain ⟨K, t1, t2, t3, t4⟩ := q
  refine ⟨K, e8.trans t1, t2, fun t ht => (t3 t ht).cong a hb (by omega) e s hn hr hl, fun key hk => ?_⟩
  rw [s 1280 (by decide) b _ (a.n20 hb) (instB_b (by decide)), cntO_cong (fun t ht => e _ (by omega) (by omega))]
  exact t4 key hk
theorem HScal.cong {h h' : PH} {b : Nat} {N : Nat → Int32} (q : HScal h b N) (a : SH h) (hb : b < 2) (s : Same h h' b [72, 73, 74, 75, 76, 77, 78, 79, 80]) : HScal h' b N := by
  unfold HScal at q ⊢
  rw [s 72 (by decide) b 0 (a.b1 hb) (instB_b (by decide)), s 73 (by decide) b 0 (a.b1 hb) (instB_b (by decide)), s 74 (by decide) b 0 (a.b1 hb) (instB_b (by decide)), s 75 (by decide) b 0 (a.b1 hb) (instB_b (by decide)), s 76 (by decide) b 0 (a.b1 hb) (instB_b (by decide)), s 77 (by decide) b 0 (a.b1 hb) (instB_b (by decide)), s 78 (by decide) b 0 (a.b1 hb) (instB_b (by decide)), s 79 (by decide) b 0 (a.b1 hb) (instB_b (by decide)), s 80 (by decide) b 0 (a.b1 hb) (instB_b (by decide))]
  exact q
/-- a house that is left alone -/
theorem Hs.same {h h' : PH} {b : Nat} {N : Nat → Int32} (q : Hs h b N) (a' : SH h') (s : Same h h' b hsCols) (hn : ∀ k, hN h k ≤ hN h' k) (hr : ∀ c i j, c ∈ trRefs → i < hN h (c / 64) → (c = 1216 → i = b) → hR h' c i j = hR h c i j) (hl : ∀ k i, i < hN h k → hL h' k i = hL h k i) : Hs h' b N := by
  obtain ⟨a, hb, ⟨q1, q2, q3, q4, q5, q6⟩, t⟩ := q
  exact ⟨a', hb, ⟨q1.cong a hb (s.sub (by decide +kernel)), q2, q3.cong a hb q2.2.1.2 rfl (fun _ _ _ => rfl) (by omega) (s.sub (by decide +kernel)), q4.cong a hb q2.2.2.1.2 rfl (fun _ _ _ => rfl) (by omega) (s.sub (by decide +kernel)), q5.cong a hb q2.2.2.2.1.2 rfl (fun _ _ _ => rfl) (by omega) (s.sub (by decide +kernel)), q6.cong a hb q2.2.2.2.2.2.1.2 rfl (fun _ _ _ => rfl) (by omega) (s.sub (by decide +kernel))⟩, t.cong a hb rfl (fun _ _ _ => rfl) (s.sub (by decide +kernel)) hn hr hl⟩
def putCols : List Nat := 642 :: 707 :: 2688 :: tapCols ++ shtCols ++ sltCols ++ watCols ++ kysCols ++ wlkCols
/-- the house in use changes, the rest stays -/
theorem R.put {W : List Nat × List Nat × Bool} {m : Nat} {h h' : PH} (r : R m h) (f : Fr W h h') (hw : putCols.all (fun c => !W.1.contains c) = true) (hv : hsRefs.all (fun c => !W.2.1.contains c) = true) (hc : W.2.2 = false) (q0 : HRel h' 0 (hI h' 2624 0)) (t0 : TRel h' 0 (hI h' 2624 0)) (k1 : Same h h' 1 hsCols) (hC : Chg h' (nt (hI h' 2624 0 6))) : R (m + 1) h' := by
  obtain ⟨a, q1, q2, q3, q4, q5, q6, q7, q8, q9, q10⟩ := r
  have sub : ∀ L : List Nat, (∀ c ∈ L, c ∈ putCols) → L.all (fun c => !W.1.contains c) = true := fun L hL => by
    rw [List.all_eq_true] at hw ⊢
    exact fun c hc => hw c (hL c hc)
  have hvS : W.2.1.all (fun c => !shCols.contains c) = true := by
    rw [List.all_eq_true]
    intro c hc'
    cases e : shCols.contains c with
    | false => rfl
    | true =>
      have := List.all_eq_true.mp hv c (List.mem_append_left _ (by rw [← List.contains_iff_mem]; exact e))
      rw [List.contains_iff_mem.mpr hc'] at this
      cases this
  have a' : SH h' := a.fr f hvS
  have hrT : ∀ b c i j, c ∈ trRefs → i < hN h (c / 64) → (c = 1216 → i = b) → hR h' c i j = hR h c i j := fun _ c i j hc' hi _ => f.2.1 c i j (ninW hv (List.mem_append_right _ hc')) hi
  refine ⟨a', ⟨a', by decide, q0, t0⟩, ?_, hC, q4.fr a f (sub tapCols (by decide +kernel)), q5.fr a f (sub shtCols (by decide +kernel)), q6.fr a f (sub sltCols (by decide +kernel)), q7.fr a f (sub watCols (by decide +kernel)), (q8.fr a f (sub wlkCols (by decide +kernel))).mono, q9.fr a f (sub kysCols (by decide +kernel)), (q10.fr f hc).mono⟩
  have e1 := f.1 642 0 0 (ninW hw (by decide +kernel)) (a.k1 (k := 10) (n := 1) (by decide +kernel) (by decide))
  have e2 := f.1 707 0 0 (ninW hw (by decide +kernel)) a.n11
  have e3 : hI h' 2688 0 = hI h 2688 0 := funext fun j => f.1 2688 0 j (ninW hw (by decide +kernel)) (a.nl (k := 42) (n := 1765) (by decide +kernel))
  unfold Img at q2 ⊢
  rw [e1, e2, e3]
  refine ⟨q2.1, ?_⟩
  rcases q2.2 with c | ⟨c, d⟩
  · exact Or.inl c
  · exact Or.inr ⟨c, d.same a' k1 f.2.2.2.1 (hrT 1) f.2.2.1⟩
