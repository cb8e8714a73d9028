def Lk (h h' : PH) (d s : Nat) (N : Nat → Int32) : Prop :=
  (∀ w, w < nt (N 4) → ∀ c, c ∈ wyC6 → hI h' c (20 * d + w) 0 = hI h c (20 * s + w) 0) ∧
  (∀ t, t < nt (N 6) → (∀ c, c ∈ sgC5 → hI h' c (14 * d + t) 0 = hI h c (14 * s + t) 0) ∧ ∀ j, j < 6 → hI h' 1728 (14 * d + t) j = hI h 1728 (14 * s + t) j ∧ hI h' 1792 (14 * d + t) j = hI h 1792 (14 * s + t) j) ∧
  (∀ t, t < nt (N 8) → hR h' 1216 d t = hR h 1216 s t) ∧
  (∀ c n, (c, n) ∈ fnA → ∀ j, j < n → hI h' c d j = hI h c s j) ∧
  ∀ c, 72 ≤ c → c ≤ 80 → hI h' c d 0 = hI h c s 0
theorem Hs.texts {h : PH} {b : Nat} {N : Nat → Int32} (q : Hs h b N) : ∃ K, N 8 = nI K ∧ K ≤ 14 ∧ nt (N 8) = K ∧ hI h 76 b 0 = nI K := by
  obtain ⟨K, t1, t2, -⟩ := q.2.2.2
  refine ⟨K, t1, t2, by rw [t1, nt_nI (by omega)], ?_⟩
  rw [q.2.2.1.1.2.2.2.2.1, t1]
theorem Hs.like {h h' : PH} {d s : Nat} {N : Nat → Int32} (q : Hs h s N) (hd : d < 2) (a' : SH h') (f : Fr X1_becomeLike_W h h') (L : Lk h h' d s N) : Hs h' d N := by
  obtain ⟨a, hs, ⟨q1, q2, q3, q4, q5, q6⟩, t⟩ := q
  obtain ⟨l1, l2, l3, l4, l5⟩ := L
  have l1 : ∀ w : Nat, (w : Int) < (N 4).toInt → ∀ c, c ∈ wyC6 → hI h' c (20 * d + w) 0 = hI h c (20 * s + w) 0 := fun w hw => l1 w (by unfold nt; omega)
  have l2 : ∀ t : Nat, (t : Int) < (N 6).toInt → (∀ c, c ∈ sgC5 → hI h' c (14 * d + t) 0 = hI h c (14 * s + t) 0) ∧ ∀ j, j < 6 → hI h' 1728 (14 * d + t) j = hI h 1728 (14 * s + t) j ∧ hI h' 1792 (14 * d + t) j = hI h 1792 (14 * s + t) j := fun w hw => l2 w (by unfold nt; omega)
  refine ⟨a', hd, ⟨?_, q2, ⟨fun w hw => ?_, fun p e hp he => ?_⟩, fun g hg => ?_, fun t' ht' => ?_, fun k hk => ?_⟩, ?_⟩
  · unfold HScal at q1 ⊢
    rw [l5 72 (by omega) (by omega), l5 73 (by omega) (by omega), l5 74 (by omega) (by omega), l5 75 (by omega) (by omega), l5 76 (by omega) (by omega), l5 77 (by omega) (by omega), l5 78 (by omega) (by omega), l5 79 (by omega) (by omega), l5 80 (by omega) (by omega)]
    exact q1
  · obtain ⟨w1, w2⟩ := q3.1 w hw
    have e6 : ∀ f, f < 6 → 576 + f ∈ wyC6 := by decide
    exact ⟨fun f hf => by rw [l1 w hw _ (e6 f hf)]; exact w1 f hf, w2⟩
  · rw [l4 960 96 (by decide) (8 * p + e) (by omega)]
    exact q3.2 p e hp he
  · have g10 : g < 10 := by have := q2.2.2.1.2; omega
    rw [l4 1024 10 (by decide) g g10, l4 1088 10 (by decide) g g10]
    exact q4 g hg
  · obtain ⟨m1, m2⟩ := l2 t' ht'
    obtain ⟨p1, p2, p3, p4, p5, p6, p7, p8, p9, p10⟩ := q5 t' ht'
    rw [m1 320 (by decide), m1 321 (by decide), m1 322 (by decide), m1 323 (by decide), m1 324 (by decide)]
    refine ⟨p1, p2, p3, p4, p5, p6, p7, p8, p9, fun r hr => ?_⟩
    have r6 : r < 6 := by have := p8.2; omega
    rw [(m2 r r6).1, (m2 r r6).2]
    exact p10 r hr
  · have k6 : k < 6 := by have := q2.2.2.2.2.2.1.2; omega
    rw [l4 1344 6 (by decide) k k6]
    exact q6 k hk
  · obtain ⟨K, t1, t2, t3, t4⟩ := t
    refine ⟨K, t1, t2, fun t' ht' => ?_, fun key hk => ?_⟩
    · obtain ⟨T, S, V, key, many, atoms, ⟨r1, r2, r3, r4, r5, r6, r7, r8, r9, r10, r11⟩, rest⟩ := t3 t' ht'
      refine ⟨T, S, V, key, many, atoms, ⟨?_, Nat.lt_of_lt_of_le r2 (f.2.2.2.1 _), ?_, ?_, ?_, Nat.lt_of_lt_of_le r6 (f.2.2.2.1 _), ?_, ?_, Nat.lt_of_lt_of_le r9 (f.2.2.2.1 _), ?_, fun j hj => ?_⟩, rest⟩
      · rw [l3 t' (by rw [t1, nt_nI (by omega)]; exact ht')]; exact r1
      · rw [f.1 448 T 0 (by decide) r2]; exact r3
      · rw [f.1 449 T 0 (by decide) r2]; exact r4
      · rw [f.2.1 450 T 0 (by decide) r2]; exact r5
      · rw [f.2.2.1 29 S r6]; exact r7
      · rw [f.2.1 451 T 0 (by decide) r2]; exact r8
      · rw [f.2.2.1 30 V r9]; exact r10
      · rw [f.1 1856 S j (by decide) r6]; exact r11 j hj
    · rw [l4 1280 3 (by decide) key hk]
      exact t4 key hk
section
variable {h0 : PH} {d s : Nat} {N : Nat → Int32}
theorem like_1 (q : Hs h0 s N) (hd : d < 2) (hds : d ≠ s) : ∀ k w h, w + k = nt (N 4) → Fr bwW h0 h → (∀ w', w' < w → ∀ c, c ∈ wyC6 → hI h c (20 * d + w') 0 = hI h0 c (20 * s + w') 0) → (∀ c i j, ¬ (20 * d ≤ i ∧ i < 20 * d + 20) → hI h c i j = hI h0 c i j) → ∃ h1, Fr bwW h0 h1 ∧ (∀ w', w' < nt (N 4) → ∀ c, c ∈ wyC6 → hI h1 c (20 * d + w') 0 = hI h0 c (20 * s + w') 0) ∧ (∀ c i j, ¬ (20 * d ≤ i ∧ i < 20 * d + 20) → hI h1 c i j = hI h0 c i j) ∧ ∀ n z, (X1_becomeLike_fam n).2.1 d (s + 1) 0 h1 = some z → ∃ n', (X1_becomeLike_fam n').1 d (s + 1) (nI w) h = some z := by
  have hs := q.2.1
  obtain ⟨K, hK, h20, hKn, hKi, h73⟩ := q.ways
  intro k
  induction k with
  | zero =>
    intro w h e f c1 c2
    refine ⟨h, f, fun w' hw' => c1 w' (by omega), c2, fun n z hz => ⟨n + 1, ?_⟩⟩
    have e73 : hI h 73 s 0 = nI K := (f.1 73 s 0 (by decide) (q.1.b1 hs)).trans h73
    show X1_becomeLike_g2 (X1_becomeLike_fam n) d (s + 1) (nI w) h = _
    unfold X1_becomeLike_g2 X1_becomeLike_f2
    rw [nnE rfl, e73, if_neg (nI_nlt (by omega) (by omega))]
    exact hz
  | succ k ih =>
    intro w h e f c1 c2
    have a : SH h := q.1.fr f (by decide)
    have hw : w < nt (N 4) := by omega
    have e73 : hI h 73 s 0 = nI K := (f.1 73 s 0 (by decide) (q.1.b1 hs)).trans h73
    have e81 : hI h 581 (20 * s + w) 0 = N (20 + 6 * w) := by
      rw [c2 581 (20 * s + w) 0 (by omega)]
      have := (q.2.2.1.2.2.1.1 w (by omega)).1 5 (by decide)
      rw [show 15 + 6 * w + 5 = 20 + 6 * w by omega] at this
      exact this
    have hb := rg01 (q.2.2.1.2.2.1.1 w (by omega)).2.2.2.2.2.2.2
    obtain ⟨h1, y1, y2, y3, y4⟩ := ih (w + 1) (wcH h (20 * d + w) (20 * s + w)) (by omega) (wcH_fr f _ _) (fun w' hw' c hc => by
      by_cases c0 : w' = w
      · subst c0
        rw [wcH_at h _ _ hc, c2 c (20 * s + w') 0 (by omega)]
      · rw [wcH_oth h _ _ (by omega)]
        exact c1 w' (by omega) c hc) (fun c i j hi => by
      rw [wcH_oth h _ _ (by omega)]
      exact c2 c i j hi)
    refine ⟨h1, y1, y2, y3, fun n z hz => ?_⟩
    obtain ⟨n', hn'⟩ := y4 n z hz
    refine ⟨n' + 1, ?_⟩
    show X1_becomeLike_g2 (X1_becomeLike_fam n') d (s + 1) (nI w) h = _
    unfold X1_becomeLike_g2 X1_becomeLike_f2
    rw [nnE rfl, e73, if_pos (nI_lt (by omega) (by omega)), nnE (sh_64 a d hd), ixE (ln_14 a d hd) rfl (show w < 20 by omega) (by decide), nnE rfl, nnE (sh_64 a s hs), ixE (ln_14 a s hs) rfl (show w < 20 by omega) (by decide), nnE (way_ref a hd (show w < 20 by omega)), way_ref a hs (show w < 20 by omega), wcH_eq (by rw [e81]; exact hb), cV_some, nI_1]
    exact hn'
theorem like_2 (q : Hs h0 s N) (hd : d < 2) (hds : d ≠ s) : ∀ k w h, w + k = nt (N 6) → Fr bsgW h0 h → (∀ t, t < w → (∀ c, c ∈ sgC5 → hI h c (14 * d + t) 0 = hI h0 c (14 * s + t) 0) ∧ ∀ j, j < 6 → hI h 1728 (14 * d + t) j = hI h0 1728 (14 * s + t) j ∧ hI h 1792 (14 * d + t) j = hI h0 1792 (14 * s + t) j) → (∀ c i j, ¬ (14 * d ≤ i ∧ i < 14 * d + 14) → hI h c i j = hI h0 c i j) → ∃ h1, Fr bsgW h0 h1 ∧ (∀ t, t < nt (N 6) → (∀ c, c ∈ sgC5 → hI h1 c (14 * d + t) 0 = hI h0 c (14 * s + t) 0) ∧ ∀ j, j < 6 → hI h1 1728 (14 * d + t) j = hI h0 1728 (14 * s + t) j ∧ hI h1 1792 (14 * d + t) j = hI h0 1792 (14 * s + t) j) ∧ (∀ c i j, ¬ (14 * d ≤ i ∧ i < 14 * d + 14) → hI h1 c i j = hI h0 c i j) ∧ ∀ n z, (X1_becomeLike_fam n).2.2 d (s + 1) 0 h1 = some z → ∃ n', (X1_becomeLike_fam n').2.1 d (s + 1) (nI w) h = some z := by
  have hs := q.2.1
  obtain ⟨K, hK, h14, hKn, hKi, h75⟩ := q.signs
  intro k
  induction k with
  | zero =>
    intro w h e f c1 c2
    refine ⟨h, f, fun w' hw' => c1 w' (by omega), c2, fun n z hz => ⟨n + 1, ?_⟩⟩
    have e75 : hI h 75 s 0 = nI K := (f.1 75 s 0 (by decide) (q.1.b1 hs)).trans h75
    show X1_becomeLike_g33 (X1_becomeLike_fam n) d (s + 1) (nI w) h = _
    unfold X1_becomeLike_g33 X1_becomeLike_f33
    rw [nnE rfl, e75, if_neg (nI_nlt (by omega) (by omega))]
    exact hz
  | succ k ih =>
    intro w h e f c1 c2
    have a : SH h := q.1.fr f (by decide)
    have e75 : hI h 75 s 0 = nI K := (f.1 75 s 0 (by decide) (q.1.b1 hs)).trans h75
    have hir : 14 * d + w ≠ 14 * s + w := by omega
    obtain ⟨v1, v2⟩ := scH_at h hir
    obtain ⟨h1, y1, y2, y3, y4⟩ := ih (w + 1) (scH h (14 * d + w) (14 * s + w)) (by omega) (scH_fr f _ _) (fun t ht => by
      by_cases c0 : t = w
      · subst c0
        exact ⟨fun c hc => by rw [v1 c hc, c2 c (14 * s + t) 0 (by omega)], fun j hj => by rw [(v2 j hj).1, (v2 j hj).2, c2 1728 (14 * s + t) j (by omega), c2 1792 (14 * s + t) j (by omega)]; exact ⟨rfl, rfl⟩⟩
      · obtain ⟨x1, x2⟩ := c1 t (by omega)
        exact ⟨fun c hc => by rw [scH_oth h _ _ (by omega)]; exact x1 c hc, fun j hj => by rw [scH_oth h _ _ (by omega), scH_oth h _ _ (by omega)]; exact x2 j hj⟩) (fun c i j hi => by
      rw [scH_oth h _ _ (by omega)]
      exact c2 c i j hi)
    refine ⟨h1, y1, y2, y3, fun n z hz => ?_⟩
    obtain ⟨n', hn'⟩ := y4 n z hz
    refine ⟨n' + 1, ?_⟩
    show X1_becomeLike_g33 (X1_becomeLike_fam n') d (s + 1) (nI w) h = _
    unfold X1_becomeLike_g33 X1_becomeLike_f33
    rw [nnE rfl, e75, if_pos (nI_lt (by omega) (by omega)), nnE (sh_68 a d hd), ixE (ln_18 a d hd) rfl (show w < 14 by omega) (by decide), nnE rfl, nnE (sh_68 a s hs), ixE (ln_18 a s hs) rfl (show w < 14 by omega) (by decide), nnE (sign_ref a hd (show w < 14 by omega)), sign_ref a hs (show w < 14 by omega), scH_eq a (by omega) (by omega), cV_some, nI_1]
    exact hn'
theorem like_3 (q : Hs h0 s N) (hd : d < 2) (hds : d ≠ s) : ∀ k w h, w + k = nt (N 8) → Fr ([], [1216], false) h0 h → hI h = hI h0 → (∀ t, t < w → hR h 1216 d t = hR h0 1216 s t) → (∀ j, hR h 1216 s j = hR h0 1216 s j) → ∃ n h1, (X1_becomeLike_fam n).2.2 d (s + 1) (nI w) h = some (none, fnI (fnC h1 d s) d s) ∧ hI h1 = hI h0 ∧ (∀ t, t < nt (N 8) → hR h1 1216 d t = hR h0 1216 s t) ∧ (∀ j, hR h1 1216 s j = hR h0 1216 s j) := by
  have hs := q.2.1
  obtain ⟨K, hK, h14, hKn, h76⟩ := q.texts
  intro k
  induction k with
  | zero =>
    intro w h e f eI c1 c2
    have a : SH h := q.1.fr f (by decide)
    refine ⟨1, h, ?_, eI, fun t ht => c1 t (by omega), c2⟩
    rw [show w = K by omega]
    exact like_end a hd hs (by rw [eI, h76]) h14 _
  | succ k ih =>
    intro w h e f eI c1 c2
    have a : SH h := q.1.fr f (by decide)
    obtain ⟨n, h1, y1, y2⟩ := ih (w + 1) (pR h 1216 d w (hR h 1216 s w)) (by omega) (f.pR (by decide)) eI (fun t ht => by
      rw [hR_pR]
      by_cases c0 : t = w
      · subst c0
        rw [if_pos ⟨rfl, rfl, rfl⟩, c2]
      · rw [if_neg (fun z => c0 z.2.2)]
        exact c1 t (by omega)) (fun j => by
      rw [hR_pR, if_neg (fun z => hds z.2.1.symm)]
      exact c2 j)
    refine ⟨n + 1, h1, ?_, y2⟩
    show X1_becomeLike_g64 (X1_becomeLike_fam n) d (s + 1) (nI w) h = _
    unfold X1_becomeLike_g64 X1_becomeLike_f64
    rw [nnE rfl, eI, h76, if_pos (nI_lt (by omega) (by omega)), nnE rfl, nnE (sh_69 a s hs), ixE (ln_19 a s hs) rfl (show w < 14 by omega) (by decide), nnE (sh_69 a d hd), ixE (ln_19 a d hd) rfl (show w < 14 by omega) (by decide), wr_eq, nI_1]
    exact y1
end
theorem becomeLike_eq {h : PH} {d s : Nat} {N : Nat → Int32} (q : Hs h s N) (hd : d < 2) (hds : d ≠ s) : ∃ h', X1_becomeLike d (s + 1) h = some (none, h') ∧ Fr X1_becomeLike_W h h' ∧ Lk h h' d s N ∧ Same h h' s hsCols ∧ (∀ j, hR h' 1216 s j = hR h 1216 s j) := by
  have hs := q.2.1
  have a := q.1
  obtain ⟨h1, f1, u1, o1, z1⟩ := like_1 q hd hds (nt (N 4)) 0 h (by omega) Fr.rf (fun w hw => by omega) (fun _ _ _ _ => rfl)
  have a1 : SH h1 := a.fr f1 (by decide)
  have q1 : Hs h1 s N := q.same a1 (fun c hc i j hi hb => by
    by_cases c9 : c / 64 = 9
    · have := hb.1 c9
      exact o1 c i j (by omega)
    · exact f1.1 c i j (by
        have e9 : ∀ c ∈ hsCols, ¬ c / 64 = 9 → bwW.1.contains c = false := by decide +kernel
        exact e9 c hc c9) hi) f1.2.2.2.1 (fun c i j hc hi _ => f1.2.1 c i j (by
        have e9 : ∀ c ∈ trRefs, bwW.2.1.contains c = false := by decide +kernel
        exact e9 c hc) hi) f1.2.2.1
  obtain ⟨h2, f2, u2, o2, z2⟩ := like_2 q1 hd hds (nt (N 6)) 0 h1 (by omega) Fr.rf (fun w hw => by omega) (fun _ _ _ _ => rfl)
  have a2 : SH h2 := a1.fr f2 (by decide)
  have q2 : Hs h2 s N := q1.same a2 (fun c hc i j hi hb => by
    by_cases c5 : c / 64 = 5 ∨ c / 64 = 27 ∨ c / 64 = 28
    · have := hb.2.1 c5
      exact o2 c i j (by omega)
    · exact f2.1 c i j (by
        have e9 : ∀ c ∈ hsCols, ¬ (c / 64 = 5 ∨ c / 64 = 27 ∨ c / 64 = 28) → bsgW.1.contains c = false := by decide +kernel
        exact e9 c hc c5) hi) f2.2.2.2.1 (fun c i j hc hi _ => f2.2.1 c i j (by
        have e9 : ∀ c ∈ trRefs, bsgW.2.1.contains c = false := by decide +kernel
        exact e9 c hc) hi) f2.2.2.1
  obtain ⟨n, h3, y1, y2, y3, y4⟩ := like_3 q2 hd hds (nt (N 8)) 0 h2 (by omega) Fr.rf rfl (fun w hw => by omega) (fun _ => rfl)
  obtain ⟨n2, hn2⟩ := z2 n _ y1
  obtain ⟨n1, hn1⟩ := z1 n2 _ hn2
  have eq : X1_becomeLike d (s + 1) h = some (none, fnI (fnC h3 d s) d s) := X1_becomeLike_iff.mpr ⟨n1, hn1⟩
  have fr : Fr X1_becomeLike_W h (fnI (fnC h3 d s) d s) := X1_becomeLike_fr d (s + 1) h _ eq
  have w0 : ∀ c i j, ¬ (72 ≤ c ∧ c ≤ 80 ∧ i = d) → ((c ≠ 960 ∧ c ≠ 1024 ∧ c ≠ 1088 ∧ c ≠ 1280 ∧ c ≠ 1344) ∨ i ≠ d) → hI (fnI (fnC h3 d s) d s) c i j = hI h2 c i j := fun c i j k1 k2 => by
    rw [fnI_oth _ (by omega), fnC_oth _ k2, y2]
  have n12 : ∀ c j, c / 64 = 1 ∨ c = 960 ∨ c = 1024 ∨ c = 1088 ∨ c = 1280 ∨ c = 1344 → hI h2 c s j = hI h c s j := fun c j hc => by
    have lt : ∀ y, SH y → s < hN y (c / 64) := fun y ay => by
      rcases hc with e | rfl | rfl | rfl | rfl | rfl
      · rw [e]; exact ay.b1 hs
      · exact ay.n15 hs
      · exact ay.n16 hs
      · exact ay.n17 hs
      · exact ay.n20 hs
      · exact ay.n21 hs
    have k1 : bwW.1.contains c = false ∧ bsgW.1.contains c = false := by
      rcases hc with e | rfl | rfl | rfl | rfl | rfl
      · have : c < 128 := by omega
        have hh : ∀ c, c < 128 → bwW.1.contains c = false ∧ bsgW.1.contains c = false := by decide +kernel
        exact hh c this
      all_goals decide
    rw [f2.1 c s j k1.2 (lt h1 a1), f1.1 c s j k1.1 (lt h a)]
  refine ⟨_, eq, fr, ⟨fun w hw c hc => ?_, fun t ht => ⟨fun c hc => ?_, fun j hj => ?_⟩, fun t ht => ?_, fun c n hc j hj => ?_, fun c h1' h2' => ?_⟩, fun c hc i j hi hb => ?_, fun j => ?_⟩
  · have h9 : ∀ c ∈ wyC6, c / 64 = 9 ∧ bsgW.1.contains c = false ∧ 80 < c ∧ c < 960 := by decide
    obtain ⟨c9, c10, c11, c12⟩ := h9 c hc
    obtain ⟨K, hK, h20, hKn, hKi, h73⟩ := q.ways
    rw [w0 c _ _ (by omega) (by omega), f2.1 c _ _ c10 (by rw [c9]; exact a1.w1 (by omega))]
    exact u1 w hw c hc
  · have h9 : ∀ c ∈ sgC5, c / 64 = 5 ∧ bwW.1.contains c = false ∧ 80 < c ∧ c < 960 := by decide
    obtain ⟨c9, c10, c11, c12⟩ := h9 c hc
    obtain ⟨K, hK, h14, hKn, hKi, h75⟩ := q.signs
    rw [w0 c _ _ (by omega) (by omega), (u2 t ht).1 c hc, f1.1 c _ _ c10 (by rw [c9]; exact a.s1 (by omega))]
  · obtain ⟨K, hK, h14, hKn, hKi, h75⟩ := q.signs
    rw [w0 1728 _ _ (by omega) (by omega), w0 1792 _ _ (by omega) (by omega), ((u2 t ht).2 j hj).1, ((u2 t ht).2 j hj).2, f1.1 1728 _ _ (by decide) (a.n27 (by omega)), f1.1 1792 _ _ (by decide) (a.n28 (by omega))]
    exact ⟨rfl, rfl⟩
  · show hR h3 1216 d t = _
    rw [y3 t ht, f2.2.1 1216 s t (by decide) (a1.n19 hs), f1.2.1 1216 s t (by decide) (a.n19 hs)]
  · have h9 : ∀ e ∈ fnA, e.1 = 960 ∨ e.1 = 1024 ∨ e.1 = 1088 ∨ e.1 = 1280 ∨ e.1 = 1344 := by decide
    have h9' : c = 960 ∨ c = 1024 ∨ c = 1088 ∨ c = 1280 ∨ c = 1344 := h9 (c, n) hc
    rw [fnI_oth _ (by omega), fnC_at _ hc hj, y2, n12 c j (by omega)]
  · rw [fnI_at _ h1' h2', fnC_oth _ (by omega), y2, n12 c 0 (by omega)]
  · by_cases c1 : c / 64 = 9 ∨ c / 64 = 5 ∨ c / 64 = 27 ∨ c / 64 = 28 ∨ c / 64 = 7 ∨ c / 64 = 29
    · have h9 : ∀ c ∈ hsCols, c / 64 = 9 ∨ c / 64 = 5 ∨ c / 64 = 27 ∨ c / 64 = 28 ∨ c / 64 = 7 ∨ c / 64 = 29 → ¬ (72 ≤ c ∧ c ≤ 80) ∧ c ≠ 960 ∧ c ≠ 1024 ∧ c ≠ 1088 ∧ c ≠ 1280 ∧ c ≠ 1344 := by decide +kernel
      obtain ⟨k1, k2⟩ := h9 c hc c1
      rw [w0 c i j (fun z => k1 ⟨z.1, z.2.1⟩) (Or.inl k2)]
      have s1 : hI h1 c i j = hI h c i j := by
        by_cases c9 : c / 64 = 9
        · have := hb.1 c9
          exact o1 c i j (by omega)
        · have e9 : ∀ c ∈ hsCols, ¬ c / 64 = 9 → bwW.1.contains c = false := by decide +kernel
          exact f1.1 c i j (e9 c hc c9) hi
      rw [← s1]
      by_cases c5 : c / 64 = 5 ∨ c / 64 = 27 ∨ c / 64 = 28
      · have := hb.2.1 c5
        exact o2 c i j (by omega)
      · have e9 : ∀ c ∈ hsCols, ¬ (c / 64 = 5 ∨ c / 64 = 27 ∨ c / 64 = 28) → bsgW.1.contains c = false := by decide +kernel
        exact f2.1 c i j (e9 c hc c5) (Nat.lt_of_lt_of_le hi (f1.2.2.2.1 _))
    · have hi' : i = s := hb.2.2 ⟨by omega, by omega, by omega⟩
      subst hi'
      rw [w0 c i j (by omega) (by omega)]
      have h9 : ∀ c ∈ hsCols, ¬ (c / 64 = 9 ∨ c / 64 = 5 ∨ c / 64 = 27 ∨ c / 64 = 28 ∨ c / 64 = 7 ∨ c / 64 = 29) → c / 64 = 1 ∨ c = 960 ∨ c = 1024 ∨ c = 1088 ∨ c = 1280 ∨ c = 1344 := by decide +kernel
      exact n12 c j (h9 c hc c1)
  · show hR h3 1216 s j = _
    rw [y4, f2.2.1 1216 s j (by decide) (a1.n19 hs), f1.2.1 1216 s j (by decide) (a.n19 hs)]
