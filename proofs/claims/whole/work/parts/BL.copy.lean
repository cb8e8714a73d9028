/-! pair: copy -/
def hcB (sz : Nat) (x c : Int32) : Prop := 0 ≤ x.toInt ∧ 0 ≤ c.toInt ∧ x.toInt + c.toInt ≤ sz
theorem hasCells_y {h : PH} {s sz : Nat} (hz : hI h 257 s 0 = nI sz) (h24 : sz ≤ 24) {x c : Int32} (k : hcB sz x c) : X5_hasCells s x c h = some (some (.inl 1), h) := by
  obtain ⟨k1, k2, k3⟩ := k
  have e0 : (nI sz).toInt = sz := nI_toInt (by omega)
  have e1 : (nI sz - x).toInt = (sz : Int) - x.toInt := by rw [i_sub (by rw [e0]; omega), e0]
  unfold X5_hasCells X5_hasCells_g0 X5_hasCells_f0
  rw [if_neg (by rw [i_lt, i0]; omega), if_neg (by rw [i_lt, i0]; omega), hz, if_neg (by rw [i_lt, e0]; omega), if_neg (by rw [i_lt, e1]; omega)]
  rfl
theorem hasCells_n {h : PH} {s sz : Nat} (hz : hI h 257 s 0 = nI sz) (h24 : sz ≤ 24) {x c : Int32} (k : ¬ hcB sz x c) : X5_hasCells s x c h = some (some (.inl 0), h) := by
  have e0 : (nI sz).toInt = sz := nI_toInt (by omega)
  unfold X5_hasCells X5_hasCells_g0 X5_hasCells_f0
  by_cases c1 : x < 0
  · rw [if_pos c1]
    rfl
  by_cases c2 : c < 0
  · rw [if_neg c1, if_pos c2]
    rfl
  by_cases c3 : nI sz < x
  · rw [if_neg c1, if_neg c2, hz, if_pos c3]
    rfl
  rw [if_neg c1, if_neg c2, hz, if_neg c3]
  rw [i_lt, i0] at c1 c2
  rw [i_lt, e0] at c3
  have e1 : (nI sz - x).toInt = (sz : Int) - x.toInt := by rw [i_sub (by rw [e0]; omega), e0]
  rw [if_pos (by rw [i_lt, e1]; exact Int.not_le.mp (fun z => k ⟨by omega, by omega, by omega⟩))]
  rfl
theorem copy_fit {sz : Nat} (h24 : sz ≤ 24) {x c : Int32} (hx : ¬ x < 0) (hc : ¬ c < 0) : nI sz - c < x ↔ ¬ hcB sz x c := by
  have e0 : (nI sz).toInt = sz := nI_toInt (by omega)
  rw [i_lt, i0] at hx hc
  have e1 : (nI sz - c).toInt = (sz : Int) - c.toInt := by
    have := i_rng c
    rw [i_sub (by rw [e0]; omega), e0]
  rw [i_lt, e1]
  unfold hcB
  omega
theorem m24b (s p j : Nat) : (24 : Int32) * nI s + nI p + nI j = nI (24 * s + p + j) := by rw [m24, nI_add]
theorem copy_l2 {h0 : PH} (a0 : SH h0) {s2 d n : Nat} (hs : s2 < 4) (hd : d + n ≤ 24) : ∀ k j h, j + k = n → Fr ([4096], [], false) h0 h → (∀ i, hI h 4096 0 i = if 24 * s2 + d ≤ i ∧ i < 24 * s2 + d + j then hI h0 4416 0 (i - (24 * s2 + d)) else hI h0 4096 0 i) → ∃ z h', (X12_copy_fam z).2 0 (nI s2) (nI d) (nI n) (nI j) h = some (some (.inl (nI n)), h') ∧ Fr ([4096], [], false) h0 h' ∧ ∀ i, hI h' 4096 0 i = if 24 * s2 + d ≤ i ∧ i < 24 * s2 + d + n then hI h0 4416 0 (i - (24 * s2 + d)) else hI h0 4096 0 i := by
  intro k
  induction k with
  | zero =>
    intro j h e f v
    have e' : j = n := by omega
    subst e'
    refine ⟨1, h, ?_, f, v⟩
    show X12_copy_g142 (X12_copy_fam 0) 0 (nI s2) (nI d) (nI j) (nI j) h = _
    unfold X12_copy_g142 X12_copy_f142
    rw [if_neg (nI_nlt (by omega) (by omega))]
  | succ k ih =>
    intro j h e f v
    have a : SH h := a0.fr f (by decide)
    have e4 : hI h 4416 0 j = hI h0 4416 0 j := f.1 4416 0 _ (by decide) (a0.nl (n := 24) (show (69, 0, 24) ∈ lnList by decide +kernel))
    obtain ⟨z, h', e1, f1, v1⟩ := ih (j + 1) (pI h 4096 0 (24 * s2 + d + j) (hI h 4416 0 j)) (by omega) (f.pI (by decide)) (fun i => by
      rw [hI_pI]
      by_cases c : i = 24 * s2 + d + j
      · subst c
        rw [if_pos ⟨rfl, rfl, rfl⟩, if_pos (by omega), e4, show 24 * s2 + d + j - (24 * s2 + d) = j by omega]
      · rw [if_neg (fun z => c z.2.2), v i]
        by_cases dd : 24 * s2 + d ≤ i ∧ i < 24 * s2 + d + j
        · rw [if_pos dd, if_pos (by omega)]
        · rw [if_neg dd, if_neg (by omega)])
    refine ⟨z + 1, h', ?_, f1, v1⟩
    show X12_copy_g142 (X12_copy_fam z) 0 (nI s2) (nI d) (nI n) (nI j) h = _
    unfold X12_copy_g142 X12_copy_f142
    rw [if_pos (nI_lt (by omega) (by omega)), nnE (sh_752 a), ixE (ln_69 a) rfl (show j < 24 by omega) (by decide), nnE (sh_747 a), ixE (ln_64 a) (m24b s2 d j) (by omega) (by decide), wr_eq, nI_1]
    exact e1
theorem copy_l1 {h0 : PH} (a0 : SH h0) {s1 p s2 d n : Nat} (hs1 : s1 < 4) (hp : p + n ≤ 24) (hs : s2 < 4) (hd : d + n ≤ 24) : ∀ k j h, j + k = n → Fr ([4416], [], false) h0 h → (∀ i, i < j → hI h 4416 0 i = hI h0 4096 0 (24 * s1 + p + i)) → ∃ z h', (X12_copy_fam z).1 0 (nI s1) (nI p) (nI s2) (nI d) (nI n) (nI j) h = some (some (.inl (nI n)), h') ∧ Fr ([4096, 4416], [], false) h0 h' ∧ ∀ i, hI h' 4096 0 i = if 24 * s2 + d ≤ i ∧ i < 24 * s2 + d + n then hI h0 4096 0 (24 * s1 + p + (i - (24 * s2 + d))) else hI h0 4096 0 i := by
  intro k
  induction k with
  | zero =>
    intro j h e f v
    have a : SH h := a0.fr f (by decide)
    obtain ⟨z, h', e1, f1, v1⟩ := copy_l2 a hs hd n 0 h (by omega) Fr.rf (fun i => by rw [if_neg (by omega)])
    refine ⟨z + 1, h', ?_, (f.sub (by decide)).tr (f1.sub (by decide)), fun i => ?_⟩
    · show X12_copy_g105 (X12_copy_fam z) 0 (nI s1) (nI p) (nI s2) (nI d) (nI n) (nI j) h = _
      unfold X12_copy_g105 X12_copy_f105
      rw [if_neg (nI_nlt (by omega) (by omega))]
      exact e1
    · rw [v1, f.1 4096 0 i (by decide) a0.n64]
      by_cases c : 24 * s2 + d ≤ i ∧ i < 24 * s2 + d + n
      · rw [if_pos c, if_pos c, v _ (by omega)]
      · rw [if_neg c, if_neg c]
  | succ k ih =>
    intro j h e f v
    have a : SH h := a0.fr f (by decide)
    have e4 : hI h 4096 0 (24 * s1 + p + j) = hI h0 4096 0 (24 * s1 + p + j) := f.1 4096 0 _ (by decide) a0.n64
    obtain ⟨z, h', e1, f1, v1⟩ := ih (j + 1) (pI h 4416 0 j (hI h 4096 0 (24 * s1 + p + j))) (by omega) (f.pI (by decide)) (fun i hi => by
      rw [hI_pI]
      by_cases c : i = j
      · subst c
        rw [if_pos ⟨rfl, rfl, rfl⟩, e4]
      · rw [if_neg (fun z => c z.2.2), v i (by omega)])
    refine ⟨z + 1, h', ?_, f1, v1⟩
    show X12_copy_g105 (X12_copy_fam z) 0 (nI s1) (nI p) (nI s2) (nI d) (nI n) (nI j) h = _
    unfold X12_copy_g105 X12_copy_f105
    rw [if_pos (nI_lt (by omega) (by omega)), nnE (sh_747 a), ixE (ln_64 a) (m24b s1 p j) (by omega) (by decide), nnE (sh_752 a), ixE (ln_69 a) rfl (show j < 24 by omega) (by decide), wr_eq, nI_1]
    exact e1
theorem clamp_nI {n : Nat} (hn : n < 2 ^ 31) : (nI n).toNatClampNeg = n := by
  show (nI n).toInt.toNat = n
  rw [nI_toInt hn]
  rfl
theorem pair_copy (m : Nat) (h : PH) (x1 x2 x3 x4 x5 : Int32) (_ : m < 64) (r : R m h) : Pr (R (m + 1)) (X11_copy 0 x1 x2 x3 x4 x5) (X12_copy 0 x1 x2 x3 x4 x5) h := by
  have r0 := r
  obtain ⟨a, q, -, -, q4, q5, q6, q7, -⟩ := r
  rcases lit_cases (x := x1) (y := 4) (K := 4) rfl (by decide) with z | ⟨z, s1, hs1, rfl⟩
  · refine r0.same (v := -1000000001) ?_ (X12_copy_iff.mpr ⟨0, ?_⟩)
    · unfold X11_copy X11_copy_g0 X11_copy_f0
      rw [isWithin_wn, cI_some, z, if_pos rfl]
    · unfold X12_copy_g0 X12_copy_f0
      rw [isSheet_wn, cI_some, z, if_pos rfl]
  rcases lit_cases (x := x3) (y := 4) (K := 4) rfl (by decide) with z2 | ⟨z2, s2, hs2, rfl⟩
  · refine r0.same (v := -1000000001) ?_ (X12_copy_iff.mpr ⟨0, ?_⟩)
    · unfold X11_copy X11_copy_g0 X11_copy_f0
      rw [isWithin_wn, cI_some, z, if_neg (by decide), isWithin_wn, cI_some, z2, if_pos rfl]
    · unfold X12_copy_g0 X12_copy_f0
      rw [isSheet_wn, cI_some, z, if_neg (by decide), isSheet_wn, cI_some, z2, if_pos rfl]
  obtain ⟨a1, a2, a3, a4, a5⟩ := q5 s1 hs1
  obtain ⟨b1, b2', b3, b4, b5⟩ := q5 s2 hs2
  obtain ⟨za, hza, za24⟩ := rg_nI (u := 24) a4
  obtain ⟨zb, hzb, zb24⟩ := rg_nI (u := 24) b4
  rw [hza] at a2
  rw [hzb] at b2'
  have hcE : X11_copy 0 (nI s1) x2 (nI s2) x4 x5 h = if hI h 3968 0 s1 = -1 then some (some (.inl (-1000000011)), h) else if hI h 3968 0 s2 = -1 then some (some (.inl (-1000000011)), h) else if hI h 3968 0 s1 = hI h 3968 0 s2 then (cI (X5_hasCells s1 x2 x5 h) fun v15 h14 => if v15 = 0 then some (some (.inl (-1000000013)), h14) else cI (X5_hasCells s2 x4 x5 h14) fun v18 h17 => if v18 = 0 then some (some (.inl (-1000000013)), h17) else nn (hR h17 258 s1 0) fun r21 => nn (hR h17 258 s2 0) fun r22 => cpk (hL h17 26 r21) (hL h17 26 r22) x2 x4 x5 <| wr (pCp h17 1664 r21 x2.toNatClampNeg 1664 r22 x4.toNatClampNeg x5.toNatClampNeg) fun h23 => some (some (.inl x5), h23)) else some (some (.inl (-1000000012)), h) := by
    unfold X11_copy X11_copy_g0 X11_copy_f0
    rw [isWithin_wn, cI_some, z, if_neg (by decide), isWithin_wn, cI_some, z2, if_neg (by decide), nnE (sh_646 a), ixE (ln_38 a) rfl hs1 (by decide), nnE (sh_646 a), ixE (ln_38 a) rfl hs2 (by decide), sh_2432 a s1 hs1, sh_2432 a s2 hs2]
    simp only [nn_succ]
    rw [a1, b1]
  have hmE : ∀ n, X12_copy_g0 (X12_copy_fam n) 0 (nI s1) x2 (nI s2) x4 x5 h = if hI h 3968 0 s1 < 0 then some (some (.inl (-1000000011)), h) else if hI h 3968 0 s2 < 0 then some (some (.inl (-1000000011)), h) else if hI h 3968 0 s1 = hI h 3968 0 s2 then (if x2 < 0 then some (some (.inl (-1000000013)), h) else if x4 < 0 then some (some (.inl (-1000000013)), h) else if x5 < 0 then some (some (.inl (-1000000013)), h) else if nI za - x5 < x2 then some (some (.inl (-1000000013)), h) else if nI zb - x5 < x4 then some (some (.inl (-1000000013)), h) else (X12_copy_fam n).1 0 (nI s1) x2 (nI s2) x4 x5 0 h) else some (some (.inl (-1000000012)), h) := fun n => by
    unfold X12_copy_g0 X12_copy_f0
    rw [isSheet_wn, cI_some, z, if_neg (by decide), isSheet_wn, cI_some, z2, if_neg (by decide), nnE (sh_745 a), ixE (ln_62 a) rfl hs1 (by decide), nnE (sh_745 a), ixE (ln_62 a) rfl hs2 (by decide), nnE (sh_745 a), ixE (ln_62 a) rfl hs1 (by decide), nnE (sh_745 a), ixE (ln_62 a) rfl hs2 (by decide), nnE (sh_746 a), ixE (ln_63 a) rfl hs1 (by decide), nnE (sh_746 a), ixE (ln_63 a) rfl hs2 (by decide), hza, hzb]
  by_cases c1 : hI h 3968 0 s1 = -1
  · exact r0.same (v := -1000000011) (by rw [hcE, if_pos c1]) (X12_copy_iff.mpr ⟨0, by rw [hmE, if_pos ((sort_neg a3).mpr c1)]⟩)
  have c1' : ¬ hI h 3968 0 s1 < 0 := fun e => c1 ((sort_neg a3).mp e)
  by_cases c2 : hI h 3968 0 s2 = -1
  · exact r0.same (v := -1000000011) (by rw [hcE, if_neg c1, if_pos c2]) (X12_copy_iff.mpr ⟨0, by rw [hmE, if_neg c1', if_pos ((sort_neg b3).mpr c2)]⟩)
  have c2' : ¬ hI h 3968 0 s2 < 0 := fun e => c2 ((sort_neg b3).mp e)
  by_cases c3 : hI h 3968 0 s1 = hI h 3968 0 s2
  rotate_left
  · exact r0.same (v := -1000000012) (by rw [hcE, if_neg c1, if_neg c2, if_neg c3]) (X12_copy_iff.mpr ⟨0, by rw [hmE, if_neg c1', if_neg c2', if_neg c3]⟩)
  by_cases k1 : hcB za x2 x5
  rotate_left
  · refine r0.same (v := -1000000013) (by rw [hcE, if_neg c1, if_neg c2, if_pos c3, hasCells_n a2 za24 k1, cI_some, if_pos rfl]) (X12_copy_iff.mpr ⟨0, ?_⟩)
    rw [hmE, if_neg c1', if_neg c2', if_pos c3]
    by_cases d1 : x2 < 0
    · rw [if_pos d1]
    by_cases d2 : x4 < 0
    · rw [if_neg d1, if_pos d2]
    by_cases d3 : x5 < 0
    · rw [if_neg d1, if_neg d2, if_pos d3]
    rw [if_neg d1, if_neg d2, if_neg d3, if_pos ((copy_fit za24 d1 d3).mpr k1)]
  by_cases k2 : hcB zb x4 x5
  rotate_left
  · refine r0.same (v := -1000000013) (by rw [hcE, if_neg c1, if_neg c2, if_pos c3, hasCells_y a2 za24 k1, cI_some, if_neg (by decide), hasCells_n b2' zb24 k2, cI_some, if_pos rfl]) (X12_copy_iff.mpr ⟨0, ?_⟩)
    rw [hmE, if_neg c1', if_neg c2', if_pos c3]
    by_cases d1 : x2 < 0
    · rw [if_pos d1]
    by_cases d2 : x4 < 0
    · rw [if_neg d1, if_pos d2]
    by_cases d3 : x5 < 0
    · rw [if_neg d1, if_neg d2, if_pos d3]
    rw [if_neg d1, if_neg d2, if_neg d3, if_neg (fun z => (copy_fit za24 d1 d3).mp z k1), if_pos ((copy_fit zb24 d2 d3).mpr k2)]
  have d1 : ¬ x2 < 0 := by rw [i_lt, i0]; have := k1.1; omega
  have d2 : ¬ x4 < 0 := by rw [i_lt, i0]; have := k2.1; omega
  have d3 : ¬ x5 < 0 := by rw [i_lt, i0]; have := k1.2.1; omega
  have f1' := (copy_fit za24 d1 d3)
  have f2' := (copy_fit zb24 d2 d3)
  obtain ⟨p, hp31, rfl⟩ := nI_of d1
  obtain ⟨d, hd31, rfl⟩ := nI_of d2
  obtain ⟨n, hn31, rfl⟩ := nI_of d3
  have kk1 := k1
  have kk2 := k2
  unfold hcB at kk1 kk2
  rw [nI_toInt hp31, nI_toInt hn31] at kk1
  rw [nI_toInt hd31, nI_toInt hn31] at kk2
  generalize hhc : pCp h 1664 s1 p 1664 s2 d n = hc
  have fc : Fr ([1664, 4096, 4416], [], false) h hc := by
    subst hhc
    exact Fr.rf.pCp (by decide)
  have ac : SH hc := a.fr fc (by decide)
  have cO : ∀ c i j, c ≠ 1664 → hI hc c i j = hI h c i j := fun c i j hne => by
    subst hhc
    rw [hI_pCp, if_neg (fun z => hne z.1)]
  have c64 : ∀ i j, hI hc 1664 i j = if i = s2 ∧ d ≤ j ∧ j < d + n then hI h 1664 s1 (p + (j - d)) else hI h 1664 i j := fun i j => by
    subst hhc
    rw [hI_pCp]
    by_cases c : i = s2 ∧ d ≤ j ∧ j < d + n
    · rw [if_pos ⟨rfl, c⟩, if_pos c]
    · rw [if_neg (fun z => c z.2), if_neg c]
  obtain ⟨y, h', e1, f1, v1⟩ := copy_l1 ac (s1 := s1) (p := p) (s2 := s2) (d := d) (n := n) hs1 (by omega) hs2 (by omega) n 0 hc (by omega) Fr.rf (fun i hi => by omega)
  have fA : Fr ([1664, 4096, 4416], [], false) h h' := fc.tr (f1.sub (by decide))
  have w4 : ∀ i, hI h' 4096 0 i = if 24 * s2 + d ≤ i ∧ i < 24 * s2 + d + n then hI h 4096 0 (24 * s1 + p + (i - (24 * s2 + d))) else hI h 4096 0 i := fun i => by rw [v1, cO _ _ _ (by decide), cO _ _ _ (by decide)]
  have w1 : ∀ i j, i < 9 → hI h' 1664 i j = if i = s2 ∧ d ≤ j ∧ j < d + n then hI h 1664 s1 (p + (j - d)) else hI h 1664 i j := fun i j hi => by rw [f1.1 1664 i j (by decide) (ac.n26 hi), c64]
  have n4 := fun (s : Nat) (hs : s < 9) => a.n4 hs
  refine ⟨nI n, hc, h', ?_, X12_copy_iff.mpr ⟨y, ?_⟩, r0.oth fA (by decide +kernel) (by decide +kernel) rfl (q4.fr a fA (by decide)) ?_ ?_ (q7.fr a fA (by decide))⟩
  · rw [hcE, if_neg c1, if_neg c2, if_pos c3, hasCells_y a2 za24 k1, cI_some, if_neg (by decide), hasCells_y b2' zb24 k2, cI_some, if_neg (by decide), nnE (sh_258 a s1 (by omega)), nnE (sh_258 a s2 (by omega)), ln_26 a s1 (by omega), ln_26 a s2 (by omega), clamp_nI hp31, clamp_nI hd31, clamp_nI hn31]
    unfold cpk
    rw [if_neg, wr_eq, hhc]
    rw [clamp_nI hp31, clamp_nI hd31, clamp_nI hn31]
    rintro (z | z | z | z | z)
    · exact d1 z
    · exact d2 z
    · exact d3 z
    · omega
    · omega
  · have e3 : ∀ s, hI hc 3968 0 s = hI h 3968 0 s := fun s => cO _ _ _ (by decide)
    have e4 : ∀ s, hI hc 4032 0 s = hI h 4032 0 s := fun s => cO _ _ _ (by decide)
    unfold X12_copy_g0 X12_copy_f0
    rw [isSheet_wn, cI_some, z, if_neg (by decide), isSheet_wn, cI_some, z2, if_neg (by decide), nnE (sh_745 ac), ixE (ln_62 ac) rfl hs1 (by decide), e3, if_neg c1', nnE (sh_745 ac), ixE (ln_62 ac) rfl hs2 (by decide), e3, if_neg c2', nnE (sh_745 ac), ixE (ln_62 ac) rfl hs1 (by decide), nnE (sh_745 ac), ixE (ln_62 ac) rfl hs2 (by decide), e3, e3, if_pos c3, if_neg d1, if_neg d2, if_neg d3, nnE (sh_746 ac), ixE (ln_63 ac) rfl hs1 (by decide), e4, hza, if_neg (fun z => f1'.mp z k1), nnE (sh_746 ac), ixE (ln_63 ac) rfl hs2 (by decide), e4, hzb, if_neg (fun z => f2'.mp z k2)]
    exact e1
  · intro s hs
    obtain ⟨u1, u2, u3, u4, u5⟩ := q5 s hs
    rw [fA.1 256 s 0 (by decide) (n4 s (by omega)), fA.1 257 s 0 (by decide) (n4 s (by omega)), fA.1 3968 0 s (by decide) (a.nl (n := 4) (show (62, 0, 4) ∈ lnList by decide +kernel)), fA.1 4032 0 s (by decide) (a.nl (n := 4) (show (63, 0, 4) ∈ lnList by decide +kernel))]
    refine ⟨u1, u2, u3, u4, fun k hk => ?_⟩
    rw [w1 s k (by omega), w4]
    by_cases c : s = s2 ∧ d ≤ k ∧ k < d + n
    · obtain ⟨rfl, c2, c3⟩ := c
      rw [if_pos ⟨rfl, c2, c3⟩, if_pos (by omega), a5 (p + (k - d)) (by omega), show 24 * s1 + p + (24 * s + k - (24 * s + d)) = 24 * s1 + (p + (k - d)) by omega]
    · rw [if_neg c, if_neg (by omega)]
      exact u5 k hk
  · intro t ht
    have n6 : t < hN h 6 := a.k1 (k := 6) (n := 5) (by decide +kernel) ht
    obtain ⟨s1', s2', s3, s4, s5⟩ := q6 t ht
    rw [fA.1 384 t 0 (by decide) n6, fA.1 385 t 0 (by decide) n6, fA.1 386 t 0 (by decide) n6, fA.1 387 t 0 (by decide) n6, fA.1 257 (4 + t) 0 (by decide) (n4 _ (by omega)), fA.1 4160 0 t (by decide) (a.nl (n := 5) (show (65, 0, 5) ∈ lnList by decide +kernel)), fA.1 4224 0 t (by decide) (a.nl (n := 5) (show (66, 0, 5) ∈ lnList by decide +kernel)), fA.1 4288 0 t (by decide) (a.nl (n := 5) (show (67, 0, 5) ∈ lnList by decide +kernel))]
    refine ⟨s1', s2', s3, fun z => ?_, s5⟩
    obtain ⟨v1, v2, v3⟩ := s4 z
    exact ⟨v1, v2, fun k hk => by rw [w1 (4 + t) k (by omega), if_neg (by omega), fA.1 4352 0 (24 * t + k) (by decide) (a.nl (n := 120) (show (68, 0, 120) ∈ lnList by decide +kernel))]; exact v3 k hk⟩
