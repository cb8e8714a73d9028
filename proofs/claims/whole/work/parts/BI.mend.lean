/-! pairs: wrong, mend -/
def rT (N : Nat → Int32) (i : Nat) : Nat → Nat → Option Nat := fun s r => rtO N (fun v => passB N v (nI i)) (sP N s) (nmN N s r)
def wcW (fl : Bool) : List Nat × List Nat × Bool := (bif fl then [1536, 1600, 1920, 1792] else [1536, 1600, 1920], [193], false)
def wnW (fl : Bool) : List Nat × List Nat × Bool := (bif fl then [3264, 3328, 3392, 3456, 3520, 3776, 3840, 2624] else [3264, 3328, 3392, 3456, 3520, 3776, 3840], [], false)
theorem wrongRows_c {h : PH} {N : Nat → Int32} (q : Hs h 0 N) {i : Nat} (hi : i < 2) (hx : hI h 192 i 0 = nI i) (fl : Bool) : ∃ h1, X11_wrongRows 0 (nI i) (b2 fl) h = some (some (.inl (nI (csF N (rT N i) (nt (N 6)) 0))), h1) ∧ Hs h1 0 (mdP N (flU fl (rT N i)) (nt (N 6)) 0) ∧ Fr (wcW fl) h h1 ∧ (∀ i' j, 14 ≤ i' → i' < 28 → hI h1 1792 i' j = hI h 1792 i' j) := by
  have a := q.1
  obtain ⟨h1, e1, f1, d1⟩ := roadsFor_eq q hi hx
  obtain ⟨h2, e2, f2, l2⟩ := measureAll_eq d1
  have d2 := d1.fr f2 (by decide +kernel) (by decide +kernel)
  have fA : Fr ([1536, 1600, 1920], [193], false) h h2 := (f1.sub (by decide)).tr (f2.sub (by decide))
  obtain ⟨n, h3, e3, q3, f3, k3⟩ := wrong_c2 (N := N) (T := rT N i) (P := fun v => passB N v (nI i)) (fl := fl) (i := i) (h0 := h2) q (fun s r => rfl) (nt (N 6)) 0 0 h2 (by omega) (by rw [← mdP_0]; exact d2) l2 Fr.rf (fun _ _ _ => rfl)
  rw [Nat.zero_add] at e3
  refine ⟨h3, X11_wrongRows_iff.mpr ⟨n, ?_⟩, q3, ?_, fun i' j h14 h28 => ?_⟩
  · unfold X11_wrongRows_g0 X11_wrongRows_f0
    rw [e1, cR_some, nnE rfl, e2, cV_some]
    exact e3
  · cases fl with
    | false => exact (fA.sub (by decide)).tr (f3.sub (by decide))
    | true => exact (fA.sub (by decide)).tr (f3.sub (by decide))
  · rw [k3 i' j h14, fA.1 1792 i' j (by decide) (a.n28 h28)]
theorem wrongRows_m {h g : PH} {b : Nat} {N : Nat → Int32} (a : SH h) (hN : hI h 2624 0 = N) (q : Hs g b N) (i : Nat) (fl : Bool) : ∃ h1, X12_wrongRows 0 (nI i) (b2 fl) h = some (some (.inl (nI (csF N (rT N i) (nt (N 6)) 0))), h1) ∧ hI h1 2624 0 = mdP N (flU fl (rT N i)) (nt (N 6)) 0 ∧ Fr (wnW fl) h h1 := by
  obtain ⟨h1, e1, f1, w1, -⟩ := X12_looks_eq a (by rw [hN]; exact q) (nI i)
  rw [hN] at w1
  have aw : AwE h1 N (fun v => passB N v (nI i)) := ⟨a.fr f1 (by decide), (now_fr a f1 (by decide)).trans hN, w1⟩
  obtain ⟨h2, e2, f2, t2⟩ := findAll_eq aw q
  have a2 : SH h2 := aw.1.fr f2 (by decide)
  have hN2 : hI h2 2624 0 = N := (now_fr aw.1 f2 (by decide)).trans aw.2.1
  obtain ⟨n, h3, e3, n3, f3⟩ := wrong_m2 (N := N) (T := rT N i) (P := fun v => passB N v (nI i)) (fl := fl) (h0 := h2) q (fun s r => rfl) (nt (N 6)) 0 0 h2 (by omega) a2 (by rw [← mdP_0]; exact hN2) t2 Fr.rf
  rw [Nat.zero_add] at e3
  refine ⟨h3, X12_wrongRows_iff.mpr ⟨n, ?_⟩, n3, ?_⟩
  · unfold X12_wrongRows_g0 X12_wrongRows_f0
    rw [e1, cV_some, e2, cV_some]
    exact e3
  · cases fl with
    | false => exact ((f1.sub (by decide)).tr (f2.sub (by decide))).tr (f3.sub (by decide))
    | true => exact ((f1.sub (by decide)).tr (f2.sub (by decide))).tr (f3.sub (by decide))
theorem pair_wrong (m : Nat) (h : PH) (x1 : Int32) (_ : m < 64) (r : R m h) : Pr (R (m + 1)) (X11_wrong 0 x1) (X12_wrong 0 x1) h := by
  have r0 := r
  obtain ⟨a, q, -, -, -, -, -, -, q8, -⟩ := r
  rcases lit_cases (x := x1) (y := 2) (K := 2) rfl (by decide) with z | ⟨z, i, hi, rfl⟩
  · refine r0.same (v := -1000000001) ?_ ?_
    · unfold X11_wrong X11_wrong_g0 X11_wrong_f0
      rw [isWithin_wn, cI_some, z, if_pos rfl]
    · unfold X12_wrong X12_wrong_g0 X12_wrong_f0
      rw [wheels_wn, cI_some, z, if_pos rfl]
  obtain ⟨h1, e1, -, f1, -⟩ := wrongRows_c q hi (q8 i hi).1 false
  have a1 : SH h1 := a.fr f1 (by decide +kernel)
  obtain ⟨h2, e2, -, f2⟩ := wrongRows_m a1 (now_fr a f1 (by decide)) q i false
  have fA : Fr ([1536, 1600, 1920, 3264, 3328, 3392, 3456, 3520, 3776, 3840], [193], false) h h2 := (f1.sub (by decide)).tr (f2.sub (by decide))
  refine ⟨nI (csF (hI h 2624 0) (rT (hI h 2624 0) i) (nt (hI h 2624 0 6)) 0), h1, h2, ?_, ?_, r0.keep fA (by decide +kernel) (by decide +kernel) rfl (fun w => (w.fr a fA (by decide)).mono)⟩
  · unfold X11_wrong X11_wrong_g0 X11_wrong_f0
    rw [isWithin_wn, cI_some, z, if_neg (by decide), show X11_wrongRows 0 (nI i) 0 h = _ from e1, cI_some]
  · unfold X12_wrong X12_wrong_g0 X12_wrong_f0
    rw [wheels_wn, cI_some, z, if_neg (by decide), show X12_wrongRows 0 (nI i) 0 h1 = _ from e2, cI_some]
def mdW : List Nat × List Nat × Bool := ([1, 2, 832, 1536, 1600, 1920, 1792, 709, 2816, 3264, 3328, 3392, 3456, 3520, 3776, 3840, 2624], [193], false)
/-- noted by both around a change of rows, while ways are looked at -/
theorem chg_mend {h h1 h2 h3 h4 : PH} {N : Nat → Int32} (q : Hs h 0 N) (hNN : hI h 2624 0 = N) {n l : Nat} (hn : n ≤ 16) (hl : l < 16) (hk : ∀ k, k < n → ChgOne h (nt (N 6)) ((l + 16 - k) % 16) (n - 1 - k)) (u2 : Fr ntW h h1) (u3 : hI h1 1 0 0 = nI ((l + 1) % 16)) (u4 : hI h1 2 0 0 = nI (min (n + 1) 16)) (u5 : ∀ i j, i ≠ (l + 1) % 16 → hI h1 832 i j = hI h 832 i j) (u6 : NoteE h1 ((l + 1) % 16) N (nt (N 6))) (f12 : Fr (wcW true) h1 h2) (v2 : Fr svM h2 h3) (v3 : hI h3 709 0 0 = nI (min (n + 1) 16)) (v4 : ∀ i, i < 14 → hI h3 2816 0 (182 * min n 15 + i) = hI h2 2624 0 (157 + 5 * i)) (v5 : ∀ i, i < 168 → hI h3 2816 0 (182 * min n 15 + 14 + i) = hI h2 2624 0 (225 + i)) (v6 : ∀ i, i < 182 * min n 15 → hI h3 2816 0 i = if n = 16 then hI h2 2816 0 (i + 182) else hI h2 2816 0 i) (f34 : Fr (wnW true) h3 h4) : Chg h4 (nt (N 6)) ∧ Fr mdW h h4 := by
  have a := q.1
  have a1 : SH h1 := a.fr u2 (by decide +kernel)
  have a2 : SH h2 := a1.fr f12 (by decide +kernel)
  have a3 : SH h3 := a2.fr v2 (by decide +kernel)
  refine ⟨?_, (((u2.sub (by decide)).tr (f12.sub (by decide))).tr (v2.sub (by decide))).tr (f34.sub (by decide))⟩
  have hN2 : hI h2 2624 0 = N := (now_fr a1 f12 (by decide)).trans ((now_fr a u2 (by decide)).trans hNN)
  have g24 : Fr ([709, 2816, 3264, 3328, 3392, 3456, 3520, 3776, 3840, 2624], [], false) h2 h4 := (v2.sub (by decide)).tr (f34.sub (by decide))
  have n0 : ∀ y, SH y → 0 < hN y 0 := fun y ay => ay.k1 (k := 0) (n := 1) (by decide +kernel) (by decide)
  have g832 : ∀ i j, i < 16 → hI h4 832 i j = hI h1 832 i j := fun i j hi => (g24.1 832 i j (by decide) (a2.n13 hi)).trans (f12.1 832 i j (by decide) (a1.n13 hi))
  have g28 : ∀ j, hI h4 2816 0 j = hI h3 2816 0 j := fun j => f34.1 2816 0 j (by decide) a3.n44
  have o28 : ∀ j, hI h2 2816 0 j = hI h 2816 0 j := fun j => (f12.1 2816 0 j (by decide) a1.n44).trans (u2.1 2816 0 j (by decide) a.n44)
  have hm : (l + 1) % 16 < 16 := Nat.mod_lt _ (by decide)
  refine chg_step q hn hl hk ?_ ?_ ?_ (fun i j hi hne => by rw [g832 i j hi]; exact u5 i j hne) (fun t ht => ?_) (fun i hi => by rw [g28, v4 i hi, hN2]) (fun i hi => by rw [g28, v5 i hi, hN2]) (fun i hi => by rw [g28, v6 i hi, o28, o28])
  · exact (g24.1 1 0 0 (by decide) (n0 h2 a2)).trans ((f12.1 1 0 0 (by decide) (n0 h1 a1)).trans u3)
  · exact (g24.1 2 0 0 (by decide) (n0 h2 a2)).trans ((f12.1 2 0 0 (by decide) (n0 h1 a1)).trans u4)
  · exact (f34.1 709 0 0 (by decide) a3.n11).trans v3
  · obtain ⟨t1, t2⟩ := u6 t ht
    exact ⟨by rw [g832 _ _ hm]; exact t1, fun r' hr' => by rw [g832 _ _ hm]; exact t2 r' hr'⟩
theorem pair_mend (m : Nat) (h : PH) (x1 : Int32) (_ : m < 64) (r : R m h) : Pr (R (m + 1)) (X11_mend 0 x1) (X12_mend 0 x1) h := by
  have r0 := r
  obtain ⟨a, q, -, q3, -, -, -, -, q8, -⟩ := r
  rcases lit_cases (x := x1) (y := 2) (K := 2) rfl (by decide) with z | ⟨z, i, hi, rfl⟩
  · refine r0.same (v := -1000000001) ?_ ?_
    · unfold X11_mend X11_mend_g0 X11_mend_f0
      rw [isWithin_wn, cI_some, z, if_pos rfl]
    · unfold X12_mend X12_mend_g0 X12_mend_f0
      rw [wheels_wn, cI_some, z, if_pos rfl]
  obtain ⟨n, l, k1, k2, k3, k4, k5, k6⟩ := q3
  obtain ⟨h1, u1, u2, u3, u4, u5, u6⟩ := note_eq q k1 k2 k3 k5
  have q1 := q.fr u2 (by decide +kernel) (by decide +kernel)
  have a1 := q1.1
  have hx : hI h1 192 i 0 = nI i := (u2.1 192 i 0 (by decide) (a.n3 hi)).trans (q8 i hi).1
  obtain ⟨h2, c2, p2, f12, s2⟩ := wrongRows_c q1 hi hx true
  have a2 : SH h2 := p2.1
  have fA : Fr ([1, 2, 832, 1536, 1600, 1920, 1792], [193], false) h h2 := (u2.sub (by decide)).tr (f12.sub (by decide))
  have hN2 : hI h2 2624 0 = hI h 2624 0 := now_fr a fA (by decide)
  have k42 : hI h2 709 0 0 = nI n := (fA.1 709 0 0 (by decide) a.n11).trans k4
  obtain ⟨h3, v1, v2, v3, v4, v5, v6⟩ := saves_eq a2 k1 k42
  have a3 : SH h3 := a2.fr v2 (by decide +kernel)
  have hN3 : hI h3 2624 0 = hI h 2624 0 := (now_fr a2 v2 (by decide)).trans hN2
  obtain ⟨h4, c4, n4, f34⟩ := wrongRows_m a3 hN3 q i true
  obtain ⟨hC, f4⟩ := chg_mend q rfl k1 k2 k6 u2 u3 u4 u5 u6 f12 v2 v3 v4 v5 v6 f34
  have p3 := p2.fr v2 (by decide +kernel) (by decide +kernel)
  have p4 := p3.fr f34 (by decide +kernel) (by decide +kernel)
  rw [← n4] at p4
  refine ⟨nI (csF (hI h 2624 0) (rT (hI h 2624 0) i) (nt (hI h 2624 0 6)) 0), h2, h4, ?_, ?_, r0.put f4 (by decide +kernel) (by decide +kernel) rfl p4.2.2.1 p4.2.2.2 ?_ ?_⟩
  · unfold X11_mend X11_mend_g0 X11_mend_f0
    rw [isWithin_wn, cI_some, z, if_neg (by decide), nnE (sh_644 a), sh_640 a, u1, cV_some, show X11_wrongRows 0 (nI i) 1 h1 = _ from c2, cI_some]
  · unfold X12_mend X12_mend_g0 X12_mend_f0
    rw [wheels_wn, cI_some, z, if_neg (by decide), v1, cV_some, show X12_wrongRows 0 (nI i) 1 h3 = _ from c4, cI_some]
  · intro c hc i' j hi' hb
    by_cases c1 : c = 1792
    · subst c1
      have := hb.2.1 (by decide)
      have g24 : Fr ([709, 2816, 3264, 3328, 3392, 3456, 3520, 3776, 3840, 2624], [], false) h2 h4 := (v2.sub (by decide)).tr (f34.sub (by decide))
      rw [g24.1 1792 i' j (by decide) (a2.n28 (by omega)), s2 i' j (by omega) (by omega), u2.1 1792 i' j (by decide) (a.n28 (by omega))]
    · have e1 : ∀ c ∈ hsCols, c ≠ 1792 → mdW.1.contains c = false := by decide
      exact f4.1 c i' j (e1 c hc c1) hi'
  · rw [n4, mdP_off _ _ _ _ (by omega)]
    exact hC
