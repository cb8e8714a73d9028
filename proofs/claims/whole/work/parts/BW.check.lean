/-! pair: check -/
def chF (A : (Nat → Int32) → (Nat → Int32)) (Rr : (Nat → Int32) → Wr) (n : Nat) (f : Nat → Int32) : Nat → Nat → (Nat → Int32) → Nat
  | 0, x, _ => x
  | k + 1, x, N => if x < n ∧ f x = nI (Rr N).1 then (if x + 1 < n ∧ f (x + 1) = nI (Rr N).2.1 then chF A Rr n f k (x + 1 + 1) (A N) else x + 1) else x
theorem chF_s (A : (Nat → Int32) → (Nat → Int32)) (Rr : (Nat → Int32) → Wr) (n : Nat) (f : Nat → Int32) (k x : Nat) (N : Nat → Int32) : chF A Rr n f (k + 1) x N = if x < n ∧ f x = nI (Rr N).1 then (if x + 1 < n ∧ f (x + 1) = nI (Rr N).2.1 then chF A Rr n f k (x + 1 + 1) (A N) else x + 1) else x := rfl
theorem chF_ag {A A' : (Nat → Int32) → (Nat → Int32)} {Rr : (Nat → Int32) → Wr} {n : Nat} {f f' : Nat → Int32} {Re : (Nat → Int32) → (Nat → Int32) → Prop} (hR : ∀ N N', Re N N' → Rr N' = Rr N ∧ Re (A N) (A' N')) (hf : ∀ j, j < n → f' j = f j) : ∀ k x N N', Re N N' → chF A' Rr n f' k x N' = chF A Rr n f k x N := by
  intro k
  induction k with
  | zero => intro x N N' _; rfl
  | succ k ih =>
    intro x N N' re
    obtain ⟨e1, e2⟩ := hR N N' re
    rw [chF_s, chF_s, e1, ih (x + 1 + 1) (A N) (A' N') e2]
    by_cases c : x < n
    · rw [hf x c]
      by_cases d : x + 1 < n
      · rw [hf (x + 1) d]
      · by_cases c2 : x < n ∧ f x = nI (Rr N).1
        · rw [if_pos c2, if_pos c2, if_neg (fun z => d z.1), if_neg (fun z => d z.1)]
        · rw [if_neg c2, if_neg c2]
    · rw [if_neg (fun z => c z.1), if_neg (fun z => c z.1)]
def CkS (A : (Nat → Int32) → (Nat → Int32)) (Rr : (Nat → Int32) → Wr) : Prop := ∀ (h : PH) (N : Nat → Int32) (cn : Nat → Nat), Hs h 1 N → EnE h 1 N → 0 < nt (N 3) → 0 < nt (N 5) → (∀ i, i < 2 → WcE h i (cn i)) → (∀ i, i < 2 → cn i + 1 < 2 ^ 31) → ∃ (h5 : PH) (i0 : Nat) (cn' : Nat → Nat), X11_walkStranger 0 2 h = some (some (.inr (8, i0 + 1)), h5) ∧ Hs h5 1 (A N) ∧ EnE h5 1 (A N) ∧ 0 < nt (A N 3) ∧ 0 < nt (A N 5) ∧ (∀ i, i < 2 → WcE h5 i (cn' i) ∧ cn' i ≤ cn i + 1) ∧ hI h5 523 i0 0 = nI (Rr N).1 ∧ hI h5 524 i0 0 = nI (Rr N).2.1 ∧ (∀ y, hI h5 80 0 y = hI h 80 0 y) ∧ Fr X11_walkStranger_W h h5 ∧ ∀ j, j ≠ 0 → A N j = N j
theorem check_step : CkS stN stR := by
  intro h N cn q en hp hg wc hcn
  have hi := stX_lt N
  obtain ⟨h4, e4, q4, en4, f4, t4, w4, b4⟩ := class_one q en hp hg (wc (stX N) hi) (hcn (stX N) hi)
  have w4c := w4.wc
  have w41 := w4.1
  have w42 := w4.2.1
  refine ⟨h4, ?_⟩
  generalize stX N = i0 at hi e4 t4 w4c w41 w42
  refine ⟨i0, fun i => if i = i0 then cn i + 1 else cn i, e4, q4, en4, by rw [stN_at N (by omega)]; exact hp, by rw [stN_at N (by omega)]; exact hg, fun i h2 => ?_, w41, w42, fun y => b4 0 y (by decide) (by decide), f4, fun j hj => stN_at N hj⟩
  show WcE h4 i (if i = i0 then cn i + 1 else cn i) ∧ (if i = i0 then cn i + 1 else cn i) ≤ cn i + 1
  by_cases ci : i = i0
  · subst ci
    rw [if_pos rfl]
    exact ⟨w4c, Nat.le_refl _⟩
  · rw [if_neg ci]
    exact ⟨(wc i h2).oth t4 h2 ci, by omega⟩
theorem right_loop {A : (Nat → Int32) → (Nat → Int32)} {Rr : (Nat → Int32) → Wr} (st : CkS A Rr) {h0 : PH} {N0 : Nat → Int32} (a0 : SH h0) {X n : Nat} (hX : X ≤ 30) (hn : n ≤ 60) : ∀ k x j h (N : Nat → Int32) (cn : Nat → Nat), j + k = X → x = 2 * j → Hs h 1 N → EnE h 1 N → 0 < nt (N 3) → 0 < nt (N 5) → (∀ i, i < 2 → WcE h i (cn i)) → (∀ i, i < 2 → cn i + k < 2 ^ 31) → (∀ y, hI h 80 0 y = hI h0 80 0 y) → Fr X11_walkStranger_W h0 h → (∀ y, y ≠ 0 → N y = N0 y) → ∃ z h' M, X11_rightNumbers_fam z 0 (nI X) (nI n) (nI x) (nI j) h = some (some (.inl (nI (chF A Rr n (hI h0 2560 0) k x N))), h') ∧ Hs h' 1 M ∧ (∀ y, y ≠ 0 → M y = N0 y) ∧ (∀ i, i < 2 → ∃ c', c' ≤ cn i + k ∧ WcE h' i c') ∧ (∀ y, hI h' 80 0 y = hI h0 80 0 y) ∧ Fr X11_walkStranger_W h0 h' := by
  intro k
  induction k with
  | zero =>
    intro x j h N cn e ex q en hp hg wc hcn o1 f hM
    refine ⟨1, h, N, ?_, q, hM, fun i hi => ⟨cn i, by omega, wc i hi⟩, o1, f⟩
    show X11_rightNumbers_g5 (X11_rightNumbers_fam 0) 0 (nI X) (nI n) (nI x) (nI j) h = _
    unfold X11_rightNumbers_g5 X11_rightNumbers_f5
    rw [if_neg (nI_nlt (by omega) (by omega))]
    rfl
  | succ k ih =>
    intro x j h N cn e ex q en hp hg wc hcn o1 f hM
    obtain ⟨h5, i0, cn', e5, q5, en5, hp5, hg5, wc5, w3, w4, p1, f5, hA⟩ := st h N cn q en hp hg wc (fun i hi => by have := hcn i hi; omega)
    have a := q.1
    have a5 := q5.1
    have fA := f.tr f5
    have n40 : 0 < hN h0 40 := a0.nl (k := 40) (n := 60) (by decide +kernel)
    have e25 : ∀ y, hI h5 2560 0 y = hI h0 2560 0 y := fun y => fA.1 2560 0 y (by decide) n40
    have hM5 : ∀ y, y ≠ 0 → A N y = N0 y := fun y hy => (hA y hy).trans (hM y hy)
    have fin : ∀ v : Nat, (∃ z, X11_rightNumbers_fam z 0 (nI X) (nI n) (nI x) (nI j) h = some (some (.inl (nI v)), h5)) → ∃ z h' M, X11_rightNumbers_fam z 0 (nI X) (nI n) (nI x) (nI j) h = some (some (.inl (nI v)), h') ∧ Hs h' 1 M ∧ (∀ y, y ≠ 0 → M y = N0 y) ∧ (∀ i, i < 2 → ∃ c', c' ≤ cn i + (k + 1) ∧ WcE h' i c') ∧ (∀ y, hI h' 80 0 y = hI h0 80 0 y) ∧ Fr X11_walkStranger_W h0 h' := fun v ⟨z, hz⟩ => ⟨z, h5, A N, hz, q5, hM5, fun i hi => ⟨cn' i, by have := (wc5 i hi).2; omega, (wc5 i hi).1⟩, fun y => (p1 y).trans (o1 y), fA⟩
    have pre : ∀ z, X11_rightNumbers_fam (z + 1) 0 (nI X) (nI n) (nI x) (nI j) h = (if nI x < nI n then (nn (hR h5 648 0 0) fun r3 => ix (nI x) (hL h5 40 r3) fun j4 => nn (i0 + 1) fun r5 => if (hI h5 2560 r3 j4) = (hI h5 523 r5 0) then (if (nI x + 1) < nI n then (nn (hR h5 648 0 0) fun r6 => ix (nI x + 1) (hL h5 40 r6) fun j7 => nn (i0 + 1) fun r8 => if (hI h5 2560 r6 j7) = (hI h5 524 r8 0) then X11_rightNumbers_fam z 0 (nI X) (nI n) ((nI x + 1) + 1) (nI j + 1) h5 else some (some (.inl (nI x + 1)), h5)) else some (some (.inl (nI x + 1)), h5)) else some (some (.inl (nI x)), h5)) else some (some (.inl (nI x)), h5)) := fun z => by
      show X11_rightNumbers_g5 (X11_rightNumbers_fam z) 0 (nI X) (nI n) (nI x) (nI j) h = _
      unfold X11_rightNumbers_g5 X11_rightNumbers_f5
      rw [if_pos (nI_lt (by omega) (by omega)), sh_641 a, e5, cR_some]
    rw [chF_s]
    by_cases c1 : x < n ∧ hI h0 2560 0 x = nI (Rr N).1
    · rw [if_pos c1]
      by_cases c2 : x + 1 < n ∧ hI h0 2560 0 (x + 1) = nI (Rr N).2.1
      · rw [if_pos c2]
        obtain ⟨z, h', M, y1, y2, y3, y4, y5, y6⟩ := ih (x + 1 + 1) (j + 1) h5 (A N) cn' (by omega) (by omega) q5 en5 hp5 hg5 (fun i hi => (wc5 i hi).1) (fun i hi => by have := (wc5 i hi).2; have := hcn i hi; omega) (fun y => (p1 y).trans (o1 y)) fA hM5
        refine ⟨z + 1, h', M, ?_, y2, y3, fun i hi => ?_, y5, y6⟩
        · rw [pre, if_pos (nI_lt c1.1 (by omega)), nnE (sh_648 a5), ixE (ln_40 a5) rfl (show x < 60 by omega) (by decide), nnE rfl, e25, w3, if_pos c1.2, nI_1, if_pos (nI_lt c2.1 (by omega)), nnE (sh_648 a5), ixE (ln_40 a5) rfl (show x + 1 < 60 by omega) (by decide), nnE rfl, e25, w4, if_pos c2.2, nI_1, nI_1]
          exact y1
        · obtain ⟨c', u1, u2⟩ := y4 i hi
          exact ⟨c', by have := (wc5 i hi).2; omega, u2⟩
      · rw [if_neg c2]
        refine fin (x + 1) ⟨1, ?_⟩
        rw [pre, if_pos (nI_lt c1.1 (by omega)), nnE (sh_648 a5), ixE (ln_40 a5) rfl (show x < 60 by omega) (by decide), nnE rfl, e25, w3, if_pos c1.2, nI_1]
        by_cases c3 : x + 1 < n
        · rw [if_pos (nI_lt c3 (by omega)), nnE (sh_648 a5), ixE (ln_40 a5) rfl (show x + 1 < 60 by omega) (by decide), nnE rfl, e25, w4, if_neg (fun z => c2 ⟨c3, z⟩)]
        · rw [if_neg (nI_nlt (by omega) (by omega))]
    · rw [if_neg c1]
      refine fin x ⟨1, ?_⟩
      rw [pre]
      by_cases c3 : x < n
      · rw [if_pos (nI_lt c3 (by omega)), nnE (sh_648 a5), ixE (ln_40 a5) rfl (show x < 60 by omega) (by decide), nnE rfl, e25, w3, if_neg (fun z => c1 ⟨c3, z⟩)]
      · rw [if_neg (nI_nlt (by omega) (by omega))]
