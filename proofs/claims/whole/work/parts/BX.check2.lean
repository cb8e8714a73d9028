def chV (n X x : Nat) : Int32 := if nI x = nI n then (if nI x = 2 * nI X then 0 else 1 + nI x) else 1 + nI x
def ckW : List Nat × List Nat × Bool := ([731, 732, 733, 734, 737, 2624, 3264, 3328, 3392, 3456, 3584, 3648], [], false)
theorem check_end {h0 h : PH} (a0 : SH h0) (f : Fr ckW h0 h) (G : Nat → Int32 → Int32 → Int32 → Int32 → PH → Option Rs) (X n x : Nat) : ∃ h', X12_check_g164 G 0 (nI X) (nI n) (nI x) h = some (some (.inl (chV n X x)), h') ∧ Fr ckW h0 h' ∧ ∀ j, j < 1765 → hI h' 2624 0 j = hI h0 2752 0 j := by
  have a : SH h := a0.fr f (by decide)
  obtain ⟨h', e1, f1, v1⟩ := copy_43_41 a
  refine ⟨h', ?_, f.tr (f1.sub (by decide)), fun j hj => by rw [v1 j hj, f.1 2752 0 j (by decide) (a0.nl (k := 43) (n := 1765) (by decide +kernel))]⟩
  unfold X12_check_g164 X12_check_f164
  rw [sh_706 a, sh_704 a, e1, cV_some]
  unfold chV
  by_cases c1 : nI x = nI n
  · rw [if_pos c1, if_pos c1]
    by_cases c2 : nI x = 2 * nI X
    · rw [if_pos c2, if_pos c2]
    · rw [if_neg c2, if_neg c2]
      rfl
  · rw [if_neg c1, if_neg c1]
    rfl
theorem check_loop {A : (Nat → Int32) → (Nat → Int32)} {Rr : (Nat → Int32) → Wr} {b : Nat} (st : MoS A Rr b) {h0 : PH} (a0 : SH h0) {X n : Nat} (hX : X ≤ 30) (hn : n ≤ 60) : ∀ k x j h (N : Nat → Int32), j + k = X → x = 2 * j → SH h → hI h 2624 0 = N → (∃ g, Hs g b N) → 0 < nt (N 3) → 0 < nt (N 5) → Fr ckW h0 h → ∃ z h', X12_check_fam z 0 (nI X) (nI n) (nI x) (nI j) h = some (some (.inl (chV n X (chF A Rr n (hI h0 4480 0) k x N))), h') ∧ Fr ckW h0 h' ∧ ∀ j, j < 1765 → hI h' 2624 0 j = hI h0 2752 0 j := by
  have t2 : ∀ j : Nat, (2 : Int32) * nI j = nI (2 * j) := two_nI
  have stop : ∀ x j h, Fr ckW h0 h → x < 100 → j < 100 → (X ≤ j ∨ x ≠ 2 * j) → ∃ z h', X12_check_fam z 0 (nI X) (nI n) (nI x) (nI j) h = some (some (.inl (chV n X x)), h') ∧ Fr ckW h0 h' ∧ ∀ j, j < 1765 → hI h' 2624 0 j = hI h0 2752 0 j := fun x j h f hx hj hc => by
    obtain ⟨h', e1, e2⟩ := check_end a0 f (X12_check_fam 0) X n x
    refine ⟨1, h', ?_, e2⟩
    show X12_check_g78 (X12_check_fam 0) 0 (nI X) (nI n) (nI x) (nI j) h = _
    unfold X12_check_g78 X12_check_f78
    by_cases c : j < X
    · rw [if_pos (nI_lt c (by omega)), t2, if_neg (fun z => by have := (nI_eq (by omega) (by omega)).mp z; omega)]
      exact e1
    · rw [if_neg (nI_nlt (by omega) (by omega))]
      exact e1
  intro k
  induction k with
  | zero =>
    intro x j h N e ex a hN q hp hg f
    exact stop x j h f (by omega) (by omega) (Or.inl (by omega))
  | succ k ih =>
    intro x j h N e ex a hN q hp hg f
    obtain ⟨hle, h4, e4, n4, f4, w3, w4, q4, hp4, hg4, ag⟩ := st h N a hN q hp hg
    have a4 : SH h4 := a.fr f4 (by decide)
    have f04 : Fr ckW h0 h4 := f.tr (f4.sub (by decide))
    have n70 := a0.nl (k := 70) (i := 0) (n := 60) (show (70, 0, 60) ∈ lnList by decide +kernel)
    have e44 : ∀ y, hI h4 4480 0 y = hI h0 4480 0 y := fun y => f04.1 4480 0 y (by decide) n70
    have nx : ∀ z (u v : Nat), X12_check_g156 (X12_check_fam z) 0 (nI X) (nI n) (nI j) (nI u) (nI v) h4 = X12_check_fam z 0 (nI X) (nI n) (nI (v + u)) (nI (j + 1)) h4 := fun z u v => by
      show X12_check_fam z 0 (nI X) (nI n) (nI v + nI u) (nI j + 1) h4 = _
      rw [nI_add, nI_1]
    have pre : ∀ z, X12_check_fam (z + 1) 0 (nI X) (nI n) (nI x) (nI j) h = (if nI x < nI n then (nn (hR h4 753 0 0) fun r11 => ix (nI x) (hL h4 70 r11) fun j12 => if (hI h4 4480 r11 j12) = (hI h4 731 0 0) then X12_check_g120 (X12_check_fam z) 0 (nI X) (nI n) (nI j) 1 (nI x) h4 else X12_check_g120 (X12_check_fam z) 0 (nI X) (nI n) (nI j) 0 (nI x) h4) else X12_check_g120 (X12_check_fam z) 0 (nI X) (nI n) (nI j) 0 (nI x) h4) := fun z => by
      show X12_check_g78 (X12_check_fam z) 0 (nI X) (nI n) (nI x) (nI j) h = _
      unfold X12_check_g78 X12_check_f78
      rw [if_pos (nI_lt (by omega) (by omega)), t2, if_pos (by rw [ex]), e4, cV_some]
    have p0 : ∀ z, X12_check_g120 (X12_check_fam z) 0 (nI X) (nI n) (nI j) 0 (nI x) h4 = X12_check_fam z 0 (nI X) (nI n) (nI x) (nI (j + 1)) h4 := fun z => by
      unfold X12_check_g120 X12_check_f120
      rw [Int32.add_zero, t2, nI_1, if_neg (fun z => by have := (nI_eq (by omega) (by omega)).mp z; omega)]
      exact nx z 0 x
    have p1 : ∀ z, X12_check_g120 (X12_check_fam z) 0 (nI X) (nI n) (nI j) 1 (nI x) h4 = (if nI (x + 1) < nI n then (nn (hR h4 753 0 0) fun r13 => ix (nI (x + 1)) (hL h4 70 r13) fun j14 => if (hI h4 4480 r13 j14) = (hI h4 732 0 0) then X12_check_fam z 0 (nI X) (nI n) (nI (x + 1 + 1)) (nI (j + 1)) h4 else X12_check_fam z 0 (nI X) (nI n) (nI (x + 1)) (nI (j + 1)) h4) else X12_check_fam z 0 (nI X) (nI n) (nI (x + 1)) (nI (j + 1)) h4) := fun z => by
      unfold X12_check_g120 X12_check_f120
      have n0 : X12_check_g156 (X12_check_fam z) 0 (nI X) (nI n) (nI j) 0 (nI (x + 1)) h4 = X12_check_fam z 0 (nI X) (nI n) (nI (x + 1)) (nI (j + 1)) h4 := nx z 0 (x + 1)
      have n1 : X12_check_g156 (X12_check_fam z) 0 (nI X) (nI n) (nI j) 1 (nI (x + 1)) h4 = X12_check_fam z 0 (nI X) (nI n) (nI (x + 1 + 1)) (nI (j + 1)) h4 := nx z 1 (x + 1)
      rw [t2, nI_1, nI_1, if_pos (by rw [ex]), n0, n1]
    rw [chF_s]
    by_cases c1 : x < n ∧ hI h0 4480 0 x = nI (Rr N).1
    · rw [if_pos c1]
      by_cases c2 : x + 1 < n ∧ hI h0 4480 0 (x + 1) = nI (Rr N).2.1
      · rw [if_pos c2]
        obtain ⟨z, h', y1, y2⟩ := ih (x + 1 + 1) (j + 1) h4 (A N) (by omega) (by omega) a4 n4 q4 hp4 hg4 f04
        refine ⟨z + 1, h', ?_, y2⟩
        rw [pre, if_pos (nI_lt c1.1 (by omega)), nnE (sh_753 a4), ixE (ln_70 a4) rfl (show x < 60 by omega) (by decide), e44, w3, if_pos c1.2, p1, if_pos (nI_lt c2.1 (by omega)), nnE (sh_753 a4), ixE (ln_70 a4) rfl (show x + 1 < 60 by omega) (by decide), e44, w4, if_pos c2.2]
        exact y1
      · rw [if_neg c2]
        obtain ⟨z, h', y1, y2⟩ := stop (x + 1) (j + 1) h4 f04 (by omega) (by omega) (Or.inr (by omega))
        refine ⟨z + 1, h', ?_, y2⟩
        rw [pre, if_pos (nI_lt c1.1 (by omega)), nnE (sh_753 a4), ixE (ln_70 a4) rfl (show x < 60 by omega) (by decide), e44, w3, if_pos c1.2, p1]
        by_cases c3 : x + 1 < n
        · rw [if_pos (nI_lt c3 (by omega)), nnE (sh_753 a4), ixE (ln_70 a4) rfl (show x + 1 < 60 by omega) (by decide), e44, w4, if_neg (fun z => c2 ⟨c3, z⟩)]
          exact y1
        · rw [if_neg (nI_nlt (by omega) (by omega))]
          exact y1
    · rw [if_neg c1]
      obtain ⟨z, h', y1, y2⟩ := stop x (j + 1) h4 f04 (by omega) (by omega) (Or.inr (by omega))
      refine ⟨z + 1, h', ?_, y2⟩
      rw [pre]
      by_cases c3 : x < n
      · rw [if_pos (nI_lt c3 (by omega)), nnE (sh_753 a4), ixE (ln_70 a4) rfl (show x < 60 by omega) (by decide), e44, w3, if_neg (fun z => c1 ⟨c3, z⟩), p0]
        exact y1
      · rw [if_neg (nI_nlt (by omega) (by omega)), p0]
        exact y1
theorem stB_0 (N : Nat → Int32) (o : Option Nat) : stB N o 0 = stN N 0 := by
  cases o with
  | none => rfl
  | some s => exact if_neg (by omega)
def ReS (N N' : Nat → Int32) : Prop := (∃ g, Hs g 1 N) ∧ (∃ g, Hs g 1 N') ∧ AgS N N' ∧ N' 0 = N 0 ∧ 0 < nt (N 5)
theorem ReS.step : ∀ N N', ReS N N' → stR N' = stR N ∧ ReS (stN N) (stA N') := fun N N' re => by
  obtain ⟨⟨g, q⟩, ⟨g', q'⟩, ag, e0, hg⟩ := re
  refine ⟨stR_ag q ag e0 hg, ⟨_, q.toN⟩, q'.toA, fun j h1 h2 => ?_, ?_, by rw [stN_at N (by omega)]; exact hg⟩
  · rw [AgS.toA q' j h1 h2, ag j h1 h2, stN_at N h1]
  · refine (stB_0 N' (oF (stR N'))).trans ?_
    show lcg (lcg (lcg (N' 0))) = lcg (lcg (lcg (N 0)))
    rw [e0]
theorem chV_eq (X n : Nat) (x : Int32) (h : PH) : (if x = 2 * nI X then (if nI n = 2 * nI X then some (some (.inl 0), h) else X11_check_g105 x h) else X11_check_g105 x h : Option Rs) = some (some (.inl (if x = nI n then (if x = 2 * nI X then 0 else 1 + x) else 1 + x)), h) := by
  by_cases c1 : x = 2 * nI X
  · rw [if_pos c1, if_pos c1]
    by_cases c2 : nI n = 2 * nI X
    · rw [if_pos c2, if_pos (c1.trans c2.symm)]
    · rw [if_neg c2, if_neg (fun z => c2 (z.symm.trans c1))]
      rfl
  · rw [if_neg c1, if_neg c1]
    by_cases c3 : x = nI n
    · rw [if_pos c3]
      rfl
    · rw [if_neg c3]
      rfl
