/-! which ways pass, which signs are read: both look -/
theorem rg_nI {x : Int32} {u : Nat} (h : rgI x 0 u) : ∃ k, x = nI k ∧ k ≤ u := ⟨x.toInt.toNat, i_of h.1, by have := h.2; have := h.1; omega⟩
theorem nar_b (b : Bool) : vp_nar .boolean (b2 b) = b2 b := by cases b <;> decide
/-- a house and its row of numbers, in all -/
def Hs (h : PH) (b : Nat) (N : Nat → Int32) : Prop := SH h ∧ b < 2 ∧ HRel h b N ∧ TRel h b N
def hsCols : List Nat := hrCols ++ trCols
def hsRefs : List Nat := shCols ++ trRefs
theorem Hs.fr {W : List Nat × List Nat × Bool} {h h' : PH} {b : Nat} {N : Nat → Int32} (q : Hs h b N) (f : Fr W h h') (hw : hsCols.all (fun c => !W.1.contains c) = true) (hv : hsRefs.all (fun c => !W.2.1.contains c) = true) : Hs h' b N := by
  obtain ⟨a, hb, q1, q2⟩ := q
  unfold hsCols at hw
  unfold hsRefs at hv
  rw [List.all_append, Bool.and_eq_true] at hw hv
  refine ⟨a.fr f ?_, hb, q1.fr a hb f hw.1, q2.fr a hb f hw.2 hv.2⟩
  rw [List.all_eq_true]
  intro c hc
  have h1 := hv.1
  rw [List.all_eq_true] at h1
  cases e : shCols.contains c with
  | false => rfl
  | true =>
    have := h1 c (by rw [← List.contains_iff_mem]; exact e)
    rw [List.contains_iff_mem.mpr hc] at this
    cases this
theorem Hs.ways {h : PH} {b : Nat} {N : Nat → Int32} (q : Hs h b N) : ∃ K, N 4 = nI K ∧ K ≤ 20 ∧ nt (N 4) = K ∧ (N 4).toInt = K ∧ hI h 73 b 0 = nI K := by
  obtain ⟨K, e, hK⟩ := rg_nI (u := 20) q.2.2.1.2.1.2.1
  exact ⟨K, e, hK, by rw [e, nt_nI (by omega)], by rw [e, nI_toInt (by omega)], q.2.2.1.1.2.1.trans e⟩
theorem Hs.signs {h : PH} {b : Nat} {N : Nat → Int32} (q : Hs h b N) : ∃ K, N 6 = nI K ∧ K ≤ 14 ∧ nt (N 6) = K ∧ (N 6).toInt = K ∧ hI h 75 b 0 = nI K := by
  obtain ⟨K, e, hK⟩ := rg_nI (u := 14) q.2.2.1.2.1.2.2.2.1
  exact ⟨K, e, hK, by rw [e, nt_nI (by omega)], by rw [e, nI_toInt (by omega)], q.2.2.1.1.2.2.2.1.trans e⟩
theorem Hs.goals {h : PH} {b : Nat} {N : Nat → Int32} (q : Hs h b N) : ∃ K, N 5 = nI K ∧ K ≤ 10 ∧ nt (N 5) = K ∧ (N 5).toInt = K ∧ hI h 74 b 0 = nI K := by
  obtain ⟨K, e, hK⟩ := rg_nI (u := 10) q.2.2.1.2.1.2.2.1
  exact ⟨K, e, hK, by rw [e, nt_nI (by omega)], by rw [e, nI_toInt (by omega)], q.2.2.1.1.2.2.1.trans e⟩
theorem Hs.places {h : PH} {b : Nat} {N : Nat → Int32} (q : Hs h b N) : ∃ K, N 3 = nI K ∧ K ≤ 12 ∧ nt (N 3) = K ∧ (N 3).toInt = K ∧ hI h 72 b 0 = nI K := by
  obtain ⟨K, e, hK⟩ := rg_nI (u := 12) q.2.2.1.2.1.1
  exact ⟨K, e, hK, by rw [e, nt_nI (by omega)], by rw [e, nI_toInt (by omega)], q.2.2.1.1.1.trans e⟩
theorem way_ref {h : PH} (a : SH h) {b : Nat} (hb : b < 2) {w : Nat} (hw : w < 20) : hR h 896 b w = 20 * b + w + 1 := by
  have : b = 0 ∨ b = 1 := by omega
  rcases this with rfl | rfl
  · rw [sh_896_0 a w hw]; omega
  · rw [sh_896_1 a w hw]; omega
theorem sign_ref {h : PH} (a : SH h) {b : Nat} (hb : b < 2) {s : Nat} (hs : s < 14) : hR h 1152 b s = 14 * b + s + 1 := by
  have : b = 0 ∨ b = 1 := by omega
  rcases this with rfl | rfl
  · rw [sh_1152_0 a s hs]; omega
  · rw [sh_1152_1 a s hs]; omega
theorem SH.n24 {h : PH} (a : SH h) {i : Nat} (hi : i < 2) : i < hN h 24 := a.nl (n := 20) ((by decide +kernel : ∀ i, i < 2 → (24, i, 20) ∈ lnList) i hi)
theorem SH.n3 {h : PH} (a : SH h) {i : Nat} (hi : i < 2) : i < hN h 3 := Nat.lt_of_lt_of_le hi (a.n (show (3, 2) ∈ cnList by decide +kernel))
def svW : List Nat × List Nat × Bool := ([1536, 1920], [], false)
theorem X4_survey_loop {h0 : PH} {b i K : Nat} {N : Nat → Int32} (q : Hs h0 b N) (hi : i < 2) (r : hR h0 193 i 0 = b + 1) {x : Int32} (hx : hI h0 192 i 0 = x) (hK : N 4 = nI K) (h20 : K ≤ 20) : ∀ k w h, w + k = K → Fr svW h0 h → (∀ v, v < w → hI h 1536 i v = b2 (passB N v x)) → ∃ n h', X4_survey_fam n i (nI w) h = some (none, h') ∧ Fr svW h0 h' ∧ ∀ v, v < K → hI h' 1536 i v = b2 (passB N v x)
  | 0, w, h, e, f, p => by
    have qh := q.fr f (by decide +kernel) (by decide +kernel)
    have r' : hR h 193 i 0 = b + 1 := (f.2.1 193 i 0 (by decide) (q.1.n3 hi)).trans r
    have hlt : ¬ nI w < nI K := nI_nlt (by omega) (by omega)
    refine ⟨1, h, ?_, f, fun v hv => p v (by omega)⟩
    simp only [X4_survey_fam, X4_survey_g7, X4_survey_f7, r', nn_succ, qh.2.2.1.1.2.1, hK, if_neg hlt]
  | k + 1, w, h, e, f, p => by
    have qh := q.fr f (by decide +kernel) (by decide +kernel)
    have a := qh.1
    have r' : hR h 193 i 0 = b + 1 := (f.2.1 193 i 0 (by decide) (q.1.n3 hi)).trans r
    have x' : hI h 192 i 0 = x := (f.1 192 i 0 (by decide) (q.1.n3 hi)).trans hx
    have hlt : nI w < nI K := nI_lt (by omega) (by omega)
    obtain ⟨h7, e7, f7⟩ := X1_passes_eq a q.2.1 qh.2.2.1 qh.2.2.2 (w := w) (by rw [hK, nI_toInt (by omega)]; omega) x
    have f7' : Fr svW h0 h7 := f.tr (f7.sub (by decide))
    obtain ⟨n, h', q1, q2, q3⟩ := X4_survey_loop q hi r hx hK h20 k (w + 1) (pI h7 1536 i w (b2 (passB N w x))) (by omega) (f7'.pI (by decide)) (fun v hv => by
      rw [hI_pI]
      by_cases c : v = w
      · rw [if_pos ⟨rfl, rfl, c⟩, c]
      · rw [if_neg (fun z => c z.2.2), f7.1 1536 i v (by decide) (a.n24 hi)]
        exact p v (by omega))
    have a7 := (q.fr f7' (by decide +kernel) (by decide +kernel)).1
    refine ⟨n + 1, h', ?_, q2, q3⟩
    simp only [X4_survey_fam, X4_survey_g7, X4_survey_f7, r', nn_succ, qh.2.2.1.1.2.1, hK, if_pos hlt, sh_64 a b q.2.1, ln_14 a b q.2.1, ix_nI (show w < 20 by omega) (show 20 < 2 ^ 31 by decide), way_ref a q.2.1 (show w < 20 by omega), x', e7, cI_some, sh_194 a i hi, ln_24 a7 i hi, nar_b, wr_eq, nI_1]
    exact q1
/-- a house is looked at: the ways that pass are known -/
theorem X4_survey_eq {h : PH} {b i : Nat} {N : Nat → Int32} (q : Hs h b N) (hi : i < 2) {x : Int32} (hx : hI h 192 i 0 = x) : ∃ h', X4_survey i (b + 1) h = some (none, h') ∧ Fr X4_survey_W h h' ∧ hR h' 193 i 0 = b + 1 ∧ ∀ v, v < nt (N 4) → hI h' 1536 i v = b2 (passB N v x) := by
  obtain ⟨K, hK, h20, hKn, -⟩ := q.ways
  have f1 : Fr X4_survey_W h (pR h 193 i 0 (b + 1)) := Fr.rf.pR (by decide)
  have q' : Hs (pR h 193 i 0 (b + 1)) b N := q.fr f1 (by decide +kernel) (by decide +kernel)
  have r : hR (pR h 193 i 0 (b + 1)) 193 i 0 = b + 1 := by
    show (if 193 = 193 ∧ i = i ∧ 0 = 0 then b + 1 else _) = b + 1
    rw [if_pos ⟨rfl, rfl, rfl⟩]
  obtain ⟨n, h', e, f, p⟩ := X4_survey_loop q' hi r (x := x) hx hK h20 K 0 _ (by omega) Fr.rf (fun v hv => by omega)
  have e' : X4_survey i (b + 1) h = some (none, h') := X4_survey_iff.mpr ⟨n, e⟩
  refine ⟨h', e', X4_survey_fr i (b + 1) h _ e', (f.2.1 193 i 0 (by decide) (q'.1.n3 hi)).trans r, ?_⟩
  rw [hKn]
  exact p
/-! the model's looks -/
theorem SH.n53 {h : PH} (a : SH h) : 0 < hN h 53 := a.nl (n := 20) (show (53, 0, 20) ∈ lnList by decide +kernel)
theorem SH.n54 {h : PH} (a : SH h) : 0 < hN h 54 := a.nl (n := 14) (show (54, 0, 14) ∈ lnList by decide +kernel)
def readB (N : Nat → Int32) (x : Int32) (s : Nat) : Bool := litB N s && obeyB N s x
theorem X12_looks_loop2 {h0 g : PH} {b K : Nat} (a0 : SH h0) {N : Nat → Int32} (hN : hI h0 2624 0 = N) (ht : TRel g b N) {x : Int32} (hK : N 6 = nI K) (h14 : K ≤ 14) : ∀ k s h, s + k = K → Fr X12_looks_W h0 h → (∀ v, v < s → hI h 3456 0 v = b2 (readB N x v)) → ∃ n h', (X12_looks_fam n).2 0 x (nI s) h = some (none, h') ∧ hI h' 3392 0 = hI h 3392 0 ∧ ∀ v, v < K → hI h' 3456 0 v = b2 (readB N x v)
  | 0, s, h, e, f, p => by
    have a : SH h := a0.fr f (by decide +kernel)
    have hN' : hI h 2624 0 = N := (now_fr a0 f (by decide)).trans hN
    have hlt : ¬ nI s < nI K := nI_nlt (by omega) (by omega)
    refine ⟨1, h, ?_, rfl, fun v hv => p v (by omega)⟩
    simp only [X12_looks_fam, X12_looks_g32, X12_looks_f32, sh_704 a, nn_one, ln_41 a, nx6, hN', hK, if_neg hlt]
  | k + 1, s, h, e, f, p => by
    have a : SH h := a0.fr f (by decide +kernel)
    have hN' : hI h 2624 0 = N := (now_fr a0 f (by decide)).trans hN
    have hlt : nI s < nI K := nI_lt (by omega) (by omega)
    have hs : s < 14 := by omega
    have key : ∀ z v, Fr X12_looks_W h z → hI z 3392 0 = hI h 3392 0 → hI z 3456 0 = hI h 3456 0 → v = b2 (readB N x s) → ∃ n h', X12_looks_g70 (X12_looks_fam n) 0 x (nI s) v (nI s) 1 z = some (none, h') ∧ hI h' 3392 0 = hI h 3392 0 ∧ ∀ v, v < K → hI h' 3456 0 v = b2 (readB N x v) := fun z v fz z1 z2 hv => by
      have az : SH z := a.fr fz (by decide +kernel)
      obtain ⟨n, h', q1, q2, q3⟩ := X12_looks_loop2 a0 hN ht hK h14 k (s + 1) (pI z 3456 0 s v) (by omega) ((f.tr fz).pI (by decide)) (fun u hu => by
        rw [hI_pI]
        by_cases c : u = s
        · rw [if_pos ⟨rfl, rfl, c⟩, c, hv]
        · rw [if_neg (fun z => c z.2.2), z2]
          exact p u (by omega))
      refine ⟨n, h', ?_, q2.trans ?_, q3⟩
      · simp only [X12_looks_g70, X12_looks_f70, nn_one, ln_54 az, ix_nI hs (show 14 < 2 ^ 31 by decide), wr_eq, nI_1, hv, nar_b]
        rw [hv] at q1
        exact q1
      · funext j
        rw [hI_off _ (by decide), z1]
    obtain ⟨h1, e1, f1⟩ := X12_isLit_eq a (g := g) (b := b) (by rw [hN']; exact ht) hs
    rw [hN'] at e1
    have f1' : Fr X12_looks_W h h1 := f1.sub (by decide)
    have a1 : SH h1 := a.fr f1 (by decide +kernel)
    cases cl : litB N s with
    | false =>
      obtain ⟨n, h', q1, q2, q3⟩ := key h1 0 f1' (f1.col (by decide) a.n53) (f1.col (by decide) a.n54) (by unfold readB; rw [cl]; rfl)
      refine ⟨n + 1, h', ?_, q2, q3⟩
      rw [cl] at e1
      simp only [X12_looks_fam, X12_looks_g32, X12_looks_f32, sh_704 a, nn_one, ln_41 a, nx6, hN', hK, if_pos hlt, e1, cI_some, b2, cond_false, if_true, sh_729 a]
      exact q1
    | true =>
      have hN1 : hI h1 2624 0 = N := (now_fr a f1 (by decide)).trans hN'
      obtain ⟨h2, e2, f2⟩ := X12_isObeyed_eq a1 (g := g) (b := b) (by rw [hN1]; exact ht) hs x
      rw [hN1] at e2
      have f2' : Fr X12_looks_W h h2 := f1'.tr (f2.sub (by decide))
      have c1 : hI h2 3392 0 = hI h 3392 0 := (f2.col (by decide) a1.n53).trans (f1.col (by decide) a.n53)
      have c2 : hI h2 3456 0 = hI h 3456 0 := (f2.col (by decide) a1.n54).trans (f1.col (by decide) a.n54)
      rw [cl] at e1
      cases co : obeyB N s x with
      | false =>
        obtain ⟨n, h', q1, q2, q3⟩ := key h2 0 f2' c1 c2 (by unfold readB; rw [cl, co]; rfl)
        refine ⟨n + 1, h', ?_, q2, q3⟩
        rw [co] at e2
        simp only [X12_looks_fam, X12_looks_g32, X12_looks_f32, sh_704 a, nn_one, ln_41 a, nx6, hN', hK, if_pos hlt, e1, e2, cI_some, b2, cond_false, cond_true, if_true, if_neg (show ¬ (1 : Int32) = 0 by decide), sh_729 a]
        exact q1
      | true =>
        obtain ⟨n, h', q1, q2, q3⟩ := key h2 1 f2' c1 c2 (by unfold readB; rw [cl, co]; rfl)
        refine ⟨n + 1, h', ?_, q2, q3⟩
        rw [co] at e2
        simp only [X12_looks_fam, X12_looks_g32, X12_looks_f32, sh_704 a, nn_one, ln_41 a, nx6, hN', hK, if_pos hlt, e1, e2, cI_some, b2, cond_false, cond_true, if_true, if_neg (show ¬ (1 : Int32) = 0 by decide), sh_729 a]
        exact q1
theorem X12_looks_loop1 {h0 g : PH} {b K S : Nat} (a0 : SH h0) {N : Nat → Int32} (hN : hI h0 2624 0 = N) (ht : TRel g b N) {x : Int32} (hK : N 4 = nI K) (h20 : K ≤ 20) (hS : N 6 = nI S) (h14 : S ≤ 14) : ∀ k w h, w + k = K → Fr X12_looks_W h0 h → (∀ v, v < w → hI h 3392 0 v = b2 (passB N v x)) → ∃ n h', (X12_looks_fam n).1 0 x (nI w) h = some (none, h') ∧ (∀ v, v < K → hI h' 3392 0 v = b2 (passB N v x)) ∧ ∀ v, v < S → hI h' 3456 0 v = b2 (readB N x v)
  | 0, w, h, e, f, p => by
    have a : SH h := a0.fr f (by decide +kernel)
    have hN' : hI h 2624 0 = N := (now_fr a0 f (by decide)).trans hN
    have hlt : ¬ nI w < nI K := nI_nlt (by omega) (by omega)
    obtain ⟨n, h', q1, q2, q3⟩ := X12_looks_loop2 a0 hN ht (x := x) hS h14 S 0 h (by omega) f (fun v hv => by omega)
    refine ⟨n + 1, h', ?_, fun v hv => ?_, q3⟩
    · simp only [X12_looks_fam, X12_looks_g2, X12_looks_f2, sh_704 a, nn_one, ln_41 a, nx4, hN', hK, if_neg hlt]
      exact q1
    · rw [q2]
      exact p v (by omega)
  | k + 1, w, h, e, f, p => by
    have a : SH h := a0.fr f (by decide +kernel)
    have hN' : hI h 2624 0 = N := (now_fr a0 f (by decide)).trans hN
    have hlt : nI w < nI K := nI_lt (by omega) (by omega)
    have hw : w < 20 := by omega
    obtain ⟨h1, e1, f1⟩ := X12_passes_eq a (g := g) (b := b) (by rw [hN']; exact ht) hw x
    rw [hN'] at e1
    have a1 : SH h1 := a.fr f1 (by decide +kernel)
    have f1' : Fr X12_looks_W h0 h1 := f.tr (f1.sub (by decide))
    obtain ⟨n, h', q1, q2, q3⟩ := X12_looks_loop1 a0 hN ht hK h20 hS h14 k (w + 1) (pI h1 3392 0 w (b2 (passB N w x))) (by omega) (f1'.pI (by decide)) (fun v hv => by
      rw [hI_pI]
      by_cases c : v = w
      · rw [if_pos ⟨rfl, rfl, c⟩, c]
      · rw [if_neg (fun z => c z.2.2), f1.1 3392 0 v (by decide) a.n53]
        exact p v (by omega))
    refine ⟨n + 1, h', ?_, q2, q3⟩
    simp only [X12_looks_fam, X12_looks_g2, X12_looks_f2, sh_704 a, nn_one, ln_41 a, nx4, hN', hK, if_pos hlt, e1, cI_some, sh_728 a, ln_53 a1, ix_nI hw (show 20 < 2 ^ 31 by decide), nar_b, wr_eq, nI_1]
    exact q1
theorem X12_looks_eq {h g : PH} {b : Nat} (a : SH h) (q : Hs g b (hI h 2624 0)) (x : Int32) : ∃ h', X12_looks 0 x h = some (none, h') ∧ Fr X12_looks_W h h' ∧ (∀ v, v < nt (hI h 2624 0 4) → hI h' 3392 0 v = b2 (passB (hI h 2624 0) v x)) ∧ ∀ v, v < nt (hI h 2624 0 6) → hI h' 3456 0 v = b2 (readB (hI h 2624 0) x v) := by
  obtain ⟨K, hK, h20, hKn, -⟩ := q.ways
  obtain ⟨S, hS, h14, hSn, -⟩ := q.signs
  obtain ⟨n, h', e, p1, p2⟩ := X12_looks_loop1 a rfl q.2.2.2 (x := x) hK h20 hS h14 K 0 h (by omega) Fr.rf (fun v hv => by omega)
  have e' : X12_looks 0 x h = some (none, h') := X12_looks_iff.mpr ⟨n, e⟩
  refine ⟨h', e', X12_looks_fr 0 x h _ e', ?_, ?_⟩
  · rw [hKn]; exact p1
  · rw [hSn]; exact p2
