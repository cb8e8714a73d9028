/-! pair: drop -/
theorem remove_c {h0 : PH} (a0 : SH h0) {s n rr : Nat} (hs : s < 28) (hn : n < 6) (hrr : rr ≤ n) (h3 : hI h0 324 s 0 = nI (n + 1)) : ∃ h', X6_removeRow s (nI rr) h0 = some (none, h') ∧ Fr rwW h0 h' ∧ hI h' 324 s 0 = nI n ∧ (∀ j, hI h' 1728 s j = if rr ≤ j ∧ j < n then hI h0 1728 s (j + 1) else hI h0 1728 s j) ∧ (∀ j, hI h' 1792 s j = if rr ≤ j ∧ j < n then hI h0 1792 s (j + 1) else hI h0 1792 s j) ∧ ∀ c, c = 324 ∨ c = 1728 ∨ c = 1792 → ∀ i j, i ≠ s → hI h' c i j = hI h0 c i j := by
  have key : ∀ k x h, x + k = n → rr ≤ x → Fr rwW h0 h → hI h 324 s 0 = nI (n + 1) → (∀ j, hI h 1728 s j = if rr ≤ j ∧ j < x then hI h0 1728 s (j + 1) else hI h0 1728 s j) → (∀ j, hI h 1792 s j = if rr ≤ j ∧ j < x then hI h0 1792 s (j + 1) else hI h0 1792 s j) → (∀ c, c = 324 ∨ c = 1728 ∨ c = 1792 → ∀ i j, i ≠ s → hI h c i j = hI h0 c i j) → ∃ z h', X6_removeRow_fam z s (nI x) h = some (none, h') ∧ Fr rwW h0 h' ∧ hI h' 324 s 0 = nI n ∧ (∀ j, hI h' 1728 s j = if rr ≤ j ∧ j < n then hI h0 1728 s (j + 1) else hI h0 1728 s j) ∧ (∀ j, hI h' 1792 s j = if rr ≤ j ∧ j < n then hI h0 1792 s (j + 1) else hI h0 1792 s j) ∧ ∀ c, c = 324 ∨ c = 1728 ∨ c = 1792 → ∀ i j, i ≠ s → hI h' c i j = hI h0 c i j := by
    intro k
    induction k with
    | zero =>
      intro x h e hx f h4 d1 d2 d3
      have : x = n := by omega
      subst this
      have hlt : ¬ nI (x + 1) < nI (x + 1) := nI_nlt (Nat.le_refl _) (by omega)
      refine ⟨1, pI h 324 s 0 (nI x), ?_, f.pI (by decide), by rw [hI_pI, if_pos ⟨rfl, rfl, rfl⟩], fun j => by rw [hI_off _ (by decide)]; exact d1 j, fun j => by rw [hI_off _ (by decide)]; exact d2 j, fun c hc i j hi => by rw [hI_pI, if_neg (fun w => hi w.2.1)]; exact d3 c hc i j hi⟩
      show X6_removeRow_g2 _ s (nI x) h = _
      unfold X6_removeRow_g2 X6_removeRow_f2
      rw [nI_1, h4, if_neg hlt, nI_pred, wr_eq]
    | succ k ih =>
      intro x h e hx f h4 d1 d2 d3
      have a : SH h := a0.fr f (by decide +kernel)
      have a6 : SH (pI h 1728 s x (hI h0 1728 s (x + 1))) := a
      have hlt : nI (x + 1) < nI (n + 1) := nI_lt (by omega) (by omega)
      have y1 : hI h 1728 s (x + 1) = hI h0 1728 s (x + 1) := by rw [d1, if_neg (by omega)]
      have y2 : hI (pI h 1728 s x (hI h0 1728 s (x + 1))) 1792 s (x + 1) = hI h0 1792 s (x + 1) := by rw [hI_off _ (by decide), d2, if_neg (by omega)]
      obtain ⟨z, h', e1, e2, e3, e4, e5, e6⟩ := ih (x + 1) (pI (pI h 1728 s x (hI h0 1728 s (x + 1))) 1792 s x (hI h0 1792 s (x + 1))) (by omega) (by omega) ((f.pI (by decide)).pI (by decide)) (by rw [hI_off _ (by decide), hI_off _ (by decide)]; exact h4) (fun j => by
          rw [hI_off _ (by decide), hI_pI]
          by_cases c : j = x
          · subst c
            rw [if_pos ⟨rfl, rfl, rfl⟩, if_pos (by omega)]
          · rw [if_neg (fun w => c w.2.2), d1 j]
            by_cases c2 : rr ≤ j ∧ j < x
            · rw [if_pos c2, if_pos (by omega)]
            · rw [if_neg c2, if_neg (by omega)]) (fun j => by
          rw [hI_pI]
          by_cases c : j = x
          · subst c
            rw [if_pos ⟨rfl, rfl, rfl⟩, if_pos (by omega)]
          · rw [if_neg (fun w => c w.2.2), hI_off _ (by decide), d2 j]
            by_cases c2 : rr ≤ j ∧ j < x
            · rw [if_pos c2, if_pos (by omega)]
            · rw [if_neg c2, if_neg (by omega)]) (fun c hc i j hi => by rw [hI_pI, if_neg (fun w => hi w.2.1), hI_pI, if_neg (fun w => hi w.2.1)]; exact d3 c hc i j hi)
      refine ⟨z + 1, h', ?_, e2, e3, e4, e5, e6⟩
      show X6_removeRow_g2 (X6_removeRow_fam z) s (nI x) h = _
      unfold X6_removeRow_g2 X6_removeRow_f2
      rw [nI_1, h4, if_pos hlt, nnE (sh_325 a s hs), ixE (ln_27 a s hs) rfl (show x + 1 < 6 by omega) (by decide), nnE (sh_325 a s hs), ixE (ln_27 a s hs) rfl (show x < 6 by omega) (by decide), y1, wr_eq, nnE (sh_326 a6 s hs), ixE (ln_28 a6 s hs) rfl (show x + 1 < 6 by omega) (by decide), nnE (sh_326 a6 s hs), ixE (ln_28 a6 s hs) rfl (show x < 6 by omega) (by decide), y2, wr_eq]
      exact e1
  obtain ⟨z, h', e1, e2⟩ := key (n - rr) rr h0 (by omega) (Nat.le_refl _) Fr.rf h3 (fun j => by rw [if_neg (by omega)]) (fun j => by rw [if_neg (by omega)]) (fun _ _ _ _ _ => rfl)
  exact ⟨h', X6_removeRow_iff.mpr ⟨z, e1⟩, e2⟩
/-- the model's rows from lo below hi are those behind them -/
def drF (N : Nat → Int32) (s lo hi : Nat) : Nat → Int32 := fun j => if 225 + 12 * s + 2 * lo ≤ j ∧ j < 225 + 12 * s + 2 * hi then N (j + 2) else N j
theorem remove_m {h0 : PH} (a0 : SH h0) {s n rr : Nat} (hs : s < 14) (hn : n < 6) (hrr : rr ≤ n) : ∃ z h', X12_drop_fam z 0 (nI s) (nI n) (nI rr) h0 = some (some (.inl (nI n)), h') ∧ Fr ([2624], [], false) h0 h' ∧ hI h' 2624 0 = updF (drF (hI h0 2624 0) s rr n) (157 + 5 * s) (nI n) := by
  have x0 : (155 : Int32) + 5 * nI s + 2 = nI (157 + 5 * s) := by
    rw [show (155 : Int32) = nI 155 from rfl, show (5 : Int32) = nI 5 from rfl, show (2 : Int32) = nI 2 from rfl, nI_mul, nI_add, nI_add]
    congr 1
    omega
  have key : ∀ k x h, x + k = n → rr ≤ x → Fr ([2624], [], false) h0 h → hI h 2624 0 = drF (hI h0 2624 0) s rr x → ∃ z h', X12_drop_fam z 0 (nI s) (nI n) (nI x) h = some (some (.inl (nI n)), h') ∧ Fr ([2624], [], false) h0 h' ∧ hI h' 2624 0 = updF (drF (hI h0 2624 0) s rr n) (157 + 5 * s) (nI n) := by
    intro k
    induction k with
    | zero =>
      intro x h e hx f hd
      have : x = n := by omega
      subst this
      have a : SH h := a0.fr f (by decide +kernel)
      have hlt : ¬ nI x < nI x := nI_nlt (Nat.le_refl _) (by omega)
      refine ⟨1, pI h 2624 0 (157 + 5 * s) (nI x), ?_, f.pI (by decide), by rw [hI_upd, hd]⟩
      show X12_drop_g41 _ 0 (nI s) (nI x) (nI x) h = _
      unfold X12_drop_g41 X12_drop_f41
      rw [if_neg hlt, nnE (sh_704 a), ixE (ln_41 a) x0 (show 157 + 5 * s < 1765 by omega) (by decide), wr_eq]
    | succ k ih =>
      intro x h e hx f hd
      have a : SH h := a0.fr f (by decide +kernel)
      have hlt : nI x < nI n := nI_lt (by omega) (by omega)
      have y1 : hI h 2624 0 (225 + 12 * s + 2 * (x + 1)) = hI h0 2624 0 (225 + 12 * s + 2 * x + 2) := by
        rw [hd]
        unfold drF
        rw [if_neg (by omega)]
        congr 1
      have y2 : hI h 2624 0 (226 + 12 * s + 2 * (x + 1)) = hI h0 2624 0 (226 + 12 * s + 2 * x + 2) := by
        rw [hd]
        unfold drF
        rw [if_neg (by omega)]
        congr 1
      obtain ⟨z, h', e1, e2, e3⟩ := ih (x + 1) (pI (pI h 2624 0 (225 + 12 * s + 2 * x) (hI h0 2624 0 (225 + 12 * s + 2 * x + 2))) 2624 0 (226 + 12 * s + 2 * x) (hI h0 2624 0 (226 + 12 * s + 2 * x + 2))) (by omega) (by omega) ((f.pI (by decide)).pI (by decide)) (by
        rw [hI_upd, hI_upd, hd]
        funext j
        unfold updF drF
        by_cases c1 : j = 226 + 12 * s + 2 * x
        · rw [if_pos c1, if_pos (by omega), c1]
        · rw [if_neg c1]
          by_cases c2 : j = 225 + 12 * s + 2 * x
          · rw [if_pos c2, if_pos (by omega), c2]
          · rw [if_neg c2]
            by_cases c3 : 225 + 12 * s + 2 * rr ≤ j ∧ j < 225 + 12 * s + 2 * x
            · rw [if_pos c3, if_pos (by omega)]
            · rw [if_neg c3, if_neg (by omega)])
      refine ⟨z + 1, h', ?_, e2, e3⟩
      show X12_drop_g41 (X12_drop_fam z) 0 (nI s) (nI n) (nI x) h = _
      unfold X12_drop_g41 X12_drop_f41
      rw [if_pos hlt, nI_1, X12_nameAt_eq a hs (show x + 1 < 6 by omega), cI_some, X12_arrowAt_eq a hs (show x + 1 < 6 by omega), cI_some, y1, y2, setsRow_eq a hs (show x < 6 by omega), cV_some]
      exact e1
  exact key (n - rr) rr h0 (by omega) (Nat.le_refl _) Fr.rf (funext fun j => by unfold drF; rw [if_neg (by omega)])
theorem pair_drop (m : Nat) (h : PH) (x1 x2 : Int32) (_ : m < 64) (r : R m h) : Pr (R (m + 1)) (X11_drop 0 x1 x2) (X12_drop 0 x1 x2) h := by
  have r0 := r
  obtain ⟨a, q, -, q3, -⟩ := r
  rcases sign_cases q x1 with z | ⟨z, s, hs, rfl⟩
  · refine r0.same (v := -1000000001) ?_ (X12_drop_iff.mpr ⟨0, ?_⟩)
    · unfold X11_drop X11_drop_g0 X11_drop_f0
      rw [nnE (sh_640 a), hasRow_no q z, cI_some, if_pos rfl]
    · unfold X12_drop_g0 X12_drop_f0
      rw [isSign_wn a q, cI_some, z, if_pos rfl]
  obtain ⟨e1, e2, e3, e4, e5, e6, -⟩ := q.sign hs
  obtain ⟨g1, g2, g3, g4, g5⟩ := q.signF hs
  rw [Nat.mul_zero, Nat.zero_add] at g3
  have hR0 : (0 : Int) ≤ (nI (sR (hI h 2624 0) s)).toInt := by rw [nI_toInt (by omega)]; omega
  obtain ⟨S, hS, h14, hSn, hSi, -⟩ := q.signs
  rcases wn_cases (x := x2) (K := sR (hI h 2624 0) s) (by omega) with z2 | ⟨z2, rr, hrr, rfl⟩
  · refine r0.same (v := -1000000001) ?_ (X12_drop_iff.mpr ⟨0, ?_⟩)
    · unfold X11_drop X11_drop_g0 X11_drop_f0
      rw [nnE (sh_640 a), hasRow_eq q hs z, cI_some, z2, if_pos rfl]
    · unfold X12_drop_g0 X12_drop_f0
      rw [isSign_wn a q, cI_some, z, if_neg (by decide), rowsOf_sR a rfl q hs, cI_some, in_wnK hR0, cI_some, z2, if_pos rfl]
  obtain ⟨M, hM⟩ : ∃ M, sR (hI h 2624 0) s = M + 1 := ⟨sR (hI h 2624 0) s - 1, by omega⟩
  obtain ⟨n, l, k1, k2, k3, k4, k5, k6⟩ := q3
  obtain ⟨h1, u1, u2, u3, u4, u5, u6⟩ := note_eq q k1 k2 k3 k5
  have a1 : SH h1 := a.fr u2 (by decide +kernel)
  have g31 : hI h1 324 s 0 = nI (M + 1) := (u2.1 324 s 0 (by decide) (a.s1 (by omega))).trans (by rw [g3, hM])
  obtain ⟨h2, ead, f12, r1, r2, r3, r4⟩ := remove_c a1 (show s < 28 by omega) (show M < 6 by omega) (show rr ≤ M by omega) g31
  have a2 : SH h2 := a1.fr f12 (by decide +kernel)
  have hN2 : hI h2 2624 0 = hI h 2624 0 := (now_fr a1 f12 (by decide)).trans (now_fr a u2 (by decide))
  have k42 : hI h2 709 0 0 = nI n := (f12.1 709 0 0 (by decide) a1.n11).trans ((u2.1 709 0 0 (by decide) a.n11).trans k4)
  obtain ⟨h3, v1, v2, v3, v4, v5, v6⟩ := saves_eq a2 k1 k42
  have a3' : SH h3 := a2.fr v2 (by decide +kernel)
  have hN3 : hI h3 2624 0 = hI h 2624 0 := (now_fr a2 v2 (by decide)).trans hN2
  obtain ⟨zz, h4, em, f34, hN4'⟩ := remove_m a3' e6 (show M < 6 by omega) (show rr ≤ M by omega)
  rw [hN3] at hN4'
  obtain ⟨hC, f4, -, -, a3, a4⟩ := chg_four q rfl k1 k2 k6 u2 u3 u4 u5 u6 f12 v2 v3 v4 v5 v6 f34
  have hN4 : ∀ j, hI h4 2624 0 j = if j = 157 + 5 * s then nI M else if 225 + 12 * s + 2 * rr ≤ j ∧ j < 225 + 12 * s + 2 * M then hI h 2624 0 (j + 2) else hI h 2624 0 j := fun j => by
    rw [hN4']
    rfl
  have nN : ∀ c, c = 324 ∨ c = 1728 ∨ c = 1792 → ∀ i, i < 28 → ∀ j, hI h4 c i j = hI h2 c i j ∧ hI h1 c i j = hI h c i j := fun c hc i hi j => by
    have e9 : ∀ c, c = 324 ∨ c = 1728 ∨ c = 1792 → svM.1.contains c = false ∧ ([2624] : List Nat).contains c = false ∧ ntW.1.contains c = false ∧ (c / 64 = 5 ∨ c / 64 = 27 ∨ c / 64 = 28) := by
      rintro c (rfl | rfl | rfl) <;> decide
    obtain ⟨z1, z2', z3', z4⟩ := e9 c hc
    have lt : ∀ y, SH y → i < hN y (c / 64) := fun y ay => by
      rcases z4 with w | w | w
      · rw [w]; exact ay.s1 hi
      · rw [w]; exact ay.n27 hi
      · rw [w]; exact ay.n28 hi
    exact ⟨(f34.1 c i j z2' (lt h3 a3)).trans (v2.1 c i j z1 (lt h2 a2)), u2.1 c i j z3' (lt h a)⟩
  have c12 : ∀ c, c = 324 ∨ c = 1728 ∨ c = 1792 → ∀ i j, i < 28 → i ≠ s → hI h4 c i j = hI h c i j := fun c hc i j hi hne => by
    rw [(nN c hc i hi j).1, r4 c hc i j hne, (nN c hc i hi j).2]
  refine ⟨nI M, h2, h4, ?_, X12_drop_iff.mpr ⟨zz, ?_⟩, r0.rows f4 hC (fun j hj => ?_) (fun cc hc i j h1 h2 => c12 cc hc i j h2 (by omega)) (fun t ht => ?_)⟩
  · unfold X11_drop X11_drop_g0 X11_drop_f0
    rw [nnE (sh_640 a), hasRow_eq q hs z, cI_some, z2, if_neg (by decide), nnE (sh_644 a), sh_640 a, u1, cV_some, nnE (sh_640 a1), nnE (sh_68 a1 0 (by decide)), ixE (ln_18 a1 0 (by decide)) rfl e6 (by decide), nnE (sh_1152_0 a1 s e6), ead, cV_some, nnE (sh_640 a2), nnE (sh_68 a2 0 (by decide)), ixE (ln_18 a2 0 (by decide)) rfl e6 (by decide), nnE (sh_1152_0 a2 s e6), r1]
  · unfold X12_drop_g0 X12_drop_f0
    rw [X12_isSign_eq a2, hN2, inn_wn (by rw [hSi]; omega), cI_some, z, if_neg (by decide), rowsOf_sR a2 hN2 q hs, cI_some, in_wnK hR0, cI_some, z2, if_neg (by decide), v1, cV_some, rowsOf_sR a3 hN3 q hs, cI_some, hM, nI_pred]
    exact em
  · rw [hN4 j, if_neg (by omega), if_neg (by omega)]
  · have h6 : hI h4 2624 0 6 = hI h 2624 0 6 := by rw [hN4 6, if_neg (by omega), if_neg (by omega)]
    rw [h6] at ht
    have o := q.2.2.1.2.2.2.2.1.one ht
    by_cases ct : t = s
    · subst ct
      obtain ⟨p1, p2, p3, p4, p5, p6, p7, p8, p9, p10⟩ := o
      rw [Nat.mul_zero, Nat.zero_add] at p1 p2 p4 p5 ⊢
      have up : ∀ j, j ≠ 157 + 5 * t → j < 225 → hI h4 2624 0 j = hI h 2624 0 j := fun j w1 w2 => by rw [hN4 j, if_neg w1, if_neg (by omega)]
      have u157 : hI h4 2624 0 (157 + 5 * t) = nI M := by rw [hN4, if_pos rfl]
      have f5 : ∀ cc, cc = 320 ∨ cc = 321 ∨ cc = 322 ∨ cc = 323 → hI h4 cc t 0 = hI h cc t 0 := fun cc hc => by
        have e9 : ∀ c, c = 320 ∨ c = 321 ∨ c = 322 ∨ c = 323 → rnW.1.contains c = false ∧ c / 64 = 5 := by
          rintro c (rfl | rfl | rfl | rfl) <;> decide
        obtain ⟨z1, z2'⟩ := e9 cc hc
        exact f4.1 cc t 0 z1 (by rw [z2']; exact a.s1 (by omega))
      rw [up (155 + 5 * t) (by omega) (by omega), up (156 + 5 * t) (by omega) (by omega), u157, up (158 + 5 * t) (by omega) (by omega), up (159 + 5 * t) (by omega) (by omega), up 3 (by omega) (by omega), f5 320 (by omega), f5 321 (by omega), f5 322 (by omega), f5 323 (by omega), (nN 324 (by omega) t (by omega) 0).1, r1]
      refine ⟨p1, p2, rfl, p4, p5, p6, p7, ⟨by rw [nI_toInt (by omega)]; omega, by rw [nI_toInt (by omega)]; omega⟩, p9, fun r' hr' => ?_⟩
      rw [nI_toInt (by omega)] at hr'
      have a28 : hI h4 1728 t r' = if rr ≤ r' ∧ r' < M then hI h 1728 t (r' + 1) else hI h 1728 t r' := by
        rw [(nN 1728 (by omega) t (by omega) r').1, r2, (nN 1728 (by omega) t (by omega) _).2, (nN 1728 (by omega) t (by omega) _).2]
      have a29 : hI h4 1792 t r' = if rr ≤ r' ∧ r' < M then hI h 1792 t (r' + 1) else hI h 1792 t r' := by
        rw [(nN 1792 (by omega) t (by omega) r').1, r3, (nN 1792 (by omega) t (by omega) _).2, (nN 1792 (by omega) t (by omega) _).2]
      have n225 : hI h4 2624 0 (225 + 12 * t + 2 * r') = if rr ≤ r' ∧ r' < M then hI h 2624 0 (225 + 12 * t + 2 * r' + 2) else hI h 2624 0 (225 + 12 * t + 2 * r') := by
        rw [hN4, if_neg (by omega)]
        by_cases w : rr ≤ r' ∧ r' < M
        · rw [if_pos w, if_pos (by omega)]
        · rw [if_neg w, if_neg (by omega)]
      have n226 : hI h4 2624 0 (226 + 12 * t + 2 * r') = if rr ≤ r' ∧ r' < M then hI h 2624 0 (226 + 12 * t + 2 * r' + 2) else hI h 2624 0 (226 + 12 * t + 2 * r') := by
        rw [hN4, if_neg (by omega)]
        by_cases w : rr ≤ r' ∧ r' < M
        · rw [if_pos w, if_pos (by omega)]
        · rw [if_neg w, if_neg (by omega)]
      rw [a28, a29, n225, n226]
      have pr : ∀ r'', r'' < M + 1 → hI h 1728 t r'' = hI h 2624 0 (225 + 12 * t + 2 * r'') ∧ hI h 1792 t r'' = hI h 2624 0 (226 + 12 * t + 2 * r'') ∧ rgI (hI h 2624 0 (225 + 12 * t + 2 * r'')) 0 13 ∧ rgI (hI h 2624 0 (226 + 12 * t + 2 * r'')) 0 7 := fun r'' hr'' => by
        have := p10 r'' (by rw [e3, nI_toInt (by omega)]; omega)
        rw [Nat.mul_zero, Nat.zero_add] at this
        exact this
      by_cases w : rr ≤ r' ∧ r' < M
      · have e225 : 225 + 12 * t + 2 * r' + 2 = 225 + 12 * t + 2 * (r' + 1) := by omega
        have e226 : 226 + 12 * t + 2 * r' + 2 = 226 + 12 * t + 2 * (r' + 1) := by omega
        rw [if_pos w, if_pos w, if_pos w, if_pos w, e225, e226]
        exact pr (r' + 1) (by omega)
      · rw [if_neg w, if_neg w, if_neg w, if_neg w]
        exact pr r' (by omega)
    · refine SgOne.keep o a f4 (by omega) (fun j hj => by rw [hN4 j, if_neg (by omega), if_neg (by omega)]) (fun j hj => by rw [hN4 j, if_neg (by omega), if_neg (by omega)]) (fun cc hc j => c12 cc hc t j (by omega) ct)
