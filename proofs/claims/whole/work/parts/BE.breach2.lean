/-! one row that breaks a law -/
def cmp3 (e : Nat × Nat × Nat) (d : Nat) : Nat := if d = 0 then e.1 else if d = 1 then e.2.1 else e.2.2
theorem cmp3_if (e : Nat × Nat × Nat) {d : Nat} (hd : d < 3) (h : PH) (A B C : Int32) (hA : A = nI e.1) (hB : B = nI e.2.1) (hC : C = nI e.2.2) : (if nI d = 0 then some (some (.inl A), h) else if nI d = 1 then some (some (.inl B), h) else some (some (.inl C), h) : Option Rs) = some (some (.inl (nI (cmp3 e d))), h) := by
  have : d = 0 ∨ d = 1 ∨ d = 2 := by omega
  subst hA hB hC
  rcases this with rfl | rfl | rfl
  · rw [if_pos (by decide)]; rfl
  · rw [if_neg (by decide), if_pos (by decide)]; rfl
  · rw [if_neg (by decide), if_neg (by decide)]; rfl
theorem breach_all {h0 : PH} {N : Nat → Int32} (q : Hs h0 0 N) {t d : Nat} (ht : t < 2 ^ 31) (hd : d < 3) : BS bsW (some t) h0 (fun e z => z.1 = some (.inl (nI (cmp3 e d))) ∧ Fr bsW h0 z.2) (fun n c h => (X11_breach_fam n).1 0 (nI t) (nI d) (nI c) (nI 0) h) (fun n c h => (X11_breach_fam n).1 0 (nI t) (nI d) (nI c) (nI (nt (N 6))) h) (LL N 0) := by
  have hs : ∀ h, Fr bsW h0 h → Hs h 0 N := fun h f => q.fr f (by decide +kernel) (by decide +kernel)
  exact BS.all (W := bsW) (To := some t) (h0 := h0) (N := N) (x := 0) (fun s n c h => (X11_breach_fam n).1 0 (nI t) (nI d) (nI c) (nI s) h) (fun s r n c h => (X11_breach_fam n).2.1 0 (nI t) (nI d) (nI c) (nI s) (nI r) h) (fun _ _ _ _ _ => none) (fun s r k n c h => (X11_breach_fam n).2.2 0 (nI t) (nI d) (nI c) (nI s) (nI r) (nI k) h)
    (fun s hs' n c h f => by
      obtain ⟨S, hS, h14, hSn, hSi, h75⟩ := (hs h f).signs
      show X11_breach_g20 (X11_breach_fam n) 0 (nI t) (nI d) (nI c) (nI s) h = _
      unfold X11_breach_g20 X11_breach_f20
      rw [nnE (sh_640 (hs h f).1), h75, if_pos (nI_lt (by omega) (by omega))]
      rfl)
    (fun s hs' n c h f => by
      have q' := hs h f
      obtain ⟨-, -, f3, -⟩ := q'.signF hs'
      obtain ⟨-, -, -, e4, -, e6, -⟩ := q'.sign hs'
      rw [Nat.mul_zero, Nat.zero_add] at f3
      show X11_breach_g35 (X11_breach_fam n) 0 (nI t) (nI d) (nI c) (nI s) (nI (sR N s)) h = _
      unfold X11_breach_g35 X11_breach_f35
      rw [nnE (sh_640 q'.1), nnE (sh_68 q'.1 0 (by decide)), ixE (ln_18 q'.1 0 (by decide)) rfl e6 (by decide), sh_1152_0 q'.1 s e6, nnE rfl, f3, if_neg (nI_nlt (by omega) (by omega)), nI_1])
    (fun s r hs' hr n c h f => by
      have q' := hs h f
      obtain ⟨-, -, f3, -⟩ := q'.signF hs'
      obtain ⟨-, -, -, e4, -, e6, -⟩ := q'.sign hs'
      rw [Nat.mul_zero, Nat.zero_add] at f3
      show X11_breach_g35 (X11_breach_fam n) 0 (nI t) (nI d) (nI c) (nI s) (nI r) h = _
      unfold X11_breach_g35 X11_breach_f35
      rw [nnE (sh_640 q'.1), nnE (sh_68 q'.1 0 (by decide)), ixE (ln_18 q'.1 0 (by decide)) rfl e6 (by decide), sh_1152_0 q'.1 s e6, nnE rfl, f3, if_pos (nI_lt (by omega) (by omega))]
      rfl)
    (fun s r hs' hr n c h f => by
      show X11_breach_g56 (X11_breach_fam n) 0 (nI t) (nI d) (nI c) (nI s) (nI r) (nI 5) h = _
      unfold X11_breach_g56 X11_breach_f56
      rw [if_pos (by decide), nI_1])
    (fun s r k hs' hr h1 h4 => by
      have st : ∀ n c h, Fr bsW h0 h → (X11_breach_fam (n + 1)).2.2 0 (nI t) (nI d) (nI c) (nI s) (nI r) (nI k) h = bif brB N s r k then (if nI c = nI t then some (some (.inl (nI (cmp3 (s, r, k) d))), h) else (X11_breach_fam n).2.2 0 (nI t) (nI d) (nI (c + 1)) (nI s) (nI r) (nI (k + 1)) h) else (X11_breach_fam n).2.2 0 (nI t) (nI d) (nI c) (nI s) (nI r) (nI (k + 1)) h := fun n c h f => by
        have q' := hs h f
        show X11_breach_g56 (X11_breach_fam n) 0 (nI t) (nI d) (nI c) (nI s) (nI r) (nI k) h = _
        unfold X11_breach_g56 X11_breach_f56
        rw [if_neg (show ¬ (4 : Int32) < nI k from nI_nlt (a := 4) (by omega) (by omega)), sh_640 q'.1, isBroken_eq q' hs' hr ⟨h1, h4⟩, cI_some]
        cases brB N s r k with
        | false =>
          rw [if_pos b2f]
          show (X11_breach_fam n).2.2 0 (nI t) (nI d) (nI c) (nI s) (nI r) (nI k + 1) h = _
          rw [nI_1]
          rfl
        | true =>
          rw [if_neg b2t, cmp3_if (s, r, k) hd h _ _ _ rfl rfl rfl]
          show (if nI c = nI t then _ else (X11_breach_fam n).2.2 0 (nI t) (nI d) (nI c + 1) (nI s) (nI r) (nI k + 1) h) = _
          rw [nI_1, nI_1]
          rfl
      unfold lk1
      rw [show lkB 0 k = true from rfl, Bool.true_and]
      cases e : brB N s r k with
      | false => exact BS.go (fun n c h f => by rw [st n c h f, e]; rfl)
      | true =>
        refine BS.one (fun c h f hc => ⟨fun z => ⟨1, (some (.inl (nI (cmp3 (s, r, k) d))), h), ?_, rfl, f⟩, fun z => ⟨h, f, fun n => ?_⟩⟩)
        · cases z
          show (X11_breach_fam 1).2.2 0 (nI t) (nI d) (nI t) (nI s) (nI r) (nI k) h = _
          rw [st 0 t h f, e]
          show (if nI t = nI t then _ else _) = _
          rw [if_pos rfl]
        · show (X11_breach_fam (n + 1)).2.2 0 (nI t) (nI d) (nI c) (nI s) (nI r) (nI k) h = _
          rw [st n c h f, e]
          show (if nI c = nI t then _ else _) = _
          rw [if_neg (fun y => z (by rw [(nI_eq hc ht).mp y]))])
theorem pair_breach (m : Nat) (h : PH) (x1 x2 : Int32) (_ : m < 64) (r : R m h) : Pr (R (m + 1)) (X11_breach 0 x1 x2) (X12_breach 0 x1 x2) h := by
  have r0 := r
  obtain ⟨a, q, -⟩ := r
  rcases lit_cases (x := x2) (y := 3) (K := 3) rfl (by decide) with z2 | ⟨z2, d, hd, rfl⟩
  · refine r0.same (v := -1000000001) ?_ ?_
    · refine X11_breach_iff.mpr ⟨0, ?_⟩
      unfold X11_breach_g0 X11_breach_f0
      rw [isWithin_wn, cI_some, z2, if_pos rfl]
    · unfold X12_breach X12_breach_g0 X12_breach_f0
      rw [show X12_in x2 0 2 h = some (some (.inl (wn x2 3)), h) from in_wnK (n := 3) (by decide) h, cI_some, z2, if_pos rfl]
  by_cases d1 : x1 < 0
  · refine r0.same (v := -1000000001) ?_ ?_
    · refine X11_breach_iff.mpr ⟨0, ?_⟩
      unfold X11_breach_g0 X11_breach_f0
      rw [isWithin_wn, cI_some, z2, if_neg (by decide), if_pos d1]
    · unfold X12_breach X12_breach_g0 X12_breach_f0
      rw [show X12_in (nI d) 0 2 h = some (some (.inl (wn (nI d) 3)), h) from in_wnK (n := 3) (by decide) h, cI_some, z2, if_neg (by decide), if_pos d1]
  obtain ⟨t, ht31, rfl⟩ := nI_of d1
  have hl := LL_len q 0
  obtain ⟨S, hS, h14, hSn, hSi, -⟩ := q.signs
  obtain ⟨b1, k2⟩ := breach_all q ht31 hd 0 h Fr.rf (by omega)
  by_cases c : t < (LL (hI h 2624 0) 0).length
  · have he : (LL (hI h 2624 0) 0)[t]? = some (LL (hI h 2624 0) 0)[t] := List.getElem?_eq_getElem c
    obtain ⟨n, ⟨z1, h1⟩, hz, e1, f1⟩ := b1 t _ rfl (by omega) he
    have f1 : Fr bsW h h1 := f1
    have e1 : z1 = _ := e1
    subst e1
    have a1 : SH h1 := a.fr f1 (by decide)
    have n1 := now_fr a f1 (by decide)
    obtain ⟨h2, c2, f2⟩ := breachesTo_len a1 n1 q (x := 0) (by omega)
    have a2 : SH h2 := a1.fr f2 (by decide)
    obtain ⟨v, h3, c3, f3, u1, u2, u3⟩ := breachesTo_at a2 ((now_fr a1 f2 (by decide)).trans n1) q he
    refine ⟨nI (cmp3 (LL (hI h 2624 0) 0)[t] d), h1, h3, X11_breach_iff.mpr ⟨n, ?_⟩, ?_, r0.bs ((f1.tr f2).tr f3)⟩
    · unfold X11_breach_g0 X11_breach_f0
      rw [isWithin_wn, cI_some, z2, if_neg (by decide), if_neg d1]
      exact hz
    · unfold X12_breach X12_breach_g0 X12_breach_f0
      rw [show X12_in (nI d) 0 2 h1 = some (some (.inl (wn (nI d) 3)), h1) from in_wnK (n := 3) (by decide) h1, cI_some, z2, if_neg (by decide), if_neg d1, show X12_breachesTo 0 0 (-1) h1 = _ from c2, cI_some, if_pos (nI_lt c (by omega)), c3, cI_some, cmp3_if _ hd h3 _ _ _ u1 u2 u3]
  · obtain ⟨h1, f1, k1⟩ := k2 (fun t' z => by cases z; omega)
    have q' : Hs h1 0 (hI h 2624 0) := q.fr f1 (by decide +kernel) (by decide +kernel)
    obtain ⟨S', hS', h14', hSn', hSi', h75⟩ := q'.signs
    obtain ⟨n, hn⟩ := k1 1 (some (.inl (-1000000005)), h1) (by
      show X11_breach_g20 (X11_breach_fam 0) 0 (nI t) (nI d) (nI (0 + (LL (hI h 2624 0) 0).length)) (nI (nt (hI h 2624 0 6))) h1 = _
      unfold X11_breach_g20 X11_breach_f20
      rw [nnE (sh_640 q'.1), h75, if_neg (nI_nlt (by omega) (by omega))])
    have a1 : SH h1 := a.fr f1 (by decide)
    have n1 := now_fr a f1 (by decide)
    obtain ⟨h2, c2, f2⟩ := breachesTo_len a1 n1 q (x := 0) (by omega)
    refine ⟨-1000000005, h1, h2, X11_breach_iff.mpr ⟨n, ?_⟩, ?_, r0.bs (f1.tr f2)⟩
    · unfold X11_breach_g0 X11_breach_f0
      rw [isWithin_wn, cI_some, z2, if_neg (by decide), if_neg d1]
      exact hn
    · unfold X12_breach X12_breach_g0 X12_breach_f0
      rw [show X12_in (nI d) 0 2 h1 = some (some (.inl (wn (nI d) 3)), h1) from in_wnK (n := 3) (by decide) h1, cI_some, z2, if_neg (by decide), if_neg d1, show X12_breachesTo 0 0 (-1) h1 = _ from c2, cI_some, if_neg (nI_nlt (by omega) (by omega))]
