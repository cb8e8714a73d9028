/-! pairs: wayTold, told, led, count -/
theorem bit_b2 (b : Bool) (h : PH) : X11_bit (b2 b) h = some (some (.inl (b2 b)), h) := bit_eq (b2_01 b) h
theorem b2_if (b : Bool) (h : PH) : (if b2 b = 0 then some (some (.inl 0), h) else some (some (.inl 1), h) : Option Rs) = some (some (.inl (b2 b)), h) := by cases b <;> rfl
theorem pair_wayTold (m : Nat) (h : PH) (x1 x2 : Int32) (_ : m < 64) (r : R m h) : Pr (R (m + 1)) (X11_wayTold 0 x1 x2) (X12_wayTold 0 x1 x2) h := by
  have r0 := r
  obtain ⟨a, q, -⟩ := r
  obtain ⟨K, hK, h20, hKn, hKi, hK73⟩ := q.ways
  have hK0 : (0 : Int) ≤ (nI K).toInt := by rw [nI_toInt (by omega)]; omega
  have mz : ∀ v, wn x1 (nI K) = v → ∀ f : Int32 → PH → Option Rs, (nn (hR h 704 0 0) fun r1 => ix 4 (hL h 41 r1) fun j2 => cI (X12_in x1 0 ((hI h 2624 r1 j2) - 1) h) f) = f v h := fun v z f => by
    rw [nnE (sh_704 a), ixE (ln_41 a) (show (4 : Int32) = nI 4 from rfl) (by decide) (by decide), hK, in_wnK hK0, cI_some, z]
  rcases wn_cases (x := x1) (K := K) (by omega) with z | ⟨z, w, hw, rfl⟩
  · refine r0.same (v := -1000000001) ?_ ?_
    · unfold X11_wayTold X11_wayTold_g0 X11_wayTold_f0
      rw [nnE (sh_640 a), hK73, isWithin_wn, cI_some, z, if_pos rfl]
    · unfold X12_wayTold X12_wayTold_g0 X12_wayTold_f0
      rw [mz 0 z, if_pos rfl]
  · have hwK : w < nt (hI h 2624 0 4) := by omega
    have hw20 : w < 20 := by omega
    have hwi : (w : Int) < (hI h 2624 0 4).toInt := by omega
    obtain ⟨s1, s2, s3, s4, s5, s6⟩ := q.2.2.1.2.2.1.get hwi
    rw [Nat.mul_zero, Nat.zero_add] at s1 s2 s3 s4 s5 s6
    have r01 : rgI (hI h 2624 0 (20 + 6 * w)) 0 1 := (q.2.2.1.2.2.1.1 w hwi).2.2.2.2.2.2.2
    have ch : ∀ f, (X11_wayTold 0 (nI w) f h) = if f = 0 then some (some (.inl (hI h 576 w 0)), h) else if f = 1 then some (some (.inl (hI h 577 w 0)), h) else if f = 2 then some (some (.inl (hI h 578 w 0)), h) else if f = 3 then some (some (.inl (hI h 579 w 0)), h) else if f = 4 then some (some (.inl (hI h 580 w 0)), h) else if f = 5 then (cI (X11_bit (hI h 581 w 0) h) fun v14 h13 => some (some (.inl v14), h13)) else if f = 6 then (cI (X1_passes 0 (w + 1) 0 h) fun v17 h16 => cI (X11_bit v17 h16) fun v19 h18 => some (some (.inl v19), h18)) else if f = 7 then (cI (X1_passes 0 (w + 1) 1 h) fun v17 h16 => cI (X11_bit v17 h16) fun v19 h18 => some (some (.inl v19), h18)) else some (some (.inl (-1000000001)), h) := fun f => by
      unfold X11_wayTold X11_wayTold_g0 X11_wayTold_f0
      rw [nnE (sh_640 a), hK73, isWithin_wn, cI_some, z, if_neg (by decide), nnE (sh_640 a), nnE (sh_64 a 0 (by decide)), ixE (ln_14 a 0 (by decide)) rfl hw20 (by decide), sh_896_0 a w hw20, nnE rfl, nnE rfl, nnE rfl, nnE rfl, nnE rfl, nnE rfl, nnE (sh_640 a), nnE (sh_640 a)]
    rcases lit_cases (x := x2) (y := 8) (K := 8) rfl (by decide) with z2 | ⟨z2, k, hk, rfl⟩
    · refine r0.same (v := -1000000001) ?_ ?_
      · rw [ch x2, if_neg (fun e => by rw [e] at z2; exact absurd z2 (by decide)), if_neg (fun e => by rw [e] at z2; exact absurd z2 (by decide)), if_neg (fun e => by rw [e] at z2; exact absurd z2 (by decide)), if_neg (fun e => by rw [e] at z2; exact absurd z2 (by decide)), if_neg (fun e => by rw [e] at z2; exact absurd z2 (by decide)), if_neg (fun e => by rw [e] at z2; exact absurd z2 (by decide)), if_neg (fun e => by rw [e] at z2; exact absurd z2 (by decide)), if_neg (fun e => by rw [e] at z2; exact absurd z2 (by decide))]
      · unfold X12_wayTold X12_wayTold_g0 X12_wayTold_f0
        rw [mz 1 z, if_neg (by decide), in_wn8, cI_some, z2, if_pos rfl]
    · have mh : ∀ f j, f < 6 → 15 + 6 * w + f = j → X12_wayTold 0 (nI w) (nI f) h = some (some (.inl (hI h 2624 0 j)), h) := fun f j hf hj => by
        subst hj
        have zf : wn (nI f) 8 = 1 := by
          have : ∀ f, f < 6 → wn (nI f) 8 = 1 := by decide
          exact this f hf
        have x0 : (15 : Int32) + 6 * nI w + nI f = nI (15 + 6 * w + f) := by rw [show (15 : Int32) = nI 15 from rfl, show (6 : Int32) = nI 6 from rfl, nI_mul, nI_add, nI_add]
        unfold X12_wayTold X12_wayTold_g0 X12_wayTold_f0
        rw [mz 1 z, if_neg (by decide), in_wn8, cI_some, zf, if_neg (by decide), if_pos (show nI f < 6 from nI_lt (b := 6) hf (by decide)), nnE (sh_704 a), ixE (ln_41 a) x0 (show 15 + 6 * w + f < 1765 by omega) (by decide)]
      have hk8 : k = 0 ∨ k = 1 ∨ k = 2 ∨ k = 3 ∨ k = 4 ∨ k = 5 ∨ k = 6 ∨ k = 7 := by omega
      rcases hk8 with rfl | rfl | rfl | rfl | rfl | rfl | rfl | rfl
      · exact r0.same (v := hI h 2624 0 (15 + 6 * w)) (by rw [ch, if_pos (by decide), s1]) (mh 0 _ (by decide) (by omega))
      · exact r0.same (v := hI h 2624 0 (16 + 6 * w)) (by rw [ch, if_neg (by decide), if_pos (by decide), s2]) (mh 1 _ (by decide) (by omega))
      · exact r0.same (v := hI h 2624 0 (17 + 6 * w)) (by rw [ch, if_neg (by decide), if_neg (by decide), if_pos (by decide), s3]) (mh 2 _ (by decide) (by omega))
      · exact r0.same (v := hI h 2624 0 (18 + 6 * w)) (by rw [ch, if_neg (by decide), if_neg (by decide), if_neg (by decide), if_pos (by decide), s4]) (mh 3 _ (by decide) (by omega))
      · exact r0.same (v := hI h 2624 0 (19 + 6 * w)) (by rw [ch, if_neg (by decide), if_neg (by decide), if_neg (by decide), if_neg (by decide), if_pos (by decide), s5]) (mh 4 _ (by decide) (by omega))
      · refine r0.same (v := hI h 2624 0 (20 + 6 * w)) ?_ (mh 5 _ (by decide) (by omega))
        rw [ch, if_neg (by decide), if_neg (by decide), if_neg (by decide), if_neg (by decide), if_neg (by decide), if_pos (by decide), s6, bit_eq (rg01 r01), cI_some]
      · obtain ⟨h1, e1, f1⟩ := X1_passes_eq a (by decide) q.2.2.1 q.2.2.2 hwi 0
        rw [Nat.mul_zero, Nat.zero_add] at e1
        have q1 := q.fr f1 (by decide +kernel) (by decide +kernel)
        have hN1 : hI h1 2624 0 = hI h 2624 0 := now_fr a f1 (by decide)
        obtain ⟨h2, e2, f2⟩ := X12_passes_eq q1.1 (g := h) (b := 0) (by rw [hN1]; exact q.2.2.2) hw20 0
        rw [hN1] at e2
        refine ⟨b2 (passB (hI h 2624 0) w 0), h1, h2, ?_, ?_, r0.keep (W := ([1920, 3264, 3328], [], false)) ((f1.sub (by decide)).tr (f2.sub (by decide))) (by decide +kernel) (by decide +kernel) rfl (fun w => (w.fr a ((f1.sub (by decide)).tr (f2.sub (by decide)) : Fr ([1920, 3264, 3328], [], false) h h2) (by decide)).mono)⟩
        · rw [ch, if_neg (by decide), if_neg (by decide), if_neg (by decide), if_neg (by decide), if_neg (by decide), if_neg (by decide), if_pos (by decide), e1, cI_some, bit_b2, cI_some]
        · unfold X12_wayTold X12_wayTold_g0 X12_wayTold_f0
          rw [nnE (sh_704 q1.1), ixE (ln_41 q1.1) (show (4 : Int32) = nI 4 from rfl) (by decide) (by decide), hN1, hK, in_wnK hK0, cI_some, z, if_neg (by decide), in_wn8, cI_some, z2, if_neg (by decide), if_neg (by decide), show nI 6 - 6 = 0 by decide, e2, cI_some, b2_if]
      · obtain ⟨h1, e1, f1⟩ := X1_passes_eq a (by decide) q.2.2.1 q.2.2.2 hwi 1
        rw [Nat.mul_zero, Nat.zero_add] at e1
        have q1 := q.fr f1 (by decide +kernel) (by decide +kernel)
        have hN1 : hI h1 2624 0 = hI h 2624 0 := now_fr a f1 (by decide)
        obtain ⟨h2, e2, f2⟩ := X12_passes_eq q1.1 (g := h) (b := 0) (by rw [hN1]; exact q.2.2.2) hw20 1
        rw [hN1] at e2
        refine ⟨b2 (passB (hI h 2624 0) w 1), h1, h2, ?_, ?_, r0.keep (W := ([1920, 3264, 3328], [], false)) ((f1.sub (by decide)).tr (f2.sub (by decide))) (by decide +kernel) (by decide +kernel) rfl (fun w => (w.fr a ((f1.sub (by decide)).tr (f2.sub (by decide)) : Fr ([1920, 3264, 3328], [], false) h h2) (by decide)).mono)⟩
        · rw [ch, if_neg (by decide), if_neg (by decide), if_neg (by decide), if_neg (by decide), if_neg (by decide), if_neg (by decide), if_neg (by decide), if_pos (by decide), e1, cI_some, bit_b2, cI_some]
        · unfold X12_wayTold X12_wayTold_g0 X12_wayTold_f0
          rw [nnE (sh_704 q1.1), ixE (ln_41 q1.1) (show (4 : Int32) = nI 4 from rfl) (by decide) (by decide), hN1, hK, in_wnK hK0, cI_some, z, if_neg (by decide), in_wn8, cI_some, z2, if_neg (by decide), if_neg (by decide), show nI 7 - 6 = 1 by decide, e2, cI_some, b2_if]
theorem pair_told (m : Nat) (h : PH) (x1 x2 : Int32) (_ : m < 64) (r : R m h) : Pr (R (m + 1)) (X11_told 0 x1 x2) (X12_told 0 x1 x2) h := by
  have r0 := r
  obtain ⟨a, q, -⟩ := r
  have s75 := q.2.2.1.1.2.2.2.1
  rcases sign_cases q x1 with z | ⟨z, s, hs, rfl⟩
  · refine r0.same (v := -1000000001) ?_ ?_
    · unfold X11_told X11_told_g0 X11_told_f0
      rw [nnE (sh_640 a), X1_hasSign_eq, cI_some, s75, z, if_pos rfl]
    · unfold X12_told X12_told_g0 X12_told_f0
      rw [isSign_wn a q, cI_some, z, if_pos rfl]
  · obtain ⟨e1, e2, e3, e4, e5, e6, -⟩ := q.sign hs
    obtain ⟨f1, f2, f3, f4, f5⟩ := q.signF hs
    rw [Nat.mul_zero, Nat.zero_add] at f1 f2 f3 f4 f5
    obtain ⟨S, hS, h14, hSn, hSi, -⟩ := q.signs
    have hsi : (s : Int) < (hI h 2624 0 6).toInt := by omega
    have o0 : X12_of5 0 (nI s) 0 h = some (some (.inl (hI h 2624 0 (155 + 5 * s))), h) := of5_at (k := 0) a rfl e6 (by decide) (by omega)
    have o1 : X12_of5 0 (nI s) 1 h = some (some (.inl (hI h 2624 0 (156 + 5 * s))), h) := of5_at (k := 1) a rfl e6 (by decide) (by omega)
    have o3 : X12_of5 0 (nI s) 3 h = some (some (.inl (hI h 2624 0 (158 + 5 * s))), h) := of5_at (k := 3) a rfl e6 (by decide) (by omega)
    have o4 : X12_of5 0 (nI s) 4 h = some (some (.inl (hI h 2624 0 (159 + 5 * s))), h) := of5_at (k := 4) a rfl e6 (by decide) (by omega)
    have ch : ∀ f, X11_told 0 (nI s) f h = if f = 0 then some (some (.inl (hI h 320 s 0)), h) else if f = 1 then some (some (.inl (hI h 321 s 0)), h) else if f = 2 then some (some (.inl (hI h 324 s 0)), h) else if f = 3 then (cI (mo3 [.inl (hI h 321 s 0)] h) fun v12 h11 => some (some (.inl v12), h11)) else if f = 4 then (cI (se3 [.inl (hI h 321 s 0)] h) fun v15 h14 => some (some (.inl v15), h14)) else if f = 5 then (cI (pr3 [.inl (hI h 321 s 0), .inl (hI h 324 s 0)] h) fun v19 h18 => some (some (.inl v19), h18)) else if f = 6 then (cI (X1_isLit 0 (s + 1) h) fun v22 h21 => cI (X11_bit v22 h21) fun v24 h23 => some (some (.inl v24), h23)) else if f = 7 then some (some (.inl (hI h 323 s 0)), h) else if f = 8 then some (some (.inl (hI h 322 s 0)), h) else if f = 9 then (cI (X1_isObeyed 0 (s + 1) 0 h) fun v29 h28 => cI (X11_bit v29 h28) fun v31 h30 => some (some (.inl v31), h30)) else some (some (.inl (-1000000001)), h) := fun f => by
      unfold X11_told X11_told_g0 X11_told_f0
      rw [nnE (sh_640 a), X1_hasSign_eq, cI_some, s75, z, if_neg (by decide), nnE (sh_640 a), nnE (sh_68 a 0 (by decide)), ixE (ln_18 a 0 (by decide)) rfl e6 (by decide), sh_1152_0 a s e6, nnE rfl, nnE rfl, nnE rfl, nnE rfl, nnE rfl, nnE rfl, nnE rfl, nnE (sh_640 a), nnE rfl, nnE rfl, nnE (sh_640 a)]
    have mh : ∀ f, wn f 10 = 1 → X12_told 0 (nI s) f h = if f = 0 then (cI (X12_of5 0 (nI s) 0 h) fun v8 h7 => some (some (.inl v8), h7)) else if f = 1 then some (some (.inl (hI h 2624 0 (156 + 5 * s))), h) else if f = 2 then (cI (X12_rowsOf 0 (nI s) h) fun v10 h9 => some (some (.inl v10), h9)) else if f = 3 then (cI (X12_mostBy (hI h 2624 0 (156 + 5 * s)) h) fun v12 h11 => some (some (.inl v12), h11)) else if f = 4 then (cI (X12_seenBy (hI h 2624 0 (156 + 5 * s)) h) fun v14 h13 => some (some (.inl v14), h13)) else if f = 5 then (cI (X12_rowsOf 0 (nI s) h) fun v16 h15 => cI (X12_priceBy (hI h 2624 0 (156 + 5 * s)) v16 h15) fun v18 h17 => some (some (.inl v18), h17)) else if f = 6 then (cI (X12_isLit 0 (nI s) h) fun v20 h19 => if v20 = 0 then some (some (.inl 0), h19) else some (some (.inl 1), h19)) else if f = 7 then (cI (X12_of5 0 (nI s) 3 h) fun v22 h21 => some (some (.inl v22), h21)) else if f = 8 then (if hI h 2624 0 (156 + 5 * s) = 5 then (cI (X12_of5 0 (nI s) 4 h) fun v24 h23 => some (some (.inl v24), h23)) else some (some (.inl (-1000000005)), h)) else (cI (X12_isObeyed 0 (nI s) 0 h) fun v26 h25 => if v26 = 0 then some (some (.inl 0), h25) else some (some (.inl 1), h25)) := fun f zf => by
      unfold X12_told X12_told_g0 X12_told_f0
      rw [isSign_wn a q, cI_some, z, if_neg (by decide), in_wn10, cI_some, zf, if_neg (by decide), o1, cI_some]
    rcases lit_cases (x := x2) (y := 10) (K := 10) rfl (by decide) with z2 | ⟨z2, k, hk, rfl⟩
    · refine r0.same (v := -1000000001) ?_ ?_
      · rw [ch x2, if_neg (fun e => by rw [e] at z2; exact absurd z2 (by decide)), if_neg (fun e => by rw [e] at z2; exact absurd z2 (by decide)), if_neg (fun e => by rw [e] at z2; exact absurd z2 (by decide)), if_neg (fun e => by rw [e] at z2; exact absurd z2 (by decide)), if_neg (fun e => by rw [e] at z2; exact absurd z2 (by decide)), if_neg (fun e => by rw [e] at z2; exact absurd z2 (by decide)), if_neg (fun e => by rw [e] at z2; exact absurd z2 (by decide)), if_neg (fun e => by rw [e] at z2; exact absurd z2 (by decide)), if_neg (fun e => by rw [e] at z2; exact absurd z2 (by decide)), if_neg (fun e => by rw [e] at z2; exact absurd z2 (by decide))]
      · unfold X12_told X12_told_g0 X12_told_f0
        rw [isSign_wn a q, cI_some, z, if_neg (by decide), in_wn10, cI_some, z2, if_pos rfl]
    · have hk10 : k = 0 ∨ k = 1 ∨ k = 2 ∨ k = 3 ∨ k = 4 ∨ k = 5 ∨ k = 6 ∨ k = 7 ∨ k = 8 ∨ k = 9 := by omega
      rcases hk10 with rfl | rfl | rfl | rfl | rfl | rfl | rfl | rfl | rfl | rfl
      · exact r0.same (v := nI (sP (hI h 2624 0) s)) (by rw [ch, if_pos (by decide), f1]) (by rw [mh _ z2, if_pos (by decide), o0, cI_some, e1])
      · exact r0.same (v := hI h 2624 0 (156 + 5 * s)) (by rw [ch, if_neg (by decide), if_pos (by decide), f2]) (by rw [mh _ z2, if_neg (by decide), if_pos (by decide)])
      · exact r0.same (v := nI (sR (hI h 2624 0) s)) (by rw [ch, if_neg (by decide), if_neg (by decide), if_pos (by decide), f3]) (by rw [mh _ z2, if_neg (by decide), if_neg (by decide), if_pos (by decide), rowsOf_sR a rfl q hs, cI_some])
      · exact r0.same (v := mostK (hI h 2624 0 (156 + 5 * s))) (by rw [ch, if_neg (by decide), if_neg (by decide), if_neg (by decide), if_pos (by decide), f2, mo3_eq e5, cI_some]) (by rw [mh _ z2, if_neg (by decide), if_neg (by decide), if_neg (by decide), if_pos (by decide), X12_mostBy_eq, cI_some])
      · exact r0.same (v := seenK (hI h 2624 0 (156 + 5 * s))) (by rw [ch, if_neg (by decide), if_neg (by decide), if_neg (by decide), if_neg (by decide), if_pos (by decide), f2, se3_eq e5, cI_some]) (by rw [mh _ z2, if_neg (by decide), if_neg (by decide), if_neg (by decide), if_neg (by decide), if_pos (by decide), X12_seenBy_eq, cI_some])
      · exact r0.same (v := priceK (hI h 2624 0 (156 + 5 * s)) (nI (sR (hI h 2624 0) s))) (by rw [ch, if_neg (by decide), if_neg (by decide), if_neg (by decide), if_neg (by decide), if_neg (by decide), if_pos (by decide), f2, f3, pr3_eq e5, cI_some]) (by rw [mh _ z2, if_neg (by decide), if_neg (by decide), if_neg (by decide), if_neg (by decide), if_neg (by decide), if_pos (by decide), rowsOf_sR a rfl q hs, cI_some, X12_priceBy_eq, cI_some])
      · obtain ⟨h1, g1, fr1⟩ := X1_isLit_eq a (by decide) q.2.2.1 q.2.2.2 hsi
        rw [Nat.mul_zero, Nat.zero_add] at g1
        have q1 := q.fr fr1 (by decide +kernel) (by decide +kernel)
        have hN1 : hI h1 2624 0 = hI h 2624 0 := now_fr a fr1 (by decide)
        have q1' : Hs h1 0 (hI h1 2624 0) := by rw [hN1]; exact q1
        obtain ⟨h2, g2, fr2⟩ := X12_isLit_eq q1.1 (g := h) (b := 0) (by rw [hN1]; exact q.2.2.2) e6
        rw [hN1] at g2
        have o1' : X12_of5 0 (nI s) 1 h1 = some (some (.inl (hI h 2624 0 (156 + 5 * s))), h1) := of5_at (k := 1) q1.1 hN1 e6 (by decide) (by omega)
        refine ⟨b2 (litB (hI h 2624 0) s), h1, h2, ?_, ?_, r0.keep (W := ([1920, 3264, 3328], [], false)) ((fr1.sub (by decide)).tr (fr2.sub (by decide))) (by decide +kernel) (by decide +kernel) rfl (fun w => (w.fr a ((fr1.sub (by decide)).tr (fr2.sub (by decide)) : Fr ([1920, 3264, 3328], [], false) h h2) (by decide)).mono)⟩
        · rw [ch, if_neg (by decide), if_neg (by decide), if_neg (by decide), if_neg (by decide), if_neg (by decide), if_neg (by decide), if_pos (by decide), g1, cI_some, bit_b2, cI_some]
        · unfold X12_told X12_told_g0 X12_told_f0
          rw [isSign_wn q1.1 q1', cI_some, hN1, z, if_neg (by decide), in_wn10, cI_some, z2, if_neg (by decide), o1', cI_some, if_neg (by decide), if_neg (by decide), if_neg (by decide), if_neg (by decide), if_neg (by decide), if_neg (by decide), if_pos (by decide), g2, cI_some, b2_if]
      · exact r0.same (v := hI h 2624 0 (158 + 5 * s)) (by rw [ch, if_neg (by decide), if_neg (by decide), if_neg (by decide), if_neg (by decide), if_neg (by decide), if_neg (by decide), if_neg (by decide), if_pos (by decide), f4]) (by rw [mh _ z2, if_neg (by decide), if_neg (by decide), if_neg (by decide), if_neg (by decide), if_neg (by decide), if_neg (by decide), if_neg (by decide), if_pos (by decide), o3, cI_some])
      · refine r0.same (v := if hI h 2624 0 (156 + 5 * s) = 5 then hI h 2624 0 (159 + 5 * s) else -1000000005) (by rw [ch, if_neg (by decide), if_neg (by decide), if_neg (by decide), if_neg (by decide), if_neg (by decide), if_neg (by decide), if_neg (by decide), if_neg (by decide), if_pos (by decide), f5]) ?_
        rw [mh _ z2, if_neg (by decide), if_neg (by decide), if_neg (by decide), if_neg (by decide), if_neg (by decide), if_neg (by decide), if_neg (by decide), if_neg (by decide), if_pos (by decide), o4, cI_some]
        split <;> rfl
      · obtain ⟨h1, g1, fr1⟩ := X1_isObeyed_eq a (by decide) q.2.2.1 q.2.2.2 hsi 0
        rw [Nat.mul_zero, Nat.zero_add] at g1
        have q1 := q.fr fr1 (by decide +kernel) (by decide +kernel)
        have hN1 : hI h1 2624 0 = hI h 2624 0 := now_fr a fr1 (by decide)
        have q1' : Hs h1 0 (hI h1 2624 0) := by rw [hN1]; exact q1
        obtain ⟨h2, g2, fr2⟩ := X12_isObeyed_eq q1.1 (g := h) (b := 0) (by rw [hN1]; exact q.2.2.2) e6 0
        rw [hN1] at g2
        have o1' : X12_of5 0 (nI s) 1 h1 = some (some (.inl (hI h 2624 0 (156 + 5 * s))), h1) := of5_at (k := 1) q1.1 hN1 e6 (by decide) (by omega)
        refine ⟨b2 (obeyB (hI h 2624 0) s 0), h1, h2, ?_, ?_, r0.keep (W := ([1920, 3264, 3328], [], false)) ((fr1.sub (by decide)).tr (fr2.sub (by decide))) (by decide +kernel) (by decide +kernel) rfl (fun w => (w.fr a ((fr1.sub (by decide)).tr (fr2.sub (by decide)) : Fr ([1920, 3264, 3328], [], false) h h2) (by decide)).mono)⟩
        · rw [ch, if_neg (by decide), if_neg (by decide), if_neg (by decide), if_neg (by decide), if_neg (by decide), if_neg (by decide), if_neg (by decide), if_neg (by decide), if_neg (by decide), if_pos (by decide), g1, cI_some, bit_b2, cI_some]
        · unfold X12_told X12_told_g0 X12_told_f0
          rw [isSign_wn q1.1 q1', cI_some, hN1, z, if_neg (by decide), in_wn10, cI_some, z2, if_neg (by decide), o1', cI_some, if_neg (by decide), if_neg (by decide), if_neg (by decide), if_neg (by decide), if_neg (by decide), if_neg (by decide), if_neg (by decide), if_neg (by decide), if_neg (by decide), g2, cI_some, b2_if]
