/-! pair: way -/
def wyC1 (h : PH) (K p1 p2 d : Nat) (s t : Int32) : PH := pI (pI (pI (pI (pI (pI h 576 K 0 (nI p1)) 577 K 0 (nI p2)) 578 K 0 (nI d)) 579 K 0 s) 580 K 0 t) 581 K 0 0
def wyC (h : PH) (K p1 p2 d : Nat) (s t : Int32) : PH := pI (pI (pI (wyC1 h K p1 p2 d s t) 960 0 (8 * p1 + d) (nI K)) 960 0 (8 * p2 + (d + 4) % 8) (nI K)) 73 0 0 (nI (K + 1))
def wyM6 (h : PH) (K p1 p2 d : Nat) (s t : Int32) : PH := pI (pI (pI (pI (pI (pI h 2624 0 (15 + 6 * K) (nI p1)) 2624 0 (16 + 6 * K) (nI p2)) 2624 0 (17 + 6 * K) (nI d)) 2624 0 (18 + 6 * K) s) 2624 0 (19 + 6 * K) t) 2624 0 (20 + 6 * K) 0
def wyM (h : PH) (K p1 p2 d : Nat) (s t : Int32) : PH := pI (wyM6 h K p1 p2 d s t) 2624 0 4 (nI (K + 1))
def wyN6 (N : Nat → Int32) (K p1 p2 d : Nat) (s t : Int32) : Nat → Int32 := updF (updF (updF (updF (updF (updF N (15 + 6 * K) (nI p1)) (16 + 6 * K) (nI p2)) (17 + 6 * K) (nI d)) (18 + 6 * K) s) (19 + 6 * K) t) (20 + 6 * K) 0
def wyN (N : Nat → Int32) (K p1 p2 d : Nat) (s t : Int32) : Nat → Int32 := updF (wyN6 N K p1 p2 d s t) 4 (nI (K + 1))
section
variable (h : PH) (N : Nat → Int32) (K p1 p2 d : Nat) (s t : Int32)
theorem wyM6_now : hI (wyM6 h K p1 p2 d s t) 2624 0 = wyN6 (hI h 2624 0) K p1 p2 d s t := by
  unfold wyM6 wyN6
  rw [hI_upd, hI_upd, hI_upd, hI_upd, hI_upd, hI_upd]
theorem wyM_now : hI (wyM h K p1 p2 d s t) 2624 0 = wyN (hI h 2624 0) K p1 p2 d s t := by
  unfold wyM wyN
  rw [hI_upd, wyM6_now]
theorem wyM_off {c : Nat} (hc : c ≠ 2624) (i j : Nat) : hI (wyM h K p1 p2 d s t) c i j = hI h c i j := by
  unfold wyM wyM6
  rw [hI_off _ hc, hI_off _ hc, hI_off _ hc, hI_off _ hc, hI_off _ hc, hI_off _ hc, hI_off _ hc]
theorem wyN6_up {j : Nat} (hj : j < 15 + 6 * K ∨ 21 + 6 * K ≤ j) : wyN6 N K p1 p2 d s t j = N j := by
  unfold wyN6 updF
  rw [if_neg (by omega), if_neg (by omega), if_neg (by omega), if_neg (by omega), if_neg (by omega), if_neg (by omega)]
theorem wyN_up {j : Nat} (h4 : j ≠ 4) (hj : j < 15 + 6 * K ∨ 21 + 6 * K ≤ j) : wyN N K p1 p2 d s t j = N j := by
  have := wyN6_up N K p1 p2 d s t hj
  unfold wyN
  show (if j = 4 then nI (K + 1) else wyN6 N K p1 p2 d s t j) = N j
  rw [if_neg h4, this]
theorem wyN_at : wyN N K p1 p2 d s t 4 = nI (K + 1) ∧ wyN N K p1 p2 d s t (15 + 6 * K) = nI p1 ∧ wyN N K p1 p2 d s t (16 + 6 * K) = nI p2 ∧ wyN N K p1 p2 d s t (17 + 6 * K) = nI d ∧ wyN N K p1 p2 d s t (18 + 6 * K) = s ∧ wyN N K p1 p2 d s t (19 + 6 * K) = t ∧ wyN N K p1 p2 d s t (20 + 6 * K) = 0 := by
  unfold wyN wyN6 updF
  refine ⟨?_, ?_, ?_, ?_, ?_, ?_, ?_⟩
  · rw [if_pos rfl]
  · rw [if_neg (by omega), if_neg (by omega), if_neg (by omega), if_neg (by omega), if_neg (by omega), if_neg (by omega), if_pos rfl]
  · rw [if_neg (by omega), if_neg (by omega), if_neg (by omega), if_neg (by omega), if_neg (by omega), if_pos rfl]
  · rw [if_neg (by omega), if_neg (by omega), if_neg (by omega), if_neg (by omega), if_pos rfl]
  · rw [if_neg (by omega), if_neg (by omega), if_neg (by omega), if_pos rfl]
  · rw [if_neg (by omega), if_neg (by omega), if_pos rfl]
  · rw [if_neg (by omega), if_pos rfl]
theorem wyC_off {c : Nat} (hc : c ∉ [576, 577, 578, 579, 580, 581, 960, 73]) (i j : Nat) : hI (wyC h K p1 p2 d s t) c i j = hI h c i j := by
  have n : ∀ e, e ∈ [576, 577, 578, 579, 580, 581, 960, 73] → c ≠ e := fun e he e' => hc (e' ▸ he)
  unfold wyC wyC1
  rw [hI_off _ (n 73 (by decide)), hI_off _ (n 960 (by decide)), hI_off _ (n 960 (by decide)), hI_off _ (n 581 (by decide)), hI_off _ (n 580 (by decide)), hI_off _ (n 579 (by decide)), hI_off _ (n 578 (by decide)), hI_off _ (n 577 (by decide)), hI_off _ (n 576 (by decide))]
theorem wyC_oth {c i : Nat} (hc : c / 64 = 9) (hi : i ≠ K) (j : Nat) : hI (wyC h K p1 p2 d s t) c i j = hI h c i j := by
  unfold wyC wyC1
  rw [hI_off _ (fun e => by omega), hI_off _ (fun e => by omega), hI_off _ (fun e => by omega), hI_pI, if_neg (fun z => hi z.2.1), hI_pI, if_neg (fun z => hi z.2.1), hI_pI, if_neg (fun z => hi z.2.1), hI_pI, if_neg (fun z => hi z.2.1), hI_pI, if_neg (fun z => hi z.2.1), hI_pI, if_neg (fun z => hi z.2.1)]
theorem wyC_at : hI (wyC h K p1 p2 d s t) 576 K 0 = nI p1 ∧ hI (wyC h K p1 p2 d s t) 577 K 0 = nI p2 ∧ hI (wyC h K p1 p2 d s t) 578 K 0 = nI d ∧ hI (wyC h K p1 p2 d s t) 579 K 0 = s ∧ hI (wyC h K p1 p2 d s t) 580 K 0 = t ∧ hI (wyC h K p1 p2 d s t) 581 K 0 = 0 ∧ hI (wyC h K p1 p2 d s t) 73 0 0 = nI (K + 1) := by
  unfold wyC wyC1
  refine ⟨?_, ?_, ?_, ?_, ?_, ?_, ?_⟩
  · rw [hI_off _ (by decide), hI_off _ (by decide), hI_off _ (by decide), hI_off _ (by decide), hI_off _ (by decide), hI_off _ (by decide), hI_off _ (by decide), hI_off _ (by decide), hI_pI, if_pos ⟨rfl, rfl, rfl⟩]
  · rw [hI_off _ (by decide), hI_off _ (by decide), hI_off _ (by decide), hI_off _ (by decide), hI_off _ (by decide), hI_off _ (by decide), hI_off _ (by decide), hI_pI, if_pos ⟨rfl, rfl, rfl⟩]
  · rw [hI_off _ (by decide), hI_off _ (by decide), hI_off _ (by decide), hI_off _ (by decide), hI_off _ (by decide), hI_off _ (by decide), hI_pI, if_pos ⟨rfl, rfl, rfl⟩]
  · rw [hI_off _ (by decide), hI_off _ (by decide), hI_off _ (by decide), hI_off _ (by decide), hI_off _ (by decide), hI_pI, if_pos ⟨rfl, rfl, rfl⟩]
  · rw [hI_off _ (by decide), hI_off _ (by decide), hI_off _ (by decide), hI_off _ (by decide), hI_pI, if_pos ⟨rfl, rfl, rfl⟩]
  · rw [hI_off _ (by decide), hI_off _ (by decide), hI_off _ (by decide), hI_pI, if_pos ⟨rfl, rfl, rfl⟩]
  · rw [hI_pI, if_pos ⟨rfl, rfl, rfl⟩]
theorem wyC_960 (i j : Nat) : hI (wyC h K p1 p2 d s t) 960 i j = if i = 0 ∧ (j = 8 * p1 + d ∨ j = 8 * p2 + (d + 4) % 8) then nI K else hI h 960 i j := by
  unfold wyC wyC1
  rw [hI_off _ (by decide), hI_pI, hI_pI, hI_off _ (by decide), hI_off _ (by decide), hI_off _ (by decide), hI_off _ (by decide), hI_off _ (by decide), hI_off _ (by decide)]
  by_cases c1 : i = 0 ∧ j = 8 * p2 + (d + 4) % 8
  · rw [if_pos ⟨rfl, c1⟩, if_pos ⟨c1.1, Or.inr c1.2⟩]
  · rw [if_neg (fun z => c1 z.2)]
    by_cases c2 : i = 0 ∧ j = 8 * p1 + d
    · rw [if_pos ⟨rfl, c2⟩, if_pos ⟨c2.1, Or.inl c2.2⟩]
    · rw [if_neg (fun z => c2 z.2), if_neg (fun z => by omega)]
theorem wyC_fr : Fr ([576, 577, 578, 579, 580, 581, 960, 73, 2624], [], false) h (wyC h K p1 p2 d s t) := ((((((((Fr.rf.pI (by decide)).pI (by decide)).pI (by decide)).pI (by decide)).pI (by decide)).pI (by decide)).pI (by decide)).pI (by decide)).pI (by decide)
theorem wyM_fr : Fr ([576, 577, 578, 579, 580, 581, 960, 73, 2624], [], false) h (wyM h K p1 p2 d s t) := ((((((Fr.rf.pI (by decide)).pI (by decide)).pI (by decide)).pI (by decide)).pI (by decide)).pI (by decide)).pI (by decide)
end
theorem addWay_eq {h : PH} (a : SH h) {K p1 p2 d : Nat} (h73 : hI h 73 0 0 = nI K) (hK : K < 20) (h1 : p1 < 12) (h2 : p2 < 12) (hd : d < 8) {x s t : Int32} (hs : x / 100 = s) (ht : jrem x 100 = t) : X1_addWay 0 (nI p1) (nI p2) (nI d) x h = some (some (.inl (nI K)), wyC h K p1 p2 d s t) := by
  have dv100 : ∀ f, dv 100 f = f := fun f => dv_ok (by decide)
  have a1 : SH (wyC1 h K p1 p2 d s t) := a
  have y1 : hI (wyC1 h K p1 p2 d s t) 73 0 0 = nI K := by
    unfold wyC1
    rw [hI_off _ (by decide), hI_off _ (by decide), hI_off _ (by decide), hI_off _ (by decide), hI_off _ (by decide), hI_off _ (by decide), h73]
  have x1 : nI p1 * 8 + nI d = nI (8 * p1 + d) := by rw [show (8 : Int32) = nI 8 from rfl, nI_mul, nI_add, Nat.mul_comm]
  have x2 : nI p2 * 8 + nI ((d + 4) % 8) = nI (8 * p2 + (d + 4) % 8) := by rw [show (8 : Int32) = nI 8 from rfl, nI_mul, nI_add, Nat.mul_comm]
  have a2 : SH (pI (wyC1 h K p1 p2 d s t) 960 0 (8 * p1 + d) (nI K)) := a
  have y2 : hI (pI (wyC1 h K p1 p2 d s t) 960 0 (8 * p1 + d) (nI K)) 73 0 0 = nI K := (hI_off _ (by decide) _ _ _ _ _).trans y1
  have y3 : hI (pI (pI (wyC1 h K p1 p2 d s t) 960 0 (8 * p1 + d) (nI K)) 960 0 (8 * p2 + (d + 4) % 8) (nI K)) 73 0 0 = nI K := (hI_off _ (by decide) _ _ _ _ _).trans y2
  have g49 : X1_addWay_g49 0 (nI p1) (nI p2) (nI d) (K + 1) (pI (pI (pI (pI (pI h 576 K 0 (nI p1)) 577 K 0 (nI p2)) 578 K 0 (nI d)) 579 K 0 s) 580 K 0 t) = some (some (.inl (nI K)), wyC h K p1 p2 d s t) := by
    have e1 : pI (pI (pI (pI (pI (pI h 576 K 0 (nI p1)) 577 K 0 (nI p2)) 578 K 0 (nI d)) 579 K 0 s) 580 K 0 t) 581 K 0 0 = wyC1 h K p1 p2 d s t := rfl
    unfold X1_addWay_g49 X1_addWay_f49
    rw [nnE rfl, bz0, wr_eq, e1, nnE (sh_65 a1 0 (by decide)), ixE (ln_15 a1 0 (by decide)) x1 (show 8 * p1 + d < 96 by omega) (by decide), y1, wr_eq, opposite_nI hd, cI_some, nnE (sh_65 a2 0 (by decide)), ixE (ln_15 a2 0 (by decide)) x2 (show 8 * p2 + (d + 4) % 8 < 96 by omega) (by decide), y2, wr_eq, y3, nI_1, wr_eq]
    rfl
  unfold X1_addWay X1_addWay_g0 X1_addWay_f0
  rw [nnE (sh_64 a 0 (by decide)), ixE (ln_14 a 0 (by decide)) h73 hK (by decide), sh_896_0 a K hK, nnE rfl, wr_eq, nnE rfl, wr_eq, nnE rfl, wr_eq, dv100, nnE rfl, wr_eq, dv100, nnE rfl, wr_eq, hs, ht]
  exact g49
theorem wayM_eq {h : PH} (a : SH h) {K p1 p2 d : Nat} (h4 : hI h 2624 0 4 = nI K) (hK : K < 20) {x s t : Int32} (hs : x / 100 = s) (ht : jrem x 100 = t) : (nn (hR h 704 0 0) fun r15 => ix 4 (hL h 41 r15) fun j16 => nn (hR h 704 0 0) fun r17 => ix (15 + (6 * (hI h 2624 r15 j16))) (hL h 41 r17) fun j18 => wr (pI h 2624 r17 j18 (nI p1)) fun h19 => nn (hR h19 704 0 0) fun r20 => ix ((15 + (6 * (hI h 2624 r15 j16))) + 1) (hL h19 41 r20) fun j21 => wr (pI h19 2624 r20 j21 (nI p2)) fun h22 => nn (hR h22 704 0 0) fun r23 => ix ((15 + (6 * (hI h 2624 r15 j16))) + 2) (hL h22 41 r23) fun j24 => wr (pI h22 2624 r23 j24 (nI d)) fun h25 => dv 100 <| nn (hR h25 704 0 0) fun r26 => ix ((15 + (6 * (hI h 2624 r15 j16))) + 3) (hL h25 41 r26) fun j27 => wr (pI h25 2624 r26 j27 (x / 100)) fun h28 => dv 100 <| nn (hR h28 704 0 0) fun r29 => ix ((15 + (6 * (hI h 2624 r15 j16))) + 4) (hL h28 41 r29) fun j30 => wr (pI h28 2624 r29 j30 (jrem x 100)) fun h31 => nn (hR h31 704 0 0) fun r32 => ix ((15 + (6 * (hI h 2624 r15 j16))) + 5) (hL h31 41 r32) fun j33 => wr (pI h31 2624 r32 j33 0) fun h34 => nn (hR h34 704 0 0) fun r35 => ix 4 (hL h34 41 r35) fun j36 => nn (hR h34 704 0 0) fun r37 => ix 4 (hL h34 41 r37) fun j38 => wr (pI h34 2624 r37 j38 ((hI h34 2624 r35 j36) + 1)) fun h39 => nn (hR h39 704 0 0) fun r40 => ix 4 (hL h39 41 r40) fun j41 => some (some (.inl ((hI h39 2624 r40 j41) - 1)), h39)) = some (some (.inl (nI K)), wyM h K p1 p2 d s t) := by
  have dv100 : ∀ f, dv 100 f = f := fun f => dv_ok (by decide)
  have x0 : (15 : Int32) + 6 * nI K = nI (15 + 6 * K) := by rw [show (15 : Int32) = nI 15 from rfl, show (6 : Int32) = nI 6 from rfl, nI_mul, nI_add]
  have k1 : nI (15 + 6 * K) + 1 = nI (16 + 6 * K) := by rw [show (1 : Int32) = nI 1 from rfl, nI_add]; congr 1; omega
  have k2 : nI (15 + 6 * K) + 2 = nI (17 + 6 * K) := by rw [show (2 : Int32) = nI 2 from rfl, nI_add]; congr 1; omega
  have k3 : nI (15 + 6 * K) + 3 = nI (18 + 6 * K) := by rw [show (3 : Int32) = nI 3 from rfl, nI_add]; congr 1; omega
  have k4 : nI (15 + 6 * K) + 4 = nI (19 + 6 * K) := by rw [show (4 : Int32) = nI 4 from rfl, nI_add]; congr 1; omega
  have k5 : nI (15 + 6 * K) + 5 = nI (20 + 6 * K) := by rw [show (5 : Int32) = nI 5 from rfl, nI_add]; congr 1; omega
  have b1 : SH (pI h 2624 0 (15 + 6 * K) (nI p1)) := a
  have b2' : SH (pI (pI h 2624 0 (15 + 6 * K) (nI p1)) 2624 0 (16 + 6 * K) (nI p2)) := a
  have b3 : SH (pI (pI (pI h 2624 0 (15 + 6 * K) (nI p1)) 2624 0 (16 + 6 * K) (nI p2)) 2624 0 (17 + 6 * K) (nI d)) := a
  have b4 : SH (pI (pI (pI (pI h 2624 0 (15 + 6 * K) (nI p1)) 2624 0 (16 + 6 * K) (nI p2)) 2624 0 (17 + 6 * K) (nI d)) 2624 0 (18 + 6 * K) s) := a
  have b5 : SH (pI (pI (pI (pI (pI h 2624 0 (15 + 6 * K) (nI p1)) 2624 0 (16 + 6 * K) (nI p2)) 2624 0 (17 + 6 * K) (nI d)) 2624 0 (18 + 6 * K) s) 2624 0 (19 + 6 * K) t) := a
  have b6 : SH (wyM6 h K p1 p2 d s t) := a
  have b7 : SH (wyM h K p1 p2 d s t) := a
  have e6 : pI (pI (pI (pI (pI (pI h 2624 0 (15 + 6 * K) (nI p1)) 2624 0 (16 + 6 * K) (nI p2)) 2624 0 (17 + 6 * K) (nI d)) 2624 0 (18 + 6 * K) s) 2624 0 (19 + 6 * K) t) 2624 0 (20 + 6 * K) 0 = wyM6 h K p1 p2 d s t := rfl
  have e7 : pI (wyM6 h K p1 p2 d s t) 2624 0 4 (nI (K + 1)) = wyM h K p1 p2 d s t := rfl
  have y6 : hI (wyM6 h K p1 p2 d s t) 2624 0 4 = nI K := by rw [wyM6_now, wyN6_up _ _ _ _ _ _ _ (by omega), h4]
  have l4 : (4 : Int32) = nI 4 := rfl
  rw [nnE (sh_704 a), ixE (ln_41 a) l4 (by decide) (by decide), h4, x0, nnE (sh_704 a), ixE (ln_41 a) rfl (show 15 + 6 * K < 1765 by omega) (by decide), wr_eq, nnE (sh_704 b1), ixE (ln_41 b1) k1 (show 16 + 6 * K < 1765 by omega) (by decide), wr_eq, nnE (sh_704 b2'), ixE (ln_41 b2') k2 (show 17 + 6 * K < 1765 by omega) (by decide), wr_eq, dv100, hs, ht, nnE (sh_704 b3), ixE (ln_41 b3) k3 (show 18 + 6 * K < 1765 by omega) (by decide), wr_eq, dv100, nnE (sh_704 b4), ixE (ln_41 b4) k4 (show 19 + 6 * K < 1765 by omega) (by decide), wr_eq, nnE (sh_704 b5), ixE (ln_41 b5) k5 (show 20 + 6 * K < 1765 by omega) (by decide), wr_eq, e6, nnE (sh_704 b6), ixE (ln_41 b6) l4 (by decide) (by decide), nnE (sh_704 b6), ixE (ln_41 b6) l4 (by decide) (by decide), y6, nI_1, wr_eq, e7, nnE (sh_704 b7), ixE (ln_41 b7) l4 (by decide) (by decide), wyM_now, (wyN_at _ _ _ _ _ _ _).1, nI_pred]
theorem way_HWays {h : PH} (q : Hs h 0 (hI h 2624 0)) {K p1 p2 d S T : Nat} (hK : hI h 2624 0 4 = nI K) (hK20 : K < 20) (h1 : p1 < nt (hI h 2624 0 3)) (h2 : p2 < nt (hI h 2624 0 3)) (hne : p1 ≠ p2) (hd : d < 8) (hS : S ≤ 3) (hT : 1 ≤ T ∧ T ≤ 30) (f1 : wO (hI h 2624 0) p1 d = none) (f2 : wO (hI h 2624 0) p2 ((d + 4) % 8) = none) : HWays (wyM (wyC h K p1 p2 d (nI S) (nI T)) K p1 p2 d (nI S) (nI T)) 0 (wyN (hI h 2624 0) K p1 p2 d (nI S) (nI T)) := by
  have a := q.1
  have n12 := q.n12
  obtain ⟨L, hL, h12, hLn, hLi, -⟩ := q.places
  obtain ⟨c1, c2, c3, c4, c5, c6, c7⟩ := wyC_at h K p1 p2 d (nI S) (nI T)
  obtain ⟨w4, w15, w16, w17, w18, w19, w20⟩ := wyN_at (hI h 2624 0) K p1 p2 d (nI S) (nI T)
  have up : ∀ j, j ≠ 4 → j < 15 + 6 * K ∨ 21 + 6 * K ≤ j → wyN (hI h 2624 0) K p1 p2 d (nI S) (nI T) j = hI h 2624 0 j := fun j e1 e2 => wyN_up _ _ _ _ _ _ _ e1 e2
  have hKi : (hI h 2624 0 4).toInt = K := by rw [hK, nI_toInt (by omega)]
  have hKn : nt (hI h 2624 0 4) = K := by rw [hK, nt_nI (by omega)]
  have ldo : ∀ w : Nat, w < K → ∀ p e, leads (wyN (hI h 2624 0) K p1 p2 d (nI S) (nI T)) w p e ↔ leads (hI h 2624 0) w p e := fun w hw p e => by
    unfold leads
    rw [up (15 + 6 * w) (by omega) (by omega), up (16 + 6 * w) (by omega) (by omega), up (17 + 6 * w) (by omega) (by omega)]
  have ldK : ∀ p e : Nat, leads (wyN (hI h 2624 0) K p1 p2 d (nI S) (nI T)) K p e ↔ (p1 = p ∧ d = e) ∨ (p2 = p ∧ (d + 4) % 8 = e) := fun p e => by
    unfold leads
    rw [w15, w16, w17, nI_toInt (by omega), nI_toInt (by omega), nI_toInt (by omega)]
    omega
  have none_no : ∀ p e, p < 12 → e < 8 → wO (hI h 2624 0) p e = none → ∀ w : Nat, w < K → ¬ leads (hI h 2624 0) w p e := fun p e hp he hno w hw hl => by
    have := wO_un q hp he (show w < nt (hI h 2624 0 4) by omega) ((q.leadsN (by omega) p e).mp hl)
    rw [this] at hno
    cases hno
  refine ⟨fun w hw => ?_, fun p e hp he => ?_⟩
  · rw [w4, nI_toInt (by omega)] at hw
    by_cases cw : w = K
    · subst cw
      rw [w15, w16, w17, w18, w19, w20, up 3 (by omega) (by omega)]
      refine ⟨fun f hf => ?_, ⟨by rw [nI_toInt (by omega)]; omega, by rw [nI_toInt (by omega)]; omega⟩, ⟨by rw [nI_toInt (by omega)]; omega, by rw [nI_toInt (by omega)]; omega⟩, by rw [nI_toInt (by omega), nI_toInt (by omega)]; omega, ⟨by rw [nI_toInt (by omega)]; omega, by rw [nI_toInt (by omega)]; omega⟩, ⟨by rw [nI_toInt (by omega)]; omega, by rw [nI_toInt (by omega)]; omega⟩, ⟨by rw [nI_toInt (by omega)]; omega, by rw [nI_toInt (by omega)]; omega⟩, ⟨by decide, by decide⟩⟩
      have hf6 : f = 0 ∨ f = 1 ∨ f = 2 ∨ f = 3 ∨ f = 4 ∨ f = 5 := by omega
      rw [Nat.mul_zero, Nat.zero_add, wyM_off _ _ _ _ _ _ _ (by omega)]
      have e : ∀ k, 15 + 6 * w + k = 15 + k + 6 * w := fun k => by omega
      rw [e f]
      rcases hf6 with rfl | rfl | rfl | rfl | rfl | rfl
      · exact c1.trans w15.symm
      · exact c2.trans w16.symm
      · exact c3.trans w17.symm
      · exact c4.trans w18.symm
      · exact c5.trans w19.symm
      · exact c6.trans w20.symm
    · obtain ⟨p1', p2', p3, p4, p5, p6, p7, p8⟩ := q.2.2.1.2.2.1.1 w (by omega)
      rw [up (15 + 6 * w) (by omega) (by omega), up (16 + 6 * w) (by omega) (by omega), up (17 + 6 * w) (by omega) (by omega), up (18 + 6 * w) (by omega) (by omega), up (19 + 6 * w) (by omega) (by omega), up (20 + 6 * w) (by omega) (by omega), up 3 (by omega) (by omega)]
      refine ⟨fun f hf => ?_, p2', p3, p4, p5, p6, p7, p8⟩
      have m2 : (576 + f) / 64 = 9 := (by decide : ∀ g, g < 6 → (576 + g) / 64 = 9) f hf
      have := p1' f hf
      rw [Nat.mul_zero, Nat.zero_add] at this ⊢
      rw [up (15 + 6 * w + f) (by omega) (by omega), wyM_off _ _ _ _ _ _ _ (by omega), wyC_oth _ _ _ _ _ _ _ m2 cw]
      exact this
  · rw [wyM_off _ _ _ _ _ _ _ (by decide), wyC_960, w4, nI_toInt (by omega)]
    by_cases c : 8 * p + e = 8 * p1 + d ∨ 8 * p + e = 8 * p2 + (d + 4) % 8
    · rw [if_pos ⟨rfl, c⟩]
      have hpe : (p1 = p ∧ d = e) ∨ (p2 = p ∧ (d + 4) % 8 = e) := by omega
      refine Or.inr ⟨K, by omega, rfl, (ldK p e).mpr hpe, fun w2 hw2 hl => ?_⟩
      by_cases cw : w2 = K
      · exact cw
      · have hl' := (ldo w2 (by omega) p e).mp hl
        rcases hpe with ⟨rfl, rfl⟩ | ⟨rfl, rfl⟩
        · exact absurd hl' (none_no _ _ hp he f1 w2 (by omega))
        · exact absurd hl' (none_no _ _ hp he f2 w2 (by omega))
    · rw [if_neg (fun z => c z.2)]
      have hno : ¬ leads (wyN (hI h 2624 0) K p1 p2 d (nI S) (nI T)) K p e := fun hl => c (by
        have := (ldK p e).mp hl
        omega)
      rcases q.2.2.1.2.2.1.2 p e hp he with ⟨d1, d2⟩ | ⟨w, d1, d2, d3, d4⟩
      · refine Or.inl ⟨d1, fun w hw hl => ?_⟩
        by_cases cw : w = K
        · rw [cw] at hl
          exact hno hl
        · exact d2 w (by omega) ((ldo w (by omega) p e).mp hl)
      · refine Or.inr ⟨w, by omega, d2, (ldo w (by omega) p e).mpr d3, fun w2 hw2 hl => ?_⟩
        by_cases cw : w2 = K
        · rw [cw] at hl
          exact absurd hl hno
        · exact d4 w2 (by omega) ((ldo w2 (by omega) p e).mp hl)
