/-! texts: one is made; the class -/
theorem nl_nI {e : Nat} (he : e < 65536) (f : Nat → Option Rs) : nl (nI e) f = f e := by
  unfold nl
  rw [if_neg (nI_in he (by decide)), nI_clamp (by omega)]
theorem cpk_ok {e : Nat} (he : e < 96) (f : Option Rs) : cpk 96 e 0 0 (nI e) f = f := by
  unfold cpk
  rw [nI_clamp (by omega), if_neg]
  rintro (z | z | z | z | z)
  · exact absurd z (by decide)
  · exact absurd z (by decide)
  · exact nI_pos (by omega) z
  · have : (0 : Int32).toNatClampNeg = 0 := by decide
    omega
  · have : (0 : Int32).toNatClampNeg = 0 := by decide
    omega
def cpH (h : PH) (e : Nat) : PH := pCp (nw h 29 e e) 1472 0 0 1856 (hN h 29) 0 e
theorem copyOf_c {h : PH} (a : SH h) {e : Nat} (he : e < 96) : J7_copyOf_59c91_23 1 (nI e) h = some (some (.inr (29, hN h 29 + 1)), cpH h e) := by
  have a3 : SH (nw h 29 e e) := a.fr (W := ([], [], true)) (Fr.rf.nw rfl) (by decide)
  have l3 : hL (nw h 29 e e) 29 (hN h 29) = e := by rw [hL_nw, if_pos ⟨rfl, rfl⟩]
  have z0 : (0 : Int32).toNatClampNeg = 0 := by decide
  unfold J7_copyOf_59c91_23 J7_copyOf_59c91_23_g0 J7_copyOf_59c91_23_f0
  rw [nnE rfl, ln_23 a, if_neg (show ¬ nI e = Int32.ofNat 96 from fun z => by have := (nI_eq (b := 96) (by omega) (by omega)).mp z; omega), nl_nI (by omega), wr_eq, nnE rfl, nnE rfl, nn_succ, ln_23 a3, l3, if_pos (show nI e < Int32.ofNat 96 from nI_lt (b := 96) he (by decide)), cpk_ok he, wr_eq, nI_clamp (by omega), z0]
  rfl
def mkH (h : PH) (key lv e : Nat) : PH := pR (nw (pR (pI (pI (cpH (nw h 7 0 4) e) 448 (hN h 7) 0 (nI key)) 449 (hN h 7) 0 (nI lv)) 450 (hN h 7) 0 (hN h 29 + 1)) 30 lv lv) 451 (hN h 7) 0 (hN h 30 + 1)
theorem makeText_c {h : PH} (a : SH h) {key lv e : Nat} (h4 : hI h 134 0 0 = nI key) (h6 : hI h 136 0 0 = nI e) (h7 : hI h 137 0 0 = nI lv) (he : e < 96) (hlv : lv ≤ 96) : X3_makeText 0 h = some (some (.inr (7, hN h 7 + 1)), mkH h key lv e) := by
  have f1 : Fr ([], [], true) h (nw h 7 0 4) := Fr.rf.nw rfl
  have a1 : SH (nw h 7 0 4) := a.fr f1 (by decide)
  have e6 : hI (nw h 7 0 4) 136 0 0 = nI e := (f1.1 136 0 0 (by decide) a.n2).trans h6
  have e4 : hI (nw h 7 0 4) 134 0 0 = nI key := (f1.1 134 0 0 (by decide) a.n2).trans h4
  have e7 : hI (nw h 7 0 4) 137 0 0 = nI lv := (f1.1 137 0 0 (by decide) a.n2).trans h7
  have n29 : hN (nw h 7 0 4) 29 = hN h 29 := by rw [hN_nw, if_neg (by decide)]
  unfold X3_makeText X3_makeText_g0 X3_makeText_f0
  rw [wr_eq, sh_135 a1, e6, copyOf_c a1 he, cR_some, nn_succ, e4, e7, n29]
  unfold X8_init X8_init_g0 X8_init_f0
  rw [wr_eq, wr_eq, wr_eq, nl_nI (by omega), wr_eq, wr_eq, cV_some]
  rfl
section
variable {h : PH} {key lv e : Nat}
theorem mk_I (c i j : Nat) : hI (mkH h key lv e) c i j = if c / 64 = 30 ∧ i = hN h 30 then 0 else if c = 449 ∧ i = hN h 7 ∧ j = 0 then nI lv else if c = 448 ∧ i = hN h 7 ∧ j = 0 then nI key else if c = 1856 ∧ i = hN h 29 ∧ 0 ≤ j ∧ j < 0 + e then hI (nw (nw h 7 0 4) 29 e e) 1472 0 (0 + (j - 0)) else if c / 64 = 29 ∧ i = hN h 29 then 0 else if c / 64 = 7 ∧ i = hN h 7 then 0 else hI h c i j := rfl
theorem mk_R (c i j : Nat) : hR (mkH h key lv e) c i j = if c = 451 ∧ i = hN h 7 ∧ j = 0 then hN h 30 + 1 else if c / 64 = 30 ∧ i = hN h 30 then 0 else if c = 450 ∧ i = hN h 7 ∧ j = 0 then hN h 29 + 1 else if c / 64 = 29 ∧ i = hN h 29 then 0 else if c / 64 = 7 ∧ i = hN h 7 then 0 else hR h c i j := rfl
theorem mk_L (k i : Nat) : hL (mkH h key lv e) k i = if k = 30 ∧ i = hN h 30 then lv else if k = 29 ∧ i = hN h 29 then e else if k = 7 ∧ i = hN h 7 then 0 else hL h k i := rfl
theorem mk_N (k : Nat) : hN (mkH h key lv e) k = if k = 30 then hN h 30 + 1 else if k = 29 then hN h 29 + 1 else if k = 7 then hN h 7 + 1 else hN h k := rfl
theorem mk_C : hC (mkH h key lv e) = hC h + 1 + 1 + 1 := rfl
theorem mk_S : hS (mkH h key lv e) = hS h + 4 + e + lv := rfl
theorem mk_Io {c i : Nat} (hi : i < hN h (c / 64)) (j : Nat) : hI (mkH h key lv e) c i j = hI h c i j := by
  rw [mk_I, if_neg (fun z => by rw [z.1, z.2] at hi; omega), if_neg (fun z => by rw [z.1, z.2.1] at hi; exact absurd hi (Nat.lt_irrefl _)), if_neg (fun z => by rw [z.1, z.2.1] at hi; exact absurd hi (Nat.lt_irrefl _)), if_neg (fun z => by rw [z.1, z.2.1] at hi; exact absurd hi (Nat.lt_irrefl _)), if_neg (fun z => by rw [z.1, z.2] at hi; omega), if_neg (fun z => by rw [z.1, z.2] at hi; omega)]
theorem mk_Ro {c i : Nat} (hi : i < hN h (c / 64)) (j : Nat) : hR (mkH h key lv e) c i j = hR h c i j := by
  rw [mk_R, if_neg (fun z => by rw [z.1, z.2.1] at hi; exact absurd hi (Nat.lt_irrefl _)), if_neg (fun z => by rw [z.1, z.2] at hi; omega), if_neg (fun z => by rw [z.1, z.2.1] at hi; exact absurd hi (Nat.lt_irrefl _)), if_neg (fun z => by rw [z.1, z.2] at hi; omega), if_neg (fun z => by rw [z.1, z.2] at hi; omega)]
theorem mk_Lo {k i : Nat} (hi : i < hN h k) : hL (mkH h key lv e) k i = hL h k i := by
  rw [mk_L, if_neg (fun z => by rw [z.1, z.2] at hi; omega), if_neg (fun z => by rw [z.1, z.2] at hi; omega), if_neg (fun z => by rw [z.1, z.2] at hi; omega)]
theorem mk_No (k : Nat) : hN h k ≤ hN (mkH h key lv e) k := by
  rw [mk_N]
  by_cases c1 : k = 30
  · rw [if_pos c1, c1]
    omega
  rw [if_neg c1]
  by_cases c2 : k = 29
  · rw [if_pos c2, c2]
    omega
  rw [if_neg c2]
  by_cases c3 : k = 7
  · rw [if_pos c3, c3]
    omega
  rw [if_neg c3]
  exact Nat.le_refl _
theorem mk_fr : Fr ([], [], true) h (mkH h key lv e) := ⟨fun _ _ j _ hi => mk_Io hi j, fun _ _ j _ hi => mk_Ro hi j, fun _ _ hi => mk_Lo hi, mk_No, fun z => by cases z⟩
theorem mk_new (a : SH h) : hI (mkH h key lv e) 448 (hN h 7) 0 = nI key ∧ hI (mkH h key lv e) 449 (hN h 7) 0 = nI lv ∧ hR (mkH h key lv e) 450 (hN h 7) 0 = hN h 29 + 1 ∧ hR (mkH h key lv e) 451 (hN h 7) 0 = hN h 30 + 1 ∧ hL (mkH h key lv e) 29 (hN h 29) = e ∧ hL (mkH h key lv e) 30 (hN h 30) = lv ∧ (∀ j, j < e → hI (mkH h key lv e) 1856 (hN h 29) j = hI h 1472 0 j) ∧ hN h 7 < hN (mkH h key lv e) 7 ∧ hN h 29 < hN (mkH h key lv e) 29 ∧ hN h 30 < hN (mkH h key lv e) 30 := by
  refine ⟨?_, ?_, ?_, ?_, ?_, ?_, fun j hj => ?_, ?_, ?_, ?_⟩
  · rw [mk_I, if_neg (fun z => absurd z.1 (by decide)), if_neg (fun z => absurd z.1 (by decide)), if_pos ⟨rfl, rfl, rfl⟩]
  · rw [mk_I, if_neg (fun z => absurd z.1 (by decide)), if_pos ⟨rfl, rfl, rfl⟩]
  · rw [mk_R, if_neg (fun z => absurd z.1 (by decide)), if_neg (fun z => absurd z.1 (by decide)), if_pos ⟨rfl, rfl, rfl⟩]
  · rw [mk_R, if_pos ⟨rfl, rfl, rfl⟩]
  · rw [mk_L, if_neg (fun z => absurd z.1 (by decide)), if_pos ⟨rfl, rfl⟩]
  · rw [mk_L, if_pos ⟨rfl, rfl⟩]
  · rw [mk_I, if_neg (fun z => absurd z.1 (by decide)), if_neg (fun z => absurd z.1 (by decide)), if_neg (fun z => absurd z.1 (by decide)), if_pos ⟨rfl, rfl, by omega, by omega⟩, hI_nw, if_neg (fun z => absurd z.1 (by decide)), hI_nw, if_neg (fun z => absurd z.1 (by decide)), Nat.zero_add, Nat.sub_zero]
  · rw [mk_N, if_neg (by decide), if_neg (by decide), if_pos rfl]
    omega
  · rw [mk_N, if_neg (by decide), if_pos rfl]
    omega
  · rw [mk_N, if_pos rfl]
    omega
end
def tmW : List Nat × List Nat × Bool := ([76, 1280], [1216], true)
/-- what is left of a text on the tape -/
theorem text_made {h g : PH} (a : SH h) (am : SH g) {key K t : Nat} (mt : X3_makeText 0 h = some (some (.inr (7, t + 1)), g)) (hk : key < 3) (hK : K < 14) (h76 : hI h 76 0 0 = nI K) (e76 : hI g 76 0 0 = nI K) (e448 : hI g 448 t 0 = nI key) : (nn (hR h 640 0 0) fun r4 => if (hI h 76 r4 0) < 14 then (nn (hR h 645 0 0) fun r5 => cR 7 (X3_makeText r5 h) fun r7 h6 => nn (hR h6 640 0 0) fun r8 => nn (hR h6 640 0 0) fun r9 => nn (hR h6 69 r8 0) fun r10 => ix (hI h6 76 r9 0) (hL h6 19 r10) fun j11 => wr (pR h6 1216 r10 j11 r7) fun h12 => nn (hR h12 640 0 0) fun r13 => nn r7 fun r14 => nn (hR h12 640 0 0) fun r15 => nn (hR h12 70 r13 0) fun r16 => ix (hI h12 448 r14 0) (hL h12 20 r16) fun j17 => wr (pI h12 1280 r16 j17 (hI h12 76 r15 0)) fun h18 => nn (hR h18 640 0 0) fun r19 => nn (hR h18 640 0 0) fun r20 => wr (pI h18 76 r20 0 ((hI h18 76 r19 0) + 1)) fun h21 => some (some (.inl (hI h18 76 r19 0)), h21)) else some (some (.inl (-1000000003)), h) : Option Rs) = some (some (.inl (nI K)), pI (pI (pR g 1216 0 K (t + 1)) 1280 0 key (nI K)) 76 0 0 (nI (K + 1))) := by
  have f2 : Fr tmW g (pR g 1216 0 K (t + 1)) := Fr.rf.pR (by decide)
  have a2 : SH (pR g 1216 0 K (t + 1)) := am.fr f2 (by decide +kernel)
  have e448' : hI (pR g 1216 0 K (t + 1)) 448 t 0 = nI key := e448
  have e76' : hI (pR g 1216 0 K (t + 1)) 76 0 0 = nI K := e76
  generalize hg2 : pR g 1216 0 K (t + 1) = g2 at a2 e448' e76'
  have a3 : SH (pI g2 1280 0 key (nI K)) := a2
  rw [nnE (sh_640 a), h76, if_pos (show nI K < 14 from nI_lt (b := 14) hK (by decide)), nnE (sh_645 a), mt, cR_some, nnE (sh_640 am), nnE (sh_640 am), nnE (sh_69 am 0 (by decide)), e76, ixE (ln_19 am 0 (by decide)) rfl hK (by decide), wr_eq, hg2, nnE (sh_640 a2), nn_succ, nnE (sh_640 a2), nnE (sh_70 a2 0 (by decide)), e448', ixE (ln_20 a2 0 (by decide)) rfl hk (by decide), e76', wr_eq, nnE (sh_640 a3), nnE (sh_640 a3), hI_off _ (by decide), e76', nI_1, wr_eq]
