/-! a house becomes like another -/
def wcH (h : PH) (i r : Nat) : PH := pI (pI (pI (pI (pI (pI h 576 i 0 (hI h 576 r 0)) 577 i 0 (hI h 577 r 0)) 578 i 0 (hI h 578 r 0)) 579 i 0 (hI h 579 r 0)) 580 i 0 (hI h 580 r 0)) 581 i 0 (hI h 581 r 0)
def wyC6 : List Nat := [576, 577, 578, 579, 580, 581]
theorem wcH_eq {h : PH} {i r : Nat} (hb : hI h 581 r 0 = 0 ∨ hI h 581 r 0 = 1) : X10_becomeAs i (r + 1) h = some (none, wcH h i r) := by
  unfold X10_becomeAs X10_becomeAs_g0 X10_becomeAs_f0 wcH
  rw [nnE rfl, wr_eq, nnE rfl, hI_off h (by decide), wr_eq, nnE rfl, hI_off _ (by decide), hI_off h (by decide), wr_eq, nnE rfl, hI_off _ (by decide), hI_off _ (by decide), hI_off h (by decide), wr_eq, nnE rfl, hI_off _ (by decide), hI_off _ (by decide), hI_off _ (by decide), hI_off h (by decide), wr_eq]
  unfold X10_becomeAs_g40 X10_becomeAs_f40
  rw [nnE rfl, hI_off _ (by decide), hI_off _ (by decide), hI_off _ (by decide), hI_off _ (by decide), hI_off h (by decide), bz_ok hb, wr_eq]
theorem wcH_at (h : PH) (i r : Nat) {c : Nat} (hc : c ∈ wyC6) : hI (wcH h i r) c i 0 = hI h c r 0 := by
  have hc' : c = 576 ∨ c = 577 ∨ c = 578 ∨ c = 579 ∨ c = 580 ∨ c = 581 := by
    unfold wyC6 at hc
    simpa using hc
  unfold wcH
  rcases hc' with rfl | rfl | rfl | rfl | rfl | rfl
  · rw [hI_off _ (by decide), hI_off _ (by decide), hI_off _ (by decide), hI_off _ (by decide), hI_off _ (by decide), hI_pI, if_pos ⟨rfl, rfl, rfl⟩]
  · rw [hI_off _ (by decide), hI_off _ (by decide), hI_off _ (by decide), hI_off _ (by decide), hI_pI, if_pos ⟨rfl, rfl, rfl⟩]
  · rw [hI_off _ (by decide), hI_off _ (by decide), hI_off _ (by decide), hI_pI, if_pos ⟨rfl, rfl, rfl⟩]
  · rw [hI_off _ (by decide), hI_off _ (by decide), hI_pI, if_pos ⟨rfl, rfl, rfl⟩]
  · rw [hI_off _ (by decide), hI_pI, if_pos ⟨rfl, rfl, rfl⟩]
  · rw [hI_pI, if_pos ⟨rfl, rfl, rfl⟩]
theorem wcH_oth (h : PH) (i r : Nat) {c i' : Nat} (hi : i' ≠ i) (j : Nat) : hI (wcH h i r) c i' j = hI h c i' j := by
  unfold wcH
  rw [hI_pI, if_neg (fun z => hi z.2.1), hI_pI, if_neg (fun z => hi z.2.1), hI_pI, if_neg (fun z => hi z.2.1), hI_pI, if_neg (fun z => hi z.2.1), hI_pI, if_neg (fun z => hi z.2.1), hI_pI, if_neg (fun z => hi z.2.1)]
def bwW : List Nat × List Nat × Bool := ([576, 577, 578, 579, 580, 581], [], false)
theorem wcH_fr {h0 h : PH} (f : Fr bwW h0 h) (i r : Nat) : Fr bwW h0 (wcH h i r) := (((((f.pI (by decide)).pI (by decide)).pI (by decide)).pI (by decide)).pI (by decide)).pI (by decide)
/-- signs -/
theorem cpk0 {n : Nat} (hn : n < 128) (f : Option Rs) : cpk n n 0 0 (nI n) f = f := by
  unfold cpk
  rw [if_neg]
  rw [clamp_nI (by omega)]
  rintro (z | z | z | z | z)
  · exact absurd z (by decide)
  · exact absurd z (by decide)
  · exact nI_nlt (b := 0) (by omega) (by omega) z
  · have : (0 : Int32).toNatClampNeg = 0 := by decide
    omega
  · have : (0 : Int32).toNatClampNeg = 0 := by decide
    omega
def scH5 (h : PH) (i r : Nat) : PH := pI (pI (pI (pI (pI h 320 i 0 (hI h 320 r 0)) 321 i 0 (hI h 321 r 0)) 322 i 0 (hI h 322 r 0)) 323 i 0 (hI h 323 r 0)) 324 i 0 (hI h 324 r 0)
def scH (h : PH) (i r : Nat) : PH := pCp (pCp (scH5 h i r) 1728 r 0 1728 i 0 6) 1792 r 0 1792 i 0 6
theorem scH_eq {h : PH} (a : SH h) {i r : Nat} (hi : i < 28) (hr : r < 28) : X6_becomeAs i (r + 1) h = some (none, scH h i r) := by
  unfold X6_becomeAs X6_becomeAs_g0 X6_becomeAs_f0
  rw [nnE rfl, wr_eq, nnE rfl, hI_off h (by decide), wr_eq, nnE rfl, hI_off _ (by decide), hI_off h (by decide), wr_eq, nnE rfl, hI_off _ (by decide), hI_off _ (by decide), hI_off h (by decide), wr_eq, nnE rfl, hI_off _ (by decide), hI_off _ (by decide), hI_off _ (by decide), hI_off h (by decide), wr_eq]
  show X6_becomeAs_g40 i (r + 1) (scH5 h i r) = _
  have a5 : SH (scH5 h i r) := a
  have a6 : SH (pCp (scH5 h i r) 1728 r 0 1728 i 0 6) := a
  unfold X6_becomeAs_g40 X6_becomeAs_f40
  rw [nnE rfl, nnE (sh_325 a5 r hr), nnE (sh_325 a5 i hi), ln_27 a5 r hr, ln_27 a5 i hi, show (6 : Int32) = nI 6 from rfl, cpk0 (by decide), clamp_nI (by decide), show (0 : Int32).toNatClampNeg = 0 by decide, wr_eq, nnE rfl, nnE (sh_326 a6 r hr), nnE (sh_326 a6 i hi), ln_28 a6 r hr, ln_28 a6 i hi, cpk0 (by decide), wr_eq]
  rfl
def sgC5 : List Nat := [320, 321, 322, 323, 324]
theorem scH5_at (h : PH) (i r : Nat) {c : Nat} (hc : c ∈ sgC5) : hI (scH5 h i r) c i 0 = hI h c r 0 := by
  have hc' : c = 320 ∨ c = 321 ∨ c = 322 ∨ c = 323 ∨ c = 324 := by
    unfold sgC5 at hc
    simpa using hc
  unfold scH5
  rcases hc' with rfl | rfl | rfl | rfl | rfl
  · rw [hI_off _ (by decide), hI_off _ (by decide), hI_off _ (by decide), hI_off _ (by decide), hI_pI, if_pos ⟨rfl, rfl, rfl⟩]
  · rw [hI_off _ (by decide), hI_off _ (by decide), hI_off _ (by decide), hI_pI, if_pos ⟨rfl, rfl, rfl⟩]
  · rw [hI_off _ (by decide), hI_off _ (by decide), hI_pI, if_pos ⟨rfl, rfl, rfl⟩]
  · rw [hI_off _ (by decide), hI_pI, if_pos ⟨rfl, rfl, rfl⟩]
  · rw [hI_pI, if_pos ⟨rfl, rfl, rfl⟩]
theorem scH_at (h : PH) {i r : Nat} (hir : i ≠ r) : (∀ c, c ∈ sgC5 → hI (scH h i r) c i 0 = hI h c r 0) ∧ ∀ j, j < 6 → hI (scH h i r) 1728 i j = hI h 1728 r j ∧ hI (scH h i r) 1792 i j = hI h 1792 r j := by
  have o5 : ∀ c i' j, c = 1728 ∨ c = 1792 → hI (scH5 h i r) c i' j = hI h c i' j := fun c i' j hc => by
    unfold scH5
    rw [hI_off _ (by omega), hI_off _ (by omega), hI_off _ (by omega), hI_off _ (by omega), hI_off _ (by omega)]
  unfold scH
  refine ⟨fun c hc => ?_, fun j hj => ⟨?_, ?_⟩⟩
  · have hc' : c ≠ 1728 ∧ c ≠ 1792 := by
      refine ⟨?_, ?_⟩ <;> (rintro rfl; revert hc; decide)
    rw [hI_pCp, if_neg (fun z => hc'.2 z.1), hI_pCp, if_neg (fun z => hc'.1 z.1), scH5_at h i r hc]
  · rw [hI_pCp, if_neg (fun z => by have := z.1; omega), hI_pCp, if_pos ⟨rfl, rfl, by omega, by omega⟩, o5 _ _ _ (by omega), Nat.zero_add, Nat.sub_zero]
  · rw [hI_pCp, if_pos ⟨rfl, rfl, by omega, by omega⟩, hI_pCp, if_neg (fun z => by have := z.1; omega), o5 _ _ _ (by omega), Nat.zero_add, Nat.sub_zero]
theorem scH_oth (h : PH) (i r : Nat) {c i' : Nat} (hi : i' ≠ i) (j : Nat) : hI (scH h i r) c i' j = hI h c i' j := by
  unfold scH scH5
  rw [hI_pCp, if_neg (fun z => hi z.2.1), hI_pCp, if_neg (fun z => hi z.2.1), hI_pI, if_neg (fun z => hi z.2.1), hI_pI, if_neg (fun z => hi z.2.1), hI_pI, if_neg (fun z => hi z.2.1), hI_pI, if_neg (fun z => hi z.2.1), hI_pI, if_neg (fun z => hi z.2.1)]
def bsgW : List Nat × List Nat × Bool := ([320, 321, 322, 323, 324, 1728, 1792], [], false)
theorem scH_fr {h0 h : PH} (f : Fr bsgW h0 h) (i r : Nat) : Fr bsgW h0 (scH h i r) := ((((((f.pI (by decide)).pI (by decide)).pI (by decide)).pI (by decide)).pI (by decide)).pCp (by decide)).pCp (by decide)
/-- the rows of fixed length, and the numbers -/
def fnC (h : PH) (d s : Nat) : PH := pCp (pCp (pCp (pCp (pCp h 960 s 0 960 d 0 96) 1024 s 0 1024 d 0 10) 1088 s 0 1088 d 0 10) 1280 s 0 1280 d 0 3) 1344 s 0 1344 d 0 6
def fnI (h : PH) (d s : Nat) : PH := pI (pI (pI (pI (pI (pI (pI (pI (pI h 72 d 0 (hI h 72 s 0)) 73 d 0 (hI h 73 s 0)) 74 d 0 (hI h 74 s 0)) 75 d 0 (hI h 75 s 0)) 76 d 0 (hI h 76 s 0)) 77 d 0 (hI h 77 s 0)) 78 d 0 (hI h 78 s 0)) 79 d 0 (hI h 79 s 0)) 80 d 0 (hI h 80 s 0)
def fnA : List (Nat × Nat) := [(960, 96), (1024, 10), (1088, 10), (1280, 3), (1344, 6)]
theorem fnC_at (h : PH) {d s : Nat} {c n : Nat} (hc : (c, n) ∈ fnA) {j : Nat} (hj : j < n) : hI (fnC h d s) c d j = hI h c s j := by
  have hc' : (c = 960 ∧ n = 96) ∨ (c = 1024 ∧ n = 10) ∨ (c = 1088 ∧ n = 10) ∨ (c = 1280 ∧ n = 3) ∨ (c = 1344 ∧ n = 6) := by
    unfold fnA at hc
    simpa using hc
  unfold fnC
  rcases hc' with ⟨rfl, rfl⟩ | ⟨rfl, rfl⟩ | ⟨rfl, rfl⟩ | ⟨rfl, rfl⟩ | ⟨rfl, rfl⟩
  · rw [hI_pCp, if_neg (fun z => by have := z.1; omega), hI_pCp, if_neg (fun z => by have := z.1; omega), hI_pCp, if_neg (fun z => by have := z.1; omega), hI_pCp, if_neg (fun z => by have := z.1; omega), hI_pCp, if_pos ⟨rfl, rfl, by omega, by omega⟩, Nat.zero_add, Nat.sub_zero]
  · rw [hI_pCp, if_neg (fun z => by have := z.1; omega), hI_pCp, if_neg (fun z => by have := z.1; omega), hI_pCp, if_neg (fun z => by have := z.1; omega), hI_pCp, if_pos ⟨rfl, rfl, by omega, by omega⟩, hI_pCp, if_neg (fun z => by have := z.1; omega), Nat.zero_add, Nat.sub_zero]
  · rw [hI_pCp, if_neg (fun z => by have := z.1; omega), hI_pCp, if_neg (fun z => by have := z.1; omega), hI_pCp, if_pos ⟨rfl, rfl, by omega, by omega⟩, hI_pCp, if_neg (fun z => by have := z.1; omega), hI_pCp, if_neg (fun z => by have := z.1; omega), Nat.zero_add, Nat.sub_zero]
  · rw [hI_pCp, if_neg (fun z => by have := z.1; omega), hI_pCp, if_pos ⟨rfl, rfl, by omega, by omega⟩, hI_pCp, if_neg (fun z => by have := z.1; omega), hI_pCp, if_neg (fun z => by have := z.1; omega), hI_pCp, if_neg (fun z => by have := z.1; omega), Nat.zero_add, Nat.sub_zero]
  · rw [hI_pCp, if_pos ⟨rfl, rfl, by omega, by omega⟩, hI_pCp, if_neg (fun z => by have := z.1; omega), hI_pCp, if_neg (fun z => by have := z.1; omega), hI_pCp, if_neg (fun z => by have := z.1; omega), hI_pCp, if_neg (fun z => by have := z.1; omega), Nat.zero_add, Nat.sub_zero]
theorem fnC_oth (h : PH) {d s : Nat} {c i : Nat} (hi : (c ≠ 960 ∧ c ≠ 1024 ∧ c ≠ 1088 ∧ c ≠ 1280 ∧ c ≠ 1344) ∨ i ≠ d) (j : Nat) : hI (fnC h d s) c i j = hI h c i j := by
  unfold fnC
  rw [hI_pCp, if_neg (fun z => by have := z.1; have := z.2.1; omega), hI_pCp, if_neg (fun z => by have := z.1; have := z.2.1; omega), hI_pCp, if_neg (fun z => by have := z.1; have := z.2.1; omega), hI_pCp, if_neg (fun z => by have := z.1; have := z.2.1; omega), hI_pCp, if_neg (fun z => by have := z.1; have := z.2.1; omega)]
theorem fnI_oth (h : PH) {d s : Nat} {c i : Nat} (hi : (c < 72 ∨ 80 < c) ∨ i ≠ d) (j : Nat) : hI (fnI h d s) c i j = hI h c i j := by
  unfold fnI
  rw [hI_pI, if_neg (by omega), hI_pI, if_neg (by omega), hI_pI, if_neg (by omega), hI_pI, if_neg (by omega), hI_pI, if_neg (by omega), hI_pI, if_neg (by omega), hI_pI, if_neg (by omega), hI_pI, if_neg (by omega), hI_pI, if_neg (by omega)]
theorem fnI_at (h : PH) {d s c : Nat} (h1 : 72 ≤ c) (h2 : c ≤ 80) : hI (fnI h d s) c d 0 = hI h c s 0 := by
  have hc : c = 72 ∨ c = 73 ∨ c = 74 ∨ c = 75 ∨ c = 76 ∨ c = 77 ∨ c = 78 ∨ c = 79 ∨ c = 80 := by omega
  unfold fnI
  rcases hc with rfl | rfl | rfl | rfl | rfl | rfl | rfl | rfl | rfl
  · rw [hI_off _ (by decide), hI_off _ (by decide), hI_off _ (by decide), hI_off _ (by decide), hI_off _ (by decide), hI_off _ (by decide), hI_off _ (by decide), hI_off _ (by decide), hI_pI, if_pos ⟨rfl, rfl, rfl⟩]
  · rw [hI_off _ (by decide), hI_off _ (by decide), hI_off _ (by decide), hI_off _ (by decide), hI_off _ (by decide), hI_off _ (by decide), hI_off _ (by decide), hI_pI, if_pos ⟨rfl, rfl, rfl⟩]
  · rw [hI_off _ (by decide), hI_off _ (by decide), hI_off _ (by decide), hI_off _ (by decide), hI_off _ (by decide), hI_off _ (by decide), hI_pI, if_pos ⟨rfl, rfl, rfl⟩]
  · rw [hI_off _ (by decide), hI_off _ (by decide), hI_off _ (by decide), hI_off _ (by decide), hI_off _ (by decide), hI_pI, if_pos ⟨rfl, rfl, rfl⟩]
  · rw [hI_off _ (by decide), hI_off _ (by decide), hI_off _ (by decide), hI_off _ (by decide), hI_pI, if_pos ⟨rfl, rfl, rfl⟩]
  · rw [hI_off _ (by decide), hI_off _ (by decide), hI_off _ (by decide), hI_pI, if_pos ⟨rfl, rfl, rfl⟩]
  · rw [hI_off _ (by decide), hI_off _ (by decide), hI_pI, if_pos ⟨rfl, rfl, rfl⟩]
  · rw [hI_off _ (by decide), hI_pI, if_pos ⟨rfl, rfl, rfl⟩]
  · rw [hI_pI, if_pos ⟨rfl, rfl, rfl⟩]
theorem like_end {h : PH} (a : SH h) {d s K : Nat} (hd : d < 2) (hs : s < 2) (hK : hI h 76 s 0 = nI K) (hK14 : K ≤ 14) (G) : X1_becomeLike_g64 G d (s + 1) (nI K) h = some (none, fnI (fnC h d s) d s) := by
  unfold X1_becomeLike_g64 X1_becomeLike_f64
  rw [nnE rfl, hK, if_neg (nI_nlt (by omega) (by omega)), nnE rfl, nnE (sh_65 a s hs), nnE (sh_65 a d hd), ln_15 a s hs, ln_15 a d hd, show (96 : Int32) = nI 96 from rfl, cpk0 (by decide), clamp_nI (by decide), show (0 : Int32).toNatClampNeg = 0 by decide, wr_eq]
  have b1 : SH (pCp h 960 s 0 960 d 0 96) := a
  generalize hh1 : pCp h 960 s 0 960 d 0 96 = h1 at b1 ⊢
  rw [nnE rfl, nnE (sh_66 b1 s hs), nnE (sh_66 b1 d hd), ln_16 b1 s hs, ln_16 b1 d hd, show (10 : Int32) = nI 10 from rfl, cpk0 (by decide), clamp_nI (by decide), wr_eq]
  have b2 : SH (pCp h1 1024 s 0 1024 d 0 10) := b1
  generalize hh2 : pCp h1 1024 s 0 1024 d 0 10 = h2 at b2 ⊢
  rw [nnE rfl, nnE (sh_67 b2 s hs), nnE (sh_67 b2 d hd), ln_17 b2 s hs, ln_17 b2 d hd, cpk0 (by decide), wr_eq]
  have b3 : SH (pCp h2 1088 s 0 1088 d 0 10) := b2
  generalize hh3 : pCp h2 1088 s 0 1088 d 0 10 = h3 at b3 ⊢
  rw [nnE rfl, nnE (sh_70 b3 s hs), nnE (sh_70 b3 d hd), ln_20 b3 s hs, ln_20 b3 d hd, show (3 : Int32) = nI 3 from rfl, cpk0 (by decide), clamp_nI (by decide), wr_eq]
  have b4 : SH (pCp h3 1280 s 0 1280 d 0 3) := b3
  generalize hh4 : pCp h3 1280 s 0 1280 d 0 3 = h4 at b4 ⊢
  rw [nnE rfl, nnE (sh_71 b4 s hs), nnE (sh_71 b4 d hd), ln_21 b4 s hs, ln_21 b4 d hd, show (6 : Int32) = nI 6 from rfl, cpk0 (by decide), clamp_nI (by decide), wr_eq]
  have e5 : pCp h4 1344 s 0 1344 d 0 6 = fnC h d s := by
    unfold fnC
    rw [hh1, hh2, hh3, hh4]
  rw [e5]
  generalize fnC h d s = g
  unfold fnI
  rw [nnE rfl, wr_eq, nnE rfl, hI_off g (by decide), wr_eq, nnE rfl, hI_off _ (by decide), hI_off g (by decide), wr_eq, nnE rfl, hI_off _ (by decide), hI_off _ (by decide), hI_off g (by decide), wr_eq, nnE rfl, hI_off _ (by decide), hI_off _ (by decide), hI_off _ (by decide), hI_off g (by decide), wr_eq, nnE rfl, hI_off _ (by decide), hI_off _ (by decide), hI_off _ (by decide), hI_off _ (by decide), hI_off g (by decide), wr_eq, nnE rfl, hI_off _ (by decide), hI_off _ (by decide), hI_off _ (by decide), hI_off _ (by decide), hI_off _ (by decide), hI_off g (by decide), wr_eq, nnE rfl, hI_off _ (by decide), hI_off _ (by decide), hI_off _ (by decide), hI_off _ (by decide), hI_off _ (by decide), hI_off _ (by decide), hI_off g (by decide), wr_eq, nnE rfl, hI_off _ (by decide), hI_off _ (by decide), hI_off _ (by decide), hI_off _ (by decide), hI_off _ (by decide), hI_off _ (by decide), hI_off _ (by decide), hI_off g (by decide), wr_eq]
