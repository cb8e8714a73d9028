/-! the walker's steps -/
def WsE (h : PH) (i cn p mn k : Nat) (fol : Option Nat) (V : List Nat) (path : Nat → Nat) : Prop := hI h 526 i 0 = nI p ∧ hI h 524 i 0 = nI mn ∧ hI h 525 i 0 = nI k ∧ hI h 527 i 0 = oI fol ∧ hI h 521 i 0 = nI cn ∧ (∀ j, j ≤ k → hI h 2304 i j = nI (path j)) ∧ ∀ j, j < 96 → (j ∈ V → hI h 2240 i j = nI cn) ∧ (j ∉ V → ∃ c', c' < cn ∧ hI h 2240 i j = nI c')
def WfE (h : PH) (i cn : Nat) (r : Wr) : Prop := hI h 523 i 0 = nI r.1 ∧ hI h 524 i 0 = nI r.2.1 ∧ hI h 525 i 0 = nI r.2.2.1 ∧ hI h 526 i 0 = nI r.2.2.2.1 ∧ hI h 527 i 0 = oI r.2.2.2.2.1 ∧ (∀ j, j ≤ r.2.2.1 → hI h 2304 i j = nI (r.2.2.2.2.2 j)) ∧ hI h 521 i 0 = nI cn ∧ ∀ j, j < 96 → ∃ c', c' ≤ cn ∧ hI h 2240 i j = nI c'
theorem WsE.end' {h : PH} {i cn p mn k : Nat} {fol : Option Nat} {V : List Nat} {path : Nat → Nat} (q : WsE h i cn p mn k fol V path) {e : Nat} (he : hI h 523 i 0 = nI e) : WfE h i cn (e, mn, k, p, fol, path) := by
  obtain ⟨q1, q2, q3, q4, q5, q6, q7⟩ := q
  refine ⟨he, q2, q3, q1, q4, q6, q5, fun j hj => ?_⟩
  by_cases c : j ∈ V
  · exact ⟨cn, Nat.le_refl _, (q7 j hj).1 c⟩
  · obtain ⟨c', h1, h2⟩ := (q7 j hj).2 c
    exact ⟨c', by omega, h2⟩
/-- a write of the end alone changes nothing else -/
theorem WsE.p523 {h : PH} {i cn p mn k : Nat} {fol : Option Nat} {V : List Nat} {path : Nat → Nat} (q : WsE h i cn p mn k fol V path) (v : Int32) : WsE (pI h 523 i 0 v) i cn p mn k fol V path := by
  obtain ⟨q1, q2, q3, q4, q5, q6, q7⟩ := q
  refine ⟨(hI_off h (by decide) _ _ _ _ _).trans q1, (hI_off h (by decide) _ _ _ _ _).trans q2, (hI_off h (by decide) _ _ _ _ _).trans q3, (hI_off h (by decide) _ _ _ _ _).trans q4, (hI_off h (by decide) _ _ _ _ _).trans q5, fun j hj => (hI_off h (by decide) _ _ _ _ _).trans (q6 j hj), fun j hj => ⟨fun c => (hI_off h (by decide) _ _ _ _ _).trans ((q7 j hj).1 c), fun c => ?_⟩⟩
  obtain ⟨c', h1, h2⟩ := (q7 j hj).2 c
  exact ⟨c', h1, (hI_off h (by decide) _ _ _ _ _).trans h2⟩
theorem WsE.fol {h : PH} {i cn p mn k : Nat} {fol : Option Nat} {V : List Nat} {path : Nat → Nat} (q : WsE h i cn p mn k fol V path) (t : Option (Option Nat × Nat)) : WsE (folH h i t) i cn p mn k (folO t fol) V path := by
  obtain ⟨q1, q2, q3, q4, q5, q6, q7⟩ := q
  unfold folH folO
  split
  · rename_i s d
    refine ⟨(hI_off h (by decide) _ _ _ _ _).trans q1, (hI_off h (by decide) _ _ _ _ _).trans q2, (hI_off h (by decide) _ _ _ _ _).trans q3, ?_, (hI_off h (by decide) _ _ _ _ _).trans q5, fun j hj => (hI_off h (by decide) _ _ _ _ _).trans (q6 j hj), fun j hj => ⟨fun c => (hI_off h (by decide) _ _ _ _ _).trans ((q7 j hj).1 c), fun c => ?_⟩⟩
    · rw [hI_pI, if_pos ⟨rfl, rfl, rfl⟩]
      rfl
    · obtain ⟨c', h1, h2⟩ := (q7 j hj).2 c
      exact ⟨c', h1, (hI_off h (by decide) _ _ _ _ _).trans h2⟩
  · exact ⟨q1, q2, q3, q4, q5, q6, q7⟩
theorem folH_fr {W : List Nat × List Nat × Bool} {h0 h : PH} {i : Nat} (f : Fr W h0 h) (hw : W.1.contains 527 = true) (t : Option (Option Nat × Nat)) : Fr W h0 (folH h i t) := by
  unfold folH
  split
  · exact f.pI hw
  · exact f
theorem folH_523 (h : PH) (i : Nat) (t : Option (Option Nat × Nat)) : hI (folH h i t) 523 i 0 = hI h 523 i 0 := by
  unfold folH
  split
  · exact hI_off h (by decide) _ _ _ _ _
  · rfl
theorem take_lost {h : PH} {i b gl p : Nat} {N : Nat → Int32} {P : Nat → Bool} {to : Nat → Option (Nat × Nat)} {th : Nat → Option Nat} (q : WkE h i b N P gl to th) (hp : p < 12) (hh : hI h 526 i 0 = nI p) {o : Option Nat} (ho : o = none ∨ ∃ d, o = some d ∧ d < 8 ∧ opO N P p d = none) : X9_take i (oI o) h = some (none, pI h 523 i 0 2) := by
  have a := q.1.1.1
  have hi := q.1.2.1
  unfold X9_take X9_take_g0 X9_take_f0
  rcases ho with rfl | ⟨d, rfl, hd, e⟩
  · rw [nnE (sh_512 a i hi), show oI none = (-1 : Int32) from rfl, openWay_no q.1, cI_some, if_pos rfl, wr_eq]
  · rw [nnE (sh_512 a i hi), hh]
    show cI (X4_openWay i (nI p) (nI d) h) _ = _
    rw [openWay_eq q.1 hp hd, cI_some, e, if_pos (show oI none = -1 from rfl), wr_eq]
/-- the heap when a step has been taken, before the end is set -/
def tkH (h : PH) (i q mn k : Nat) : PH := pI (pI (pI (pI h 524 i 0 (nI mn)) 526 i 0 (nI q)) 525 i 0 (nI k)) 2304 i k (nI q)
theorem take_on {h : PH} {i b gl p mn k cn : Nat} {fol : Option Nat} {V : List Nat} {path : Nat → Nat} {N : Nat → Int32} {P : Nat → Bool} {to : Nat → Option (Nat × Nat)} {th : Nat → Option Nat} (q : WkE h i b N P gl to th) (hp : p < 12) (hk : k < 60) (w : WsE h i cn p mn k fol V path) {d v : Nat} (hd : d < 8) (e : opO N P p d = some v) : X9_take i (nI d) h = if hI h 2240 i (8 * oe N v p + d) = nI cn then some (none, pI (pI (tkH h i (oe N v p) (mn + wM N v) (k + 1)) 523 i 0 3) 2240 i (8 * oe N v p + d) (nI cn)) else some (none, pI (tkH h i (oe N v p) (mn + wM N v) (k + 1)) 2240 i (8 * oe N v p + d) (nI cn)) := by
  obtain ⟨q1, q2, -⟩ := q
  obtain ⟨w1, w2, w3, w4, w5, w6, w7⟩ := w
  have a := q1.1.1
  have hi := q1.2.1
  have hb := q1.1.2.1
  have hv := (opO_lt e).1
  have h20 := q1.1.n20
  have n12 := q1.1.n12
  have ho := q1.1.oeL hv p
  obtain ⟨f1, f2, f3, f4⟩ := q1.1.wayF hv
  have a8 : SH (pI h 524 i 0 (nI (mn + wM N v))) := a
  have a16 : SH (pI (pI (pI h 524 i 0 (nI (mn + wM N v))) 526 i 0 (nI (oe N v p))) 525 i 0 (nI (k + 1))) := a
  have a19 : SH (tkH h i (oe N v p) (mn + wM N v) (k + 1)) := a
  have q8 : Hs (pI h 524 i 0 (nI (mn + wM N v))) b N := q1.1.fr (W := ([524], [], false)) (Fr.rf.pI (by decide)) (by decide +kernel) (by decide +kernel)
  have x8 : hI (pI h 524 i 0 (nI (mn + wM N v))) 526 i 0 = nI p := (hI_off h (by decide) _ _ _ _ _).trans w1
  have x15 : hI (pI (pI h 524 i 0 (nI (mn + wM N v))) 526 i 0 (nI (oe N v p))) 525 i 0 = nI k := (hI_off _ (by decide) _ _ _ _ _).trans ((hI_off h (by decide) _ _ _ _ _).trans w3)
  have y16 : hI (pI (pI (pI h 524 i 0 (nI (mn + wM N v))) 526 i 0 (nI (oe N v p))) 525 i 0 (nI (k + 1))) 525 i 0 = nI (k + 1) := by rw [hI_pI, if_pos ⟨rfl, rfl, rfl⟩]
  have z16 : hI (pI (pI (pI h 524 i 0 (nI (mn + wM N v))) 526 i 0 (nI (oe N v p))) 525 i 0 (nI (k + 1))) 526 i 0 = nI (oe N v p) := by rw [hI_off _ (by decide), hI_pI, if_pos ⟨rfl, rfl, rfl⟩]
  have z19 : hI (tkH h i (oe N v p) (mn + wM N v) (k + 1)) 526 i 0 = nI (oe N v p) := (hI_off _ (by decide) _ _ _ _ _).trans z16
  have c19 : hI (tkH h i (oe N v p) (mn + wM N v) (k + 1)) 521 i 0 = nI cn := by
    unfold tkH
    rw [hI_off _ (by decide), hI_off _ (by decide), hI_off _ (by decide), hI_off _ (by decide), w5]
  have m19 : hI (tkH h i (oe N v p) (mn + wM N v) (k + 1)) 2240 i (8 * oe N v p + d) = hI h 2240 i (8 * oe N v p + d) := by
    unfold tkH
    rw [hI_off _ (by decide), hI_off _ (by decide), hI_off _ (by decide), hI_off _ (by decide)]
  have x19 : nI (oe N v p) * 8 + nI d = nI (8 * oe N v p + d) := by rw [show (8 : Int32) = nI 8 from rfl, nI_mul, nI_add, Nat.mul_comm]
  have b96 : 8 * oe N v p + d < 96 := by omega
  have fin : ∀ z, SH z → hI z 521 i 0 = nI cn → X9_take_g116 i (nI (8 * oe N v p + d)) z = some (none, pI z 2240 i (8 * oe N v p + d) (nI cn)) := fun z az hz => by
    unfold X9_take_g116 X9_take_f116
    rw [nnE (sh_520 az i hi), ixE (ln_35 az i hi) rfl b96 (by decide), hz, wr_eq]
  unfold X9_take X9_take_g0 X9_take_f0
  rw [nnE (sh_512 a i hi), w1, openWay_eq q1 hp hd, cI_some, e, if_neg (oI_ne (show v < 2 ^ 31 by omega)), nnE q2, nnE (sh_64 a b hb), ixE (ln_14 a b hb) (show oI (some v) = nI v from rfl) (show v < 20 by omega) (by decide), way_ref a hb (show v < 20 by omega), nnE rfl, f4, w2, nI_add, wr_eq, nnE (show hR (pI h 524 i 0 (nI (mn + wM N v))) 513 i 0 = b + 1 from q2), nnE (sh_64 a8 b hb), ixE (ln_14 a8 b hb) (show oI (some v) = nI v from rfl) (show v < 20 by omega) (by decide), way_ref a8 hb (show v < 20 by omega), nnE rfl, x8, endFrom_eq q8 hv hp, cI_some, wr_eq, x15, nI_1, wr_eq, nnE (sh_522 a16 i hi), ixE (ln_36 a16 i hi) y16 (show k + 1 < 61 by omega) (by decide), z16, wr_eq]
  show (nn (hR (tkH h i (oe N v p) (mn + wM N v) (k + 1)) 520 i 0) _) = _
  rw [nnE (sh_520 a19 i hi)]
  show (ix (hI (tkH h i (oe N v p) (mn + wM N v) (k + 1)) 526 i 0 * 8 + nI d) (hL (tkH h i (oe N v p) (mn + wM N v) (k + 1)) 35 i) _) = _
  rw [z19, x19, ixE (ln_35 a19 i hi) rfl b96 (by decide)]
  show (if hI (tkH h i (oe N v p) (mn + wM N v) (k + 1)) 2240 i (8 * oe N v p + d) = hI (tkH h i (oe N v p) (mn + wM N v) (k + 1)) 521 i 0 then wr (pI (tkH h i (oe N v p) (mn + wM N v) (k + 1)) 523 i 0 3) (fun h22 => X9_take_g116 i (hI (tkH h i (oe N v p) (mn + wM N v) (k + 1)) 526 i 0 * 8 + nI d) h22) else X9_take_g116 i (hI (tkH h i (oe N v p) (mn + wM N v) (k + 1)) 526 i 0 * 8 + nI d) (tkH h i (oe N v p) (mn + wM N v) (k + 1))) = _
  rw [z19, x19, m19, c19, wr_eq, fin _ a19 c19, fin (pI (tkH h i (oe N v p) (mn + wM N v) (k + 1)) 523 i 0 3) a19 ((hI_off _ (by decide) _ _ _ _ _).trans c19)]
theorem WsE.take {h : PH} {i cn p mn k : Nat} {fol : Option Nat} {V : List Nat} {path : Nat → Nat} (w : WsE h i cn p mn k fol V path) {q mn' d : Nat} : WsE (pI (tkH h i q mn' (k + 1)) 2240 i (8 * q + d) (nI cn)) i cn q mn' (k + 1) fol ((8 * q + d) :: V) (updN path (k + 1) q) := by
  obtain ⟨w1, w2, w3, w4, w5, w6, w7⟩ := w
  unfold tkH
  refine ⟨?_, ?_, ?_, ?_, ?_, fun j hj => ?_, fun j hj => ⟨fun c => ?_, fun c => ?_⟩⟩
  · rw [hI_off _ (by decide), hI_off _ (by decide), hI_off _ (by decide), hI_pI, if_pos ⟨rfl, rfl, rfl⟩]
  · rw [hI_off _ (by decide), hI_off _ (by decide), hI_off _ (by decide), hI_off _ (by decide), hI_pI, if_pos ⟨rfl, rfl, rfl⟩]
  · rw [hI_off _ (by decide), hI_off _ (by decide), hI_pI, if_pos ⟨rfl, rfl, rfl⟩]
  · rw [hI_off _ (by decide), hI_off _ (by decide), hI_off _ (by decide), hI_off _ (by decide), hI_off _ (by decide), w4]
  · rw [hI_off _ (by decide), hI_off _ (by decide), hI_off _ (by decide), hI_off _ (by decide), hI_off _ (by decide), w5]
  · rw [hI_off _ (by decide), hI_pI]
    unfold updN
    by_cases c : j = k + 1
    · rw [if_pos ⟨rfl, rfl, c⟩, if_pos c]
    · rw [if_neg (fun z => c z.2.2), if_neg c, hI_off _ (by decide), hI_off _ (by decide), hI_off _ (by decide)]
      exact w6 j (by omega)
  · rw [hI_pI]
    by_cases e : j = 8 * q + d
    · rw [if_pos ⟨rfl, rfl, e⟩]
    · rw [if_neg (fun z => e z.2.2), hI_off _ (by decide), hI_off _ (by decide), hI_off _ (by decide), hI_off _ (by decide)]
      rcases List.mem_cons.mp c with c | c
      · exact absurd c e
      · exact (w7 j hj).1 c
  · have e : ¬ j = 8 * q + d := fun z => c (by rw [z]; exact List.mem_cons_self ..)
    rw [hI_pI, if_neg (fun z => e z.2.2), hI_off _ (by decide), hI_off _ (by decide), hI_off _ (by decide), hI_off _ (by decide)]
    exact (w7 j hj).2 (fun z => c (List.mem_cons_of_mem _ z))
