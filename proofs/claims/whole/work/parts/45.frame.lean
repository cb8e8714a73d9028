/-! what a run leaves alone: which columns it writes (of ints, of references), whether it makes cells -/
def Fr (W : List Nat × List Nat × Bool) (h h' : PH) : Prop :=
  (∀ c i j, W.1.contains c = false → i < hN h (c / 64) → hI h' c i j = hI h c i j) ∧ (∀ c i j, W.2.1.contains c = false → i < hN h (c / 64) → hR h' c i j = hR h c i j) ∧
  (∀ k i, i < hN h k → hL h' k i = hL h k i) ∧ (∀ k, hN h k ≤ hN h' k) ∧ (W.2.2 = false → h'.2.2.2 = h.2.2.2)
def FR (W : List Nat × List Nat × Bool) (h : PH) (o : Option Rs) : Prop := ∀ r, o = some r → Fr W h r.2
def subW (V W : List Nat × List Nat × Bool) : Bool := V.1.all (fun c => W.1.contains c) && V.2.1.all (fun c => W.2.1.contains c) && (W.2.2 || !V.2.2)
theorem Fr.rf {W : List Nat × List Nat × Bool} {h : PH} : Fr W h h := ⟨fun _ _ _ _ _ => rfl, fun _ _ _ _ _ => rfl, fun _ _ _ => rfl, fun _ => Nat.le_refl _, fun _ => rfl⟩
theorem Fr.tr {W : List Nat × List Nat × Bool} {h1 h2 h3 : PH} (a : Fr W h1 h2) (b : Fr W h2 h3) : Fr W h1 h3 :=
  ⟨fun c i j hc hi => (b.1 c i j hc (Nat.lt_of_lt_of_le hi (a.2.2.2.1 _))).trans (a.1 c i j hc hi), fun c i j hc hi => (b.2.1 c i j hc (Nat.lt_of_lt_of_le hi (a.2.2.2.1 _))).trans (a.2.1 c i j hc hi),
    fun k i hi => (b.2.2.1 k i (Nat.lt_of_lt_of_le hi (a.2.2.2.1 _))).trans (a.2.2.1 k i hi), fun k => Nat.le_trans (a.2.2.2.1 k) (b.2.2.2.1 k), fun w => (b.2.2.2.2 w).trans (a.2.2.2.2 w)⟩
theorem all_not {V W : List Nat} (hs : V.all (fun c => W.contains c) = true) {c : Nat} (hc : W.contains c = false) : V.contains c = false := by
  cases e : V.contains c with
  | false => rfl
  | true =>
    rw [List.contains_iff_mem] at e
    have := List.all_eq_true.mp hs c e
    rw [hc] at this
    cases this
theorem Fr.sub {V W : List Nat × List Nat × Bool} (hs : subW V W = true) {h h' : PH} (a : Fr V h h') : Fr W h h' := by
  unfold subW at hs
  rw [Bool.and_eq_true, Bool.and_eq_true] at hs
  refine ⟨fun c i j hc hi => a.1 c i j (all_not hs.1.1 hc) hi, fun c i j hc hi => a.2.1 c i j (all_not hs.1.2 hc) hi, a.2.2.1, a.2.2.2.1, fun w => a.2.2.2.2 ?_⟩
  have := hs.2
  rw [w] at this
  simpa using this
theorem Fr.pI {W : List Nat × List Nat × Bool} {h0 h : PH} (q : Fr W h0 h) {c i j : Nat} {v : Int32} (hc : W.1.contains c = true) : Fr W h0 (pI h c i j v) := by
  refine ⟨fun c' i' j' hc' hi' => ?_, fun c' i' j' hc' hi' => q.2.1 c' i' j' hc' hi', q.2.2.1, q.2.2.2.1, q.2.2.2.2⟩
  show (if c' = c ∧ i' = i ∧ j' = j then v else hI h c' i' j') = _
  rw [if_neg, q.1 c' i' j' hc' hi']
  rintro ⟨rfl, -, -⟩
  rw [hc] at hc'
  cases hc'
theorem Fr.pR {W : List Nat × List Nat × Bool} {h0 h : PH} (q : Fr W h0 h) {c i j v : Nat} (hc : W.2.1.contains c = true) : Fr W h0 (pR h c i j v) := by
  refine ⟨fun c' i' j' hc' hi' => q.1 c' i' j' hc' hi', fun c' i' j' hc' hi' => ?_, q.2.2.1, q.2.2.2.1, q.2.2.2.2⟩
  show (if c' = c ∧ i' = i ∧ j' = j then v else hR h c' i' j') = _
  rw [if_neg, q.2.1 c' i' j' hc' hi']
  rintro ⟨rfl, -, -⟩
  rw [hc] at hc'
  cases hc'
theorem Fr.pCp {W : List Nat × List Nat × Bool} {h0 h : PH} (q : Fr W h0 h) {c0 i0 sp c i dp n : Nat} (hc : W.1.contains c = true) : Fr W h0 (pCp h c0 i0 sp c i dp n) := by
  refine ⟨fun c' i' j' hc' hi' => ?_, fun c' i' j' hc' hi' => q.2.1 c' i' j' hc' hi', q.2.2.1, q.2.2.2.1, q.2.2.2.2⟩
  rw [hI_pCp, if_neg, q.1 c' i' j' hc' hi']
  rintro ⟨rfl, -, -⟩
  rw [hc] at hc'
  cases hc'
theorem Fr.nw {W : List Nat × List Nat × Bool} {h0 h : PH} (q : Fr W h0 h) {k len sl : Nat} (hw : W.2.2 = true) : Fr W h0 (nw h k len sl) := by
  refine ⟨fun c' i' j' hc' hi' => ?_, fun c' i' j' hc' hi' => ?_, fun k' i' hi' => ?_, fun k' => ?_, fun w => by rw [hw] at w; cases w⟩
  · show (if c' / 64 = k ∧ i' = hN h k then 0 else hI h c' i' j') = _
    rw [if_neg, q.1 c' i' j' hc' hi']
    rintro ⟨rfl, e⟩
    have := q.2.2.2.1 (c' / 64)
    omega
  · show (if c' / 64 = k ∧ i' = hN h k then 0 else hR h c' i' j') = _
    rw [if_neg, q.2.1 c' i' j' hc' hi']
    rintro ⟨rfl, e⟩
    have := q.2.2.2.1 (c' / 64)
    omega
  · show (if k' = k ∧ i' = hN h k then len else hL h k' i') = _
    rw [if_neg, q.2.2.1 k' i' hi']
    rintro ⟨rfl, e⟩
    have := q.2.2.2.1 k'
    omega
  · show hN h0 k' ≤ if k' = k then hN h k + 1 else hN h k'
    have := q.2.2.2.1 k'
    split
    · rename_i e; subst e; omega
    · exact this
theorem Fr.nwM {W : List Nat × List Nat × Bool} {h0 h : PH} (q : Fr W h0 h) {k k2 n m : Nat} (hw : W.2.2 = true) : Fr W h0 (nwM h k k2 n m) := by
  refine ⟨fun c' i' j' hc' hi' => ?_, fun c' i' j' hc' hi' => ?_, fun k' i' hi' => ?_, fun k' => ?_, fun w => by rw [hw] at w; cases w⟩
  · show (if (c' / 64 = k ∧ i' = hN h k) ∨ (c' / 64 = k2 ∧ hN h k2 ≤ i' ∧ i' < hN h k2 + n) then 0 else hI h c' i' j') = _
    rw [if_neg, q.1 c' i' j' hc' hi']
    have := q.2.2.2.1 (c' / 64)
    rintro (⟨rfl, e⟩ | ⟨rfl, e, -⟩) <;> omega
  · show (if c' / 64 = k ∧ i' = hN h k then (if j' < n then hN h k2 + j' + 1 else 0) else if c' / 64 = k2 ∧ hN h k2 ≤ i' ∧ i' < hN h k2 + n then 0 else hR h c' i' j') = _
    have := q.2.2.2.1 (c' / 64)
    rw [if_neg, if_neg, q.2.1 c' i' j' hc' hi']
    · rintro ⟨rfl, e, -⟩; omega
    · rintro ⟨rfl, e⟩; omega
  · show (if k' = k ∧ i' = hN h k then n else if k' = k2 ∧ hN h k2 ≤ i' ∧ i' < hN h k2 + n then m else hL h k' i') = _
    have := q.2.2.2.1 k'
    rw [if_neg, if_neg, q.2.2.1 k' i' hi']
    · rintro ⟨rfl, e, -⟩; omega
    · rintro ⟨rfl, e⟩; omega
  · show hN h0 k' ≤ if k' = k then hN h k + 1 else if k' = k2 then hN h k2 + n else hN h k'
    have := q.2.2.2.1 k'
    split
    · rename_i e; subst e; omega
    · split
      · rename_i e; subst e; omega
      · exact this
section FRS
variable {W : List Nat × List Nat × Bool} {h0 : PH}
theorem fr_none : FR W h0 none := fun _ e => by cases e
theorem fr_some {h : PH} {v : Option PV} (q : Fr W h0 h) : FR W h0 (some (v, h)) := fun _ e => by cases e; exact q
theorem fr_nn {r : Nat} {f : Nat → Option Rs} (k : ∀ i, FR W h0 (f i)) : FR W h0 (nn r f) := fun r e => by
  obtain ⟨i, -, e⟩ := nn_of e
  exact k i r e
theorem fr_ix {x : Int32} {n : Nat} {f : Nat → Option Rs} (k : ∀ i, FR W h0 (f i)) : FR W h0 (ix x n f) := fun r e => by
  obtain ⟨-, e⟩ := ix_of e
  exact k _ r e
theorem fr_nl {x : Int32} {f : Nat → Option Rs} (k : ∀ i, FR W h0 (f i)) : FR W h0 (nl x f) := fun r e => by
  unfold nl at e
  split at e
  · cases e
  · exact k _ r e
theorem fr_wi {x : Int32} {f : Int32 → Option Rs} (k : ∀ i, FR W h0 (f i)) : FR W h0 (wi x f) := k x
theorem fr_wr {h : PH} {f : PH → Option Rs} (q : Fr W h0 h) (k : ∀ z, Fr W h0 z → FR W h0 (f z)) : FR W h0 (wr h f) := k h q
theorem fr_if {c : Prop} [Decidable c] {a b : Option Rs} (x : FR W h0 a) (y : FR W h0 b) : FR W h0 (if c then a else b) := by
  split
  · exact x
  · exact y
theorem fr_bz {y : Int32} {f : Option Rs} (k : FR W h0 f) : FR W h0 (bz y f) := fr_if k fr_none
theorem fr_nr {t : FieldType} {y : Int32} {f : Option Rs} (k : FR W h0 f) : FR W h0 (nr t y f) := by
  unfold nr
  split
  · exact k
  · exact fr_none
theorem fr_sc0 {i : Nat} {f : Option Rs} (k : FR W h0 f) : FR W h0 (sc0 i f) := fun r e => k r (sc0_of e).2
theorem fr_dv {y : Int32} {f : Option Rs} (k : FR W h0 f) : FR W h0 (dv y f) := fun r e => by
  unfold dv at e
  split at e
  · cases e
  · exact k r e
theorem fr_cpk {a b : Nat} {x y z : Int32} {f : Option Rs} (k : FR W h0 f) : FR W h0 (cpk a b x y z f) := fun r e => by
  unfold cpk at e
  split at e
  · cases e
  · exact k r e
theorem fr_cI {V : List Nat × List Nat × Bool} {h : PH} {o : Option Rs} {f : Int32 → PH → Option Rs} (hc : FR V h o) (hs : subW V W = true) (q : Fr W h0 h) (k : ∀ v z, Fr W h0 z → FR W h0 (f v z)) : FR W h0 (cI o f) := fun r e => by
  unfold cI at e
  split at e
  · exact k _ _ (q.tr ((hc _ rfl).sub hs)) r e
  · cases e
theorem fr_cV {V : List Nat × List Nat × Bool} {h : PH} {o : Option Rs} {f : PH → Option Rs} (hc : FR V h o) (hs : subW V W = true) (q : Fr W h0 h) (k : ∀ z, Fr W h0 z → FR W h0 (f z)) : FR W h0 (cV o f) := fun r e => by
  unfold cV at e
  split at e
  · exact k _ (q.tr ((hc _ rfl).sub hs)) r e
  · cases e
theorem fr_cR {V : List Nat × List Nat × Bool} {h : PH} {kt : Nat} {o : Option Rs} {f : Nat → PH → Option Rs} (hc : FR V h o) (hs : subW V W = true) (q : Fr W h0 h) (k : ∀ v z, Fr W h0 z → FR W h0 (f v z)) : FR W h0 (cR kt o f) := fun r e => by
  unfold cR at e
  split at e
  · have z0 := hc _ rfl
    revert e
    generalize Nat.beq _ kt = bb
    intro e
    cases bb with
    | true => exact k _ _ (q.tr (z0.sub hs)) r e
    | false => cases e
  · cases e
theorem fr_lim {f : Nat → Option Rs} (k : ∀ n, FR W h0 (f n)) : FR W h0 (lim f) := fun r e => by
  obtain ⟨n, e⟩ := lim_of e
  exact k n r e
theorem fr_gL {n : Nat} {as : List PV} {f : Option Rs} (k : FR W h0 f) : FR W h0 (gL n as f) := fun r e => k r (gL_of e).2
theorem fr_gI {l : PL} {n : Nat} {f : Int32 → Option Rs} (k : ∀ i, FR W h0 (f i)) : FR W h0 (gI l n f) := fun r e => by
  obtain ⟨i, -, e⟩ := gI_of e
  exact k i r e
theorem fr_gT {q : Nat} {l : PL} {n : Nat} {f : Nat → Option Rs} (k : ∀ i, FR W h0 (f i)) : FR W h0 (gT q l n f) := fun r e => by
  obtain ⟨i, -, e⟩ := gT_of e
  exact k i r e
theorem fr_gR {q : Nat} {l : PL} {n : Nat} {f : Nat → Option Rs} (k : ∀ i, FR W h0 (f i)) : FR W h0 (gR q l n f) := fun r e => by
  obtain ⟨i, -, e⟩ := gR_of e
  exact k i r e
end FRS
