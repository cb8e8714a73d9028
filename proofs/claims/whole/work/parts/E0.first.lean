/-! the relation when both are made -/
def alN (n : Nat) (f : Nat → Bool) : Bool := (List.range n).all f
theorem alN_of {n : Nat} {f : Nat → Bool} (h : alN n f = true) {j : Nat} (hj : j < n) : f j = true := List.all_eq_true.mp h j (List.mem_range.mpr hj)
noncomputable def c1 (h : PH) : Bool := alN 9 (fun j => decide (hI h 2624 0 j = (if j = 0 then 1 else if j = 1 then 8 else 0))) && (decide (hI h 72 0 0 = 0 ∧ hI h 73 0 0 = 0 ∧ hI h 74 0 0 = 0 ∧ hI h 75 0 0 = 0 ∧ hI h 76 0 0 = 0 ∧ hI h 77 0 0 = 0 ∧ hI h 78 0 0 = 8 ∧ hI h 79 0 0 = 0 ∧ hI h 80 0 0 = 1) && (alN 3 (fun k => decide (hI h 1280 0 k = -1)) && decide (hI h 642 0 0 = 0 ∧ hI h 707 0 0 = 0 ∧ hI h 2 0 0 = 0 ∧ hI h 709 0 0 = 0 ∧ hI h 1 0 0 = 0 ∧ hI h 129 0 0 = 0 ∧ hI h 711 0 0 = 0 ∧ hI h 649 0 0 = 0 ∧ hI h 754 0 0 = 0)))
theorem both_1 : chkR both (fun r => c1 r.2) = true := by decide +kernel
noncomputable def c2 (h : PH) : Bool := alN 96 (fun j => decide (hI h 960 0 j = -1))
theorem both_2 : chkR both (fun r => c2 r.2) = true := by decide +kernel
noncomputable def c3 (h : PH) : Bool := alN 2 (fun i => decide (hI h 192 i 0 = nI i ∧ hI h 521 i 0 = 0) && alN 96 (fun j => decide (hI h 2240 i j = 0)))
theorem both_3 : chkR both (fun r => c3 r.2) = true := by decide +kernel
noncomputable def c4 (h : PH) : Bool := alN 4 (fun s => decide (hI h 256 s 0 = -1 ∧ hI h 3968 0 s = -1 ∧ hI h 257 s 0 = 0 ∧ hI h 4032 0 s = 0) && alN 24 (fun k => decide (hI h 1664 s k = 0 ∧ hI h 4096 0 (24 * s + k) = 0)))
theorem both_4 : chkR both (fun r => c4 r.2) = true := by decide +kernel
noncomputable def c5 (h : PH) : Bool := alN 5 (fun t => decide (hI h 384 t 0 = 0 ∧ hI h 4160 0 t = 0)) && (alN 13 (fun j => decide (hI h 2944 0 j = keyL j)) && (alN 4 (fun j => decide (hI h 3008 0 j = keyA j)) && decide (hC h ≤ 2000 ∧ hS h ≤ 60000)))
theorem both_5 : chkR both (fun r => c5 r.2) = true := by decide +kernel
theorem both_c {f : Rs → Bool} (c : chkR both f = true) {h : PH} (e : both = some (none, h)) : f (none, h) = true := by
  obtain ⟨r, e1, q⟩ := chkR_some c
  have : r = (none, h) := Option.some.inj (e1.symm.trans e)
  rw [← this]
  exact q
theorem first_R {h : PH} (e : both = some (none, h)) : R 0 h := by
  have a : SH h := by
    have q := both_c both_sh e
    rw [Bool.and_eq_true] at q
    exact of_decide_eq_true q.2
  have q1 := both_c both_1 e
  have q2 := both_c both_2 e
  have q3 := both_c both_3 e
  have q4 := both_c both_4 e
  have q5 := both_c both_5 e
  unfold c1 at q1
  rw [Bool.and_eq_true, Bool.and_eq_true, Bool.and_eq_true] at q1
  obtain ⟨x1, x2, x3, x4⟩ := q1
  have x1 : ∀ j, j < 9 → hI h 2624 0 j = (if j = 0 then 1 else if j = 1 then 8 else 0) := fun j hj => of_decide_eq_true (alN_of x1 hj)
  have x2 := of_decide_eq_true x2
  have x3 : ∀ k, k < 3 → hI h 1280 0 k = -1 := fun k hk => of_decide_eq_true (alN_of x3 hk)
  have x4 := of_decide_eq_true x4
  have q2 : ∀ j, j < 96 → hI h 960 0 j = -1 := fun j hj => of_decide_eq_true (alN_of q2 hj)
  have q3 : ∀ i, i < 2 → hI h 192 i 0 = nI i ∧ hI h 521 i 0 = 0 ∧ ∀ j, j < 96 → hI h 2240 i j = 0 := fun i hi => by
    have u := alN_of q3 hi
    rw [Bool.and_eq_true] at u
    have w := of_decide_eq_true u.1
    exact ⟨w.1, w.2, fun j hj => of_decide_eq_true (alN_of u.2 hj)⟩
  have q4 : ∀ s, s < 4 → hI h 256 s 0 = -1 ∧ hI h 3968 0 s = -1 ∧ hI h 257 s 0 = 0 ∧ hI h 4032 0 s = 0 ∧ ∀ k, k < 24 → hI h 1664 s k = 0 ∧ hI h 4096 0 (24 * s + k) = 0 := fun s hs => by
    have u := alN_of q4 hs
    rw [Bool.and_eq_true] at u
    have w := of_decide_eq_true u.1
    exact ⟨w.1, w.2.1, w.2.2.1, w.2.2.2, fun k hk => of_decide_eq_true (alN_of u.2 hk)⟩
  unfold c5 at q5
  rw [Bool.and_eq_true, Bool.and_eq_true, Bool.and_eq_true] at q5
  obtain ⟨z1, z2, z3, z4⟩ := q5
  have z1 : ∀ t, t < 5 → hI h 384 t 0 = 0 ∧ hI h 4160 0 t = 0 := fun t ht => of_decide_eq_true (alN_of z1 ht)
  have z2 : ∀ j, j < 13 → hI h 2944 0 j = keyL j := fun j hj => of_decide_eq_true (alN_of z2 hj)
  have z3 : ∀ j, j < 4 → hI h 3008 0 j = keyA j := fun j hj => of_decide_eq_true (alN_of z3 hj)
  have z4 := of_decide_eq_true z4
  have n0 : hI h 2624 0 0 = 1 := x1 0 (by decide)
  have n1 : hI h 2624 0 1 = 8 := x1 1 (by decide)
  have n2 : hI h 2624 0 2 = 0 := x1 2 (by decide)
  have n3 : hI h 2624 0 3 = 0 := x1 3 (by decide)
  have n4 : hI h 2624 0 4 = 0 := x1 4 (by decide)
  have n5 : hI h 2624 0 5 = 0 := x1 5 (by decide)
  have n6 : hI h 2624 0 6 = 0 := x1 6 (by decide)
  have n7 : hI h 2624 0 7 = 0 := x1 7 (by decide)
  have n8 : hI h 2624 0 8 = 0 := x1 8 (by decide)
  obtain ⟨y1, y2, y3, y4, y5, y6, y7, y8, y9⟩ := x4
  have z0 : (0 : Int32).toInt = 0 := by decide
  refine ⟨a, ⟨a, by decide, ⟨?_, ?_, ⟨?_, ?_⟩, ?_, ?_, ?_⟩, ⟨0, n8, by omega, fun t ht => by omega, fun k hk => x3 k hk⟩⟩, ⟨y1.trans y2.symm, Or.inl y2⟩, ⟨0, 0, by omega, by omega, y3, y4, y5, fun k hk => by omega⟩, ⟨0, by omega, y6, y7, fun j hj => by omega⟩, fun s hs => ?_, fun t ht => ?_, ⟨0, by omega, y8, y9, fun j hj => by omega⟩, fun i hi => ?_, ⟨z2, z3⟩, ⟨by have := z4.1; omega, by have := z4.2; omega⟩⟩
  · unfold HScal
    rw [n0, n1, n2, n3, n4, n5, n6, n7, n8]
    exact x2
  · unfold HRange
    rw [n1, n2, n3, n4, n5, n6, n7, n8]
    unfold rgI
    decide
  · intro w hw
    rw [n4, z0] at hw
    omega
  · intro p d hp hd
    refine Or.inl ⟨q2 _ (by omega), fun w hw => ?_⟩
    rw [n4, z0] at hw
    omega
  · intro g hg
    rw [n5, z0] at hg
    omega
  · intro s hs
    rw [n6, z0] at hs
    omega
  · intro k hk
    rw [n7, z0] at hk
    omega
  · obtain ⟨u1, u2, u3, u4, u5⟩ := q4 s hs
    rw [u1, u2, u3, u4]
    refine ⟨rfl, rfl, by unfold rgI; decide, by unfold rgI; decide, fun k hk => ?_⟩
    rw [(u5 k hk).1, (u5 k hk).2]
  · obtain ⟨u1, u2⟩ := z1 t ht
    rw [u1, u2]
    exact ⟨rfl, by unfold rgI; decide, fun z => absurd z (by decide), fun z => absurd z (by decide), fun z => absurd z (by decide)⟩
  · obtain ⟨u1, u2, u3⟩ := q3 i hi
    exact ⟨u1, 0, by omega, u2, fun j hj => ⟨0, by omega, u3 j hj⟩⟩
