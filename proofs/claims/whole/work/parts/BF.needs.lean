/-! rows that are needed at a place -/
theorem measureAll_eq {h0 : PH} {i b : Nat} {N : Nat → Int32} {P : Nat → Bool} (q : RdE h0 i b N P) : ∃ h', X4_measureAll i h0 = some (none, h') ∧ Fr lsW h0 h' ∧ ∀ g, g < nt (N 5) → LsE h' i g (fewM N P (gP N g)) := by
  obtain ⟨K, hK, h10, hKn, hKi, -⟩ := q.1.goals
  have key : ∀ k g h, g + k = K → Fr lsW h0 h → (∀ j, j < g → LsE h i j (fewM N P (gP N j))) → ∃ n h', X4_measureAll_fam n i (nI g) h = some (none, h') ∧ Fr lsW h0 h' ∧ ∀ j, j < K → LsE h' i j (fewM N P (gP N j)) := by
    intro k
    induction k with
    | zero =>
      intro g h e f hl
      have q' := q.fr f (by decide +kernel) (by decide +kernel)
      obtain ⟨K', hK', -, hKn', -, h74⟩ := q'.1.goals
      refine ⟨1, h, ?_, f, fun j hj => hl j (by omega)⟩
      show X4_measureAll_g2 (X4_measureAll_fam 0) i (nI g) h = _
      unfold X4_measureAll_g2 X4_measureAll_f2
      rw [nnE q'.2.2.1, h74, if_neg (nI_nlt (by omega) (by omega))]
    | succ k ih =>
      intro g h e f hl
      have q' := q.fr f (by decide +kernel) (by decide +kernel)
      obtain ⟨K', hK', -, hKn', -, h74⟩ := q'.1.goals
      obtain ⟨h1, e1, l1, f1, k1⟩ := X4_measure_eq q' (show g < nt (N 5) by omega)
      obtain ⟨n, h', e2, f2, l2⟩ := ih (g + 1) h1 (by omega) (f.tr f1) (fun j hj => by
        by_cases c : j = g
        · subst c
          exact l1
        · intro p hp
          rw [k1 i (12 * j + p) (Or.inr (by omega))]
          exact hl j (by omega) p hp)
      refine ⟨n + 1, h', ?_, f2, l2⟩
      show X4_measureAll_g2 (X4_measureAll_fam n) i (nI g) h = _
      unfold X4_measureAll_g2 X4_measureAll_f2
      rw [nnE q'.2.2.1, h74, if_pos (nI_lt (by omega) (by omega)), e1, cV_some, nI_1]
      exact e2
  obtain ⟨n, h', e, f, l⟩ := key K 0 h0 (by omega) Fr.rf (fun j hj => by omega)
  exact ⟨h', X4_measureAll_iff.mpr ⟨n, e⟩, f, fun g hg => l g (by omega)⟩
def nsF (N : Nat → Int32) (H : Nat → Option Nat) (gr : Int32) : Nat → Nat → Nat → Option Nat → Bool → Nat × Bool
  | 0, _, c, _, e => (c, e)
  | k + 1, g, c, f, e => match (if N (136 + 2 * g) = gr then H g else none) with
    | none => nsF N H gr k (g + 1) c f e
    | some v => nsF N H gr k (g + 1) (c + 1) (if c = 0 then some v else f) (e && decide (some v = (if c = 0 then some v else f)))
theorem nsF_n {N : Nat → Int32} {H : Nat → Option Nat} {gr : Int32} {k g c : Nat} {f : Option Nat} {e : Bool} (hz : (if N (136 + 2 * g) = gr then H g else none) = none) : nsF N H gr (k + 1) g c f e = nsF N H gr k (g + 1) c f e := by
  rw [nsF, hz]
theorem nsF_s {N : Nat → Int32} {H : Nat → Option Nat} {gr : Int32} {k g c v : Nat} {f : Option Nat} {e : Bool} (hz : (if N (136 + 2 * g) = gr then H g else none) = some v) : nsF N H gr (k + 1) g c f e = nsF N H gr k (g + 1) (c + 1) (if c = 0 then some v else f) (e && decide (some v = (if c = 0 then some v else f))) := by
  rw [nsF, hz]
theorem nsF_cnt {N : Nat → Int32} {H : Nat → Option Nat} {gr : Int32} : ∀ k g c f, nsF N H gr k g c f false = (c + cntF (fun j => decide (N (136 + 2 * j) = gr) && (H j).isSome) k g, false)
  | 0, _, _, _ => rfl
  | k + 1, g, c, f => by
    rw [show cntF (fun j => decide (N (136 + 2 * j) = gr) && (H j).isSome) (k + 1) g = (if (decide (N (136 + 2 * g) = gr) && (H g).isSome) = true then 1 else 0) + cntF (fun j => decide (N (136 + 2 * j) = gr) && (H j).isSome) k (g + 1) from rfl]
    by_cases c1 : N (136 + 2 * g) = gr
    · cases c2 : H g with
      | none =>
        rw [nsF_n (by rw [if_pos c1, c2]), nsF_cnt k (g + 1) c f, decide_eq_true c1]
        show _ = (c + (0 + _), false)
        rw [Nat.zero_add]
      | some v =>
        rw [nsF_s (by rw [if_pos c1, c2]), Bool.false_and, nsF_cnt k (g + 1), decide_eq_true c1]
        show _ = (c + (1 + _), false)
        rw [← Nat.add_assoc]
    · rw [nsF_n (by rw [if_neg c1]), nsF_cnt k (g + 1) c f, decide_eq_false c1]
      show _ = (c + (0 + _), false)
      rw [Nat.zero_add]
theorem nsF_le {N : Nat → Int32} {H : Nat → Option Nat} {gr : Int32} : ∀ k g c f e, (nsF N H gr k g c f e).1 ≤ c + k
  | 0, _, c, _, _ => by
    show c ≤ c + 0
    omega
  | k + 1, g, c, f, e => by
    cases c1 : (if N (136 + 2 * g) = gr then H g else none) with
    | none =>
      rw [nsF_n c1]
      have := nsF_le (N := N) (H := H) (gr := gr) k (g + 1) c f e
      omega
    | some v =>
      rw [nsF_s c1]
      have := nsF_le (N := N) (H := H) (gr := gr) k (g + 1) (c + 1) (if c = 0 then some v else f) (e && decide (some v = (if c = 0 then some v else f)))
      omega
def nsV (r : Nat × Bool) : Nat := bif r.2 then (if 1 < r.1 then 1 else r.1) else r.1
theorem oI_inj {f : Option Nat} {v : Nat} (hv : v < 2 ^ 31) (hf : ∀ u, f = some u → u < 2 ^ 31) : nI v = oI f ↔ some v = f := by
  cases f with
  | none => exact ⟨fun z => absurd z (oI_ne (t := v) hv), fun z => by cases z⟩
  | some u => exact ⟨fun z => by rw [(nI_eq hv (hf u rfl)).mp z], fun z => by cases z; rfl⟩
theorem needsOf_eq {h : PH} {i b : Nat} {N : Nat → Int32} {P : Nat → Bool} (q : RdE h i b N P) (hF : ∀ g, g < nt (N 5) → LsE h i g (fewM N P (gP N g))) {p : Nat} (hp : p < 12) (gr : Int32) : X4_needsOf i (nI p) gr h = some (some (.inl (nI (nsV (nsF N (fun g => headO N P (fewM N P (gP N g)) p) gr (nt (N 5)) 0 0 none (!decide (gr = -1)))))), h) := by
  obtain ⟨K, hK, h10, hKn, hKi, h74⟩ := q.1.goals
  have a := q.1.1
  have hb := q.1.2.1
  have key : ∀ k g c f e, g + k = K → c ≤ g → (∀ u, f = some u → u < 8) → ∃ n, X4_needsOf_fam n i (nI p) gr (nI c) (oI f) (b2 e) (nI g) h = some (some (.inl (nI (nsV (nsF N (fun g => headO N P (fewM N P (gP N g)) p) gr k g c f e)))), h) := by
    intro k
    induction k with
    | zero =>
      intro g c f e eg hc hf
      refine ⟨1, ?_⟩
      show X4_needsOf_g20 (X4_needsOf_fam 0) i (nI p) gr (nI c) (oI f) (b2 e) (nI g) h = _
      unfold X4_needsOf_g20 X4_needsOf_f20
      rw [nnE q.2.2.1, h74, if_neg (nI_nlt (by omega) (by omega))]
      show _ = (some (some (.inl (nI (bif e then (if 1 < c then 1 else c) else c))), h) : Option Rs)
      cases e with
      | false => rw [if_pos b2f]; rfl
      | true =>
        rw [if_neg b2t]
        by_cases c1 : 1 < c
        · rw [if_pos (show (1 : Int32) < nI c from nI_lt (a := 1) c1 (by omega)), if_pos c1]
          rfl
        · rw [if_neg (show ¬ (1 : Int32) < nI c from nI_nlt (a := 1) (by omega) (by omega)), if_neg c1]
          rfl
    | succ k ih =>
      intro g c f e eg hc hf
      obtain ⟨g1, g2, g3, g4, g5, g6⟩ := q.1.goal (show g < nt (N 5) by omega)
      have hd := X4_heading_eq q (show g < 10 by omega) (hF g (by omega)) (fun j => fewM_le N P (gP N g) j) hp
      cases c1 : (if N (136 + 2 * g) = gr then headO N P (fewM N P (gP N g)) p else none) with
      | none =>
        obtain ⟨n, hn⟩ := ih (g + 1) c f e (by omega) (by omega) hf
        rw [nsF_n c1]
        refine ⟨n + 1, ?_⟩
        show X4_needsOf_g20 (X4_needsOf_fam n) i (nI p) gr (nI c) (oI f) (b2 e) (nI g) h = _
        unfold X4_needsOf_g20 X4_needsOf_f20
        have nx : X4_needsOf_g57 (X4_needsOf_fam n) i (nI p) gr (nI c) (oI f) (b2 e) (nI g) (-1) h = some (some (.inl (nI (nsV (nsF N (fun g => headO N P (fewM N P (gP N g)) p) gr k (g + 1) c f e)))), h) := by
          unfold X4_needsOf_g57 X4_needsOf_f57
          rw [if_pos rfl]
          show X4_needsOf_fam n i (nI p) gr (nI c) (oI f) (b2 e) (nI g + 1) h = _
          rw [nI_1]
          exact hn
        rw [nnE q.2.2.1, h74, if_pos (nI_lt (by omega) (by omega)), nnE q.2.2.1, nnE (sh_67 a b hb), ixE (ln_17 a b hb) rfl g6 (by decide), g4]
        by_cases c2 : N (136 + 2 * g) = gr
        · rw [if_pos c2] at c1
          rw [if_pos c2, hd, cI_some, c1]
          exact nx
        · rw [if_neg c2]
          exact nx
      | some v =>
        have hv : v < 8 := by
          by_cases c2 : N (136 + 2 * g) = gr
          · rw [if_pos c2] at c1
            exact headO_lt c1
          · rw [if_neg c2] at c1
            cases c1
        have c2 : N (136 + 2 * g) = gr := by
          by_cases c2 : N (136 + 2 * g) = gr
          · exact c2
          · rw [if_neg c2] at c1
            cases c1
        have hf' : ∀ u, (if c = 0 then some v else f) = some u → u < 8 := fun u hu => by
          by_cases c0 : c = 0
          · rw [if_pos c0] at hu
            cases hu
            exact hv
          · rw [if_neg c0] at hu
            exact hf u hu
        obtain ⟨n, hn⟩ := ih (g + 1) (c + 1) (if c = 0 then some v else f) (e && decide (some v = (if c = 0 then some v else f))) (by omega) (by omega) hf'
        rw [nsF_s c1]
        rw [if_pos c2] at c1
        refine ⟨n + 1, ?_⟩
        show X4_needsOf_g20 (X4_needsOf_fam n) i (nI p) gr (nI c) (oI f) (b2 e) (nI g) h = _
        unfold X4_needsOf_g20 X4_needsOf_f20
        rw [nnE q.2.2.1, h74, if_pos (nI_lt (by omega) (by omega)), nnE q.2.2.1, nnE (sh_67 a b hb), ixE (ln_17 a b hb) rfl g6 (by decide), g4, if_pos c2, hd, cI_some, c1]
        unfold X4_needsOf_g57 X4_needsOf_f57
        rw [if_neg (oI_ne (t := v) (by omega))]
        have e76 : ∀ f', (∀ u, f' = some u → u < 8) → X4_needsOf_g76 (X4_needsOf_fam n) i (nI p) gr (nI c) (b2 e) (nI g) (nI v) (oI f') h = X4_needsOf_fam n i (nI p) gr (nI (c + 1)) (oI f') (b2 (e && decide (some v = f'))) (nI (g + 1)) h := fun f' hf' => by
          have e95 : ∀ z, X4_needsOf_g95 (X4_needsOf_fam n) i (nI p) gr (nI c) (oI f') (nI g) z h = X4_needsOf_fam n i (nI p) gr (nI (c + 1)) (oI f') z (nI (g + 1)) h := fun z => by
            show X4_needsOf_fam n i (nI p) gr (nI c + 1) (oI f') z (nI g + 1) h = _
            rw [nI_1, nI_1]
          unfold X4_needsOf_g76 X4_needsOf_f76
          cases e with
          | false =>
            rw [if_pos b2f, e95, Bool.false_and]
            rfl
          | true =>
            rw [if_neg b2t, Bool.true_and]
            by_cases c3 : some v = f'
            · rw [if_pos ((oI_inj (by omega) (fun u hu => by have := hf' u hu; omega)).mpr c3), e95, decide_eq_true c3]
              rfl
            · rw [if_neg (fun z => c3 ((oI_inj (by omega) (fun u hu => by have := hf' u hu; omega)).mp z)), e95, decide_eq_false c3]
              rfl
        by_cases c0 : c = 0
        · rw [if_pos (show nI c = 0 by rw [c0]; rfl)]
          rw [if_pos c0] at hn hf' ⊢
          refine (e76 (some v) hf').trans ?_
          exact hn
        · rw [if_neg (show ¬ nI c = 0 from fun z => c0 ((nI_eq (b := 0) (by omega) (by omega)).mp z))]
          rw [if_neg c0] at hn hf' ⊢
          refine (e76 f hf').trans ?_
          exact hn
  obtain ⟨n, hn⟩ := key K 0 0 none (!decide (gr = -1)) (by omega) (by omega) (fun u hu => by cases hu)
  rw [hKn]
  refine X4_needsOf_iff.mpr ⟨n, ?_⟩
  unfold X4_needsOf_g0 X4_needsOf_f0
  by_cases c : gr = -1
  · rw [decide_eq_true c] at hn ⊢
    rw [if_pos c]
    exact hn
  · rw [decide_eq_false c] at hn ⊢
    rw [if_neg c]
    exact hn
/-- what is needed in all -/
def nsA (N : Nat → Int32) (H : Nat → Option Nat) : Nat := nsV (nsF N H (-1) (nt (N 5)) 0 0 none false) + nsV (nsF N H 0 (nt (N 5)) 0 0 none true) + nsV (nsF N H 1 (nt (N 5)) 0 0 none true) + nsV (nsF N H 2 (nt (N 5)) 0 0 none true) + nsV (nsF N H 3 (nt (N 5)) 0 0 none true)
theorem needs_c {h : PH} {i b : Nat} {N : Nat → Int32} {P : Nat → Bool} (q : RdE h i b N P) (hF : ∀ g, g < nt (N 5) → LsE h i g (fewM N P (gP N g))) {p : Nat} (hp : p < 12) : X11_needs_fam 6 (nI p) (i + 1) 0 (-1) h = some (some (.inl (nI (nsA N (fun g => headO N P (fewM N P (gP N g)) p)))), h) := by
  have st : ∀ n (acc : Nat) (gr gr' : Int32) (B : Bool), gr < 4 → gr + 1 = gr' → (!decide (gr = -1)) = B → X11_needs_fam (n + 1) (nI p) (i + 1) (nI acc) gr h = X11_needs_fam n (nI p) (i + 1) (nI (acc + nsV (nsF N (fun g => headO N P (fewM N P (gP N g)) p) gr (nt (N 5)) 0 0 none B))) gr' h := by
    intro n acc gr gr' B h4 e1 e2
    subst e1 e2
    show X11_needs_g38 (X11_needs_fam n) (nI p) (i + 1) (nI acc) gr h = _
    unfold X11_needs_g38 X11_needs_f38
    rw [if_pos h4, nnE rfl, needsOf_eq q hF hp, cI_some, nI_add]
  have e := st 5 0 (-1) 0 false (by decide) (by decide) (by decide)
  rw [show (0 : Int32) = nI 0 from rfl] at e ⊢
  rw [e, Nat.zero_add]
  rw [show nI 0 = (0 : Int32) from rfl, st 4 _ 0 1 true (by decide) (by decide) (by decide), st 3 _ 1 2 true (by decide) (by decide) (by decide), st 2 _ 2 3 true (by decide) (by decide) (by decide), st 1 _ 3 4 true (by decide) (by decide) (by decide)]
  show X11_needs_g38 (X11_needs_fam 0) (nI p) (i + 1) _ 4 h = _
  unfold X11_needs_g38 X11_needs_f38
  rw [if_neg (by decide)]
  rfl
def ndW : List Nat × List Nat × Bool := ([3520, 3904], [], false)
/-- the model's groups -/
theorem needs_g {h g : PH} {b : Nat} {N : Nat → Int32} {H : Nat → Option Nat} (a : SH h) (hN : hI h 2624 0 = N) (q : Hs g b N) (hH : ∀ j, j < nt (N 5) → hI h 3904 0 j = oI (H j)) (h8 : ∀ j v, H j = some v → v < 8) {gr acc : Nat} (hgr : gr < 4) {z : Rs} (hz : ∃ n, (X12_needs_fam n).2.1 0 (nI (acc + nsV (nsF N H (nI gr) (nt (N 5)) 0 0 none true))) (nI (gr + 1)) h = some z) : ∃ n, (X12_needs_fam n).2.1 0 (nI acc) (nI gr) h = some z := by
  obtain ⟨K, hK, h10, hKn, hKi, -⟩ := q.goals
  have key : ∀ k x c f e, x + k = K → c ≤ x → (∀ u, f = some u → u < 8) → (∃ n, (X12_needs_fam n).2.1 0 (nI (acc + nsV (nsF N H (nI gr) k x c f e))) (nI (gr + 1)) h = some z) → ∃ n, (X12_needs_fam n).2.2 0 (nI acc) (nI gr) (nI c) (oI f) (b2 e) (nI x) h = some z := by
    intro k
    induction k with
    | zero =>
      intro x c f e ex hc hf ⟨n, hn⟩
      refine ⟨n + 1, ?_⟩
      show X12_needs_g111 (X12_needs_fam n) 0 (nI acc) (nI gr) (nI c) (oI f) (b2 e) (nI x) h = _
      unfold X12_needs_g111 X12_needs_f111
      rw [nnE (sh_704 a), ixE (x := 5) (j := 5) (ln_41 a) rfl (by decide) (by decide), hN, hK, if_neg (nI_nlt (by omega) (by omega))]
      have e212 : ∀ y : Nat, X12_needs_g212 (X12_needs_fam n) 0 (nI gr) (nI y) (nI acc) h = (X12_needs_fam n).2.1 0 (nI (acc + y)) (nI (gr + 1)) h := fun y => by
        show (X12_needs_fam n).2.1 0 (nI acc + nI y) (nI gr + 1) h = _
        rw [nI_add, nI_1]
      have e210 : X12_needs_g210 (X12_needs_fam n) 0 (nI gr) (nI c) (nI acc) h = (X12_needs_fam n).2.1 0 (nI (acc + c)) (nI (gr + 1)) h := e212 c
      have hn : (X12_needs_fam n).2.1 0 (nI (acc + (bif e then (if 1 < c then 1 else c) else c))) (nI (gr + 1)) h = some z := hn
      cases e with
      | false =>
        rw [if_pos b2f, e210]
        exact hn
      | true =>
        rw [if_neg b2t]
        by_cases c1 : 0 < c
        · rw [if_pos (show (0 : Int32) < nI c from nI_lt (a := 0) c1 (by omega))]
          refine (e212 1).trans ?_
          rw [cond_true] at hn
          by_cases c2 : 1 < c
          · rw [if_pos c2] at hn
            exact hn
          · rw [if_neg c2, show c = 1 by omega] at hn
            exact hn
        · rw [if_neg (show ¬ (0 : Int32) < nI c from nI_nlt (a := 0) (by omega) (by omega)), e210]
          rw [cond_true, if_neg (by omega)] at hn
          exact hn
    | succ k ih =>
      intro x c f e ex hc hf hz'
      obtain ⟨g1, g2, g3, g4, g5, g6⟩ := q.goal (show x < nt (N 5) by omega)
      have hx := hH x (by omega)
      cases c1 : (if N (136 + 2 * x) = nI gr then H x else none) with
      | none =>
        rw [nsF_n c1] at hz'
        obtain ⟨n, hn⟩ := ih (x + 1) c f e (by omega) (by omega) hf hz'
        refine ⟨n + 1, ?_⟩
        show X12_needs_g111 (X12_needs_fam n) 0 (nI acc) (nI gr) (nI c) (oI f) (b2 e) (nI x) h = _
        have nx : X12_needs_g189 (X12_needs_fam n) 0 (nI acc) (nI gr) (nI c) (oI f) (b2 e) (nI x) h = some z := by
          show (X12_needs_fam n).2.2 0 (nI acc) (nI gr) (nI c) (oI f) (b2 e) (nI x + 1) h = _
          rw [nI_1]
          exact hn
        unfold X12_needs_g111 X12_needs_f111
        rw [nnE (sh_704 a), ixE (x := 5) (j := 5) (ln_41 a) rfl (by decide) (by decide), hN, hK, if_pos (nI_lt (by omega) (by omega)), X12_groupOf_eq a g6, cI_some, hN]
        by_cases c2 : N (136 + 2 * x) = nI gr
        · rw [if_pos c2] at c1
          rw [if_pos c2, nnE (sh_744 a), ixE (ln_61 a) rfl g6 (by decide), hx, c1, if_pos (by decide)]
          exact nx
        · rw [if_neg c2]
          exact nx
      | some v =>
        have c2 : N (136 + 2 * x) = nI gr := by
          by_cases c2 : N (136 + 2 * x) = nI gr
          · exact c2
          · rw [if_neg c2] at c1
            cases c1
        rw [nsF_s c1] at hz'
        rw [if_pos c2] at c1
        have hv := h8 x v c1
        have hf' : ∀ u, (if c = 0 then some v else f) = some u → u < 8 := fun u hu => by
          by_cases c0 : c = 0
          · rw [if_pos c0] at hu
            cases hu
            exact hv
          · rw [if_neg c0] at hu
            exact hf u hu
        obtain ⟨n, hn⟩ := ih (x + 1) (c + 1) (if c = 0 then some v else f) (e && decide (some v = (if c = 0 then some v else f))) (by omega) (by omega) hf' hz'
        refine ⟨n + 1, ?_⟩
        show X12_needs_g111 (X12_needs_fam n) 0 (nI acc) (nI gr) (nI c) (oI f) (b2 e) (nI x) h = _
        unfold X12_needs_g111 X12_needs_f111
        rw [nnE (sh_704 a), ixE (x := 5) (j := 5) (ln_41 a) rfl (by decide) (by decide), hN, hK, if_pos (nI_lt (by omega) (by omega)), X12_groupOf_eq a g6, cI_some, hN, if_pos c2, nnE (sh_744 a), ixE (ln_61 a) rfl g6 (by decide), hx, c1, if_neg (oI_pos (t := v) (by omega))]
        have e160 : ∀ f', (∀ u, f' = some u → u < 8) → X12_needs_g160 (X12_needs_fam n) 0 (nI acc) (nI gr) (nI c) (b2 e) (nI x) (oI f') h = (X12_needs_fam n).2.2 0 (nI acc) (nI gr) (nI (c + 1)) (oI f') (b2 (e && decide (some v = f'))) (nI (x + 1)) h := fun f' hf' => by
          have e184 : ∀ y, X12_needs_g184 (X12_needs_fam n) 0 (nI acc) (nI gr) (nI c) (oI f') (nI x) y h = (X12_needs_fam n).2.2 0 (nI acc) (nI gr) (nI (c + 1)) (oI f') y (nI (x + 1)) h := fun y => by
            show (X12_needs_fam n).2.2 0 (nI acc) (nI gr) (nI c + 1) (oI f') y (nI x + 1) h = _
            rw [nI_1, nI_1]
          unfold X12_needs_g160 X12_needs_f160
          cases e with
          | false =>
            rw [if_pos b2f, e184, Bool.false_and]
            rfl
          | true =>
            rw [if_neg b2t, nnE (sh_744 a), ixE (ln_61 a) rfl g6 (by decide), hx, c1, Bool.true_and, show oI (some v) = nI v from rfl]
            by_cases c3 : some v = f'
            · rw [if_pos ((oI_inj (by omega) (fun u hu => by have := hf' u hu; omega)).mpr c3), e184, decide_eq_true c3]
              rfl
            · rw [if_neg (fun z => c3 ((oI_inj (by omega) (fun u hu => by have := hf' u hu; omega)).mp z)), e184, decide_eq_false c3]
              rfl
        by_cases c0 : c = 0
        · rw [if_pos (show nI c = 0 by rw [c0]; rfl), nnE (sh_744 a), ixE (ln_61 a) rfl g6 (by decide), hx, c1]
          rw [if_pos c0] at hn hf'
          refine (e160 (some v) hf').trans ?_
          exact hn
        · rw [if_neg (show ¬ nI c = 0 from fun z => c0 ((nI_eq (b := 0) (by omega) (by omega)).mp z))]
          rw [if_neg c0] at hn hf'
          refine (e160 f hf').trans ?_
          exact hn
  obtain ⟨n, hn⟩ := key K 0 0 none true (by omega) (by omega) (fun u hu => by cases hu) (by rw [← hKn]; exact hz)
  refine ⟨n + 1, ?_⟩
  show X12_needs_g93 (X12_needs_fam n) 0 (nI acc) (nI gr) h = _
  unfold X12_needs_g93 X12_needs_f93
  rw [if_pos (show nI gr < 4 from nI_lt (b := 4) hgr (by decide))]
  exact hn
theorem needs_m {h0 g : PH} {b : Nat} {N : Nat → Int32} {P : Nat → Bool} (q : AwE h0 N P) (hs : Hs g b N) {p : Nat} (hp : p < 12) : ∃ n h', (X12_needs_fam n).1 0 (nI p) 0 0 h0 = some (some (.inl (nI (nsA N (fun g => headO N P (fewM N P (gP N g)) p)))), h') ∧ Fr ndW h0 h' := by
  obtain ⟨K, hK, h10, hKn, hKi, -⟩ := hs.goals
  have h8 : ∀ j v, (fun g => headO N P (fewM N P (gP N g)) p) j = some v → v < 8 := fun j v e => headO_lt e
  have key : ∀ k x c h, x + k = K → Fr ndW h0 h → (∀ j, j < x → hI h 3904 0 j = oI (headO N P (fewM N P (gP N j)) p)) → ∃ n h', (X12_needs_fam n).1 0 (nI p) (nI c) (nI x) h = some (some (.inl (nI (c + cntF (fun j => decide (N (136 + 2 * j) = -1) && (headO N P (fewM N P (gP N j)) p).isSome) k x + nsV (nsF N (fun g => headO N P (fewM N P (gP N g)) p) 0 K 0 0 none true) + nsV (nsF N (fun g => headO N P (fewM N P (gP N g)) p) 1 K 0 0 none true) + nsV (nsF N (fun g => headO N P (fewM N P (gP N g)) p) 2 K 0 0 none true) + nsV (nsF N (fun g => headO N P (fewM N P (gP N g)) p) 3 K 0 0 none true)))), h') ∧ Fr ndW h0 h' := by
    intro k
    induction k with
    | zero =>
      intro x c h ex f hx
      have q' := q.fr f (by decide) (by decide) (by decide)
      have a := q'.1
      have st := fun {gr acc : Nat} (hgr : gr < 4) {z : Rs} => needs_g a q'.2.1 hs (H := fun g => headO N P (fewM N P (gP N g)) p) (fun j hj => hx j (by omega)) h8 (gr := gr) (acc := acc) hgr (z := z)
      rw [show cntF (fun j => decide (N (136 + 2 * j) = -1) && (headO N P (fewM N P (gP N j)) p).isSome) 0 x = 0 from rfl, Nat.add_zero]
      obtain ⟨n, hn⟩ := st (gr := 0) (acc := c) (by decide) (st (gr := 1) (by decide) (st (gr := 2) (by decide) (st (gr := 3) (by decide) ⟨1, by
        show X12_needs_g93 (X12_needs_fam 0) 0 _ (nI 4) h = _
        unfold X12_needs_g93 X12_needs_f93
        rw [if_neg (by decide)]⟩)))
      rw [hKn] at hn
      refine ⟨n + 1, h, ?_, f⟩
      show X12_needs_g28 (X12_needs_fam n) 0 (nI p) (nI c) (nI x) h = _
      unfold X12_needs_g28 X12_needs_f28
      rw [nnE (sh_704 a), ixE (x := 5) (j := 5) (ln_41 a) rfl (by decide) (by decide), q'.2.1, hK, if_neg (nI_nlt (by omega) (by omega))]
      exact hn
    | succ k ih =>
      intro x c h ex f hx
      have q' := q.fr f (by decide) (by decide) (by decide)
      obtain ⟨g1, g2, g3, g4, g5, g6⟩ := hs.goal (show x < nt (N 5) by omega)
      obtain ⟨h1, e1, l1, f1⟩ := X12_findAway_eq q' hs (show x < nt (N 5) by omega)
      have q1 := q'.fr f1 (by decide) (by decide) (by decide)
      have e2 := X12_nextFrom_eq q1 hs l1 (fun j => fewM_le N P (gP N x) j) hp
      have fA : Fr ndW h0 (pI h1 3904 0 x (oI (headO N P (fewM N P (gP N x)) p))) := ((f.tr (f1.sub (by decide))).pI (by decide))
      have qA := q.fr fA (by decide) (by decide) (by decide)
      have eA : hI (pI h1 3904 0 x (oI (headO N P (fewM N P (gP N x)) p))) 3904 0 x = oI (headO N P (fewM N P (gP N x)) p) := by rw [hI_pI, if_pos ⟨rfl, rfl, rfl⟩]
      obtain ⟨n, h', e3, f3⟩ := ih (x + 1) (c + (if (decide (N (136 + 2 * x) = -1) && (headO N P (fewM N P (gP N x)) p).isSome) = true then 1 else 0)) _ (by omega) fA (fun j hj => by
        by_cases c1 : j = x
        · subst c1
          exact eA
        · rw [hI_pI, if_neg (fun z => c1 z.2.2), f1.1 3904 0 j (by decide) (q'.1.nl (show (61, 0, 10) ∈ lnList by decide +kernel))]
          exact hx j (by omega))
      refine ⟨n + 1, h', ?_, f3⟩
      show X12_needs_g28 (X12_needs_fam n) 0 (nI p) (nI c) (nI x) h = _
      unfold X12_needs_g28 X12_needs_f28
      rw [nnE (sh_704 q'.1), ixE (x := 5) (j := 5) (ln_41 q'.1) rfl (by decide) (by decide), q'.2.1, hK, if_pos (nI_lt (by omega) (by omega)), e1, cV_some, e2, cI_some, nnE (sh_744 q1.1), ixE (ln_61 q1.1) rfl g6 (by decide), wr_eq, nnE (sh_744 qA.1), ixE (ln_61 qA.1) rfl g6 (by decide), eA]
      rw [show cntF (fun j => decide (N (136 + 2 * j) = -1) && (headO N P (fewM N P (gP N j)) p).isSome) (k + 1) x = (if (decide (N (136 + 2 * x) = -1) && (headO N P (fewM N P (gP N x)) p).isSome) = true then 1 else 0) + cntF (fun j => decide (N (136 + 2 * j) = -1) && (headO N P (fewM N P (gP N j)) p).isSome) k (x + 1) from rfl, ← Nat.add_assoc]
      have s1 : ∀ y : Nat, X12_needs_g82 (X12_needs_fam n) 0 (nI p) (nI x) (nI y) (nI c) (pI h1 3904 0 x (oI (headO N P (fewM N P (gP N x)) p))) = (X12_needs_fam n).1 0 (nI p) (nI (c + y)) (nI (x + 1)) (pI h1 3904 0 x (oI (headO N P (fewM N P (gP N x)) p))) := fun y => by
        show (X12_needs_fam n).1 0 (nI p) (nI c + nI y) (nI x + 1) _ = _
        rw [nI_add, nI_1]
      cases c1 : headO N P (fewM N P (gP N x)) p with
      | none =>
        have e0 : (decide (N (136 + 2 * x) = -1) && (none : Option Nat).isSome) = false := by
          show (_ && false) = false
          rw [Bool.and_false]
        rw [c1, e0, if_neg (show ¬ false = true by decide)] at e3
        rw [c1] at s1
        rw [if_pos (by decide), e0, if_neg (show ¬ false = true by decide)]
        exact (s1 0).trans e3
      | some v =>
        have hv := headO_lt c1
        rw [c1] at e3 s1 qA
        rw [if_neg (oI_pos (t := v) (by omega)), X12_groupOf_eq qA.1 g6, cI_some, qA.2.1]
        by_cases c2 : N (136 + 2 * x) = -1
        · have e0 : (decide (N (136 + 2 * x) = -1) && (some v).isSome) = true := by
            rw [decide_eq_true c2]
            rfl
          rw [e0, if_pos rfl] at e3 ⊢
          rw [if_pos (show N (136 + 2 * x) < 0 by rw [c2]; decide)]
          exact (s1 1).trans e3
        · have e0 : (decide (N (136 + 2 * x) = -1) && (some v).isSome) = false := by
            rw [decide_eq_false c2]
            rfl
          rw [e0, if_neg (show ¬ false = true by decide)] at e3 ⊢
          rw [if_neg (show ¬ N (136 + 2 * x) < 0 from fun z => c2 (by
            obtain ⟨u1, u2⟩ := g5
            rw [i_lt, i0] at z
            apply Int32.toInt_inj.mp
            have : (-1 : Int32).toInt = -1 := by decide
            omega))]
          exact (s1 0).trans e3
  obtain ⟨n, h', e, f⟩ := key K 0 0 h0 (by omega) Fr.rf (fun j hj => by omega)
  refine ⟨n, h', ?_, f⟩
  unfold nsA
  rw [nsF_cnt (gr := -1), hKn]
  exact e
theorem pair_needs (m : Nat) (h : PH) (x1 x2 : Int32) (_ : m < 64) (r : R m h) : Pr (R (m + 1)) (X11_needs 0 x1 x2) (X12_needs 0 x1 x2) h := by
  have r0 := r
  obtain ⟨a, q, -, -, -, -, -, -, q8, -⟩ := r
  obtain ⟨Z, hZ, h12, hZn, hZi, h72⟩ := q.places
  rcases lit_cases (x := x1) hZ (by omega) with z1 | ⟨z1, p, hp, rfl⟩
  · refine r0.same (v := -1000000001) ?_ ?_
    · refine X11_needs_iff.mpr ⟨0, ?_⟩
      unfold X11_needs_g0 X11_needs_f0
      rw [nnE (sh_640 a), X1_hasPlace_eq, cI_some, h72, ← hZ, z1, if_pos rfl]
    · refine X12_needs_iff.mpr ⟨0, ?_⟩
      unfold X12_needs_g0 X12_needs_f0
      rw [isPlace_wn a q, cI_some, z1, if_pos rfl]
  rcases lit_cases (x := x2) (y := 2) (K := 2) rfl (by decide) with z2 | ⟨z2, i, hi, rfl⟩
  · refine r0.same (v := -1000000001) ?_ ?_
    · refine X11_needs_iff.mpr ⟨0, ?_⟩
      unfold X11_needs_g0 X11_needs_f0
      rw [nnE (sh_640 a), X1_hasPlace_eq, cI_some, h72, ← hZ, z1, if_neg (by decide), isWithin_wn, cI_some, z2, if_pos rfl]
    · refine X12_needs_iff.mpr ⟨0, ?_⟩
      unfold X12_needs_g0 X12_needs_f0
      rw [isPlace_wn a q, cI_some, z1, if_neg (by decide), wheels_wn, cI_some, z2, if_pos rfl]
  obtain ⟨h1, e1, f1, d1⟩ := roadsFor_eq q hi (q8 i hi).1
  obtain ⟨h2, e2, f2, l2⟩ := measureAll_eq d1
  have d2 := d1.fr f2 (by decide +kernel) (by decide +kernel)
  have fA : Fr ([1536, 1920, 1600], [193], false) h h2 := (f1.sub (by decide)).tr (f2.sub (by decide))
  have hN2 : hI h2 2624 0 = hI h 2624 0 := now_fr a fA (by decide)
  have q2 : Hs h2 0 (hI h2 2624 0) := by rw [hN2]; exact d2.1
  obtain ⟨h3, e3, f3, w3, -⟩ := X12_looks_eq q2.1 q2 (nI i)
  have aw : AwE h3 (hI h 2624 0) (fun v => passB (hI h 2624 0) v (nI i)) := ⟨q2.1.fr f3 (by decide), (now_fr q2.1 f3 (by decide)).trans hN2, by rw [hN2] at w3; exact w3⟩
  obtain ⟨n, h4, e4, f4⟩ := needs_m aw d2.1 (p := p) (by omega)
  have fB : Fr ([3264, 3328, 3392, 3456, 3520, 3904], [], false) h2 h4 := (f3.sub (by decide)).tr (f4.sub (by decide))
  have hr4 : R (m + 1) h4 := r0.keep (W := ([1536, 1920, 1600, 3264, 3328, 3392, 3456, 3520, 3904], [193], false)) ((fA.sub (by decide)).tr (fB.sub (by decide))) (by decide +kernel) (by decide +kernel) rfl (fun w => (w.fr a ((fA.sub (by decide)).tr (fB.sub (by decide)) : Fr ([1536, 1920, 1600, 3264, 3328, 3392, 3456, 3520, 3904], [193], false) h h4) (by decide)).mono)
  refine ⟨nI (nsA (hI h 2624 0) (fun g => headO (hI h 2624 0) (fun v => passB (hI h 2624 0) v (nI i)) (fewM (hI h 2624 0) (fun v => passB (hI h 2624 0) v (nI i)) (gP (hI h 2624 0) g)) p)), h2, h4, X11_needs_iff.mpr ⟨6, ?_⟩, X12_needs_iff.mpr ⟨n, ?_⟩, hr4⟩
  · unfold X11_needs_g0 X11_needs_f0
    rw [nnE (sh_640 a), X1_hasPlace_eq, cI_some, h72, ← hZ, z1, if_neg (by decide), isWithin_wn, cI_some, z2, if_neg (by decide), e1, cR_some, nnE rfl, e2, cV_some]
    exact needs_c d2 l2 (by omega)
  · unfold X12_needs_g0 X12_needs_f0
    rw [isPlace_wn q2.1 q2, cI_some, hN2, z1, if_neg (by decide), wheels_wn, cI_some, z2, if_neg (by decide), e3, cV_some]
    exact e4
