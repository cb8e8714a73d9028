/-! the order in which signs are read -/
def sn (N : Nat → Int32) (s : Nat) : Nat := nt (seenK (N (156 + 5 * s)))
theorem seenK_sn {N : Nat → Int32} {s : Nat} (hk : rgI (N (156 + 5 * s)) 0 5) : seenK (N (156 + 5 * s)) = nI (sn N s) ∧ 1 ≤ sn N s ∧ sn N s ≤ 6 := by
  unfold sn
  generalize N (156 + 5 * s) = k at *
  rcases kind_cases hk with rfl | rfl | rfl | rfl | rfl | rfl <;> decide
def ordI (N : Nat → Int32) (x : Int32) (v : Nat) : Nat → Nat → List Nat
  | 0, _ => []
  | k + 1, s => bif decide (sn N s = v) && readB N x s then s :: ordI N x v k (s + 1) else ordI N x v k (s + 1)
def ordO (N : Nat → Int32) (x : Int32) (S : Nat) : Nat → List Nat
  | 0 => []
  | v + 1 => ordI N x (v + 1) S 0 ++ ordO N x S v
theorem ordI_mem {N : Nat → Int32} {x : Int32} {v : Nat} : ∀ {k s t : Nat}, t ∈ ordI N x v k s → s ≤ t ∧ t < s + k ∧ sn N t = v ∧ readB N x t = true
  | 0, s, t, h => by cases h
  | k + 1, s, t, h => by
    unfold ordI at h
    cases c : (decide (sn N s = v) && readB N x s) with
    | false =>
      rw [c] at h
      have := ordI_mem (k := k) (s := s + 1) h
      exact ⟨by omega, by omega, this.2.2⟩
    | true =>
      rw [c] at h
      rw [Bool.and_eq_true] at c
      rcases List.mem_cons.mp h with rfl | h'
      · exact ⟨by omega, by omega, of_decide_eq_true c.1, c.2⟩
      · have := ordI_mem (k := k) (s := s + 1) h'
        exact ⟨by omega, by omega, this.2.2⟩
theorem ordI_of {N : Nat → Int32} {x : Int32} {v : Nat} : ∀ {k s t : Nat}, s ≤ t → t < s + k → sn N t = v → readB N x t = true → t ∈ ordI N x v k s
  | 0, s, t, h1, h2, h3, h4 => by omega
  | k + 1, s, t, h1, h2, h3, h4 => by
    unfold ordI
    by_cases e : t = s
    · subst e
      rw [decide_eq_true h3, h4]
      exact List.mem_cons_self ..
    · have := ordI_of (N := N) (x := x) (v := v) (k := k) (s := s + 1) (t := t) (by omega) (by omega) h3 h4
      cases c : (decide (sn N s = v) && readB N x s) with
      | false => exact this
      | true => exact List.mem_cons_of_mem _ this
theorem ordO_mem {N : Nat → Int32} {x : Int32} {S : Nat} : ∀ {v t : Nat}, t ∈ ordO N x S v → t < S ∧ 1 ≤ sn N t ∧ sn N t ≤ v ∧ readB N x t = true
  | 0, t, h => by cases h
  | v + 1, t, h => by
    rcases List.mem_append.mp h with h | h
    · have := ordI_mem h
      exact ⟨by omega, by omega, by omega, this.2.2.2⟩
    · have := ordO_mem h
      exact ⟨this.1, this.2.1, by omega, this.2.2.2⟩
theorem ordO_of {N : Nat → Int32} {x : Int32} {S : Nat} : ∀ {v t : Nat}, t < S → 1 ≤ sn N t → sn N t ≤ v → readB N x t = true → t ∈ ordO N x S v
  | 0, t, h1, h2, h3, h4 => by omega
  | v + 1, t, h1, h2, h3, h4 => by
    unfold ordO
    by_cases e : sn N t = v + 1
    · exact List.mem_append_left _ (ordI_of (by omega) (by omega) e h4)
    · exact List.mem_append_right _ (ordO_of h1 h2 (by omega) h4)
def befO (N : Nat → Int32) (s t : Nat) : Prop := sn N t < sn N s ∨ (sn N t = sn N s ∧ s < t)
theorem ordI_pw {N : Nat → Int32} {x : Int32} {v : Nat} : ∀ k s, (ordI N x v k s).Pairwise (befO N)
  | 0, s => List.Pairwise.nil
  | k + 1, s => by
    unfold ordI
    cases c : (decide (sn N s = v) && readB N x s) with
    | false => exact ordI_pw k (s + 1)
    | true =>
      rw [Bool.and_eq_true] at c
      refine List.Pairwise.cons (fun t ht => ?_) (ordI_pw k (s + 1))
      have h1 := ordI_mem ht
      have h2 := of_decide_eq_true c.1
      exact Or.inr ⟨by omega, by omega⟩
theorem ordO_pw {N : Nat → Int32} {x : Int32} {S : Nat} : ∀ v, (ordO N x S v).Pairwise (befO N)
  | 0 => List.Pairwise.nil
  | v + 1 => by
    refine List.pairwise_append.mpr ⟨ordI_pw S 0, ordO_pw v, fun s hs t ht => ?_⟩
    have h1 := ordI_mem hs
    have h2 := ordO_mem ht
    exact Or.inl (by omega)
theorem ordO_nodup {N : Nat → Int32} {x : Int32} {S v : Nat} : (ordO N x S v).Nodup := by
  refine List.Pairwise.imp (fun {a b} hab e => ?_) (ordO_pw (N := N) (x := x) (S := S) v)
  subst e
  rcases hab with h | ⟨_, h⟩ <;> omega
theorem ordO_len {N : Nat → Int32} {x : Int32} {S v : Nat} : (ordO N x S v).length ≤ S := nodup_le S _ ordO_nodup (fun _ ht => (ordO_mem ht).1)
/-- the first of a list -/
def fdO (C : Nat → Bool) : List Nat → Option Nat
  | [] => none
  | s :: t => bif C s then some s else fdO C t
theorem fdO_none {C : Nat → Bool} : ∀ {L : List Nat}, fdO C L = none → ∀ s ∈ L, C s = false
  | [], _, s, h => by cases h
  | a :: t, e, s, h => by
    unfold fdO at e
    cases c : C a with
    | true => rw [c] at e; cases e
    | false =>
      rw [c] at e
      rcases List.mem_cons.mp h with rfl | h'
      · exact c
      · exact fdO_none e s h'
theorem fdO_some {N : Nat → Int32} {C : Nat → Bool} : ∀ {L : List Nat} {v : Nat}, L.Pairwise (befO N) → fdO C L = some v → v ∈ L ∧ C v = true ∧ ∀ s ∈ L, C s = true → s = v ∨ befO N v s
  | [], v, _, e => by cases e
  | a :: t, v, hp, e => by
    unfold fdO at e
    cases c : C a with
    | true =>
      rw [c] at e
      cases e
      refine ⟨List.mem_cons_self .., c, fun s hs _ => ?_⟩
      rcases List.mem_cons.mp hs with rfl | h'
      · exact Or.inl rfl
      · exact Or.inr ((List.pairwise_cons.mp hp).1 s h')
    | false =>
      rw [c] at e
      obtain ⟨h1, h2, h3⟩ := fdO_some (List.pairwise_cons.mp hp).2 e
      refine ⟨List.mem_cons_of_mem _ h1, h2, fun s hs hc => ?_⟩
      rcases List.mem_cons.mp hs with rfl | h'
      · rw [c] at hc; cases hc
      · exact h3 s h' hc
/-- the model's choice, as it stands when signs below s were seen -/
theorem sgF_is {N : Nat → Int32} {x : Int32} {p : Nat} {name : Int32} {S : Nat} (hk : ∀ s, s < S → rgI (N (156 + 5 * s)) 0 5) : ∀ k s best, s + k = S → (match best with | none => ∀ t, t < s → sgC N x p name t = false | some v => v < s ∧ sgC N x p name v = true ∧ ∀ t, t < s → sgC N x p name t = true → t = v ∨ befO N v t) → (match sgF N x p name k s best with | none => ∀ t, t < S → sgC N x p name t = false | some v => v < S ∧ sgC N x p name v = true ∧ ∀ t, t < S → sgC N x p name t = true → t = v ∨ befO N v t) := by
  intro k
  induction k with
  | zero =>
    intro s best e hb
    have : s = S := by omega
    subst this
    exact hb
  | succ k ih =>
    intro s best e hb
    refine ih (s + 1) _ (by omega) ?_
    cases cC : sgC N x p name s with
    | false =>
      rw [Bool.false_and, cond_false]
      cases best with
      | none =>
        intro t ht
        by_cases d : t = s
        · rw [d]; exact cC
        · exact hb t (by omega)
      | some v =>
        obtain ⟨h1, h2, h3⟩ := hb
        refine ⟨by omega, h2, fun t ht hc => ?_⟩
        by_cases d : t = s
        · rw [d, cC] at hc; cases hc
        · exact h3 t (by omega) hc
    | true =>
      rw [Bool.true_and]
      cases best with
      | none =>
        show s < s + 1 ∧ _
        refine ⟨by omega, cC, fun t ht hc => ?_⟩
        by_cases d : t = s
        · exact Or.inl d
        · rw [hb t (by omega)] at hc; cases hc
      | some v =>
        obtain ⟨h1, h2, h3⟩ := hb
        have s1 := seenK_sn (hk s (by omega))
        have s2 := seenK_sn (hk v (by omega))
        by_cases d : sn N v < sn N s
        · have hB : sgB N s (some v) = true := by
            show decide (seenK (N (156 + 5 * v)) < seenK (N (156 + 5 * s))) = true
            rw [s1.1, s2.1]
            exact decide_eq_true (nI_lt d (by omega))
          rw [hB, cond_true]
          refine ⟨by omega, cC, fun t ht hc => ?_⟩
          by_cases d2 : t = s
          · exact Or.inl d2
          · right
            rcases h3 t (by omega) hc with rfl | hbef
            · exact Or.inl d
            · rcases hbef with hbef | hbef
              · exact Or.inl (by omega)
              · exact Or.inl (by omega)
        · have hB : sgB N s (some v) = false := by
            show decide (seenK (N (156 + 5 * v)) < seenK (N (156 + 5 * s))) = false
            rw [s1.1, s2.1]
            exact decide_eq_false (nI_nlt (by omega) (by omega))
          rw [hB, cond_false]
          refine ⟨by omega, h2, fun t ht hc => ?_⟩
          by_cases d2 : t = s
          · right
            subst d2
            by_cases d3 : sn N t = sn N v
            · exact Or.inr ⟨d3, h1⟩
            · exact Or.inl (by omega)
          · exact h3 t (by omega) hc
theorem sg_fd {h : PH} {b : Nat} {N : Nat → Int32} (q : Hs h b N) (x : Int32) (p : Nat) (name : Int32) : fdO (sgC N x p name) (ordO N x (nt (N 6)) 6) = sgO N x p name := by
  have hk : ∀ s, s < nt (N 6) → rgI (N (156 + 5 * s)) 0 5 := fun s hs => (q.sign hs).2.2.2.2.1
  have hm := sgF_is (x := x) (p := p) (name := name) hk (nt (N 6)) 0 none (by omega) (fun t ht => by omega)
  have memL : ∀ s, s < nt (N 6) → sgC N x p name s = true → s ∈ ordO N x (nt (N 6)) 6 := fun s hs hc => by
    unfold sgC at hc
    rw [Bool.and_eq_true, Bool.and_eq_true] at hc
    have s1 := seenK_sn (hk s hs)
    exact ordO_of hs s1.2.1 s1.2.2 hc.1.2
  unfold sgO
  cases e : sgF N x p name (nt (N 6)) 0 none with
  | none =>
    rw [e] at hm
    cases e2 : fdO (sgC N x p name) (ordO N x (nt (N 6)) 6) with
    | none => rfl
    | some v =>
      obtain ⟨h1, h2, h3⟩ := fdO_some (ordO_pw 6) e2
      have := hm v (ordO_mem h1).1
      rw [this] at h2
      cases h2
  | some v =>
    rw [e] at hm
    obtain ⟨h1, h2, h3⟩ := hm
    cases e2 : fdO (sgC N x p name) (ordO N x (nt (N 6)) 6) with
    | none =>
      have := fdO_none e2 v (memL v h1 h2)
      rw [this] at h2
      cases h2
    | some w =>
      obtain ⟨g1, g2, g3⟩ := fdO_some (ordO_pw 6) e2
      have h4 := h3 w (ordO_mem g1).1 g2
      have h5 := g3 v (memL v h1 h2) h2
      congr 1
      rcases h4 with h4 | h4
      · exact h4
      · rcases h5 with h5 | h5
        · exact h5.symm
        · unfold befO at h4 h5
          omega
