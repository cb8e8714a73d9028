section
variable {A B M : Nat → Nat} {P : Nat → Bool} {K : Nat}
theorem rlC_no {F : Nat → Nat} {w : Nat} (h : rlC A B M P F w = false) : rlS A B M P F w = F := by
  unfold rlC at h
  unfold rlS
  by_cases hp : P w = true
  · rw [hp, Bool.true_and, Bool.or_eq_false_iff] at h
    have h1 := of_decide_eq_false h.1
    have r1 : rl F (A w) (B w) (M w) = F := by
      unfold rl
      rw [if_neg h1]
    have h2 := of_decide_eq_false h.2
    rw [r1] at h2
    rw [if_pos hp, r1]
    unfold rl
    rw [if_neg h2]
  · rw [if_neg hp]
theorem rn_no : ∀ (k w : Nat) (F : Nat → Nat) (c : Bool), (rn A B M P k w F c).2 = false → c = false ∧ (rn A B M P k w F c).1 = F
  | 0, _, _, _, h => ⟨h, rfl⟩
  | k + 1, w, F, c, h => by
    obtain ⟨h1, h2⟩ := rn_no k (w + 1) _ _ h
    rw [Bool.or_eq_false_iff] at h1
    refine ⟨h1.1, ?_⟩
    show (rn A B M P k (w + 1) (rlS A B M P F w) (c || rlC A B M P F w)).1 = F
    rw [h2]
    exact rlC_no h1.2
theorem itR_stay {F : Nat → Nat} (h : (rn A B M P K 0 F false).2 = false) : ∀ n, itR A B M P K n F = F
  | 0 => rfl
  | n + 1 => by
    show itR A B M P K n (rn A B M P K 0 F false).1 = F
    rw [(rn_no K 0 F false h).2]
    exact itR_stay h n
theorem itR_stop {g Z : Nat} (hg : g < 12) (hA : ∀ w, w < K → A w < 12) (hB : ∀ w, w < K → B w < 12) (hM : ∀ w, w < K → 0 < M w) : (rn A B M P K 0 (itR A B M P K 12 (fun j => if j = g then 0 else Z)) false).2 = false := by
  have hfix := Dn_fix (P := P) (Z := Z) hg hA hB hM
  have hup : ∀ j, itR A B M P K 12 (fun j => if j = g then 0 else Z) j ≤ Dn A B M P K g Z 12 j := fun j => by
    have := itR_up (A := A) (B := B) (M := M) (P := P) (K := K) (g := g) (Z := Z) 12 0 (fun j => if j = g then 0 else Z) (fun i => Nat.le_refl _) j
    rw [Nat.zero_add] at this
    exact this
  have hlow : ∀ j, Dn A B M P K g Z 11 j ≤ itR A B M P K 12 (fun j => if j = g then 0 else Z) j := itR_low hfix 12 _ (fun j => Dn_le0 11 j)
  have he : ∀ j, j < 12 → itR A B M P K 12 (fun j => if j = g then 0 else Z) j = Dn A B M P K g Z 11 j := fun j hj => by
    have h1 := hup j
    have h2 := hlow j
    have h3 := Dn_12 (P := P) (Z := Z) hg hA hB hM hj
    omega
  have hF : Fix A B M P K (itR A B M P K 12 (fun j => if j = g then 0 else Z)) := fun v hv hp => by
    rw [he _ (hA v hv), he _ (hB v hv)]
    exact hfix v hv hp
  rw [rn_fix hF K 0 false (by omega)]
/-- the second half of a way's step does nothing where the first did something -/
theorem rl_twice {F : Nat → Nat} {a b m : Nat} (hab : a ≠ b) (h : F b + m < F a) : rl (rl F a b m) b a m = rl F a b m := by
  have r : rl F a b m = fun j => if j = a then F b + m else F j := by
    unfold rl
    rw [if_pos h]
  rw [r]
  unfold rl
  rw [if_neg]
  show ¬ ((if a = a then F b + m else F a) + m < if b = a then F b + m else F b)
  rw [if_pos rfl, if_neg (fun e => hab e.symm)]
  omega
theorem rl_bound {F : Nat → Nat} {a b m Z : Nat} (h : ∀ j, F j ≤ Z) (j : Nat) : rl F a b m j ≤ Z := Nat.le_trans (rl_le F a b m j) (h j)
end
