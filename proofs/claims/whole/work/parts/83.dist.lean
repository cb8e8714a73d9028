/-! the least minutes: rounds that shorten come to an end within twelve -/
theorem nodup_le : ∀ (n : Nat) (L : List Nat), L.Nodup → (∀ x ∈ L, x < n) → L.length ≤ n
  | 0, L, _, hx => by
    cases L with
    | nil => exact Nat.le_refl _
    | cons x t => exact absurd (hx x (List.mem_cons_self ..)) (by omega)
  | n + 1, L, hL, hx => by
    by_cases c : n ∈ L
    · have h1 : (L.erase n).length ≤ n := nodup_le n (L.erase n) (hL.erase n) (fun x hm => by
        have h2 := List.mem_of_mem_erase hm
        have h3 := hx x h2
        have h4 : x ≠ n := fun e => by
          subst e
          exact (List.Nodup.not_mem_erase hL) hm
        omega)
      have h5 := List.length_erase_of_mem c
      have h6 : 0 < L.length := List.length_pos_of_mem c
      omega
    · have := nodup_le n L hL (fun x hm => by
        have h3 := hx x hm
        have h4 : x ≠ n := fun e => c (e ▸ hm)
        omega)
      omega
section
variable (A B M : Nat → Nat) (P : Nat → Bool)
def rl (F : Nat → Nat) (a b m : Nat) : Nat → Nat := if F b + m < F a then (fun j => if j = a then F b + m else F j) else F
def rlS (F : Nat → Nat) (w : Nat) : Nat → Nat := if P w then rl (rl F (A w) (B w) (M w)) (B w) (A w) (M w) else F
def rlC (F : Nat → Nat) (w : Nat) : Bool := P w && (decide (F (B w) + M w < F (A w)) || decide (rl F (A w) (B w) (M w) (A w) + M w < rl F (A w) (B w) (M w) (B w)))
def rn : Nat → Nat → (Nat → Nat) → Bool → (Nat → Nat) × Bool
  | 0, _, F, c => (F, c)
  | k + 1, w, F, c => rn k (w + 1) (rlS A B M P F w) (c || rlC A B M P F w)
/-- at most n rounds, as long as something is shortened -/
def runTo (K : Nat) : Nat → (Nat → Nat) → (Nat → Nat)
  | 0, F => F
  | n + 1, F => bif (rn A B M P K 0 F false).2 then runTo K n (rn A B M P K 0 F false).1 else (rn A B M P K 0 F false).1
def itR (K : Nat) : Nat → (Nat → Nat) → (Nat → Nat)
  | 0, F => F
  | n + 1, F => itR K n (rn A B M P K 0 F false).1
def minW (F : Nat → Nat) (p : Nat) : Nat → Nat → Nat → Nat
  | 0, _, v => v
  | k + 1, w, v => minW F p k (w + 1) (if P w then min (min v (if A w = p then F (B w) + M w else v)) (if B w = p then F (A w) + M w else v) else v)
def Dn (K g Z : Nat) : Nat → Nat → Nat
  | 0, p => if p = g then 0 else Z
  | r + 1, p => minW A B M P (Dn K g Z r) p K 0 (Dn K g Z r p)
end
section
variable {A B M : Nat → Nat} {P : Nat → Bool}
theorem rl_le (F : Nat → Nat) (a b m j : Nat) : rl F a b m j ≤ F j := by
  unfold rl
  by_cases c : F b + m < F a
  · rw [if_pos c]
    show (if j = a then F b + m else F j) ≤ F j
    by_cases d : j = a
    · rw [if_pos d, d]; omega
    · rw [if_neg d]; omega
  · rw [if_neg c]; omega
theorem rl_at (F : Nat → Nat) (a b m : Nat) : rl F a b m a ≤ F b + m := by
  unfold rl
  by_cases c : F b + m < F a
  · rw [if_pos c]
    show (if a = a then F b + m else F a) ≤ F b + m
    rw [if_pos rfl]; omega
  · rw [if_neg c]; omega
theorem rlS_le (F : Nat → Nat) (w j : Nat) : rlS A B M P F w j ≤ F j := by
  unfold rlS
  split
  · exact Nat.le_trans (rl_le _ _ _ _ _) (rl_le _ _ _ _ _)
  · exact Nat.le_refl _
theorem rlS_ab (F : Nat → Nat) {w : Nat} (hp : P w = true) : rlS A B M P F w (A w) ≤ F (B w) + M w ∧ rlS A B M P F w (B w) ≤ F (A w) + M w := by
  unfold rlS
  rw [if_pos hp]
  refine ⟨Nat.le_trans (rl_le _ _ _ _ _) (rl_at _ _ _ _), Nat.le_trans (rl_at _ _ _ _) ?_⟩
  have := rl_le F (A w) (B w) (M w) (A w)
  omega
theorem rn_le : ∀ (k w : Nat) (F : Nat → Nat) (c : Bool) (j : Nat), (rn A B M P k w F c).1 j ≤ F j
  | 0, _, _, _, _ => Nat.le_refl _
  | k + 1, w, F, c, j => Nat.le_trans (rn_le k (w + 1) _ _ j) (rlS_le F w j)
theorem rn_ab : ∀ (k w : Nat) (F : Nat → Nat) (c : Bool) (v : Nat), w ≤ v → v < w + k → P v = true → (rn A B M P k w F c).1 (A v) ≤ F (B v) + M v ∧ (rn A B M P k w F c).1 (B v) ≤ F (A v) + M v
  | 0, w, F, c, v, h1, h2, hp => by omega
  | k + 1, w, F, c, v, h1, h2, hp => by
    by_cases e : v = w
    · subst e
      have h3 := rlS_ab (A := A) (B := B) (M := M) F hp
      have h4 := rn_le (A := A) (B := B) (M := M) (P := P) k (v + 1) (rlS A B M P F v) (c || rlC A B M P F v) (A v)
      have h5 := rn_le (A := A) (B := B) (M := M) (P := P) k (v + 1) (rlS A B M P F v) (c || rlC A B M P F v) (B v)
      exact ⟨Nat.le_trans h4 h3.1, Nat.le_trans h5 h3.2⟩
    · have h3 := rn_ab k (w + 1) (rlS A B M P F w) (c || rlC A B M P F w) v (by omega) (by omega) hp
      have h4 := rlS_le (A := A) (B := B) (M := M) (P := P) F w (B v)
      have h5 := rlS_le (A := A) (B := B) (M := M) (P := P) F w (A v)
      have h6 := h3.1
      have h7 := h3.2
      exact ⟨by show (rn A B M P k (w + 1) _ _).1 (A v) ≤ _; omega, by show (rn A B M P k (w + 1) _ _).1 (B v) ≤ _; omega⟩
/-- nothing is shorter than what keeps to all ways -/
def Fix (A B M : Nat → Nat) (P : Nat → Bool) (K : Nat) (G : Nat → Nat) : Prop := ∀ v, v < K → P v = true → G (A v) ≤ G (B v) + M v ∧ G (B v) ≤ G (A v) + M v
theorem rl_low {F G : Nat → Nat} {a b m : Nat} (h : ∀ j, G j ≤ F j) (e : G a ≤ G b + m) (j : Nat) : G j ≤ rl F a b m j := by
  unfold rl
  by_cases c : F b + m < F a
  · rw [if_pos c]
    show G j ≤ if j = a then F b + m else F j
    by_cases d : j = a
    · rw [if_pos d, d]
      have := h b
      omega
    · rw [if_neg d]; exact h j
  · rw [if_neg c]; exact h j
theorem rn_low {K : Nat} {G : Nat → Nat} (hG : Fix A B M P K G) : ∀ (k w : Nat) (F : Nat → Nat) (c : Bool), w + k ≤ K → (∀ j, G j ≤ F j) → ∀ j, G j ≤ (rn A B M P k w F c).1 j
  | 0, _, _, _, _, h, j => h j
  | k + 1, w, F, c, hk, h, j => by
    refine rn_low hG k (w + 1) _ _ (by omega) (fun i => ?_) j
    unfold rlS
    by_cases hp : P w = true
    · rw [if_pos hp]
      obtain ⟨e1, e2⟩ := hG w (by omega) hp
      exact rl_low (fun i => rl_low h e1 i) e2 i
    · rw [if_neg hp]; exact h i
/-- where nothing can be shortened, a round changes nothing -/
theorem rn_fix {K : Nat} {G : Nat → Nat} (hG : Fix A B M P K G) : ∀ (k w : Nat) (c : Bool), w + k ≤ K → rn A B M P k w G c = (G, c)
  | 0, _, _, _ => rfl
  | k + 1, w, c, hk => by
    have key : rlS A B M P G w = G ∧ rlC A B M P G w = false := by
      unfold rlS rlC
      by_cases hp : P w = true
      · obtain ⟨e1, e2⟩ := hG w (by omega) hp
        have r1 : rl G (A w) (B w) (M w) = G := by
          unfold rl
          rw [if_neg (by omega)]
        have r2 : rl G (B w) (A w) (M w) = G := by
          unfold rl
          rw [if_neg (by omega)]
        rw [if_pos hp, r1, r2, hp]
        refine ⟨rfl, ?_⟩
        rw [decide_eq_false (by omega), decide_eq_false (by omega)]
        rfl
      · rw [if_neg hp]
        refine ⟨rfl, ?_⟩
        cases e : P w with
        | false => rfl
        | true => exact absurd e hp
    show rn A B M P k (w + 1) (rlS A B M P G w) (c || rlC A B M P G w) = (G, c)
    rw [key.1, key.2, Bool.or_false]
    exact rn_fix hG k (w + 1) c (by omega)
theorem minW_le (F : Nat → Nat) (p : Nat) : ∀ k w v, minW A B M P F p k w v ≤ v
  | 0, _, _ => Nat.le_refl _
  | k + 1, w, v => by
    refine Nat.le_trans (minW_le F p k (w + 1) _) ?_
    split
    · omega
    · omega
theorem minW_ab (F : Nat → Nat) (p : Nat) : ∀ k w v u, w ≤ u → u < w + k → P u = true → (A u = p → minW A B M P F p k w v ≤ F (B u) + M u) ∧ (B u = p → minW A B M P F p k w v ≤ F (A u) + M u)
  | 0, w, v, u, h1, h2, _ => by omega
  | k + 1, w, v, u, h1, h2, hp => by
    by_cases e : u = w
    · subst e
      have h3 := minW_le (A := A) (B := B) (M := M) (P := P) F p k (u + 1) (if P u then min (min v (if A u = p then F (B u) + M u else v)) (if B u = p then F (A u) + M u else v) else v)
      rw [if_pos hp] at h3
      show (A u = p → minW A B M P F p k (u + 1) (if P u then min (min v (if A u = p then F (B u) + M u else v)) (if B u = p then F (A u) + M u else v) else v) ≤ _) ∧ (B u = p → minW A B M P F p k (u + 1) (if P u then min (min v (if A u = p then F (B u) + M u else v)) (if B u = p then F (A u) + M u else v) else v) ≤ _)
      rw [if_pos hp]
      refine ⟨fun ea => ?_, fun eb => ?_⟩
      · rw [if_pos ea] at h3 ⊢
        omega
      · rw [if_pos eb] at h3 ⊢
        omega
    · exact minW_ab F p k (w + 1) _ u (by omega) (by omega) hp
theorem minW_is (F : Nat → Nat) (p : Nat) : ∀ k w v, minW A B M P F p k w v = v ∨ ∃ u, w ≤ u ∧ u < w + k ∧ P u = true ∧ ((A u = p ∧ minW A B M P F p k w v = F (B u) + M u) ∨ (B u = p ∧ minW A B M P F p k w v = F (A u) + M u))
  | 0, _, _ => Or.inl rfl
  | k + 1, w, v => by
    show minW A B M P F p k (w + 1) (if P w then min (min v (if A w = p then F (B w) + M w else v)) (if B w = p then F (A w) + M w else v) else v) = v ∨ ∃ u, w ≤ u ∧ u < w + (k + 1) ∧ P u = true ∧ ((A u = p ∧ minW A B M P F p k (w + 1) (if P w then min (min v (if A w = p then F (B w) + M w else v)) (if B w = p then F (A w) + M w else v) else v) = F (B u) + M u) ∨ (B u = p ∧ minW A B M P F p k (w + 1) (if P w then min (min v (if A w = p then F (B w) + M w else v)) (if B w = p then F (A w) + M w else v) else v) = F (A u) + M u))
    generalize hv : (if P w then min (min v (if A w = p then F (B w) + M w else v)) (if B w = p then F (A w) + M w else v) else v) = v'
    rcases minW_is F p k (w + 1) v' with e | ⟨u, u1, u2, u3, u4⟩
    · rw [e]
      by_cases hp : P w = true
      · rw [if_pos hp] at hv
        by_cases ea : A w = p
        · rw [if_pos ea] at hv
          by_cases eb : B w = p
          · rw [if_pos eb] at hv
            by_cases c1 : v' = v
            · exact Or.inl c1
            · by_cases c2 : v' = F (B w) + M w
              · exact Or.inr ⟨w, by omega, by omega, hp, Or.inl ⟨ea, c2⟩⟩
              · exact Or.inr ⟨w, by omega, by omega, hp, Or.inr ⟨eb, by omega⟩⟩
          · rw [if_neg eb] at hv
            by_cases c1 : v' = v
            · exact Or.inl c1
            · exact Or.inr ⟨w, by omega, by omega, hp, Or.inl ⟨ea, by omega⟩⟩
        · rw [if_neg ea] at hv
          by_cases eb : B w = p
          · rw [if_pos eb] at hv
            by_cases c1 : v' = v
            · exact Or.inl c1
            · exact Or.inr ⟨w, by omega, by omega, hp, Or.inr ⟨eb, by omega⟩⟩
          · rw [if_neg eb] at hv
            exact Or.inl (by omega)
      · rw [if_neg hp] at hv
        exact Or.inl hv.symm
    · exact Or.inr ⟨u, by omega, by omega, u3, u4⟩
section
variable {K g Z : Nat}
theorem Dn_dec (r p : Nat) : Dn A B M P K g Z (r + 1) p ≤ Dn A B M P K g Z r p := minW_le _ p K 0 _
theorem Dn_g : ∀ r, Dn A B M P K g Z r g = 0
  | 0 => by
    show (if g = g then 0 else Z) = 0
    rw [if_pos rfl]
  | r + 1 => by
    have h1 := Dn_dec (A := A) (B := B) (M := M) (P := P) (K := K) (g := g) (Z := Z) r g
    rw [Dn_g r] at h1
    omega
/-- who is still shortened at the r-th round stands behind r others -/
theorem Dn_chain (hg : g < 12) (hA : ∀ w, w < K → A w < 12) (hB : ∀ w, w < K → B w < 12) (hM : ∀ w, w < K → 0 < M w) : ∀ r p, p < 12 → Dn A B M P K g Z (r + 1) p < Dn A B M P K g Z r p → ∃ L : List Nat, L.length = r + 2 ∧ L.Nodup ∧ (∀ x ∈ L, x < 12) ∧ ∀ x ∈ L, Dn A B M P K g Z (r + 1) x ≤ Dn A B M P K g Z (r + 1) p
  | 0, p, hp, hlt => by
    have hne : p ≠ g := fun e => by
      subst e
      rw [Dn_g, Dn_g] at hlt
      omega
    refine ⟨[p, g], rfl, ?_, ?_, ?_⟩
    · simp [hne]
    · intro x hx
      simp at hx
      rcases hx with rfl | rfl <;> assumption
    · intro x hx
      simp at hx
      rcases hx with rfl | rfl
      · exact Nat.le_refl _
      · rw [Dn_g]; omega
  | r + 1, p, hp, hlt => by
    have hq : ∃ q m, q < 12 ∧ 0 < m ∧ Dn A B M P K g Z (r + 1 + 1) p = Dn A B M P K g Z (r + 1) q + m ∧ Dn A B M P K g Z (r + 1) p ≤ Dn A B M P K g Z r q + m := by
      rcases minW_is (A := A) (B := B) (M := M) (P := P) (Dn A B M P K g Z (r + 1)) p K 0 (Dn A B M P K g Z (r + 1) p) with e | ⟨u, u1, u2, u3, u4⟩
      · have e' : Dn A B M P K g Z (r + 1 + 1) p = Dn A B M P K g Z (r + 1) p := e
        omega
      · have h3 := minW_ab (A := A) (B := B) (M := M) (P := P) (Dn A B M P K g Z r) p K 0 (Dn A B M P K g Z r p) u u1 u2 u3
        rcases u4 with ⟨ea, e⟩ | ⟨eb, e⟩
        · exact ⟨B u, M u, hB u (by omega), hM u (by omega), e, h3.1 ea⟩
        · exact ⟨A u, M u, hA u (by omega), hM u (by omega), e, h3.2 eb⟩
    obtain ⟨q, m, hq12, hm, e1, e2⟩ := hq
    have hqlt : Dn A B M P K g Z (r + 1) q < Dn A B M P K g Z r q := by omega
    obtain ⟨L, l1, l2, l3, l4⟩ := Dn_chain hg hA hB hM r q hq12 hqlt
    have hpL : p ∉ L := fun hm' => by
      have h5 := l4 p hm'
      omega
    refine ⟨p :: L, by simp [l1], List.nodup_cons.mpr ⟨hpL, l2⟩, ?_, ?_⟩
    · intro x hx
      rcases List.mem_cons.mp hx with rfl | hx
      · exact hp
      · exact l3 x hx
    · intro x hx
      rcases List.mem_cons.mp hx with rfl | hx
      · exact Nat.le_refl _
      · have h5 := l4 x hx
        have h6 := Dn_dec (A := A) (B := B) (M := M) (P := P) (K := K) (g := g) (Z := Z) (r + 1) x
        show Dn A B M P K g Z (r + 1 + 1) x ≤ Dn A B M P K g Z (r + 1 + 1) p
        omega
theorem Dn_12 (hg : g < 12) (hA : ∀ w, w < K → A w < 12) (hB : ∀ w, w < K → B w < 12) (hM : ∀ w, w < K → 0 < M w) {p : Nat} (hp : p < 12) : Dn A B M P K g Z 12 p = Dn A B M P K g Z 11 p := by
  have h1 := Dn_dec (A := A) (B := B) (M := M) (P := P) (K := K) (g := g) (Z := Z) 11 p
  by_cases c : Dn A B M P K g Z 12 p < Dn A B M P K g Z 11 p
  · obtain ⟨L, l1, l2, l3, -⟩ := Dn_chain hg hA hB hM 11 p hp c
    have := nodup_le 12 L l2 l3
    omega
  · have h2 : Dn A B M P K g Z (11 + 1) p = Dn A B M P K g Z 12 p := rfl
    omega
theorem Dn_fix (hg : g < 12) (hA : ∀ w, w < K → A w < 12) (hB : ∀ w, w < K → B w < 12) (hM : ∀ w, w < K → 0 < M w) : Fix A B M P K (Dn A B M P K g Z 11) := by
  intro v hv hp
  have h3 := minW_ab (A := A) (B := B) (M := M) (P := P) (Dn A B M P K g Z 11) (A v) K 0 (Dn A B M P K g Z 11 (A v)) v (by omega) (by omega) hp
  have h4 := minW_ab (A := A) (B := B) (M := M) (P := P) (Dn A B M P K g Z 11) (B v) K 0 (Dn A B M P K g Z 11 (B v)) v (by omega) (by omega) hp
  have e1 := Dn_12 (Z := Z) (P := P) hg hA hB hM (hA v hv)
  have e2 := Dn_12 (Z := Z) (P := P) hg hA hB hM (hB v hv)
  have h5 : Dn A B M P K g Z 12 (A v) ≤ _ := h3.1 rfl
  have h6 : Dn A B M P K g Z 12 (B v) ≤ _ := h4.2 rfl
  exact ⟨by omega, by omega⟩
/-- after twelve rounds nothing is shortened any more -/
theorem itR_up : ∀ (n r : Nat) (F : Nat → Nat), (∀ j, F j ≤ Dn A B M P K g Z r j) → ∀ j, itR A B M P K n F j ≤ Dn A B M P K g Z (r + n) j
  | 0, r, F, h, j => h j
  | n + 1, r, F, h, j => by
    have := itR_up n (r + 1) (rn A B M P K 0 F false).1 (fun i => by
      rcases minW_is (A := A) (B := B) (M := M) (P := P) (Dn A B M P K g Z r) i K 0 (Dn A B M P K g Z r i) with e | ⟨u, u1, u2, u3, u4⟩
      · show _ ≤ minW A B M P (Dn A B M P K g Z r) i K 0 (Dn A B M P K g Z r i)
        rw [e]
        exact Nat.le_trans (rn_le _ _ _ _ _) (h i)
      · show _ ≤ minW A B M P (Dn A B M P K g Z r) i K 0 (Dn A B M P K g Z r i)
        have h3 := rn_ab (A := A) (B := B) (M := M) K 0 F false u u1 u2 u3
        have h7 := h (A u)
        have h8 := h (B u)
        rcases u4 with ⟨ea, e⟩ | ⟨eb, e⟩
        · rw [e, ← ea]; have := h3.1; omega
        · rw [e, ← eb]; have := h3.2; omega) j
    rw [show r + (n + 1) = r + 1 + n by omega]
    exact this
theorem itR_low {G : Nat → Nat} (hG : Fix A B M P K G) : ∀ (n : Nat) (F : Nat → Nat), (∀ j, G j ≤ F j) → ∀ j, G j ≤ itR A B M P K n F j
  | 0, F, h, j => h j
  | n + 1, F, h, j => itR_low hG n _ (fun i => rn_low hG K 0 F false (by omega) h i) j
theorem Dn_le0 : ∀ r p, Dn A B M P K g Z r p ≤ Dn A B M P K g Z 0 p
  | 0, _ => Nat.le_refl _
  | r + 1, p => Nat.le_trans (Dn_dec r p) (Dn_le0 r p)
end
end
