/-! a least way is begun by some way; the right arrow of a name -/
section
variable (A B M : Nat → Nat) (P : Nat → Bool)
def InvF (K : Nat) (I G : Nat → Nat) : Prop := ∀ j, G j = I j ∨ ∃ w, w < K ∧ P w = true ∧ ((A w = j ∧ G (B w) + M w ≤ G j) ∨ (B w = j ∧ G (A w) + M w ≤ G j))
theorem rl_inv {K : Nat} {I G : Nat → Nat} (q : InvF A B M P K I G) {w a b : Nat} (hw : w < K) (hp : P w = true) (hab : (a = A w ∧ b = B w) ∨ (a = B w ∧ b = A w)) : InvF A B M P K I (rl G a b (M w)) := by
  by_cases c : G b + M w < G a
  · have hne : a ≠ b := fun z => by rw [z] at c; omega
    have e : ∀ j, rl G a b (M w) j = if j = a then G b + M w else G j := fun j => by
      unfold rl
      rw [if_pos c]
    intro j
    by_cases d : j = a
    · subst d
      refine Or.inr ⟨w, hw, hp, ?_⟩
      have e1 : rl G j b (M w) b = G b := by rw [e b, if_neg (fun z => hne z.symm)]
      have e2 : rl G j b (M w) j = G b + M w := by rw [e j, if_pos rfl]
      rcases hab with ⟨z1, z2⟩ | ⟨z1, z2⟩
      · exact Or.inl ⟨z1.symm, by rw [← z2, e1, e2]; exact Nat.le_refl _⟩
      · exact Or.inr ⟨z1.symm, by rw [← z2, e1, e2]; exact Nat.le_refl _⟩
    · have e0 : rl G a b (M w) j = G j := by rw [e j, if_neg d]
      rw [e0]
      rcases q j with z | ⟨v, hv, hpv, z⟩
      · exact Or.inl z
      · refine Or.inr ⟨v, hv, hpv, ?_⟩
        rcases z with ⟨z1, z2⟩ | ⟨z1, z2⟩
        · exact Or.inl ⟨z1, Nat.le_trans (Nat.add_le_add_right (rl_le G a b (M w) (B v)) _) z2⟩
        · exact Or.inr ⟨z1, Nat.le_trans (Nat.add_le_add_right (rl_le G a b (M w) (A v)) _) z2⟩
  · have e : rl G a b (M w) = G := by
      unfold rl
      rw [if_neg c]
    rw [e]
    exact q
theorem rn_inv {K : Nat} {I : Nat → Nat} : ∀ (k w : Nat) (G : Nat → Nat) (c : Bool), w + k ≤ K → InvF A B M P K I G → InvF A B M P K I (rn A B M P k w G c).1
  | 0, _, _, _, _, q => q
  | k + 1, w, G, c, e, q => by
    refine rn_inv k (w + 1) (rlS A B M P G w) (c || rlC A B M P G w) (by omega) ?_
    unfold rlS
    by_cases d : P w = true
    · rw [if_pos d]
      exact rl_inv A B M P (rl_inv A B M P q (by omega) d (Or.inl ⟨rfl, rfl⟩)) (by omega) d (Or.inr ⟨rfl, rfl⟩)
    · rw [if_neg d]
      exact q
theorem itR_inv {K : Nat} {I : Nat → Nat} : ∀ (n : Nat) (G : Nat → Nat), InvF A B M P K I G → InvF A B M P K I (itR A B M P K n G)
  | 0, _, q => q
  | n + 1, G, q => itR_inv n _ (rn_inv A B M P K 0 G false (by omega) q)
end
theorem hdF_is {N : Nat → Int32} {P : Nat → Bool} {F : Nat → Nat} {p w : Nat} : ∀ k d d', d ≤ d' → d' < d + k → opO N P p d' = some w → F (oe N w p) + wM N w = F p → (hdF N P F p k d).isSome = true
  | 0, d, d', a, b, _, _ => by omega
  | k + 1, d, d', a, b, e, e2 => by
    unfold hdF
    by_cases c : d = d'
    · subst c
      rw [e]
      show (if F (oe N w p) + wM N w = F p then some d else hdF N P F p k (d + 1)).isSome = true
      rw [if_pos e2]
      rfl
    · have ih := hdF_is (N := N) (P := P) (F := F) (p := p) (w := w) k (d + 1) d' (by omega) (by omega) e e2
      cases c2 : opO N P p d with
      | none => exact ih
      | some v =>
        show (if F (oe N v p) + wM N v = F p then some d else hdF N P F p k (d + 1)).isSome = true
        by_cases c3 : F (oe N v p) + wM N v = F p
        · rw [if_pos c3]
          rfl
        · rw [if_neg c3]
          exact ih
theorem few_fix {h : PH} {b : Nat} {N : Nat → Int32} (q : Hs h b N) (P : Nat → Bool) {gp : Nat} (hg : gp < 12) : Fix (wA N) (wB N) (wM N) P (nt (N 4)) (fewM N P gp) := by
  have n12 := q.n12
  have st := itR_stop (A := wA N) (B := wB N) (M := wM N) (P := P) (K := nt (N 4)) (g := gp) (Z := 1000000) hg (fun w hw => by have := q.way hw; omega) (fun w hw => by have := q.way hw; omega) (fun w hw => by have := q.way hw; omega)
  have e := (rn_no _ _ _ _ st).2
  intro v hv hp
  have := rn_ab (A := wA N) (B := wB N) (M := wM N) (P := P) (nt (N 4)) 0 (itR (wA N) (wB N) (wM N) P (nt (N 4)) 12 (fun j => if j = gp then 0 else 1000000)) false v (by omega) (by omega) hp
  rw [e] at this
  exact this
theorem head_some {h : PH} {b : Nat} {N : Nat → Int32} (q : Hs h b N) (P : Nat → Bool) {gp p : Nat} (hg : gp < 12) (hp : p < 12) (h0 : fewM N P gp p ≠ 0) (h1 : fewM N P gp p < 1000000) : (headO N P (fewM N P gp) p).isSome = true := by
  have fx := few_fix q P hg
  have iv := itR_inv (wA N) (wB N) (wM N) P (K := nt (N 4)) (I := fun j => if j = gp then 0 else 1000000) 12 (fun j => if j = gp then 0 else 1000000) (fun j => Or.inl rfl) p
  have iv : fewM N P gp p = (if p = gp then 0 else 1000000) ∨ ∃ w, w < nt (N 4) ∧ P w = true ∧ ((wA N w = p ∧ fewM N P gp (wB N w) + wM N w ≤ fewM N P gp p) ∨ (wB N w = p ∧ fewM N P gp (wA N w) + wM N w ≤ fewM N P gp p)) := iv
  unfold headO
  rw [if_neg h0, if_pos h1]
  rcases iv with z | ⟨w, hw, hpw, z⟩
  · exfalso
    by_cases c : p = gp
    · rw [if_pos c] at z
      exact h0 z
    · rw [if_neg c] at z
      omega
  · obtain ⟨f1, f2⟩ := fx w hw hpw
    obtain ⟨-, -, -, -, w1, w2, w3, w4, -⟩ := q.way hw
    rcases z with ⟨z1, z2⟩ | ⟨z1, z2⟩
    · have e1 : wO N p (wD N w) = some w := wO_un q hp w4 hw (Or.inl ⟨z1, rfl⟩)
      have e2 : opO N P p (wD N w) = some w := by
        unfold opO
        rw [e1]
        show (if P w = true then some w else none) = some w
        rw [if_pos hpw]
      refine hdF_is 8 0 (wD N w) (by omega) (by omega) e2 ?_
      unfold oe
      rw [if_pos z1]
      rw [z1] at f1
      omega
    · have e1 : wO N p ((wD N w + 4) % 8) = some w := wO_un q hp (by omega) hw (Or.inr ⟨z1, rfl⟩)
      have e2 : opO N P p ((wD N w + 4) % 8) = some w := by
        unfold opO
        rw [e1]
        show (if P w = true then some w else none) = some w
        rw [if_pos hpw]
      refine hdF_is 8 0 ((wD N w + 4) % 8) (by omega) (by omega) e2 ?_
      unfold oe
      rw [if_neg (fun z => w3 (by rw [z, z1]))]
      rw [z1] at f2
      omega
/-- what a least way's beginning depends on -/
theorem wfO_cong {N N' : Nat → Int32} {p d : Int32} : ∀ k w, w + k ≤ 20 → (∀ j, j < 155 → N' j = N j) → wfO N' p d k w = wfO N p d k w
  | 0, _, _, _ => rfl
  | k + 1, w, hk, e => by
    have ih := wfO_cong (N := N) (N' := N') (p := p) (d := d) k (w + 1) (by omega) e
    have e1 : ldB N' p d w = ldB N p d w := by
      unfold ldB
      rw [e (15 + 6 * w) (by omega), e (16 + 6 * w) (by omega), e (17 + 6 * w) (by omega)]
    unfold wfO
    rw [e1, ih]
theorem headO_cong {N N' : Nat → Int32} (h20 : nt (N 4) ≤ 20) (e : ∀ j, j < 155 → N' j = N j) (P : Nat → Bool) (F : Nat → Nat) (p : Nat) : headO N' P F p = headO N P F p := by
  have e1 : ∀ d, opO N' P p d = opO N P p d := fun d => by
    unfold opO wO
    rw [e 4 (by omega), wfO_cong _ 0 (by omega) e]
  have e2 : ∀ k d, hdF N' P F p k d = hdF N P F p k d := by
    intro k
    induction k with
    | zero => intro d; rfl
    | succ k ih =>
      intro d
      unfold hdF
      rw [e1 d]
      cases c : opO N P p d with
      | none => exact ih (d + 1)
      | some w =>
        have hw := (opO_lt c).1
        show (if F (oe N' w p) + wM N' w = F p then some d else hdF N' P F p k (d + 1)) = (if F (oe N w p) + wM N w = F p then some d else hdF N P F p k (d + 1))
        rw [ih (d + 1)]
        unfold oe wA wB wM
        rw [e (15 + 6 * w) (by omega), e (16 + 6 * w) (by omega), e (19 + 6 * w) (by omega)]
  unfold headO
  rw [e2]
/-- the right arrow of a group, of a name -/
def rgF (N : Nat → Int32) (H : Nat → Option Nat) (F : Nat → Nat) (gr : Int32) : Nat → Nat → Nat → Option Nat → Option Nat
  | 0, _, _, cur => cur
  | k + 1, g, best, cur => if N (136 + 2 * g) = gr ∧ (H g).isSome = true ∧ F g < best then rgF N H F gr k (g + 1) (F g) (H g) else rgF N H F gr k (g + 1) best cur
theorem rgF_s (N : Nat → Int32) (H : Nat → Option Nat) (F : Nat → Nat) (gr : Int32) (k g best : Nat) (cur : Option Nat) : rgF N H F gr (k + 1) g best cur = if N (136 + 2 * g) = gr ∧ (H g).isSome = true ∧ F g < best then rgF N H F gr k (g + 1) (F g) (H g) else rgF N H F gr k (g + 1) best cur := rfl
def rtO (N : Nat → Int32) (P : Nat → Bool) (p nm : Nat) : Option Nat := if nm < 10 then (if nm < nt (N 5) then headO N P (fewM N P (gP N nm)) p else none) else rgF N (fun g => headO N P (fewM N P (gP N g)) p) (fun g => fewM N P (gP N g) p) (nI nm - 10) (nt (N 5)) 0 1000000 none
theorem rgF_lt {N : Nat → Int32} {H : Nat → Option Nat} {F : Nat → Nat} {gr : Int32} (h8 : ∀ j v, H j = some v → v < 8) : ∀ k g best cur v, (∀ u, cur = some u → u < 8) → rgF N H F gr k g best cur = some v → v < 8
  | 0, _, _, _, v, hc, e => hc v e
  | k + 1, g, best, cur, v, hc, e => by
    rw [rgF_s] at e
    by_cases c : N (136 + 2 * g) = gr ∧ (H g).isSome = true ∧ F g < best
    · rw [if_pos c] at e
      exact rgF_lt h8 k (g + 1) _ _ v (fun u hu => h8 g u hu) e
    · rw [if_neg c] at e
      exact rgF_lt h8 k (g + 1) _ _ v hc e
theorem rtO_lt {N : Nat → Int32} {P : Nat → Bool} {p nm v : Nat} (e : rtO N P p nm = some v) : v < 8 := by
  unfold rtO at e
  by_cases c : nm < 10
  · rw [if_pos c] at e
    by_cases c2 : nm < nt (N 5)
    · rw [if_pos c2] at e
      exact headO_lt e
    · rw [if_neg c2] at e
      cases e
  · rw [if_neg c] at e
    exact rgF_lt (fun j v e => headO_lt e) _ _ _ _ v (fun u hu => by cases hu) e
/-- the class's: N what the roads were measured by, N' what stands now -/
theorem headingOfGroup_eq {h g0 : PH} {i b b' : Nat} {N N' : Nat → Int32} {P : Nat → Bool} (q : RdE h i b N' P) (q0 : Hs g0 b' N) (e : ∀ j, j < 155 → N' j = N j) (hF : ∀ g, g < nt (N 5) → LsE h i g (fewM N P (gP N g))) {p : Nat} (hp : p < 12) (gr : Int32) : X4_headingOfGroup i (nI p) gr h = some (some (.inl (oI (rgF N (fun g => headO N P (fewM N P (gP N g)) p) (fun g => fewM N P (gP N g) p) gr (nt (N 5)) 0 1000000 none))), h) := by
  obtain ⟨K, hK, h10, hKn, hKi, h74⟩ := q.1.goals
  rw [e 5 (by omega)] at hK hKn hKi
  have a := q.1.1
  have hb := q.1.2.1
  have n12 := q0.n12
  have n20 := q0.n20
  have key : ∀ k g best cur, g + k = K → best ≤ 1000000 → ∃ n, X4_headingOfGroup_fam n i (nI p) gr (nI best) (oI cur) (nI g) h = some (some (.inl (oI (rgF N (fun g => headO N P (fewM N P (gP N g)) p) (fun g => fewM N P (gP N g) p) gr k g best cur))), h) := by
    intro k
    induction k with
    | zero =>
      intro g best cur eg hb'
      refine ⟨1, ?_⟩
      show X4_headingOfGroup_g9 (X4_headingOfGroup_fam 0) i (nI p) gr (nI best) (oI cur) (nI g) h = _
      unfold X4_headingOfGroup_g9 X4_headingOfGroup_f9
      rw [nnE q.2.2.1, h74, if_neg (nI_nlt (by omega) (by omega))]
      rfl
    | succ k ih =>
      intro g best cur eg hb'
      obtain ⟨-, -, -, g4, -, g6⟩ := q.1.goal (show g < nt (N' 5) by rw [e 5 (by omega)]; omega)
      obtain ⟨g1, g2, -⟩ := q0.goal (show g < nt (N 5) by omega)
      rw [e (136 + 2 * g) (by omega)] at g4
      have hz := fewM_le N P (gP N g)
      have hzp := hz p
      have hd := X4_heading_eq q g6 (hF g (by omega)) (fun j => hz j) hp
      rw [headO_cong n20 e] at hd
      have hm := hF g (by omega) p hp
      have nx : ∀ n b c, X4_headingOfGroup_g67 (X4_headingOfGroup_fam n) i (nI p) gr b c (nI g) h = X4_headingOfGroup_fam n i (nI p) gr b c (nI (g + 1)) h := fun n b c => by
        show X4_headingOfGroup_fam n i (nI p) gr b c (nI g + 1) h = _
        rw [nI_1]
      rw [rgF_s]
      by_cases c : N (136 + 2 * g) = gr ∧ (headO N P (fewM N P (gP N g)) p).isSome = true ∧ fewM N P (gP N g) p < best
      · obtain ⟨n, hn⟩ := ih (g + 1) (fewM N P (gP N g) p) (headO N P (fewM N P (gP N g)) p) (by omega) hzp
        have c0 : 0 < fewM N P (gP N g) p := by
          rcases Nat.eq_zero_or_pos (fewM N P (gP N g) p) with z | z
          · have := c.2.1
            unfold headO at this
            rw [if_pos z] at this
            cases this
          · exact z
        refine ⟨n + 1, ?_⟩
        rw [if_pos c]
        show X4_headingOfGroup_g9 (X4_headingOfGroup_fam n) i (nI p) gr (nI best) (oI cur) (nI g) h = _
        unfold X4_headingOfGroup_g9 X4_headingOfGroup_f9
        rw [nnE q.2.2.1, h74, if_pos (nI_lt (by omega) (by omega)), minutesFrom_eq a q.2.1 g6 hp, cI_some, nnE q.2.2.1, nnE (sh_67 a b hb), ixE (ln_17 a b hb) rfl g6 (by decide), g4, if_pos c.1, hm, if_pos (show (0 : Int32) < nI (fewM N P (gP N g) p) from nI_lt (a := 0) c0 (by omega)), if_pos (nI_lt c.2.2 (by omega)), hd, cI_some, nx]
        exact hn
      · obtain ⟨n, hn⟩ := ih (g + 1) best cur (by omega) hb'
        refine ⟨n + 1, ?_⟩
        rw [if_neg c]
        show X4_headingOfGroup_g9 (X4_headingOfGroup_fam n) i (nI p) gr (nI best) (oI cur) (nI g) h = _
        unfold X4_headingOfGroup_g9 X4_headingOfGroup_f9
        rw [nnE q.2.2.1, h74, if_pos (nI_lt (by omega) (by omega)), minutesFrom_eq a q.2.1 g6 hp, cI_some, nnE q.2.2.1, nnE (sh_67 a b hb), ixE (ln_17 a b hb) rfl g6 (by decide), g4, hm]
        by_cases c1 : N (136 + 2 * g) = gr
        · rw [if_pos c1]
          by_cases c2 : 0 < fewM N P (gP N g) p
          · rw [if_pos (show (0 : Int32) < nI (fewM N P (gP N g) p) from nI_lt (a := 0) c2 (by omega))]
            by_cases c3 : fewM N P (gP N g) p < best
            · exact absurd ⟨c1, head_some q0 P (by omega) hp (by omega) (by omega), c3⟩ c
            · rw [if_neg (nI_nlt (by omega) (by omega)), nx]
              exact hn
          · rw [if_neg (show ¬ (0 : Int32) < nI (fewM N P (gP N g) p) from nI_nlt (a := 0) (by omega) (by omega)), nx]
            exact hn
        · rw [if_neg c1, nx]
          exact hn
  obtain ⟨n, hn⟩ := key K 0 1000000 none (by omega) (Nat.le_refl _)
  rw [hKn]
  exact X4_headingOfGroup_iff.mpr ⟨n, hn⟩
theorem headingOfName_eq {h g0 : PH} {i b b' : Nat} {N N' : Nat → Int32} {P : Nat → Bool} (q : RdE h i b N' P) (q0 : Hs g0 b' N) (e : ∀ j, j < 155 → N' j = N j) (hF : ∀ g, g < nt (N 5) → LsE h i g (fewM N P (gP N g))) {p nm : Nat} (hp : p < 12) (hn : nm < 14) : X4_headingOfName i (nI p) (nI nm) h = some (some (.inl (oI (rtO N P p nm))), h) := by
  obtain ⟨K, hK, h10, hKn, hKi, h74⟩ := q.1.goals
  rw [e 5 (by omega)] at hK hKn hKi
  unfold X4_headingOfName X4_headingOfName_g0 X4_headingOfName_f0 rtO
  by_cases c : nm < 10
  · rw [if_pos (show nI nm < 10 from nI_lt (b := 10) c (by decide)), if_pos c, nnE q.2.2.1, X1_hasGoal_eq, cI_some, h74]
    by_cases c2 : nm < K
    · have hd := X4_heading_eq q c (hF nm (by omega)) (fun j => fewM_le N P (gP N nm) j) hp
      rw [headO_cong q0.n20 e] at hd
      rw [wnE1 c2 (by omega), if_neg (by decide), hd, cI_some, if_pos (by omega)]
    · rw [wnE0 (by omega) (by omega), if_pos rfl, if_neg (by omega)]
      rfl
  · rw [if_neg (show ¬ nI nm < 10 from nI_nlt (b := 10) (by omega) (by omega)), if_neg c, headingOfGroup_eq q q0 e hF hp, cI_some]
/-- the model's -/
def RtE (h : PH) (N : Nat → Int32) (P : Nat → Bool) (G : Nat) : Prop := ∀ g, g < G → ∀ p, p < nt (N 3) → hI h 3776 0 (12 * g + p) = nI (fewM N P (gP N g) p) ∧ hI h 3840 0 (12 * g + p) = oI (headO N P (fewM N P (gP N g)) p)
theorem m12 (g p : Nat) : (12 : Int32) * nI g + nI p = nI (12 * g + p) := by rw [show (12 : Int32) = nI 12 from rfl, nI_mul, nI_add]
theorem rightAt_eq {h g0 : PH} {b : Nat} {N : Nat → Int32} {P : Nat → Bool} (a : SH h) (q0 : Hs g0 b N) (e : ∀ j, j < 155 → hI h 2624 0 j = N j) (hT : RtE h N P (nt (N 5))) {p nm : Nat} (hp : p < nt (N 3)) (hn : nm < 14) : X12_rightAt 0 (nI p) (nI nm) h = some (some (.inl (oI (rtO N P p nm))), h) := by
  obtain ⟨K, hK, h10, hKn, hKi, -⟩ := q0.goals
  have n12 := q0.n12
  have hlt : ∀ g v, headO N P (fewM N P (gP N g)) p = some v → v < 8 := fun g v hv => headO_lt hv
  -- one goal
  have st : ∀ n g best cur, g < K → best ≤ 1000000 → X12_rightAt_g45 (X12_rightAt_fam n) 0 (nI p) (nI nm) (oI cur) (nI best) (nI g) h = if (headO N P (fewM N P (gP N g)) p).isSome = true ∧ fewM N P (gP N g) p < best then X12_rightAt_fam n 0 (nI p) (nI nm) (oI (headO N P (fewM N P (gP N g)) p)) (nI (fewM N P (gP N g) p)) (nI (g + 1)) h else X12_rightAt_fam n 0 (nI p) (nI nm) (oI cur) (nI best) (nI (g + 1)) h := by
    intro n g best cur hg hb
    obtain ⟨t1, t2⟩ := hT g (by omega) p hp
    have hz := fewM_le N P (gP N g) p
    have nx : ∀ b c, X12_rightAt_g98 (X12_rightAt_fam n) 0 (nI p) (nI nm) b c (nI g) h = X12_rightAt_fam n 0 (nI p) (nI nm) b c (nI (g + 1)) h := fun b c => by
      show X12_rightAt_fam n 0 (nI p) (nI nm) b c (nI g + 1) h = _
      rw [nI_1]
    unfold X12_rightAt_g45 X12_rightAt_f45
    rw [nnE (sh_743 a), ixE (ln_60 a) (m12 g p) (by omega) (by decide), t2]
    cases c : headO N P (fewM N P (gP N g)) p with
    | none =>
      rw [if_pos (by decide), if_neg (fun z => by cases z.1), nx]
    | some v =>
      have hv := hlt g v c
      rw [if_neg (oI_pos (t := v) (by omega)), nnE (sh_742 a), ixE (ln_59 a) (m12 g p) (by omega) (by decide), t1]
      by_cases c2 : fewM N P (gP N g) p < best
      · rw [if_pos (nI_lt c2 (by omega)), nnE (sh_742 a), ixE (ln_59 a) (m12 g p) (by omega) (by decide), t1, nx, if_pos ⟨rfl, c2⟩]
      · rw [if_neg (nI_nlt (by omega) (by omega)), nx, if_neg (fun z => c2 z.2)]
  have nx : ∀ n g b c, X12_rightAt_g98 (X12_rightAt_fam n) 0 (nI p) (nI nm) b c (nI g) h = X12_rightAt_fam n 0 (nI p) (nI nm) b c (nI (g + 1)) h := fun n g b c => by
    show X12_rightAt_fam n 0 (nI p) (nI nm) b c (nI g + 1) h = _
    rw [nI_1]
  have fin : ∀ b c, ∃ n, X12_rightAt_fam n 0 (nI p) (nI nm) b c (nI K) h = some (some (.inl b), h) := fun b c => by
    refine ⟨1, ?_⟩
    show X12_rightAt_g9 (X12_rightAt_fam 0) 0 (nI p) (nI nm) b c (nI K) h = _
    unfold X12_rightAt_g9 X12_rightAt_f9
    rw [nnE (sh_704 a), ixE (x := 5) (j := 5) (ln_41 a) rfl (by decide) (by decide), e 5 (by omega), hK, if_neg (nI_nlt (by omega) (by omega))]
  by_cases c : nm < 10
  · have key : ∀ k g best cur, g + k = K → best ≤ 1000000 → ∃ n, X12_rightAt_fam n 0 (nI p) (nI nm) (oI cur) (nI best) (nI g) h = some (some (.inl (oI (if g ≤ nm ∧ nm < K ∧ (headO N P (fewM N P (gP N nm)) p).isSome = true ∧ fewM N P (gP N nm) p < best then headO N P (fewM N P (gP N nm)) p else cur))), h) := by
      intro k
      induction k with
      | zero =>
        intro g best cur eg hb
        obtain ⟨n, hn'⟩ := fin (oI cur) (nI best)
        refine ⟨n, ?_⟩
        rw [if_neg (by omega), show g = K by omega]
        exact hn'
      | succ k ih =>
        intro g best cur eg hb
        have g6 : g < 10 := by omega
        by_cases c1 : g = nm
        · subst c1
          by_cases c2 : (headO N P (fewM N P (gP N g)) p).isSome = true ∧ fewM N P (gP N g) p < best
          · obtain ⟨n, hn'⟩ := ih (g + 1) (fewM N P (gP N g) p) (headO N P (fewM N P (gP N g)) p) (by omega) (fewM_le N P _ p)
            refine ⟨n + 1, ?_⟩
            show X12_rightAt_g9 (X12_rightAt_fam n) 0 (nI p) (nI g) (oI cur) (nI best) (nI g) h = _
            unfold X12_rightAt_g9 X12_rightAt_f9
            rw [nnE (sh_704 a), ixE (x := 5) (j := 5) (ln_41 a) rfl (by decide) (by decide), e 5 (by omega), hK, if_pos (nI_lt (by omega) (by omega)), if_pos rfl, st n g best cur (by omega) hb, if_pos c2, if_pos ⟨Nat.le_refl _, by omega, c2⟩]
            rw [if_neg (by omega)] at hn'
            exact hn'
          · obtain ⟨n, hn'⟩ := ih (g + 1) best cur (by omega) hb
            refine ⟨n + 1, ?_⟩
            show X12_rightAt_g9 (X12_rightAt_fam n) 0 (nI p) (nI g) (oI cur) (nI best) (nI g) h = _
            unfold X12_rightAt_g9 X12_rightAt_f9
            rw [nnE (sh_704 a), ixE (x := 5) (j := 5) (ln_41 a) rfl (by decide) (by decide), e 5 (by omega), hK, if_pos (nI_lt (by omega) (by omega)), if_pos rfl, st n g best cur (by omega) hb, if_neg c2, if_neg (fun z => c2 z.2.2)]
            rw [if_neg (by omega)] at hn'
            exact hn'
        · obtain ⟨n, hn'⟩ := ih (g + 1) best cur (by omega) hb
          refine ⟨n + 1, ?_⟩
          show X12_rightAt_g9 (X12_rightAt_fam n) 0 (nI p) (nI nm) (oI cur) (nI best) (nI g) h = _
          unfold X12_rightAt_g9 X12_rightAt_f9
          rw [nnE (sh_704 a), ixE (x := 5) (j := 5) (ln_41 a) rfl (by decide) (by decide), e 5 (by omega), hK, if_pos (nI_lt (by omega) (by omega)), if_neg (fun z => c1 ((nI_eq (by omega) (by omega)).mp z)), if_pos (show nI nm < 10 from nI_lt (b := 10) c (by decide)), nx, hn']
          by_cases c3 : g + 1 ≤ nm ∧ nm < K ∧ (headO N P (fewM N P (gP N nm)) p).isSome = true ∧ fewM N P (gP N nm) p < best
          · rw [if_pos c3, if_pos ⟨by omega, c3.2⟩]
          · rw [if_neg c3, if_neg (fun z => c3 ⟨by omega, z.2⟩)]
    obtain ⟨n, hn'⟩ := key K 0 1000000 none (by omega) (Nat.le_refl _)
    refine X12_rightAt_iff.mpr ⟨n, ?_⟩
    refine Eq.trans hn' ?_
    unfold rtO
    rw [if_pos c]
    by_cases c2 : nm < K
    · rw [if_pos (show nm < nt (N 5) by omega)]
      cases c3 : headO N P (fewM N P (gP N nm)) p with
      | none => rw [if_neg (fun z => by cases z.2.2.1)]
      | some v =>
        have : fewM N P (gP N nm) p < 1000000 := by
          unfold headO at c3
          by_cases d1 : fewM N P (gP N nm) p = 0
          · rw [if_pos d1] at c3
            cases c3
          · rw [if_neg d1] at c3
            by_cases d2 : fewM N P (gP N nm) p < 1000000
            · exact d2
            · rw [if_neg d2] at c3
              cases c3
        rw [if_pos ⟨by omega, c2, rfl, this⟩]
    · rw [if_neg (show ¬ nm < nt (N 5) by omega), if_neg (fun z => c2 z.2.1)]
  · have key : ∀ k g best cur, g + k = K → best ≤ 1000000 → ∃ n, X12_rightAt_fam n 0 (nI p) (nI nm) (oI cur) (nI best) (nI g) h = some (some (.inl (oI (rgF N (fun g => headO N P (fewM N P (gP N g)) p) (fun g => fewM N P (gP N g) p) (nI nm - 10) k g best cur))), h) := by
      intro k
      induction k with
      | zero =>
        intro g best cur eg hb
        obtain ⟨n, hn'⟩ := fin (oI cur) (nI best)
        refine ⟨n, ?_⟩
        rw [show g = K by omega]
        exact hn'
      | succ k ih =>
        intro g best cur eg hb
        have g6 : g < 10 := by omega
        have sg : ∀ n, X12_rightAt_g9 (X12_rightAt_fam n) 0 (nI p) (nI nm) (oI cur) (nI best) (nI g) h = if N (136 + 2 * g) = nI nm - 10 then X12_rightAt_g45 (X12_rightAt_fam n) 0 (nI p) (nI nm) (oI cur) (nI best) (nI g) h else X12_rightAt_fam n 0 (nI p) (nI nm) (oI cur) (nI best) (nI (g + 1)) h := fun n => by
          unfold X12_rightAt_g9 X12_rightAt_f9
          rw [nnE (sh_704 a), ixE (x := 5) (j := 5) (ln_41 a) rfl (by decide) (by decide), e 5 (by omega), hK, if_pos (nI_lt (by omega) (by omega)), if_neg (fun z => by have := (nI_eq (by omega) (by omega)).mp z; omega), if_neg (show ¬ nI nm < 10 from nI_nlt (b := 10) (by omega) (by omega)), X12_groupOf_eq a g6, cI_some, e (136 + 2 * g) (by omega), nx]
        rw [rgF_s]
        by_cases c1 : N (136 + 2 * g) = nI nm - 10 ∧ (headO N P (fewM N P (gP N g)) p).isSome = true ∧ fewM N P (gP N g) p < best
        · obtain ⟨n, hn'⟩ := ih (g + 1) (fewM N P (gP N g) p) (headO N P (fewM N P (gP N g)) p) (by omega) (fewM_le N P _ p)
          refine ⟨n + 1, ?_⟩
          show X12_rightAt_g9 (X12_rightAt_fam n) 0 (nI p) (nI nm) (oI cur) (nI best) (nI g) h = _
          rw [sg, if_pos c1.1, st n g best cur (by omega) hb, if_pos c1.2, if_pos c1]
          exact hn'
        · obtain ⟨n, hn'⟩ := ih (g + 1) best cur (by omega) hb
          refine ⟨n + 1, ?_⟩
          show X12_rightAt_g9 (X12_rightAt_fam n) 0 (nI p) (nI nm) (oI cur) (nI best) (nI g) h = _
          rw [sg, if_neg c1]
          by_cases c2 : N (136 + 2 * g) = nI nm - 10
          · rw [if_pos c2, st n g best cur (by omega) hb, if_neg (fun z => c1 ⟨c2, z⟩)]
            exact hn'
          · rw [if_neg c2]
            exact hn'
    obtain ⟨n, hn'⟩ := key K 0 1000000 none (by omega) (Nat.le_refl _)
    refine X12_rightAt_iff.mpr ⟨n, ?_⟩
    unfold rtO
    rw [if_neg c, hKn]
    exact hn'
theorem SH.n59 {h : PH} (a : SH h) : 0 < hN h 59 := a.nl (n := 120) (show (59, 0, 120) ∈ lnList by decide +kernel)
theorem SH.n60 {h : PH} (a : SH h) : 0 < hN h 60 := a.nl (n := 120) (show (60, 0, 120) ∈ lnList by decide +kernel)
theorem findAll_eq {h0 g0 : PH} {b : Nat} {N : Nat → Int32} {P : Nat → Bool} (q : AwE h0 N P) (hs : Hs g0 b N) : ∃ h', X12_findAll 0 h0 = some (none, h') ∧ Fr X12_findAll_W h0 h' ∧ RtE h' N P (nt (N 5)) := by
  obtain ⟨K, hK, h10, hKn, hKi, -⟩ := hs.goals
  obtain ⟨Z, hZ, h12, hZn, hZi, -⟩ := hs.places
  have inner : ∀ g, g < K → ∀ k p h, p + k = Z → Fr X12_findAll_W h0 h → LdE h (fewM N P (gP N g)) → RtE h N P g → (∀ p', p' < p → hI h 3776 0 (12 * g + p') = nI (fewM N P (gP N g) p') ∧ hI h 3840 0 (12 * g + p') = oI (headO N P (fewM N P (gP N g)) p')) → ∃ h1, Fr X12_findAll_W h0 h1 ∧ RtE h1 N P (g + 1) ∧ ∀ n z, (X12_findAll_fam n).1 0 (nI (g + 1)) h1 = some z → ∃ n', (X12_findAll_fam n').2 0 (nI g) (nI p) h = some z := by
    intro g hg k
    induction k with
    | zero =>
      intro p h ep f l t u
      have q' := q.fr f (by decide) (by decide) (by decide)
      refine ⟨h, f, fun g' hg' p' hp' => ?_, fun n z hz => ⟨n + 1, ?_⟩⟩
      · by_cases c : g' = g
        · subst c
          exact u p' (by omega)
        · exact t g' (by omega) p' hp'
      · show X12_findAll_g19 (X12_findAll_fam n) 0 (nI g) (nI p) h = _
        unfold X12_findAll_g19 X12_findAll_f19
        rw [nnE (sh_704 q'.1), ixE (x := 3) (j := 3) (ln_41 q'.1) rfl (by decide) (by decide), q'.2.1, hZ, if_neg (nI_nlt (by omega) (by omega)), nI_1]
        exact hz
    | succ k ih =>
      intro p h ep f l t u
      have q' := q.fr f (by decide) (by decide) (by decide)
      generalize hh1 : pI h 3776 0 (12 * g + p) (nI (fewM N P (gP N g) p)) = h1
      have f1 : Fr X12_findAll_W h0 h1 := by
        subst hh1
        exact f.pI (by decide)
      have q1 := q.fr f1 (by decide) (by decide) (by decide)
      have l1 : LdE h1 (fewM N P (gP N g)) := fun p' hp' => by
        subst hh1
        rw [hI_off _ (by decide)]
        exact l p' hp'
      have e1 := X12_nextFrom_eq q1 hs l1 (fun j => fewM_le N P (gP N g) j) (show p < 12 by omega)
      generalize hh2 : pI h1 3840 0 (12 * g + p) (oI (headO N P (fewM N P (gP N g)) p)) = h2
      have f2 : Fr X12_findAll_W h0 h2 := by
        subst hh2
        exact f1.pI (by decide)
      have v1 : ∀ j, hI h2 3776 0 j = if j = 12 * g + p then nI (fewM N P (gP N g) p) else hI h 3776 0 j := fun j => by
        subst hh2
        rw [hI_off _ (by decide)]
        subst hh1
        rw [hI_pI]
        by_cases c : j = 12 * g + p
        · rw [if_pos ⟨rfl, rfl, c⟩, if_pos c]
        · rw [if_neg (fun z => c z.2.2), if_neg c]
      have v2 : ∀ j, hI h2 3840 0 j = if j = 12 * g + p then oI (headO N P (fewM N P (gP N g)) p) else hI h 3840 0 j := fun j => by
        subst hh2
        rw [hI_pI]
        by_cases c : j = 12 * g + p
        · rw [if_pos ⟨rfl, rfl, c⟩, if_pos c]
        · rw [if_neg (fun z => c z.2.2), if_neg c]
          subst hh1
          rw [hI_off _ (by decide)]
      obtain ⟨h3, f3, t3, k3⟩ := ih (p + 1) h2 (by omega) f2 (fun p' hp' => by
        subst hh2
        rw [hI_off _ (by decide)]
        exact l1 p' hp') (fun g' hg' p' hp' => by
        rw [v1, v2, if_neg (by omega), if_neg (by omega)]
        exact t g' hg' p' hp') (fun p' hp' => by
        by_cases c : p' = p
        · subst c
          rw [v1, v2, if_pos rfl, if_pos rfl]
          exact ⟨rfl, rfl⟩
        · rw [v1, v2, if_neg (by omega), if_neg (by omega)]
          exact u p' (by omega))
      refine ⟨h3, f3, t3, fun n z hz => ?_⟩
      obtain ⟨n', hn'⟩ := k3 n z hz
      refine ⟨n' + 1, ?_⟩
      show X12_findAll_g19 (X12_findAll_fam n') 0 (nI g) (nI p) h = _
      unfold X12_findAll_g19 X12_findAll_f19
      rw [nnE (sh_704 q'.1), ixE (x := 3) (j := 3) (ln_41 q'.1) rfl (by decide) (by decide), q'.2.1, hZ, if_pos (nI_lt (by omega) (by omega)), nnE (sh_730 q'.1), ixE (ln_55 q'.1) rfl (show p < 12 by omega) (by decide), nnE (sh_742 q'.1), ixE (ln_59 q'.1) (m12 g p) (by omega) (by decide), wr_eq, l p (by omega), hh1, e1, cI_some, nnE (sh_743 q1.1), ixE (ln_60 q1.1) (m12 g p) (by omega) (by decide), wr_eq, hh2, nI_1]
      exact hn'
  have outer : ∀ k g h, g + k = K → Fr X12_findAll_W h0 h → RtE h N P g → ∃ n h', (X12_findAll_fam n).1 0 (nI g) h = some (none, h') ∧ Fr X12_findAll_W h0 h' ∧ RtE h' N P K := by
    intro k
    induction k with
    | zero =>
      intro g h eg f t
      have q' := q.fr f (by decide) (by decide) (by decide)
      refine ⟨1, h, ?_, f, by rw [show K = g by omega]; exact t⟩
      show X12_findAll_g2 (X12_findAll_fam 0) 0 (nI g) h = _
      unfold X12_findAll_g2 X12_findAll_f2
      rw [nnE (sh_704 q'.1), ixE (x := 5) (j := 5) (ln_41 q'.1) rfl (by decide) (by decide), q'.2.1, hK, if_neg (nI_nlt (by omega) (by omega))]
    | succ k ih =>
      intro g h eg f t
      have q' := q.fr f (by decide) (by decide) (by decide)
      obtain ⟨h1, e1, l1, f1⟩ := X12_findAway_eq q' hs (show g < nt (N 5) by omega)
      have fA : Fr X12_findAll_W h0 h1 := f.tr (f1.sub (by decide))
      obtain ⟨h2, f2, t2, k2⟩ := inner g (by omega) Z 0 h1 (by omega) fA l1 (fun g' hg' p' hp' => by
        rw [f1.1 3776 0 _ (by decide) q'.1.n59, f1.1 3840 0 _ (by decide) q'.1.n60]
        exact t g' hg' p' hp') (fun p' hp' => by omega)
      obtain ⟨n, h', e3, f3, t3⟩ := ih (g + 1) h2 (by omega) f2 t2
      obtain ⟨n', hn'⟩ := k2 n _ e3
      refine ⟨n' + 1, h', ?_, f3, t3⟩
      show X12_findAll_g2 (X12_findAll_fam n') 0 (nI g) h = _
      unfold X12_findAll_g2 X12_findAll_f2
      rw [nnE (sh_704 q'.1), ixE (x := 5) (j := 5) (ln_41 q'.1) rfl (by decide) (by decide), q'.2.1, hK, if_pos (nI_lt (by omega) (by omega)), e1, cV_some]
      exact hn'
  obtain ⟨n, h', e, f, t⟩ := outer K 0 h0 (by omega) Fr.rf (fun g hg => by omega)
  exact ⟨h', X12_findAll_iff.mpr ⟨n, e⟩, f, by rw [hKn]; exact t⟩
