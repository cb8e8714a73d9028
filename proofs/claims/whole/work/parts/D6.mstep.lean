/-! texts: how the model reads, step by step -/
def StM (c : Nat) (h : PH) : List Int32 → Prop
  | [] => True
  | v :: S => hI h c 0 S.length = v ∧ StM c h S
theorem StM.off {c : Nat} {h : PH} {j : Nat} {x : Int32} : ∀ {S : List Int32}, S.length ≤ j → StM c h S → StM c (pI h c 0 j x) S
  | [], _, _ => trivial
  | v :: S, hj, q => by
    have hj : S.length + 1 ≤ j := hj
    refine ⟨?_, StM.off (by omega) q.2⟩
    rw [hI_pI, if_neg (fun z => by omega)]
    exact q.1
theorem StM.same {c : Nat} {h h' : PH} (e : ∀ j, hI h' c 0 j = hI h c 0 j) : ∀ {S : List Int32}, StM c h S → StM c h' S
  | [], _ => trivial
  | v :: S, q => ⟨(e _).trans q.1, StM.same e q.2⟩
theorem StM.tail {c : Nat} {h : PH} : ∀ {X S : List Int32}, StM c h (X ++ S) → StM c h S
  | [], _, q => q
  | _ :: X, S, q => StM.tail (X := X) q.2
def nnN : List Int32 → Nat
  | [] => 0
  | v :: S => (if v = -10 then 1 else 0) + nnN S
theorem nnN_le : ∀ S : List Int32, nnN S ≤ S.length
  | [] => Nat.le_refl _
  | v :: S => by
    have := nnN_le S
    show (if v = -10 then 1 else 0) + nnN S ≤ S.length + 1
    split <;> omega
theorem lvN_neg : ∀ {X : List Int32} {D : List Int32}, (∀ v ∈ X, v < 0) → lvN (X ++ D) = lvN D
  | [], _, _ => rfl
  | v :: X, D, h => by
    show (if v < 0 then 0 else 1) + lvN (X ++ D) = lvN D
    rw [if_pos (h v (List.mem_cons_self ..)), Nat.zero_add]
    exact lvN_neg (fun w hw => h w (List.mem_cons_of_mem _ hw))
def MpE (h : PH) (T : Nat → Nat) (u : Tu) (D S : List Int32) : Prop := MtE h T u ∧ hI h 721 0 0 = nI D.length ∧ StM 3072 h D ∧ hI h 722 0 0 = nI (lvN D) ∧ hI h 724 0 0 = nI S.length ∧ StM 3136 h S
theorem MtE.same {h h' : PH} {T : Nat → Nat} {u : Tu} (q : MtE h T u) (e : ∀ c, c = 712 ∨ c = 713 ∨ c = 714 ∨ c = 715 ∨ c = 716 → hI h' c 0 0 = hI h c 0 0) : MtE h' T u := by
  unfold MtE at q ⊢
  rw [e 712 (by omega), e 713 (by omega), e 714 (by omega), e 715 (by omega), e 716 (by omega)]
  exact q
theorem MpE.push {h : PH} {T : Nat → Nat} {u : Tu} {D S : List Int32} (q : MpE h T u D S) (v : Int32) : MpE (pI (pI h 3136 0 S.length v) 724 0 0 (nI (S.length + 1))) T u D (v :: S) := by
  obtain ⟨q1, q2, q3, q4, q5, q6⟩ := q
  have off : ∀ c, c ≠ 3136 → c ≠ 724 → ∀ i j, hI (pI (pI h 3136 0 S.length v) 724 0 0 (nI (S.length + 1))) c i j = hI h c i j := fun c h1 h2 i j => by rw [hI_off _ h2, hI_off _ h1]
  refine ⟨q1.same (fun c hc => off c (by omega) (by omega) 0 0), (off 721 (by decide) (by decide) 0 0).trans q2, StM.same (fun j => off 3072 (by decide) (by decide) 0 j) q3, (off 722 (by decide) (by decide) 0 0).trans q4, ?_, ?_, ?_⟩
  · rw [hI_pI, if_pos ⟨rfl, rfl, rfl⟩]
    rfl
  · rw [hI_off _ (by decide), hI_pI, if_pos ⟨rfl, rfl, rfl⟩]
  · exact StM.same (h := pI h 3136 0 S.length v) (fun j => hI_off _ (by decide) _ _ _ _ _) (StM.off (Nat.le_refl _) q6)
theorem SH.n48 {h : PH} (a : SH h) : 0 < hN h 48 := a.nl (n := 96) (show (48, 0, 96) ∈ lnList by decide +kernel)
theorem SH.n49 {h : PH} (a : SH h) : 0 < hN h 49 := a.nl (n := 96) (show (49, 0, 96) ∈ lnList by decide +kernel)
theorem SH.n50 {h : PH} (a : SH h) : 0 < hN h 50 := a.nl (n := 10) (show (50, 0, 10) ∈ lnList by decide +kernel)
theorem MpE.go {h : PH} {L : Nat} {T : Nat → Nat} {u : Tu} {D S : List Int32} (q : MpE h T u D S) (a : SH h) (t : TmE h L T) (v : okU L u) (hk : u.1 = 1 ∨ u.1 = 2 ∨ 5 ≤ u.1) : ∃ h', X12_go 0 h = some (none, h') ∧ MpE h' T (nxF T L u) D S ∧ Fr gmW h h' := by
  obtain ⟨q1, q2, q3, q4, q5, q6⟩ := q
  obtain ⟨h', e, c, f⟩ := go_m a t q1.2.1 v.2.2.1 (q1.ed hk)
  exact ⟨h', e, ⟨c, (f.1 721 0 0 (by decide) a.n11).trans q2, StM.same (fun j => f.1 3072 0 j (by decide) a.n48) q3, (f.1 722 0 0 (by decide) a.n11).trans q4, (f.1 724 0 0 (by decide) a.n11).trans q5, StM.same (fun j => f.1 3136 0 j (by decide) a.n49) q6⟩, f⟩
theorem rank_eq (v : Int32) (h : PH) : X12_rank v h = some (some (.inl (nI (rkI v))), h) := by
  unfold X12_rank X12_rank_g0 X12_rank_f0 rkI
  by_cases c1 : v = -1
  · rw [if_pos c1, if_pos c1]
    rfl
  · rw [if_neg c1, if_neg c1]
    by_cases c2 : v = -2
    · rw [if_pos c2, if_pos c2]
      rfl
    · rw [if_neg c2, if_neg c2]
      by_cases c3 : v < -5
      · rw [if_pos c3, if_pos c3]
        by_cases c4 : v < -7
        · rw [if_pos c4, if_pos c4]
          by_cases c5 : v < -9
          · rw [if_pos c5, if_pos c5]
            rfl
          · rw [if_neg c5, if_neg c5]
            rfl
        · rw [if_neg c4, if_neg c4]
          rfl
      · rw [if_neg c3, if_neg c3]
        rfl
theorem rkI_le (v : Int32) : rkI v ≤ 6 := by
  unfold rkI
  repeat' split
  all_goals omega
def slW : List Nat × List Nat × Bool := ([721, 724, 3072], [], false)
theorem settle_m {T : Nat → Nat} {u : Tu} {S : List Int32} {r : Nat} (hr : r < 100) (hS : ∀ v S', S = v :: S' → v = -11 ∨ rkI v < r) : ∀ (X D : List Int32) (h : PH), SH h → MpE h T u D (X ++ S) → (∀ v ∈ X, v < 0 ∧ v ≠ -11 ∧ r ≤ rkI v) → D.length + (X ++ S).length ≤ 96 → ∃ h', X12_settle 0 (nI r) h = some (none, h') ∧ MpE h' T u (X.reverse ++ D) S ∧ Fr slW h h' := by
  suffices hh : ∀ (X D : List Int32) (h : PH), SH h → MpE h T u D (X ++ S) → (∀ v ∈ X, v < 0 ∧ v ≠ -11 ∧ r ≤ rkI v) → D.length + (X ++ S).length ≤ 96 → ∃ n h', X12_settle_fam n 0 (nI r) h = some (none, h') ∧ MpE h' T u (X.reverse ++ D) S ∧ Fr slW h h' by
    intro X D h a q hX hc
    obtain ⟨n, h', y1, y2⟩ := hh X D h a q hX hc
    exact ⟨h', X12_settle_iff.mpr ⟨n, y1⟩, y2⟩
  intro X
  induction X with
  | nil =>
    intro D h a q _ hc
    refine ⟨1, h, ?_, q, Fr.rf⟩
    show X12_settle_g0 (X12_settle_fam 0) 0 (nI r) h = _
    unfold X12_settle_g0 X12_settle_f0
    obtain ⟨q1, q2, q3, q4, q5, q6⟩ := q
    have q5 : hI h 724 0 0 = nI S.length := q5
    have q6 : StM 3136 h S := q6
    have hc : D.length + S.length ≤ 96 := hc
    rw [q5]
    cases S with
    | nil => rw [if_neg (by decide)]
    | cons v S' =>
      have hc : D.length + (S'.length + 1) ≤ 96 := hc
      have em : nI (v :: S').length - 1 = nI S'.length := nI_subN (a := S'.length + 1) (b := 1) (by omega)
      have l3 : hI h 3136 0 S'.length = v := q6.1
      rw [if_pos (show 0 < nI (v :: S').length from nI_lt (a := 0) (by rw [List.length_cons]; omega) (by rw [List.length_cons]; omega)), em, nnE (sh_723 a), ixE (ln_49 a) rfl (show S'.length < 96 by omega) (by decide), nnE (sh_723 a), ixE (ln_49 a) rfl (show S'.length < 96 by omega) (by decide), l3]
      by_cases c : v = -11
      · rw [if_pos c]
      · have lt := (hS v S' rfl).resolve_left c
        rw [if_neg c, rank_eq, cI_some, if_pos (nI_lt lt (by omega))]
  | cons v X ih =>
    intro D h a q hX hc
    obtain ⟨v1, v2, v3⟩ := hX v (List.mem_cons_self ..)
    obtain ⟨q1, q2, q3, q4, q5, q6⟩ := q
    have hc : D.length + ((X ++ S).length + 1) ≤ 96 := hc
    have rk := rkI_le v
    have q5 : hI h 724 0 0 = nI ((X ++ S).length + 1) := q5
    have l3 : hI h 3136 0 (X ++ S).length = v := q6.1
    have em : nI ((X ++ S).length + 1) - 1 = nI (X ++ S).length := nI_subN (b := 1) (by omega)
    have b1 : SH (pI h 724 0 0 (nI (X ++ S).length)) := a
    have off : ∀ c, c ≠ 724 → c ≠ 3072 → c ≠ 721 → ∀ i j, hI (pI (pI (pI h 724 0 0 (nI (X ++ S).length)) 3072 0 D.length v) 721 0 0 (nI (D.length + 1))) c i j = hI h c i j := fun c h1 h2 h3 i j => by rw [hI_off _ h3, hI_off _ h2, hI_off _ h1]
    obtain ⟨n, h', y1, y2, y3⟩ := ih (v :: D) (pI (pI (pI h 724 0 0 (nI (X ++ S).length)) 3072 0 D.length v) 721 0 0 (nI (D.length + 1))) a ⟨q1.same (fun c hc => off c (by omega) (by omega) (by omega) 0 0), by rw [hI_pI, if_pos ⟨rfl, rfl, rfl⟩]; rfl, ⟨by rw [hI_off _ (by decide), hI_pI, if_pos ⟨rfl, rfl, rfl⟩], StM.same (h := pI (pI h 724 0 0 (nI (X ++ S).length)) 3072 0 D.length v) (fun j => hI_off _ (by decide) _ _ _ _ _) (StM.off (Nat.le_refl _) (StM.same (fun j => hI_off _ (by decide) _ _ _ _ _) q3))⟩, by
        rw [off 722 (by decide) (by decide) (by decide), q4]
        show nI (lvN D) = nI ((if v < 0 then 0 else 1) + lvN D)
        rw [if_pos v1, Nat.zero_add], by rw [hI_off _ (by decide), hI_off _ (by decide), hI_pI, if_pos ⟨rfl, rfl, rfl⟩], StM.same (fun j => off 3136 (by decide) (by decide) (by decide) 0 j) q6.2⟩ (fun w hw => hX w (List.mem_cons_of_mem _ hw)) (by rw [List.length_cons]; omega)
    refine ⟨n + 1, h', ?_, ?_, (((Fr.rf.pI (by decide)).pI (by decide)).pI (by decide)).tr y3⟩
    · show X12_settle_g0 (X12_settle_fam n) 0 (nI r) h = _
      unfold X12_settle_g0 X12_settle_f0
      rw [q5, if_pos (show 0 < nI ((X ++ S).length + 1) from nI_lt (a := 0) (by omega) (by omega)), em, nnE (sh_723 a), ixE (ln_49 a) rfl (show (X ++ S).length < 96 by omega) (by decide), nnE (sh_723 a), ixE (ln_49 a) rfl (show (X ++ S).length < 96 by omega) (by decide), l3, if_neg v2, rank_eq, cI_some, if_neg (nI_nlt v3 (by omega)), q5, em, wr_eq, nnE (sh_723 b1), hI_pI, if_pos ⟨rfl, rfl, rfl⟩, ixE (ln_49 b1) rfl (show (X ++ S).length < 96 by omega) (by decide), nnE (sh_720 b1), hI_off _ (by decide), q2, ixE (ln_48 b1) rfl (show D.length < 96 by omega) (by decide), hI_off _ (by decide), l3, wr_eq, hI_off _ (by decide), hI_off _ (by decide), q2, nI_1, wr_eq]
      exact y1
    · rw [List.reverse_cons, List.append_assoc]
      exact y2
def nqF (h : PH) : Nat → Nat → Nat
  | 0, _ => 0
  | k + 1, j => (if hI h 3136 0 j = -10 then 1 else 0) + nqF h k (j + 1)
theorem nqF_snoc (h : PH) : ∀ k j, nqF h (k + 1) j = nqF h k j + (if hI h 3136 0 (j + k) = -10 then 1 else 0)
  | 0, j => by
    show (if hI h 3136 0 j = -10 then 1 else 0) + 0 = 0 + (if hI h 3136 0 (j + 0) = -10 then 1 else 0)
    rw [Nat.add_zero, Nat.add_zero, Nat.zero_add]
  | k + 1, j => by
    show (if hI h 3136 0 j = -10 then 1 else 0) + nqF h (k + 1) (j + 1) = (if hI h 3136 0 j = -10 then 1 else 0) + nqF h k (j + 1) + (if hI h 3136 0 (j + (k + 1)) = -10 then 1 else 0)
    rw [nqF_snoc h k (j + 1), show j + 1 + k = j + (k + 1) by omega, Nat.add_assoc]
theorem nq_eq {h : PH} : ∀ {S : List Int32}, StM 3136 h S → nqF h S.length 0 = nnN S
  | [], _ => rfl
  | v :: S, q => by
    show nqF h (S.length + 1) 0 = (if v = -10 then 1 else 0) + nnN S
    rw [nqF_snoc, Nat.zero_add, q.1, nq_eq q.2, Nat.add_comm]
theorem nots_m {h : PH} {T : Nat → Nat} {u : Tu} {D S : List Int32} (a : SH h) (q : MpE h T u D S) (hS : S.length ≤ 96) : X12_notsOpen 0 h = some (some (.inl (nI (nnN S))), h) := by
  obtain ⟨q1, q2, q3, q4, q5, q6⟩ := q
  have loop : ∀ k j x : Nat, j + k = S.length → ∃ n, X12_notsOpen_fam n 0 (nI x) (nI j) h = some (some (.inl (nI (x + nqF h k j))), h) := by
    intro k
    induction k with
    | zero =>
      intro j x e
      refine ⟨1, ?_⟩
      show X12_notsOpen_g4 (X12_notsOpen_fam 0) 0 (nI x) (nI j) h = _
      unfold X12_notsOpen_g4 X12_notsOpen_f4
      rw [q5, if_neg (nI_nlt (by omega) (by omega))]
      rfl
    | succ k ih =>
      intro j x e
      obtain ⟨n, y⟩ := ih (j + 1) (x + (if hI h 3136 0 j = -10 then 1 else 0)) (by omega)
      refine ⟨n + 1, ?_⟩
      have g29 : ∀ s0 : Nat, X12_notsOpen_g29 (X12_notsOpen_fam n) 0 (nI j) (nI s0) (nI x) h = X12_notsOpen_fam n 0 (nI (x + s0)) (nI (j + 1)) h := fun s0 => by
        show X12_notsOpen_fam n 0 (nI x + nI s0) (nI j + 1) h = _
        rw [nI_add, nI_1]
      show X12_notsOpen_g4 (X12_notsOpen_fam n) 0 (nI x) (nI j) h = _
      unfold X12_notsOpen_g4 X12_notsOpen_f4
      rw [q5, if_pos (nI_lt (by omega) (by omega)), nnE (sh_723 a), ixE (ln_49 a) rfl (show j < 96 by omega) (by decide)]
      show (_ : Option Rs) = some (some (.inl (nI (x + ((if hI h 3136 0 j = -10 then 1 else 0) + nqF h k (j + 1))))), h)
      rw [← Nat.add_assoc]
      by_cases c : hI h 3136 0 j = -10
      · rw [if_pos c] at y ⊢
        rw [if_pos c]
        exact (g29 1).trans y
      · rw [if_neg c] at y ⊢
        rw [if_neg c]
        exact (g29 0).trans y
  obtain ⟨n, y⟩ := loop S.length 0 0 (by omega)
  rw [Nat.zero_add, nq_eq q6] at y
  exact X12_notsOpen_iff.mpr ⟨n, y⟩
theorem tkM_w {L : Nat} {u : Tu} (v : okU L u) : (tkM u = 3 ↔ 5 ≤ u.1) ∧ (tkM u = 0 ↔ u.1 = 0) ∧ (tkM u = 1 ↔ u.1 = 1) ∧ (tkM u = 2 ↔ (u.1 = 2 ∧ u.2.2 - u.2.1 ≤ 4)) := by
  unfold tkM
  rcases v.1 with c | c | c | c | ⟨c, -⟩
  · rw [c]
    exact ⟨⟨fun z => absurd (show (0 : Int32) = 3 from z) (by decide), fun z => by omega⟩, ⟨fun _ => rfl, fun _ => rfl⟩, ⟨fun z => absurd (show (0 : Int32) = 1 from z) (by decide), fun z => by omega⟩, ⟨fun z => absurd (show (0 : Int32) = 2 from z) (by decide), fun z => by omega⟩⟩
  · rw [c]
    exact ⟨⟨fun z => absurd (show (1 : Int32) = 3 from z) (by decide), fun z => by omega⟩, ⟨fun z => absurd (show (1 : Int32) = 0 from z) (by decide), fun z => by omega⟩, ⟨fun _ => rfl, fun _ => rfl⟩, ⟨fun z => absurd (show (1 : Int32) = 2 from z) (by decide), fun z => by omega⟩⟩
  · rw [if_neg (by omega), if_neg (by omega), if_pos c]
    by_cases d : u.2.2 - u.2.1 ≤ 4
    · rw [if_pos d]
      exact ⟨⟨fun z => absurd z (by decide), fun z => by omega⟩, ⟨fun z => absurd z (by decide), fun z => by omega⟩, ⟨fun z => absurd z (by decide), fun z => by omega⟩, ⟨fun _ => ⟨c, d⟩, fun _ => rfl⟩⟩
    · rw [if_neg d]
      exact ⟨⟨fun z => absurd z (by decide), fun z => by omega⟩, ⟨fun z => absurd z (by decide), fun z => by omega⟩, ⟨fun z => absurd z (by decide), fun z => by omega⟩, ⟨fun z => absurd z (by decide), fun z => absurd z.2 d⟩⟩
  · rw [if_neg (by omega), if_neg (by omega), if_neg (by omega), if_pos c]
    exact ⟨⟨fun z => absurd z (by decide), fun z => by omega⟩, ⟨fun z => absurd z (by decide), fun z => by omega⟩, ⟨fun z => absurd z (by decide), fun z => by omega⟩, ⟨fun z => absurd z (by decide), fun z => by omega⟩⟩
  · rw [if_neg (by omega), if_neg (by omega), if_neg (by omega), if_neg (by omega)]
    exact ⟨⟨fun _ => c, fun _ => rfl⟩, ⟨fun z => absurd z (by decide), fun z => by omega⟩, ⟨fun z => absurd z (by decide), fun z => by omega⟩, ⟨fun z => absurd z (by decide), fun z => by omega⟩⟩
theorem val_m {h : PH} {L : Nat} {T : Nat → Nat} {u : Tu} (q : MtE h T u) (v : okU L u) (hk : 5 ≤ u.1) {c : Nat} (hc : c < 256) : hI h 715 0 0 = nI c ↔ u.1 = c + 5 := by
  have o1 := v.1
  have : u.1 < 261 := by
    rcases o1 with z | z | z | z | z <;> omega
  rw [q.2.2.2.2.2.1 hk, nI_eq (by omega) (by omega)]
  omega
theorem sign_m {h : PH} {L : Nat} {T : Nat → Nat} {u : Tu} (q : MtE h T u) (v : okU L u) : X12_signHere 0 h = some (some (.inl (if lvK u.1 ≤ 4 then scI u.1 else 0)), h) := by
  obtain ⟨w3, -, -, -⟩ := tkM_w v
  unfold X12_signHere X12_signHere_g0 X12_signHere_f0
  rw [q.2.2.1]
  by_cases c : 5 ≤ u.1
  · have e : ∀ x, x < 256 → (hI h 715 0 0 = nI x ↔ u.1 = x + 5) := fun x hx => val_m q v c hx
    rw [if_pos (w3.mpr c)]
    by_cases c1 : u.1 = 43
    · rw [if_pos (show hI h 715 0 0 = 38 from (e 38 (by decide)).mpr c1), c1]
      rfl
    rw [if_neg (show ¬ hI h 715 0 0 = 38 from fun z => c1 ((e 38 (by decide)).mp z))]
    by_cases c2 : u.1 = 47
    · rw [if_pos (show hI h 715 0 0 = 42 from (e 42 (by decide)).mpr c2), c2]
      rfl
    rw [if_neg (show ¬ hI h 715 0 0 = 42 from fun z => c2 ((e 42 (by decide)).mp z))]
    by_cases c3 : u.1 = 48
    · rw [if_pos (show hI h 715 0 0 = 43 from (e 43 (by decide)).mpr c3), c3]
      rfl
    rw [if_neg (show ¬ hI h 715 0 0 = 43 from fun z => c3 ((e 43 (by decide)).mp z))]
    by_cases c4 : u.1 = 50
    · rw [if_pos (show hI h 715 0 0 = 45 from (e 45 (by decide)).mpr c4), c4]
      rfl
    rw [if_neg (show ¬ hI h 715 0 0 = 45 from fun z => c4 ((e 45 (by decide)).mp z))]
    by_cases c5 : u.1 = 52
    · rw [if_pos (show hI h 715 0 0 = 47 from (e 47 (by decide)).mpr c5), c5]
      rfl
    rw [if_neg (show ¬ hI h 715 0 0 = 47 from fun z => c5 ((e 47 (by decide)).mp z))]
    by_cases c6 : u.1 = 65
    · rw [if_pos (show hI h 715 0 0 = 60 from (e 60 (by decide)).mpr c6), c6]
      rfl
    rw [if_neg (show ¬ hI h 715 0 0 = 60 from fun z => c6 ((e 60 (by decide)).mp z))]
    by_cases c7 : u.1 = 66
    · rw [if_pos (show hI h 715 0 0 = 61 from (e 61 (by decide)).mpr c7), c7]
      rfl
    rw [if_neg (show ¬ hI h 715 0 0 = 61 from fun z => c7 ((e 61 (by decide)).mp z))]
    by_cases c8 : u.1 = 67
    · rw [if_pos (show hI h 715 0 0 = 62 from (e 62 (by decide)).mpr c8), c8]
      rfl
    rw [if_neg (show ¬ hI h 715 0 0 = 62 from fun z => c8 ((e 62 (by decide)).mp z))]
    by_cases c9 : u.1 = 129
    · rw [if_pos (show hI h 715 0 0 = 124 from (e 124 (by decide)).mpr c9), c9]
      rfl
    rw [if_neg (show ¬ hI h 715 0 0 = 124 from fun z => c9 ((e 124 (by decide)).mp z)), if_neg (fun z => by have := lvK_c z; omega)]
  · rw [if_neg (fun z => c (w3.mp z)), if_neg (fun z => by have := lvK_c z; omega)]
theorem nameOf_m {h : PH} {key c : Nat} (hk : key < 3) (h7 : hI h 717 0 0 = nI key) (hc : c < 256) : X12_nameOf 0 (nI c) h = some (some (.inl (oI (nmF key c))), h) := by
  unfold X12_nameOf X12_nameOf_g0 X12_nameOf_f0 nmF
  have e : ∀ x, x < 256 → (nI c = nI x ↔ c = x) := fun x hx => nI_eq (by omega) (by omega)
  have e104 : nI c = 104 ↔ c = 104 := e 104 (by decide)
  have e100 : nI c = 100 ↔ c = 100 := e 100 (by decide)
  have e114 : nI c = 114 ↔ c = 114 := e 114 (by decide)
  have e109 : nI c = 109 ↔ c = 109 := e 109 (by decide)
  have e107 : nI c = 107 ↔ c = 107 := e 107 (by decide)
  have e115 : nI c = 115 ↔ c = 115 := e 115 (by decide)
  have e119 : nI c = 119 ↔ c = 119 := e 119 (by decide)
  rw [h7]
  have hk3 : key = 0 ∨ key = 1 ∨ key = 2 := by omega
  rcases hk3 with rfl | rfl | rfl
  · rw [if_pos (show nI 0 = 0 from rfl), if_pos rfl]
    by_cases d1 : c = 104
    · rw [if_pos (e104.mpr d1), if_pos d1]
      rfl
    rw [if_neg (fun z => d1 (e104.mp z)), if_neg d1]
    by_cases d2 : c = 100
    · rw [if_pos (e100.mpr d2), if_pos d2]
      rfl
    rw [if_neg (fun z => d2 (e100.mp z)), if_neg d2]
    by_cases d3 : c = 114
    · rw [if_pos (e114.mpr d3), if_pos d3]
      rfl
    rw [if_neg (fun z => d3 (e114.mp z)), if_neg d3]
    rfl
  · rw [if_neg (show ¬ nI 1 = 0 by decide), if_pos (show nI 1 = 1 from rfl), if_neg (show ¬ (1 : Nat) = 0 by decide), if_pos (show (1 : Nat) = 1 from rfl)]
    by_cases d1 : c = 104
    · rw [if_pos (e104.mpr d1), if_pos d1]
      rfl
    rw [if_neg (fun z => d1 (e104.mp z)), if_neg d1]
    by_cases d2 : c = 100
    · rw [if_pos (e100.mpr d2), if_pos d2]
      rfl
    rw [if_neg (fun z => d2 (e100.mp z)), if_neg d2]
    by_cases d3 : c = 109
    · rw [if_pos (e109.mpr d3), if_pos d3]
      rfl
    rw [if_neg (fun z => d3 (e109.mp z)), if_neg d3]
    rfl
  · rw [if_neg (show ¬ nI 2 = 0 by decide), if_neg (show ¬ nI 2 = 1 by decide), if_neg (show ¬ (2 : Nat) = 0 by decide), if_neg (show ¬ (2 : Nat) = 1 by decide)]
    by_cases d1 : c = 107
    · rw [if_pos (e107.mpr d1), if_pos d1]
      rfl
    rw [if_neg (fun z => d1 (e107.mp z)), if_neg d1]
    by_cases d2 : c = 115
    · rw [if_pos (e115.mpr d2), if_pos d2]
      rfl
    rw [if_neg (fun z => d2 (e115.mp z)), if_neg d2]
    by_cases d3 : c = 119
    · rw [if_pos (e119.mpr d3), if_pos d3]
      rfl
    rw [if_neg (fun z => d3 (e119.mp z)), if_neg d3]
    by_cases d4 : c = 104
    · rw [if_pos (e104.mpr d4), if_pos d4]
      rfl
    rw [if_neg (fun z => d4 (e104.mp z)), if_neg d4]
    rfl
theorem part_some {h : PH} {L key : Nat} {T : Nat → Nat} {u : Tu} (hL : L ≤ 96) (hk : key < 3) (h7 : hI h 717 0 0 = nI key) (v : okV T L u) (q : MtE h T u) {x : Int32} (e : lfF T key u = some x) : X12_takesPart 0 h = X12_takesPart_g87 0 x (hI h 721 0 0) (hR h 720 0 0) h := by
  obtain ⟨w3, w0, w1, w2⟩ := tkM_w v.1
  obtain ⟨o1, o2, o3, o4, o5⟩ := v.1
  unfold X12_takesPart X12_takesPart_g0 X12_takesPart_f0
  unfold lfF at e
  rw [q.2.2.1]
  by_cases d1 : u.1 = 2 ∧ u.2.2 - u.2.1 ≤ 4
  · rw [if_pos d1] at e
    cases e
    rw [if_neg (fun z => by have := w1.mp z; omega)]
    unfold X12_takesPart_g37 X12_takesPart_f37 X12_takesPart_g52 X12_takesPart_f52
    rw [q.2.2.1, if_pos (w2.mpr d1), if_pos (w2.mpr d1), q.2.2.2.2.1 d1.1 d1.2]
  · rw [if_neg d1] at e
    by_cases d2 : u.1 = 1 ∧ u.2.2 - u.2.1 = 1
    · rw [if_pos d2] at e
      have hl := of_decide_eq_true (v.2.1 d2.1)
      have nm := nameOf_m (c := T u.2.1) hk h7 (by omega)
      cases d3 : nmF key (T u.2.1) with
      | none =>
        rw [d3] at e
        cases e
      | some i =>
        rw [d3] at e nm
        cases e
        have li := nm_lt key hk (T u.2.1) (by omega) i d3
        have l4 : i < 4 := by
          by_cases k2' : key = 2
          · rw [if_pos k2'] at li
            exact li
          · rw [if_neg k2'] at li
            omega
        rw [if_pos (w1.mpr d2.1), q.1, q.2.1, nI_subN o2, d2.2, if_pos (show nI 1 = 1 from rfl), q.2.2.2.1 d2.1, nm, cI_some, if_neg (oI_pos (t := i) (by omega))]
        unfold X12_takesPart_g37 X12_takesPart_f37 X12_takesPart_g52 X12_takesPart_f52
        rw [q.2.2.1, if_neg (fun z => by have := w2.mp z; omega), if_neg (by decide), if_neg (fun z => by have := w2.mp z; omega), q.2.2.2.1 d2.1, nm, cI_some, show oI (some i) = nI i from rfl, show (10000 : Int32) = nI 10000 from rfl, nI_add]
    · rw [if_neg d2] at e
      cases e
theorem part_none {h : PH} {L key : Nat} {T : Nat → Nat} {u : Tu} (hL : L ≤ 96) (hk : key < 3) (h7 : hI h 717 0 0 = nI key) (v : okV T L u) (q : MtE h T u) (e : lfF T key u = none) : X12_takesPart 0 h = some (some (.inl 0), h) := by
  obtain ⟨w3, w0, w1, w2⟩ := tkM_w v.1
  obtain ⟨o1, o2, o3, o4, o5⟩ := v.1
  have n2 : ¬ tkM u = 2 := fun z => by
    have := w2.mp z
    unfold lfF at e
    rw [if_pos this] at e
    cases e
  have g37 : X12_takesPart_g37 0 0 h = some (some (.inl 0), h) := by
    unfold X12_takesPart_g37 X12_takesPart_f37
    rw [q.2.2.1, if_neg n2, if_pos rfl, bz_ok (Or.inl rfl)]
  unfold X12_takesPart X12_takesPart_g0 X12_takesPart_f0
  rw [q.2.2.1]
  by_cases d1 : u.1 = 1
  · have hl := of_decide_eq_true (v.2.1 d1)
    rw [if_pos (w1.mpr d1), q.1, q.2.1, nI_subN o2]
    by_cases d2 : u.2.2 - u.2.1 = 1
    · have nm := nameOf_m (c := T u.2.1) hk h7 (by omega)
      have n0 : nmF key (T u.2.1) = none := by
        unfold lfF at e
        rw [if_neg (fun z => by omega), if_pos ⟨d1, d2⟩] at e
        cases d3 : nmF key (T u.2.1) with
        | none => rfl
        | some i =>
          rw [d3] at e
          cases e
      rw [d2, if_pos (show nI 1 = 1 from rfl), q.2.2.2.1 d1, nm, cI_some, n0, if_pos (show oI none < 0 by decide), g37]
    · rw [if_neg (show ¬ nI (u.2.2 - u.2.1) = 1 from fun z => d2 ((nI_eq (b := 1) (by omega) (by omega)).mp z)), g37]
  · rw [if_neg (fun z => d1 (w1.mp z)), g37]
