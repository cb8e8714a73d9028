/-! texts: how the class reads -/
def lvN : List Int32 → Nat
  | [] => 0
  | v :: E => (if v < 0 then 0 else 1) + lvN E
theorem lvN_le : ∀ E : List Int32, lvN E ≤ E.length
  | [] => Nat.le_refl _
  | v :: E => by
    have := lvN_le E
    show (if v < 0 then 0 else 1) + lvN E ≤ E.length + 1
    split <;> omega
def StC (h : PH) : List Int32 → Prop
  | [] => True
  | v :: E => hI h 1472 0 E.length = stepOf v ∧ StC h E
theorem StC.off {h : PH} {j : Nat} {x : Int32} : ∀ {E : List Int32}, E.length ≤ j → StC h E → StC (pI h 1472 0 j x) E
  | [], _, _ => trivial
  | v :: E, hj, q => by
    have hj : E.length + 1 ≤ j := hj
    refine ⟨?_, StC.off (by omega) q.2⟩
    rw [hI_pI, if_neg (fun z => by omega)]
    exact q.1
theorem StC.same {h h' : PH} (e : ∀ j, hI h' 1472 0 j = hI h 1472 0 j) : ∀ {E : List Int32}, StC h E → StC h' E
  | [], _ => trivial
  | v :: E, q => ⟨(e _).trans q.1, StC.same e q.2⟩
def CsE (h : PH) (u : Tu) (E : List Int32) (o n : Nat) : Prop := CtE h u ∧ hI h 133 0 0 = -1 ∧ hI h 136 0 0 = nI E.length ∧ StC h E ∧ hI h 137 0 0 = nI (lvN E) ∧ hI h 138 0 0 = nI o ∧ hI h 139 0 0 = nI n
def CfE (h : PH) (s : Nat) : Prop := hI h 133 0 0 = nI s ∧ ∃ c, c ≤ 96 ∧ hI h 136 0 0 = nI c
def rdW : List Nat × List Nat × Bool := ([130, 131, 132, 133, 136, 137, 138, 139, 1472], [], false)
theorem put_c {h : PH} (a : SH h) {e : Nat} (h6 : hI h 136 0 0 = nI e) (he : e < 96) (x : Int32) : X3_put 0 x h = some (none, pI (pI h 1472 0 e x) 136 0 0 (nI (e + 1))) := by
  unfold X3_put X3_put_g0 X3_put_f0
  rw [h6, if_pos (show nI e < 96 from nI_lt (b := 96) he (by decide)), nnE (sh_135 a), ixE (ln_23 a) rfl he (by decide), wr_eq, hI_off _ (by decide), h6, nI_1, wr_eq]
theorem put_f {h : PH} (a : SH h) {s : Nat} (q : CfE h s) (x : Int32) : ∃ h', X3_put 0 x h = some (none, h') ∧ CfE h' s ∧ Fr rdW h h' := by
  obtain ⟨q1, c, q2, q3⟩ := q
  by_cases d : c < 96
  · refine ⟨_, put_c a q3 d x, ⟨?_, c + 1, by omega, ?_⟩, (Fr.rf.pI (by decide)).pI (by decide)⟩
    · rw [hI_off _ (by decide), hI_off _ (by decide), q1]
    · rw [hI_pI, if_pos ⟨rfl, rfl, rfl⟩]
  · refine ⟨h, ?_, ⟨q1, c, q2, q3⟩, Fr.rf⟩
    unfold X3_put X3_put_g0 X3_put_f0
    rw [q3, if_neg (show ¬ nI c < 96 from nI_nlt (b := 96) (by omega) (by omega))]
theorem CsE.put {h : PH} {u : Tu} {E : List Int32} {o n : Nat} (q : CsE h u E o n) {v : Int32} (hv : v < 0) : CsE (pI (pI h 1472 0 E.length (stepOf v)) 136 0 0 (nI (E.length + 1))) u (v :: E) o n := by
  obtain ⟨⟨t1, t2, t3⟩, q1, q2, q3, q4, q5, q6⟩ := q
  have off : ∀ c, c ≠ 1472 → c ≠ 136 → ∀ i j, hI (pI (pI h 1472 0 E.length (stepOf v)) 136 0 0 (nI (E.length + 1))) c i j = hI h c i j := fun c h1 h2 i j => by rw [hI_off _ h2, hI_off _ h1]
  refine ⟨⟨?_, ?_, ?_⟩, ?_, ?_, ⟨?_, ?_⟩, ?_, ?_, ?_⟩
  · rw [off _ (by decide) (by decide), t1]
  · rw [off _ (by decide) (by decide), t2]
  · rw [off _ (by decide) (by decide), t3]
  · rw [off _ (by decide) (by decide), q1]
  · rw [hI_pI, if_pos ⟨rfl, rfl, rfl⟩]
    rfl
  · rw [hI_off _ (by decide), hI_pI, if_pos ⟨rfl, rfl, rfl⟩]
  · exact StC.same (h := pI h 1472 0 E.length (stepOf v)) (fun j => hI_off _ (by decide) _ _ _ _ _) (StC.off (Nat.le_refl _) q3)
  · rw [off _ (by decide) (by decide), q4]
    show nI (lvN E) = nI ((if v < 0 then 0 else 1) + lvN E)
    rw [if_pos hv, Nat.zero_add]
  · rw [off _ (by decide) (by decide), q5]
  · rw [off _ (by decide) (by decide), q6]
theorem CsE.opn {h : PH} {u : Tu} {E : List Int32} {o n : Nat} (q : CsE h u E o n) (o' : Nat) : CsE (pI h 138 0 0 (nI o')) u E o' n := by
  obtain ⟨⟨t1, t2, t3⟩, q1, q2, q3, q4, q5, q6⟩ := q
  refine ⟨⟨?_, ?_, ?_⟩, ?_, ?_, StC.same (h := h) (fun j => hI_off _ (by decide) _ _ _ _ _) q3, ?_, ?_, ?_⟩
  · rw [hI_off _ (by decide), t1]
  · rw [hI_off _ (by decide), t2]
  · rw [hI_off _ (by decide), t3]
  · rw [hI_off _ (by decide), q1]
  · rw [hI_off _ (by decide), q2]
  · rw [hI_off _ (by decide), q4]
  · rw [hI_pI, if_pos ⟨rfl, rfl, rfl⟩]
  · rw [hI_off _ (by decide), q6]
theorem CsE.neg {h : PH} {u : Tu} {E : List Int32} {o n : Nat} (q : CsE h u E o n) (n' : Nat) : CsE (pI h 139 0 0 (nI n')) u E o n' := by
  obtain ⟨⟨t1, t2, t3⟩, q1, q2, q3, q4, q5, q6⟩ := q
  refine ⟨⟨?_, ?_, ?_⟩, ?_, ?_, StC.same (h := h) (fun j => hI_off _ (by decide) _ _ _ _ _) q3, ?_, ?_, ?_⟩
  · rw [hI_off _ (by decide), t1]
  · rw [hI_off _ (by decide), t2]
  · rw [hI_off _ (by decide), t3]
  · rw [hI_off _ (by decide), q1]
  · rw [hI_off _ (by decide), q2]
  · rw [hI_off _ (by decide), q4]
  · rw [hI_off _ (by decide), q5]
  · rw [hI_pI, if_pos ⟨rfl, rfl, rfl⟩]
theorem CfE.off {h : PH} {s c : Nat} {v : Int32} (q : CfE h s) (h1 : (133 : Nat) ≠ c) (h2 : (136 : Nat) ≠ c) : CfE (pI h c 0 0 v) s := by
  obtain ⟨q1, d, q2, q3⟩ := q
  exact ⟨(hI_off _ h1 _ _ _ _ _).trans q1, d, q2, (hI_off _ h2 _ _ _ _ _).trans q3⟩
def nxF (T : Nat → Nat) (L : Nat) (u : Tu) : Tu := lkF T L u.1 u.2.2
theorem SH.n23 {h : PH} (a : SH h) : 0 < hN h 23 := a.nl (n := 96) (show (23, 0, 96) ∈ lnList by decide +kernel)
theorem CsE.look {h : PH} {L : Nat} {T : Nat → Nat} {u : Tu} {E : List Int32} {o n : Nat} (q : CsE h u E o n) (a : SH h) (t : TpE h L T) (v : okU L u) : ∃ h', X3_look 0 h = some (none, h') ∧ CsE h' (nxF T L u) E o n ∧ Fr lkW h h' := by
  obtain ⟨⟨t1, t2, t3⟩, q1, q2, q3, q4, q5, q6⟩ := q
  obtain ⟨h', e, c, f⟩ := look_c a t v.1 t1 t3 v.2.2.1
  exact ⟨h', e, ⟨c, (f.1 133 0 0 (by decide) a.n2).trans q1, (f.1 136 0 0 (by decide) a.n2).trans q2, StC.same (fun j => f.1 1472 0 j (by decide) a.n23) q3, (f.1 137 0 0 (by decide) a.n2).trans q4, (f.1 138 0 0 (by decide) a.n2).trans q5, (f.1 139 0 0 (by decide) a.n2).trans q6⟩, f⟩
theorem tkC_c {k c : Nat} (hk : okK k) (hc : c < 256) : tkC k = nI c ↔ k = c + 5 := by
  have n1 : ∀ z : Int32, z < 0 → ¬ z = nI c := fun z hz e => by
    rw [e] at hz
    exact nI_pos (by omega) hz
  rcases hk with rfl | rfl | rfl | rfl | ⟨h1, h2⟩
  · exact ⟨fun z => absurd z (n1 _ (by decide)), fun z => by omega⟩
  · exact ⟨fun z => absurd z (n1 _ (by decide)), fun z => by omega⟩
  · exact ⟨fun z => absurd z (n1 _ (by decide)), fun z => by omega⟩
  · exact ⟨fun z => absurd z (n1 _ (by decide)), fun z => by omega⟩
  · unfold tkC
    rw [if_neg (by omega), if_neg (by omega), if_neg (by omega), if_neg (by omega), nI_eq (by omega) (by omega)]
    omega
theorem tkC_end {k : Nat} (hk : okK k) : tkC k = -1 ↔ k = 0 := by
  rcases hk with rfl | rfl | rfl | rfl | ⟨h1, h2⟩
  · decide
  · decide
  · decide
  · decide
  · unfold tkC
    rw [if_neg (by omega), if_neg (by omega), if_neg (by omega), if_neg (by omega)]
    exact ⟨fun z => absurd (show nI (k - 5) < 0 by rw [z]; decide) (nI_pos (by omega)), fun z => by omega⟩
theorem lv_iff (k : Nat) : (lvK k = 0 ↔ k = 129) ∧ (lvK k = 1 ↔ k = 43) ∧ (lvK k = 2 ↔ k = 65 ∨ k = 66 ∨ k = 67) ∧ (lvK k = 3 ↔ k = 48 ∨ k = 50) ∧ (lvK k = 4 ↔ k = 47 ∨ k = 52) := by
  by_cases c1 : k = 129
  · subst c1; decide
  by_cases c2 : k = 43
  · subst c2; decide
  by_cases c3 : k = 65
  · subst c3; decide
  by_cases c4 : k = 66
  · subst c4; decide
  by_cases c5 : k = 67
  · subst c5; decide
  by_cases c6 : k = 48
  · subst c6; decide
  by_cases c7 : k = 50
  · subst c7; decide
  by_cases c8 : k = 47
  · subst c8; decide
  by_cases c9 : k = 52
  · subst c9; decide
  unfold lvK
  rw [if_neg c1, if_neg c2, if_neg c3, if_neg c4, if_neg c5, if_neg c6, if_neg c7, if_neg c8, if_neg c9]
  omega
theorem joining_c {h : PH} {k m : Nat} (hk : okK k) (h1 : hI h 130 0 0 = tkC k) (hm : m ≤ 4) : X3_isJoining 0 (nI m) h = some (some (.inl (if lvK k = m then 1 else 0)), h) := by
  obtain ⟨l0, l1, l2, l3, l4⟩ := lv_iff k
  unfold X3_isJoining X3_isJoining_g0 X3_isJoining_f0
  rw [h1, bz_ok (Or.inl rfl), bz_ok (Or.inr rfl)]
  have t : ∀ c, c < 256 → (tkC k = nI c ↔ k = c + 5) := fun c hc => tkC_c hk hc
  have hm5 : m = 0 ∨ m = 1 ∨ m = 2 ∨ m = 3 ∨ m = 4 := by omega
  rcases hm5 with rfl | rfl | rfl | rfl | rfl
  · rw [if_pos (show nI 0 = 0 from rfl)]
    by_cases c : k = 129
    · rw [if_pos (show tkC k = 124 from (t 124 (by decide)).mpr c), if_pos (l0.mpr c)]
    · rw [if_neg (show ¬ tkC k = 124 from fun z => c ((t 124 (by decide)).mp z)), if_neg (fun z => c (l0.mp z))]
  · rw [if_neg (show ¬ nI 1 = 0 by decide), if_pos (show nI 1 = 1 from rfl)]
    by_cases c : k = 43
    · rw [if_pos (show tkC k = 38 from (t 38 (by decide)).mpr c), if_pos (l1.mpr c)]
    · rw [if_neg (show ¬ tkC k = 38 from fun z => c ((t 38 (by decide)).mp z)), if_neg (fun z => c (l1.mp z))]
  · rw [if_neg (show ¬ nI 2 = 0 by decide), if_neg (show ¬ nI 2 = 1 by decide), if_pos (show nI 2 = 2 from rfl)]
    by_cases c : k = 65
    · rw [if_pos (show tkC k = 60 from (t 60 (by decide)).mpr c), if_pos (l2.mpr (Or.inl c))]
    · rw [if_neg (show ¬ tkC k = 60 from fun z => c ((t 60 (by decide)).mp z))]
      by_cases d : k = 66
      · rw [if_pos (show tkC k = 61 from (t 61 (by decide)).mpr d), if_pos (l2.mpr (Or.inr (Or.inl d)))]
      · rw [if_neg (show ¬ tkC k = 61 from fun z => d ((t 61 (by decide)).mp z))]
        by_cases e : k = 67
        · rw [if_pos (show tkC k = 62 from (t 62 (by decide)).mpr e), if_pos (l2.mpr (Or.inr (Or.inr e)))]
        · rw [if_neg (show ¬ tkC k = 62 from fun z => e ((t 62 (by decide)).mp z)), if_neg (fun z => by have := l2.mp z; omega)]
  · rw [if_neg (show ¬ nI 3 = 0 by decide), if_neg (show ¬ nI 3 = 1 by decide), if_neg (show ¬ nI 3 = 2 by decide), if_pos (show nI 3 = 3 from rfl)]
    by_cases c : k = 48
    · rw [if_pos (show tkC k = 43 from (t 43 (by decide)).mpr c), if_pos (l3.mpr (Or.inl c))]
    · rw [if_neg (show ¬ tkC k = 43 from fun z => c ((t 43 (by decide)).mp z))]
      by_cases d : k = 50
      · rw [if_pos (show tkC k = 45 from (t 45 (by decide)).mpr d), if_pos (l3.mpr (Or.inr d))]
      · rw [if_neg (show ¬ tkC k = 45 from fun z => d ((t 45 (by decide)).mp z)), if_neg (fun z => by have := l3.mp z; omega)]
  · rw [if_neg (show ¬ nI 4 = 0 by decide), if_neg (show ¬ nI 4 = 1 by decide), if_neg (show ¬ nI 4 = 2 by decide), if_neg (show ¬ nI 4 = 3 by decide)]
    by_cases c : k = 47
    · rw [if_pos (show tkC k = 42 from (t 42 (by decide)).mpr c), if_pos (l4.mpr (Or.inl c))]
    · rw [if_neg (show ¬ tkC k = 42 from fun z => c ((t 42 (by decide)).mp z))]
      by_cases d : k = 52
      · rw [if_pos (show tkC k = 47 from (t 47 (by decide)).mpr d), if_pos (l4.mpr (Or.inr d))]
      · rw [if_neg (show ¬ tkC k = 47 from fun z => d ((t 47 (by decide)).mp z)), if_neg (fun z => by have := l4.mp z; omega)]
theorem step_num {x : Nat} (hx : x < 10000) : stepOf (nI x) = nI x := by
  unfold stepOf
  rw [if_pos (Int32.not_lt.mp (nI_pos (by omega))), if_pos (show nI x < 10000 from nI_lt (b := 10000) hx (by decide))]
theorem step_name : ∀ i, i < 4 → stepOf (nI (10000 + i)) = -1 - nI i := by decide
section
variable {h : PH} {L key : Nat} {T : Nat → Nat} {u : Tu} {E : List Int32} {o n : Nat} {rl rp : List PV → PH → Option Rs}
theorem pc_leaf (a : SH h) (q : TpE h L T) (hk : key < 3) (h4 : hI h 134 0 0 = nI key) (v : okV T L u) (c : CsE h u E o n) {x : Int32} (e : lfF T key u = some x) : X3_readPiece rl rp 0 h = X3_readPiece_g71 rl rp 0 (stepOf x) 0 h := by
  obtain ⟨o1, o2, o3, o4, o5⟩ := v.1
  have hL := q.1
  obtain ⟨k1, k2⟩ := tkC_w o1
  obtain ⟨ct, c1, -⟩ := c
  unfold X3_readPiece X3_readPiece_g0 X3_readPiece_f0
  unfold lfF at e
  rw [c1, if_pos rfl, ct.1]
  by_cases d1 : u.1 = 2 ∧ u.2.2 - u.2.1 ≤ 4
  · rw [if_pos d1] at e
    cases e
    rw [if_pos (k2.mpr d1.1), ct.2.1, ct.2.2, nI_subN o2, if_neg (show ¬ 4 < nI (u.2.2 - u.2.1) from nI_nlt (a := 4) d1.2 (by omega))]
    unfold X3_readPiece_g48 X3_readPiece_f48
    rw [ct.1, if_pos (k2.mpr d1.1), number_c a q v ct d1.1, cI_some, step_num (num_lt v d1.1 d1.2)]
  · rw [if_neg d1] at e
    by_cases d2 : u.1 = 1 ∧ u.2.2 - u.2.1 = 1
    · rw [if_pos d2] at e
      have hl := of_decide_eq_true (v.2.1 d2.1)
      have nr := name_c a q hk h4 v ct d2.1
      rw [if_pos d2.2] at nr
      cases d3 : nmF key (T u.2.1) with
      | none =>
        rw [d3] at e
        cases e
      | some i =>
        rw [d3] at e nr
        cases e
        have li := nm_lt key hk (T u.2.1) (by omega) i d3
        have l4 : i < 4 := by
          by_cases k2' : key = 2
          · rw [if_pos k2'] at li
            exact li
          · rw [if_neg k2'] at li
            omega
        rw [if_neg (fun z => by have := k2.mp z; omega)]
        unfold X3_readPiece_g31 X3_readPiece_f31
        rw [ct.1, if_pos (k1.mpr d2.1), nr, cI_some, if_neg (oI_ne (t := i) (by omega))]
        unfold X3_readPiece_g48 X3_readPiece_f48
        rw [ct.1, if_neg (fun z => by have := k2.mp z; omega), nr, cI_some, step_name i l4]
        rfl
    · rw [if_neg d2] at e
      cases e
theorem pc_none (a : SH h) (q : TpE h L T) (hk : key < 3) (h4 : hI h 134 0 0 = nI key) (v : okV T L u) (c : CsE h u E o n) (e : lfF T key u = none) : X3_readPiece rl rp 0 h = X3_readPiece_g91 rl rp 0 h := by
  obtain ⟨o1, o2, o3, o4, o5⟩ := v.1
  have hL := q.1
  obtain ⟨k1, k2⟩ := tkC_w o1
  obtain ⟨ct, c1, -⟩ := c
  have g31 : X3_readPiece_g31 rl rp 0 h = X3_readPiece_g91 rl rp 0 h := by
    unfold X3_readPiece_g31 X3_readPiece_f31
    rw [ct.1]
    by_cases d : u.1 = 1
    · rw [if_pos (k1.mpr d), name_c a q hk h4 v ct d, cI_some]
      have : (if u.2.2 - u.2.1 = 1 then nmF key (T u.2.1) else none) = none := by
        by_cases d2 : u.2.2 - u.2.1 = 1
        · unfold lfF at e
          rw [if_neg (fun z => by omega), if_pos ⟨d, d2⟩] at e
          rw [if_pos d2]
          cases d3 : nmF key (T u.2.1) with
          | none => rfl
          | some i =>
            rw [d3] at e
            cases e
        · rw [if_neg d2]
      rw [this, if_pos (show oI none = -1 from rfl)]
    · rw [if_neg (fun z => d (k1.mp z))]
  unfold X3_readPiece X3_readPiece_g0 X3_readPiece_f0
  rw [c1, if_pos rfl, ct.1]
  by_cases d1 : u.1 = 2
  · rw [if_pos (k2.mpr d1), ct.2.1, ct.2.2, nI_subN o2]
    have d2 : ¬ u.2.2 - u.2.1 ≤ 4 := fun z => by
      unfold lfF at e
      rw [if_pos ⟨d1, z⟩] at e
      cases e
    rw [if_pos (show 4 < nI (u.2.2 - u.2.1) from nI_lt (a := 4) (by omega) (by omega)), g31]
  · rw [if_neg (fun z => d1 (k2.mp z)), g31]
end
