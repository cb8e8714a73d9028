/-! pair: text -/
theorem wf_lv : ∀ {E : List Int32} {d : Nat}, WfL E d → d ≤ lvN E
  | [], d, h => by
    have h : d = 0 := h
    omega
  | v :: E, d, h => by
    show d ≤ (if v < 0 then 0 else 1) + lvN E
    rcases h with ⟨h1, h2, h3, h4⟩ | ⟨h1, h2, h3⟩ | ⟨h1, h2, h3⟩
    · have := wf_lv h4
      rw [if_neg (fun z => by rw [i_lt, i0] at z; omega)]
      omega
    · have := wf_lv h3
      omega
    · have := wf_lv h3
      omega
theorem wf_of {h : PH} {m : Nat} : ∀ {E : List Int32} (n d : Nat), StM 3072 h E → WfL E d → lvN E ≤ m → wfD (hI h 3072 0) m n E.length d → wfD (hI h 3072 0) m (E.length + n) 0 0
  | [], n, d, _, w, _, r => by
    have w : d = 0 := w
    subst w
    rw [List.length_nil, Nat.zero_add]
    exact r
  | v :: E, n, d, s, w, hm, r => by
    have l := wf_lv w
    have s1 : hI h 3072 0 E.length = v := s.1
    have r : wfD (hI h 3072 0) m n (E.length + 1) d := r
    have hm' : lvN E ≤ m := by
      have : lvN (v :: E) = (if v < 0 then 0 else 1) + lvN E := rfl
      omega
    rw [List.length_cons, show E.length + 1 + n = E.length + (n + 1) by omega]
    rcases w with ⟨h1, h2, h3, h4⟩ | ⟨h1, h2, h3⟩ | ⟨h1, h2, h3⟩
    · refine wf_of (n + 1) (d - 1) s.2 h4 hm' (Or.inl ⟨by rw [s1]; exact h1, by rw [s1]; exact h2, by omega, ?_⟩)
      rw [show d - 1 + 1 = d by omega]
      exact r
    · exact wf_of (n + 1) d s.2 h3 hm' (Or.inr (Or.inl ⟨by rw [s1]; exact h1, h2, r⟩))
    · refine wf_of (n + 1) (d + 1) s.2 h3 hm' (Or.inr (Or.inr ⟨by rw [s1]; exact h1, by omega, ?_⟩))
      rw [show d + 1 - 1 = d by omega]
      exact r
theorem st_both {h g : PH} : ∀ {E : List Int32}, StC h E → StM 3072 g E → ∀ j, j < E.length → hI h 1472 0 j = stepOf (hI g 3072 0 j) ∧ hI g 3072 0 j ∈ E
  | [], _, _, j, hj => absurd hj (Nat.not_lt_zero j)
  | v :: E, s, t, j, hj => by
    have hj : j < E.length + 1 := hj
    by_cases c : j = E.length
    · subst c
      exact ⟨by rw [s.1, t.1], by rw [t.1]; exact List.mem_cons_self ..⟩
    · obtain ⟨x1, x2⟩ := st_both s.2 t.2 j (by omega)
      exact ⟨x1, List.mem_cons_of_mem _ x2⟩
theorem tx_ok {h : PH} {L key : Nat} {T : Nat → Nat} {E : List Int32} (q : TpE h L T) (e : (txR T L).1 = some (key, E)) : key < 3 ∧ WfL E 1 ∧ (∀ v ∈ E, v.toInt < (if key = 2 then 10004 else 10003)) ∧ E.length ≤ 92 := by
  have hL := q.1
  have hT : ∀ j, j < L → T j < 256 := fun j hj => (q.2.2 j hj).1
  obtain ⟨v0, -⟩ := lkF_okV hT 0 (b := 0) (by omega)
  unfold txR at e
  cases ck : kyF T (lkF T L 0 0) with
  | none =>
    rw [ck] at e
    cases e
  | some k =>
    rw [ck] at e
    have e : (if (txG T L k).1 = true ∧ (txG T L k).2.1.1 = 0 then (some (k, (txG T L k).2.2), 0) else (none, (txG T L k).2.1.2.1) : Option (Nat × List Int32) × Nat).1 = some (key, E) := e
    obtain ⟨hk, hu, h4b⟩ := ky_some ck
    obtain ⟨o1, o2, o3, o4, o5⟩ := v0.1
    obtain ⟨nv, np⟩ := nx_ok q v0
    obtain ⟨pv, pt⟩ := ps_okT q hk 80 0 (nxF T L (lkF T L 0 0)) 0 0 (by omega) nv
    have er : psF (nxF T L) (lfF T k) 80 0 (nxF T L (lkF T L 0 0)) 0 0 = txG T L k := rfl
    rw [er] at pv pt
    generalize txG T L k = r at e pv pt
    by_cases c : r.1 = true ∧ r.2.1.1 = 0
    · rw [if_pos c] at e
      cases e
      obtain ⟨⟨p1, p2, p3, p4⟩, -⟩ := pt c.1
      obtain ⟨-, w2, w3, -, -⟩ := pv.1
      refine ⟨hk, ?_, p3, by omega⟩
      have := p4 [] 0 rfl
      rw [List.append_nil] at this
      exact this
    · rw [if_neg c] at e
      cases e
theorem TOne.codes {h : PH} {b t : Nat} {N N' : Nat → Int32} (q : TOne h b N t) (e1 : N' (393 + 2 * t) = N (393 + 2 * t)) (e2 : N' (394 + 2 * t) = N (394 + 2 * t)) (hc : ∀ j, j < 96 → codeT N' t j = codeT N t j) : TOne h b N' t := by
  obtain ⟨T, S, V, key, many, atoms, ⟨r1, r2, r3, r4, r5, r6, r7, r8, r9, r10, r11⟩, q2, q3, q4, q5, q6, q7, q8, q9⟩ := q
  have hwf : ∀ n k d, k + n ≤ 96 → wfD (codeT N t) atoms n k d → wfD (codeT N' t) atoms n k d := by
    intro n
    induction n with
    | zero => intro k d hk h; exact h
    | succ n ih =>
      intro k d hk h
      unfold wfD at h ⊢
      rw [hc k (by omega)]
      rcases h with ⟨h1, h2, h3, h4⟩ | ⟨h1, h2, h3⟩ | ⟨h1, h2, h3⟩
      · exact Or.inl ⟨h1, h2, h3, ih _ _ (by omega) h4⟩
      · exact Or.inr (Or.inl ⟨h1, h2, ih _ _ (by omega) h3⟩)
      · exact Or.inr (Or.inr ⟨h1, h2, ih _ _ (by omega) h3⟩)
  exact ⟨T, S, V, key, many, atoms, ⟨r1, r2, r3, r4, r5, r6, r7, r8, r9, r10, fun j hj => by rw [hc j (by omega)]; exact r11 j hj⟩, e1.trans q2, q3, q4, e2.trans q5, q6, q7, hwf _ _ _ (by omega) q8, fun hk j hj => by rw [hc j (by omega)]; exact q9 hk j hj⟩
theorem wfD_cong {c c' : Nat → Int32} {m N : Nat} (hc : ∀ j, j < N → c' j = c j) : ∀ n k d, k + n ≤ N → wfD c m n k d → wfD c' m n k d := by
  intro n
  induction n with
  | zero => intro k d hk h; exact h
  | succ n ih =>
    intro k d hk h
    unfold wfD at h ⊢
    rw [hc k (by omega)]
    rcases h with ⟨h1, h2, h3, h4⟩ | ⟨h1, h2, h3⟩ | ⟨h1, h2, h3⟩
    · exact Or.inl ⟨h1, h2, h3, ih _ _ (by omega) h4⟩
    · exact Or.inr (Or.inl ⟨h1, h2, ih _ _ (by omega) h3⟩)
    · exact Or.inr (Or.inr ⟨h1, h2, ih _ _ (by omega) h3⟩)
theorem key_div : ∀ key, key < 3 → ∀ e, e < 97 → nI (1000 * key + e) / 1000 = nI key := by decide +kernel
def ntF (N C : Nat → Int32) (K key lv e x : Nat) : Int32 := if x = 8 then nI (K + 1) else if 421 + 96 * K ≤ x ∧ x < 421 + 96 * K + e then C (x - (421 + 96 * K)) else if x = 394 + 2 * K then nI lv else if x = 393 + 2 * K then nI (1000 * key + e) else N x
def tnW : List Nat × List Nat × Bool := ([711, 2624], [], false)
/-- the model takes a text in -/
theorem text_in {h : PH} (a0 : SH h) {N : Nat → Int32} (hN : hI h 2624 0 = N) {K key lv e : Nat} (h8 : N 8 = nI K) (hK : K < 14) (hk : hI h 717 0 0 = nI key) (h1 : hI h 721 0 0 = nI e) (h2 : hI h 722 0 0 = nI lv) (he : e ≤ 96) : ∃ n hf, X12_text_g33 (X12_text_fam n) 0 1 h = some (some (.inl (nI K)), hf) ∧ Fr tnW h hf ∧ hI hf 711 0 0 = nI 0 ∧ ∀ x, hI hf 2624 0 x = ntF N (hI h 3072 0) K key lv e x := by
  have e39 : (393 : Int32) + 2 * nI K = nI (393 + 2 * K) := by rw [two_nI, show (393 : Int32) = nI 393 from rfl, nI_add]
  have e42 : ∀ j : Nat, (421 : Int32) + 96 * nI K + nI j = nI (421 + 96 * K + j) := fun j => by rw [show (96 : Int32) = nI 96 from rfl, nI_mul, show (421 : Int32) = nI 421 from rfl, nI_add, nI_add]
  generalize hg1 : pI (pI (pI h 711 0 0 0) 2624 0 (393 + 2 * K) (nI (1000 * key + e))) 2624 0 (394 + 2 * K) (nI lv) = g1
  have f1 : Fr tnW h g1 := by
    subst hg1
    exact ((Fr.rf.pI (by decide)).pI (by decide)).pI (by decide)
  have e711 : hI g1 711 0 0 = nI 0 := by
    subst hg1
    rw [hI_off _ (by decide), hI_off _ (by decide), hI_pI, if_pos ⟨rfl, rfl, rfl⟩]
    rfl
  have v1 : ∀ x, hI g1 2624 0 x = if x = 394 + 2 * K then nI lv else if x = 393 + 2 * K then nI (1000 * key + e) else N x := fun x => by
    subst hg1
    rw [hI_pI]
    by_cases c1 : x = 394 + 2 * K
    · rw [if_pos ⟨rfl, rfl, c1⟩, if_pos c1]
    · rw [if_neg (fun z => c1 z.2.2), if_neg c1, hI_pI]
      by_cases c2 : x = 393 + 2 * K
      · rw [if_pos ⟨rfl, rfl, c2⟩, if_pos c2]
      · rw [if_neg (fun z => c2 z.2.2), if_neg c2, hI_off _ (by decide), hN]
  have loop : ∀ k j y, j + k = e → Fr ([2624], [], false) g1 y → (∀ x, hI y 2624 0 x = if 421 + 96 * K ≤ x ∧ x < 421 + 96 * K + j then hI h 3072 0 (x - (421 + 96 * K)) else hI g1 2624 0 x) → ∃ n hf, X12_text_fam n 0 (nI K) (nI j) y = some (some (.inl (nI K)), hf) ∧ Fr ([2624], [], false) g1 hf ∧ ∀ x, hI hf 2624 0 x = ntF N (hI h 3072 0) K key lv e x := by
    intro k
    induction k with
    | zero =>
      intro j y ej f v
      have ay : SH y := (a0.fr f1 (by decide)).fr f (by decide)
      have y1 : hI y 721 0 0 = nI e := by rw [f.1 721 0 0 (by decide) (a0.fr f1 (by decide)).n11, f1.1 721 0 0 (by decide) a0.n11, h1]
      have y8 : hI y 2624 0 8 = nI K := by rw [v, if_neg (by omega), v1, if_neg (by omega), if_neg (by omega), h8]
      refine ⟨1, pI y 2624 0 8 (nI (K + 1)), ?_, f.pI (by decide), fun x => ?_⟩
      · show X12_text_g119 (X12_text_fam 0) 0 (nI K) (nI j) y = _
        unfold X12_text_g119 X12_text_f119
        rw [y1, if_neg (nI_nlt (by omega) (by omega)), nnE (sh_704 ay), ixE (x := 8) (j := 8) (ln_41 ay) rfl (by decide) (by decide), nnE (sh_704 ay), ixE (x := 8) (j := 8) (ln_41 ay) rfl (by decide) (by decide), y8, nI_1, wr_eq]
      · have ej' : j = e := by omega
        subst ej'
        unfold ntF
        rw [hI_pI]
        by_cases c : x = 8
        · rw [if_pos ⟨rfl, rfl, c⟩, if_pos c]
        · rw [if_neg (fun z => c z.2.2), if_neg c, v x, v1 x]
    | succ k ih =>
      intro j y ej f v
      have ag : SH g1 := a0.fr f1 (by decide)
      have ay : SH y := ag.fr f (by decide)
      have y1 : hI y 721 0 0 = nI e := by rw [f.1 721 0 0 (by decide) ag.n11, f1.1 721 0 0 (by decide) a0.n11, h1]
      have y3 : hI y 3072 0 j = hI h 3072 0 j := by rw [f.1 3072 0 j (by decide) ag.n48, f1.1 3072 0 j (by decide) a0.n48]
      obtain ⟨n, hf, x1, x2⟩ := ih (j + 1) (pI y 2624 0 (421 + 96 * K + j) (hI h 3072 0 j)) (by omega) (f.pI (by decide)) (fun x => by
        rw [hI_pI]
        by_cases c : x = 421 + 96 * K + j
        · subst c
          rw [if_pos ⟨rfl, rfl, rfl⟩, if_pos (by omega), show 421 + 96 * K + j - (421 + 96 * K) = j by omega]
        · rw [if_neg (fun z => c z.2.2), v x]
          by_cases d : 421 + 96 * K ≤ x ∧ x < 421 + 96 * K + j
          · rw [if_pos d, if_pos (by omega)]
          · rw [if_neg d, if_neg (by omega)])
      refine ⟨n + 1, hf, ?_, x2⟩
      show X12_text_g119 (X12_text_fam n) 0 (nI K) (nI j) y = _
      unfold X12_text_g119 X12_text_f119
      rw [y1, if_pos (nI_lt (by omega) (by omega)), nnE (sh_720 ay), ixE (ln_48 ay) rfl (show j < 96 by omega) (by decide), nnE (sh_704 ay), e42, ixE (ln_41 ay) rfl (show 421 + 96 * K + j < 1765 by omega) (by decide), y3, wr_eq, nI_1]
      exact x1
  obtain ⟨n, hf, x1, x2, x3⟩ := loop e 0 g1 (by omega) Fr.rf (fun x => by rw [if_neg (by omega)])
  refine ⟨n, hf, ?_, f1.tr (x2.sub (by decide)), ?_, x3⟩
  · have b8 : SH (pI h 711 0 0 0) := a0
    have b15 : SH (pI (pI h 711 0 0 0) 2624 0 (393 + 2 * K) (nI (1000 * key + e))) := a0
    have e8 : hI (pI h 711 0 0 0) 2624 0 8 = nI K := by rw [hI_off _ (by decide), hN, h8]
    have ek : (1000 : Int32) * nI key + nI e = nI (1000 * key + e) := by rw [show (1000 : Int32) = nI 1000 from rfl, nI_mul, nI_add]
    unfold X12_text_g33 X12_text_f33
    rw [wr_eq, if_neg (by decide), nnE (sh_704 b8), ixE (x := 8) (j := 8) (ln_41 b8) rfl (by decide) (by decide), e8, if_neg (show ¬ nI K = 14 from fun z => by have := (nI_eq (b := 14) (by omega) (by omega)).mp z; omega), nnE (sh_704 b8), ixE (x := 8) (j := 8) (ln_41 b8) rfl (by decide) (by decide), nnE (sh_704 b8), e8, e39, ixE (ln_41 b8) rfl (show 393 + 2 * K < 1765 by omega) (by decide), hI_off _ (by decide), hI_off _ (by decide), hk, h1, ek, wr_eq, nnE (sh_704 b15), nI_1, ixE (ln_41 b15) rfl (show 393 + 2 * K + 1 < 1765 by omega) (by decide), hI_off _ (by decide), hI_off _ (by decide), h2, wr_eq, show 393 + 2 * K + 1 = 394 + 2 * K by omega, hg1]
    exact x1
  · rw [x2.1 711 0 0 (by decide) (a0.fr f1 (by decide)).n11, e711]
