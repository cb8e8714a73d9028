/-! pair: fewest -/
def inF (on : Nat → Nat) (B : Nat → Bool) (many : Nat) : Nat → Nat → Option Nat
  | 0, _ => none
  | k + 1, s => if on s = many ∧ B s = true then some s else inF on B many k (s + 1)
def ouF (on : Nat → Nat) (B : Nat → Bool) (T : Nat) : Nat → Nat → Option Nat
  | 0, _ => none
  | k + 1, many => match inF on B many T 0 with
    | some s => some s
    | none => ouF on B T k (many + 1)
def moB (on : Nat → Nat) (s : Nat) : Option Nat → Bool
  | none => true
  | some t => decide (on s < on t)
def moF (on : Nat → Nat) (B : Nat → Bool) : Nat → Nat → Option Nat → Option Nat
  | 0, _, best => best
  | k + 1, s, best => moF on B k (s + 1) (if moB on s best = true ∧ B s = true then some s else best)
theorem moF_s (on : Nat → Nat) (B : Nat → Bool) (k s : Nat) (best : Option Nat) : moF on B (k + 1) s best = moF on B k (s + 1) (if moB on s best = true ∧ B s = true then some s else best) := rfl
theorem inF_s (on : Nat → Nat) (B : Nat → Bool) (many k s : Nat) : inF on B many (k + 1) s = if on s = many ∧ B s = true then some s else inF on B many k (s + 1) := rfl
def IsB (on : Nat → Nat) (B : Nat → Bool) (T : Nat) (o : Option Nat) : Prop := (o = none → ∀ s, s < T → ¬ B s = true) ∧ ∀ s, o = some s → s < T ∧ B s = true ∧ ∀ s', s' < T → B s' = true → on s < on s' ∨ (on s = on s' ∧ s ≤ s')
theorem IsB.uniq {on : Nat → Nat} {B : Nat → Bool} {T : Nat} {o o' : Option Nat} (a : IsB on B T o) (b : IsB on B T o') : o = o' := by
  cases o with
  | none =>
    cases o' with
    | none => rfl
    | some t =>
      obtain ⟨b1, b2, -⟩ := b.2 t rfl
      exact absurd b2 (a.1 rfl t b1)
  | some s =>
    obtain ⟨a1, a2, a3⟩ := a.2 s rfl
    cases o' with
    | none => exact absurd a2 (b.1 rfl s a1)
    | some t =>
      obtain ⟨b1, b2, b3⟩ := b.2 t rfl
      have x1 := a3 t b1 b2
      have x2 := b3 s a1 a2
      have : s = t := by omega
      rw [this]
theorem inF_no {on : Nat → Nat} {B : Nat → Bool} {many : Nat} : ∀ k s, inF on B many k s = none → ∀ t, s ≤ t → t < s + k → ¬ (on t = many ∧ B t = true) := by
  intro k
  induction k with
  | zero => intro s e t h1 h2; omega
  | succ k ih =>
    intro s e t h1 h2
    rw [inF_s] at e
    by_cases c : on s = many ∧ B s = true
    · rw [if_pos c] at e
      cases e
    · rw [if_neg c] at e
      by_cases d : t = s
      · rw [d]
        exact c
      · exact ih (s + 1) e t (by omega) (by omega)
theorem inF_yes {on : Nat → Nat} {B : Nat → Bool} {many : Nat} : ∀ k s v, inF on B many k s = some v → s ≤ v ∧ v < s + k ∧ on v = many ∧ B v = true ∧ ∀ t, s ≤ t → t < v → ¬ (on t = many ∧ B t = true) := by
  intro k
  induction k with
  | zero => intro s v e; cases e
  | succ k ih =>
    intro s v e
    rw [inF_s] at e
    by_cases c : on s = many ∧ B s = true
    · rw [if_pos c] at e
      cases e
      exact ⟨by omega, by omega, c.1, c.2, fun t h1 h2 => by omega⟩
    · rw [if_neg c] at e
      obtain ⟨y1, y2, y3, y4, y5⟩ := ih (s + 1) v e
      refine ⟨by omega, by omega, y3, y4, fun t h1 h2 => ?_⟩
      by_cases d : t = s
      · rw [d]
        exact c
      · exact y5 t (by omega) h2
theorem ouF_is {on : Nat → Nat} {B : Nat → Bool} {T : Nat} : ∀ k many, (∀ s, s < T → B s = true → many ≤ on s) → (∀ s, s < T → on s < many + k) → IsB on B T (ouF on B T k many) := by
  intro k
  induction k with
  | zero =>
    intro many h1 h2
    refine ⟨fun _ s hs hB => ?_, fun s e => by cases e⟩
    have := h1 s hs hB
    have := h2 s hs
    omega
  | succ k ih =>
    intro many h1 h2
    show IsB on B T (match inF on B many T 0 with | some s => some s | none => ouF on B T k (many + 1))
    cases c : inF on B many T 0 with
    | none =>
      refine ih (many + 1) (fun s hs hB => ?_) (fun s hs => by have := h2 s hs; omega)
      have := h1 s hs hB
      have := inF_no T 0 c s (by omega) (by omega)
      have : ¬ on s = many := fun z => this ⟨z, hB⟩
      omega
    | some v =>
      obtain ⟨y1, y2, y3, y4, y5⟩ := inF_yes T 0 v c
      refine ⟨fun z => (by cases z), fun s e => ?_⟩
      cases e
      refine ⟨by omega, y4, fun s' hs' hB => ?_⟩
      have := h1 s' hs' hB
      by_cases d : on s' = many
      · refine Or.inr ⟨by omega, ?_⟩
        by_cases d2 : s' < v
        · exact absurd ⟨d, hB⟩ (y5 s' (by omega) d2)
        · omega
      · exact Or.inl (by omega)
theorem moF_is {on : Nat → Nat} {B : Nat → Bool} : ∀ k s best, IsB on B s best → IsB on B (s + k) (moF on B k s best) := by
  intro k
  induction k with
  | zero => intro s best h; exact h
  | succ k ih =>
    intro s best h
    rw [moF_s, show s + (k + 1) = s + 1 + k by omega]
    refine ih (s + 1) _ ?_
    by_cases c : moB on s best = true ∧ B s = true
    · rw [if_pos c]
      refine ⟨fun z => (by cases z), fun t e => ?_⟩
      cases e
      refine ⟨by omega, c.2, fun s' hs' hB => ?_⟩
      by_cases d : s' = s
      · exact Or.inr ⟨by rw [d], by omega⟩
      · cases best with
        | none => exact absurd hB (h.1 rfl s' (by omega))
        | some t =>
          have lt : on s < on t := of_decide_eq_true c.1
          have := (h.2 t rfl).2.2 s' (by omega) hB
          exact Or.inl (by omega)
    · rw [if_neg c]
      refine ⟨fun z t ht hB => ?_, fun t e => ?_⟩
      · subst z
        by_cases d : t = s
        · subst d
          exact c ⟨rfl, hB⟩
        · exact h.1 rfl t (by omega) hB
      · subst e
        obtain ⟨x1, x2, x3⟩ := h.2 t rfl
        refine ⟨by omega, x2, fun s' hs' hB => ?_⟩
        by_cases d : s' = s
        · subst d
          have : ¬ on s' < on t := fun z => c ⟨decide_eq_true z, hB⟩
          by_cases d2 : on t = on s'
          · exact Or.inr ⟨d2, by omega⟩
          · exact Or.inl (by omega)
        · exact x3 s' (by omega) hB
theorem best_eq {on : Nat → Nat} {B : Nat → Bool} {T C : Nat} (h : ∀ s, s < T → on s ≤ C) : ouF on B T (C + 1) 0 = moF on B T 0 none := by
  have a := ouF_is (on := on) (B := B) (T := T) (C + 1) 0 (fun _ _ _ => by omega) (fun s hs => by have := h s hs; omega)
  have b := moF_is (on := on) (B := B) T 0 none ⟨fun _ s hs => by omega, fun s e => by cases e⟩
  rw [Nat.zero_add] at b
  exact a.uniq b
def cnF (on : Nat → Nat) (many : Nat) : Nat → Nat → Nat
  | 0, _ => 0
  | k + 1, s => (if on s = many then 1 else 0) + cnF on many k (s + 1)
def suF (on : Nat → Nat) (T : Nat) : Nat → Nat → Nat
  | 0, _ => 0
  | k + 1, many => cnF on many T 0 + suF on T k (many + 1)
theorem su_le : ∀ C, C < 7 → suF pc6 (2 ^ C) (C + 1) 0 ≤ 64 := by decide +kernel
theorem pc_le : ∀ C, C < 7 → ∀ s, s < 2 ^ C → pc6 s ≤ C := by decide +kernel
def CaS (B : Nat → Bool) (T i : Nat) (h0 : PH) : Prop := ∀ h s cn, Fr taW h0 h → s < T → WcE h i cn → cn + 12 < 2 ^ 31 → ∃ h', X9_allArriveWith i (nI s) h = some (some (.inl (b2 (B s))), h') ∧ Fr taW h0 h' ∧ OthE h h' i ∧ ∃ c', c' ≤ cn + 12 ∧ WcE h' i c'
theorem fw_in {B : Nat → Bool} {T i many : Nat} {h0 : PH} (hT : T ≤ 64) (hm : many < 100) (st : CaS B T i h0) : ∀ k s h cn, s + k = T → Fr taW h0 h → OthE h0 h i → WcE h i cn → cn + 12 * cnF pc6 many k s < 2 ^ 31 →
    (∃ v z h', inF pc6 B many k s = some v ∧ (X11_fewest_fam z).2 0 (i + 1) (nI T) (nI many) (nI s) h = some (some (.inl (nI v)), h') ∧ Fr taW h0 h' ∧ OthE h0 h' i ∧ ∃ c', c' ≤ cn + 12 * cnF pc6 many k s ∧ WcE h' i c') ∨
    (inF pc6 B many k s = none ∧ ∃ h', Fr taW h0 h' ∧ OthE h0 h' i ∧ (∃ c', c' ≤ cn + 12 * cnF pc6 many k s ∧ WcE h' i c') ∧ ∀ n r, (X11_fewest_fam n).1 0 (i + 1) (nI T) (nI (many + 1)) h' = some r → ∃ n', (X11_fewest_fam n').2 0 (i + 1) (nI T) (nI many) (nI s) h = some r) := by
  intro k
  induction k with
  | zero =>
    intro s h cn e f o w hc
    refine Or.inr ⟨rfl, h, f, o, ⟨cn, by omega, w⟩, fun n r er => ⟨n + 1, ?_⟩⟩
    show X11_fewest_g79 (X11_fewest_fam n) 0 (i + 1) (nI T) (nI many) (nI s) h = some r
    unfold X11_fewest_g79 X11_fewest_f79
    rw [if_neg (nI_nlt (by omega) (by omega)), nI_1]
    exact er
  | succ k ih =>
    intro s h cn e f o w hc
    have ec : cnF pc6 many (k + 1) s = (if pc6 s = many then 1 else 0) + cnF pc6 many k (s + 1) := rfl
    have g108 : ∀ n y, X11_fewest_g108 (X11_fewest_fam n) 0 (i + 1) (nI T) (nI many) (nI s) y = (X11_fewest_fam n).2 0 (i + 1) (nI T) (nI many) (nI (s + 1)) y := fun n y => by
      show (X11_fewest_fam n).2 0 (i + 1) (nI T) (nI many) (nI s + 1) y = _
      rw [nI_1]
    have p6 : pc6 s < 100 := by
      unfold pc6
      omega
    rw [inF_s]
    by_cases c1 : pc6 s = many
    · rw [if_pos c1] at ec
      obtain ⟨h', e1, f1, o1, c', b1, w1⟩ := st h s cn f (by omega) w (by omega)
      have pre : ∀ n, (X11_fewest_fam (n + 1)).2 0 (i + 1) (nI T) (nI many) (nI s) h = if b2 (B s) = 0 then (X11_fewest_fam n).2 0 (i + 1) (nI T) (nI many) (nI (s + 1)) h' else some (some (.inl (nI s)), h') := fun n => by
        show X11_fewest_g79 (X11_fewest_fam n) 0 (i + 1) (nI T) (nI many) (nI s) h = _
        unfold X11_fewest_g79 X11_fewest_f79
        rw [if_pos (nI_lt (by omega) (by omega)), bitCount_eq (by omega), cI_some, c1, if_pos rfl, nnE rfl, e1, cI_some, g108]
      by_cases c2 : B s = true
      · rw [if_pos ⟨c1, c2⟩]
        refine Or.inl ⟨s, 1, h', rfl, ?_, f1, o.tr o1, c', by omega, w1⟩
        rw [pre, c2, if_neg (by decide)]
      · rw [if_neg (fun z => c2 z.2)]
        have bf : B s = false := Bool.eq_false_iff.mpr c2
        rcases ih (s + 1) h' c' (by omega) f1 (o.tr o1) w1 (by omega) with ⟨v, z, h2, y1, y2, y3, y4, c2', y5, y6⟩ | ⟨y1, h2, y2, y3, ⟨c2', y4, y5⟩, y6⟩
        · refine Or.inl ⟨v, z + 1, h2, y1, ?_, y3, y4, c2', by omega, y6⟩
          rw [pre, bf, if_pos (by decide)]
          exact y2
        · refine Or.inr ⟨y1, h2, y2, y3, ⟨c2', by omega, y5⟩, fun n r er => ?_⟩
          obtain ⟨n', z⟩ := y6 n r er
          refine ⟨n' + 1, ?_⟩
          rw [pre, bf, if_pos (by decide)]
          exact z
    · rw [if_neg c1] at ec
      rw [if_neg (fun z => c1 z.1)]
      have pre : ∀ n, (X11_fewest_fam (n + 1)).2 0 (i + 1) (nI T) (nI many) (nI s) h = (X11_fewest_fam n).2 0 (i + 1) (nI T) (nI many) (nI (s + 1)) h := fun n => by
        show X11_fewest_g79 (X11_fewest_fam n) 0 (i + 1) (nI T) (nI many) (nI s) h = _
        unfold X11_fewest_g79 X11_fewest_f79
        rw [if_pos (nI_lt (by omega) (by omega)), bitCount_eq (by omega), cI_some, if_neg (fun z => c1 ((nI_eq (by omega) (by omega)).mp z)), g108]
      rcases ih (s + 1) h cn (by omega) f o w (by omega) with ⟨v, z, h2, y1, y2, y3, y4, c2', y5, y6⟩ | ⟨y1, h2, y2, y3, ⟨c2', y4, y5⟩, y6⟩
      · refine Or.inl ⟨v, z + 1, h2, y1, ?_, y3, y4, c2', by omega, y6⟩
        rw [pre]
        exact y2
      · refine Or.inr ⟨y1, h2, y2, y3, ⟨c2', by omega, y5⟩, fun n r er => ?_⟩
        obtain ⟨n', z⟩ := y6 n r er
        refine ⟨n' + 1, ?_⟩
        rw [pre]
        exact z
theorem fw_out {B : Nat → Bool} {T C i : Nat} {N : Nat → Int32} {h0 : PH} (q0 : Hs h0 0 N) (hC : N 7 = nI C) (hC6 : C ≤ 6) (hT : T ≤ 64) (st : CaS B T i h0) : ∀ k many h cn, many + k = C + 1 → Fr taW h0 h → OthE h0 h i → WcE h i cn → cn + 12 * suF pc6 T k many < 2 ^ 31 → ∃ z h', (X11_fewest_fam z).1 0 (i + 1) (nI T) (nI many) h = some (some (.inl (orV (ouF pc6 B T k many))), h') ∧ Fr taW h0 h' ∧ OthE h0 h' i ∧ ∃ c', c' ≤ cn + 12 * suF pc6 T k many ∧ WcE h' i c' := by
  intro k
  induction k with
  | zero =>
    intro many h cn e f o w hc
    have qh := q0.fr f (by decide +kernel) (by decide +kernel)
    have h77 : hI h 77 0 0 = nI C := qh.2.2.1.1.2.2.2.2.2.1.trans hC
    refine ⟨1, h, ?_, f, o, cn, by omega, w⟩
    show X11_fewest_g64 (X11_fewest_fam 0) 0 (i + 1) (nI T) (nI many) h = _
    unfold X11_fewest_g64 X11_fewest_f64
    rw [nnE (sh_640 qh.1), h77, if_pos (nI_lt (by omega) (by omega))]
    rfl
  | succ k ih =>
    intro many h cn e f o w hc
    have qh := q0.fr f (by decide +kernel) (by decide +kernel)
    have h77 : hI h 77 0 0 = nI C := qh.2.2.1.1.2.2.2.2.2.1.trans hC
    have es : suF pc6 T (k + 1) many = cnF pc6 many T 0 + suF pc6 T k (many + 1) := rfl
    have pre : ∀ n, (X11_fewest_fam (n + 1)).1 0 (i + 1) (nI T) (nI many) h = (X11_fewest_fam n).2 0 (i + 1) (nI T) (nI many) (nI 0) h := fun n => by
      show X11_fewest_g64 (X11_fewest_fam n) 0 (i + 1) (nI T) (nI many) h = _
      unfold X11_fewest_g64 X11_fewest_f64
      rw [nnE (sh_640 qh.1), h77, if_neg (nI_nlt (by omega) (by omega))]
      rfl
    have eo : ouF pc6 B T (k + 1) many = match inF pc6 B many T 0 with | some s => some s | none => ouF pc6 B T k (many + 1) := rfl
    rcases fw_in (many := many) hT (by omega) st T 0 h cn (by omega) f o w (by omega) with ⟨v, z, h2, y1, y2, y3, y4, c2', y5, y6⟩ | ⟨y1, h2, y2, y3, ⟨c2', y4, y5⟩, y6⟩
    · rw [y1] at eo
      refine ⟨z + 1, h2, ?_, y3, y4, c2', by omega, y6⟩
      rw [pre, y2, eo]
      rfl
    · rw [y1] at eo
      obtain ⟨z, h3, x1, x2, x3, c3, x4, x5⟩ := ih (many + 1) h2 c2' (by omega) y2 y3 y5 (by omega)
      obtain ⟨n', x6⟩ := y6 z _ x1
      refine ⟨n' + 1, h3, ?_, x2, x3, c3, by omega, x5⟩
      rw [pre, x6, eo]
def MaS (B : Nat → Bool) (T gl : Nat) (h0 : PH) : Prop := ∀ h s, Fr mgW h0 h → s < T → ∃ h', X12_allArrive 0 (nI gl) (nI s) h = some (some (.inl (b2 (B s))), h') ∧ Fr mgW h0 h'
theorem fm_loop {B : Nat → Bool} {T C gl : Nat} {N : Nat → Int32} {h0 : PH} (a0 : SH h0) (hN0 : hI h0 2624 0 = N) (hC : N 7 = nI C) (hC6 : C ≤ 6) (hT : T = 2 ^ C) (hT64 : T ≤ 64) (st : MaS B T gl h0) : ∀ k s best h, s + k = T → Fr mgW h0 h → (∀ t, best = some t → t < T) → ∃ z h', (X12_fewest_fam z).2 0 (nI gl) (oI best) (nI s) h = some (some (.inl (orV (moF pc6 B k s best))), h') ∧ Fr mgW h0 h' := by
  intro k
  induction k with
  | zero =>
    intro s best h e f hb
    have a : SH h := a0.fr f (by decide)
    have hN : hI h 2624 0 = N := (now_fr a0 f (by decide)).trans hN0
    refine ⟨1, h, ?_, f⟩
    show X12_fewest_g72 (X12_fewest_fam 0) 0 (nI gl) (oI best) (nI s) h = _
    unfold X12_fewest_g72 X12_fewest_f72
    rw [nnE (sh_704 a), ixE (x := 7) (j := 7) (ln_41 a) rfl (by decide) (by decide), hN, hC, shl12 C (by omega), ← hT, if_neg (nI_nlt (by omega) (by omega))]
    cases best with
    | none =>
      rw [if_pos (by decide)]
      rfl
    | some t =>
      have := hb t rfl
      rw [if_neg (oI_pos (t := t) (by omega))]
      rfl
  | succ k ih =>
    intro s best h e f hb
    have a : SH h := a0.fr f (by decide)
    have hN : hI h 2624 0 = N := (now_fr a0 f (by decide)).trans hN0
    have g115 : ∀ n (o : Option Nat) y, X12_fewest_g115 (X12_fewest_fam n) 0 (nI gl) (oI o) (nI s) y = (X12_fewest_fam n).2 0 (nI gl) (oI o) (nI (s + 1)) y := fun n o y => by
      show (X12_fewest_fam n).2 0 (nI gl) (oI o) (nI s + 1) y = _
      rw [nI_1]
    obtain ⟨h2, e2, f2⟩ := st h s f (by omega)
    have g102 : ∀ n, X12_fewest_g102 (X12_fewest_fam n) 0 (nI gl) (oI best) (nI s) h = (X12_fewest_fam n).2 0 (nI gl) (oI (if B s = true then some s else best)) (nI (s + 1)) h2 := fun n => by
      unfold X12_fewest_g102 X12_fewest_f102
      rw [e2, cI_some]
      by_cases c : B s = true
      · rw [if_pos c, c, if_neg (by decide)]
        exact g115 n (some s) h2
      · rw [if_neg c, show B s = false from Bool.eq_false_iff.mpr c, if_pos (by decide), g115]
    have pre : ∀ n, (X12_fewest_fam (n + 1)).2 0 (nI gl) (oI best) (nI s) h = if moB pc6 s best = true then (X12_fewest_fam n).2 0 (nI gl) (oI (if B s = true then some s else best)) (nI (s + 1)) h2 else (X12_fewest_fam n).2 0 (nI gl) (oI best) (nI (s + 1)) h := fun n => by
      show X12_fewest_g72 (X12_fewest_fam n) 0 (nI gl) (oI best) (nI s) h = _
      unfold X12_fewest_g72 X12_fewest_f72
      rw [nnE (sh_704 a), ixE (x := 7) (j := 7) (ln_41 a) rfl (by decide) (by decide), hN, hC, shl12 C (by omega), ← hT, if_pos (nI_lt (by omega) (by omega)), g102]
      cases best with
      | none =>
        rw [if_pos (show oI none < 0 by decide), if_pos (show moB pc6 s none = true from rfl)]
      | some t =>
        have ht := hb t rfl
        have q1 : pc6 s < 100 := by
          unfold pc6
          omega
        have q2 : pc6 t < 100 := by
          unfold pc6
          omega
        rw [if_neg (oI_pos (t := t) (by omega)), ones_eq (by omega), cI_some, show oI (some t) = nI t from rfl, ones_eq (by omega), cI_some]
        by_cases c : pc6 s < pc6 t
        · rw [if_pos (nI_lt c (by omega)), if_pos (show moB pc6 s (some t) = true from decide_eq_true c)]
          exact g102 n
        · rw [if_neg (nI_nlt (by omega) (by omega)), if_neg (show ¬ moB pc6 s (some t) = true from fun z => c (of_decide_eq_true z))]
          exact g115 n (some t) h
    rw [moF_s]
    by_cases c : moB pc6 s best = true
    · have eb : (if moB pc6 s best = true ∧ B s = true then some s else best) = (if B s = true then some s else best) := by
        by_cases d : B s = true
        · rw [if_pos ⟨c, d⟩, if_pos d]
        · rw [if_neg (fun z => d z.2), if_neg d]
      rw [eb]
      obtain ⟨z, h', y1, y2⟩ := ih (s + 1) (if B s = true then some s else best) h2 (by omega) f2 (fun t ht => by
        by_cases d : B s = true
        · rw [if_pos d] at ht
          cases ht
          omega
        · rw [if_neg d] at ht
          exact hb t ht)
      exact ⟨z + 1, h', by rw [pre, if_pos c]; exact y1, y2⟩
    · rw [if_neg (fun z => c z.1)]
      obtain ⟨z, h', y1, y2⟩ := ih (s + 1) best h (by omega) f hb
      exact ⟨z + 1, h', by rw [pre, if_neg c]; exact y1, y2⟩
def fwW : List Nat × List Nat × Bool := ([515, 1536, 1920, 1984, 516, 2048, 2112, 2176, 1600, 521, 523, 524, 525, 526, 527, 2240, 2304, 3264, 3328, 3392, 3456, 3520, 3712, 737, 731, 732, 733, 734, 3584, 3648], [193, 513], false)
def fcW : List Nat × List Nat × Bool := ([515, 1536, 1920, 1984, 516, 2048, 2112, 2176, 1600, 521, 523, 524, 525, 526, 527, 2240, 2304], [193, 513], false)
def fmW : List Nat × List Nat × Bool := ([3264, 3328, 3392, 3456, 3520, 3712, 737, 731, 732, 733, 734, 3584, 3648], [], false)
theorem pair_fewest (m : Nat) (h : PH) (x1 x2 : Int32) (hm : m < 64) (r : R m h) : Pr (R (m + 1)) (X11_fewest 0 x1 x2) (X12_fewest 0 x1 x2) h := by
  have r0 := r
  obtain ⟨a, q, -, -, -, -, -, -, q8, -⟩ := r
  obtain ⟨K, hK, h10, hKn, hKi, h74⟩ := q.goals
  rcases goal_cases q x1 with z | ⟨z, gl, hg, rfl⟩
  · refine r0.same (v := -1000000001) (X11_fewest_iff.mpr ⟨0, ?_⟩) (X12_fewest_iff.mpr ⟨0, ?_⟩)
    · unfold X11_fewest_g0 X11_fewest_f0
      rw [nnE (sh_640 a), X1_hasGoal_eq, cI_some, h74, ← hK, z, if_pos rfl]
    · unfold X12_fewest_g0 X12_fewest_f0
      rw [isGoal_wn a q, cI_some, z, if_pos rfl]
  rcases lit_cases (x := x2) (y := 2) (K := 2) rfl (by decide) with z2 | ⟨z2, i, hi, rfl⟩
  · refine r0.same (v := -1000000001) (X11_fewest_iff.mpr ⟨0, ?_⟩) (X12_fewest_iff.mpr ⟨0, ?_⟩)
    · unfold X11_fewest_g0 X11_fewest_f0
      rw [nnE (sh_640 a), X1_hasGoal_eq, cI_some, h74, ← hK, z, if_neg (by decide), isWithin_wn, cI_some, z2, if_pos rfl]
    · unfold X12_fewest_g0 X12_fewest_f0
      rw [isGoal_wn a q, cI_some, z, if_neg (by decide), wheels_wn, cI_some, z2, if_pos rfl]
  have h20 := q.n20
  have g10 := (q.goal hg).2.2.2.2.2
  obtain ⟨C, c1, c2, c3, c4, c5⟩ := q.chosen
  have hT64 : 2 ^ C ≤ 64 := Nat.pow_le_pow_right (n := 2) (by decide) (show C ≤ 6 from c2)
  obtain ⟨h1, e1, f1, r1, d1, L1⟩ := X9_enter_eq q hi (q8 i hi).1
  have a1 := d1.1.1
  obtain ⟨h2, e2, f2, p2, k2, t2⟩ := X9_headFor_eq d1.1 hi r1 L1 hg
  have d2 := d1.fr f2 (by decide +kernel) (by decide +kernel)
  have a2 := d2.1.1
  obtain ⟨h3, e3, l3, f3, -⟩ := X4_measure_eq d2 hg
  have d3 := d2.fr f3 (by decide +kernel) (by decide +kernel)
  have a3 := d3.1.1
  have w0 : Wk0 h3 i 0 (hI h 2624 0) (fun v => passB (hI h 2624 0) v (nI i)) gl (toF (hI h 2624 0) (nI i) gl) := ⟨d3, (f3.2.1 513 i 0 (by decide) (a2.n8 hi)).trans ((f2.2.1 513 i 0 (by decide) (a1.n8 hi)).trans r1), (f3.1 516 i 0 (by decide) (a2.n8 hi)).trans k2, hg, p2.fr a2 hi f3 (by decide) (by decide), fun p v hv => ⟨by have := (toF_ok q hv).1; obtain ⟨S, s1, s2, s3, -⟩ := q.signs; omega, (toF_ok q hv).2⟩⟩
  have f03 : Fr fcW h h3 := ((f1.sub (by decide)).tr (f2.sub (by decide))).tr (f3.sub (by decide))
  have fW3 : Fr ([515, 1536, 1920, 1984, 516, 2048, 2112, 2176, 1600], [193, 513], false) h h3 := ((f1.sub (by decide)).tr (f2.sub (by decide))).tr (f3.sub (by decide))
  obtain ⟨-, cc, b1, b2', b3⟩ := q8 i hi
  have wc3 : WcE h3 i cc := (show WcE h i cc from ⟨b2', b3⟩).fr a hi fW3 (by decide) (by decide)
  have hZ := fewM_le (hI h 2624 0) (fun v => passB (hI h 2624 0) v (nI i)) (gP (hI h 2624 0) gl)
  -- what is asked of each set
  have st := fun (D : Nat → Bool) (A : Nat → Nat → Bool) (hD : ∀ p, D p = (headO (hI h 2624 0) (fun v => passB (hI h 2624 0) v (nI i)) (fewM (hI h 2624 0) (fun v => passB (hI h 2624 0) v (nI i)) (gP (hI h 2624 0) gl)) p).isSome) (hA : ∀ s p, p < nt (hI h 2624 0 3) → (A s p = true ↔ (wkR (hI h 2624 0) (fun v => passB (hI h 2624 0) v (nI i)) gl (tdF (thS (hI h 2624 0) (headO (hI h 2624 0) (fun v => passB (hI h 2624 0) v (nI i)) (fewM (hI h 2624 0) (fun v => passB (hI h 2624 0) v (nI i)) (gP (hI h 2624 0) gl))) s (nt (hI h 2624 0 7))) (toF (hI h 2624 0) (nI i) gl)) p).1 = 1)) => (fun y s cn fy hs wy hc => arrive_c w0 l3 hZ (by omega) hD (hA s) fy wy hc : CaS (fun s => arF D (A s) (nt (hI h 2624 0 3)) 0) (2 ^ C) i h3)
  have ex : ∃ (D : Nat → Bool) (A : Nat → Nat → Bool), (∀ p, D p = (headO (hI h 2624 0) (fun v => passB (hI h 2624 0) v (nI i)) (fewM (hI h 2624 0) (fun v => passB (hI h 2624 0) v (nI i)) (gP (hI h 2624 0) gl)) p).isSome) ∧ (∀ s p, p < nt (hI h 2624 0 3) → (A s p = true ↔ (wkR (hI h 2624 0) (fun v => passB (hI h 2624 0) v (nI i)) gl (tdF (thS (hI h 2624 0) (headO (hI h 2624 0) (fun v => passB (hI h 2624 0) v (nI i)) (fewM (hI h 2624 0) (fun v => passB (hI h 2624 0) v (nI i)) (gP (hI h 2624 0) gl))) s (nt (hI h 2624 0 7))) (toF (hI h 2624 0) (nI i) gl)) p).1 = 1)) := ⟨_, fun s p => decide _, fun _ => rfl, fun _ _ _ => decide_eq_true_iff⟩
  obtain ⟨D, A, hD, hA⟩ := ex
  have stc := st D A hD hA
  have sule := su_le C (by omega)
  obtain ⟨z4, h4, y1, y2, y3, c', y4, y5⟩ := fw_out d3.1 c1 c2 hT64 stc (C + 1) 0 h3 cc (by omega) Fr.rf OthE.rf wc3 (by omega)
  have f04 : Fr fcW h h4 := f03.tr (y2.sub (by decide))
  have hN4 : hI h4 2624 0 = hI h 2624 0 := now_fr a f04 (by decide)
  have q4 : Hs h4 0 (hI h4 2624 0) := by
    rw [hN4]
    exact q.fr f04 (by decide +kernel) (by decide +kernel)
  have a4 := q4.1
  obtain ⟨h5, h6, e5, e6, aw, ld, f5, f6, rd⟩ := X12_way_out a4 q4 (gl := gl) (by rw [hN4]; exact hg) (nI i)
  rw [hN4] at aw ld rd
  obtain ⟨h7, f7, v7, run7⟩ := leads_loop (gl := gl) aw q ld hZ 12 0 h6 (by omega) Fr.rf (fun p hp => by omega)
  have m7 : Mw0 h7 (hI h 2624 0) (fun v => passB (hI h 2624 0) v (nI i)) (nI i) (fewM (hI h 2624 0) (fun v => passB (hI h 2624 0) v (nI i)) (gP (hI h 2624 0) gl)) := ⟨aw.fr f7 (by decide) (by decide) (by decide), fun s hs => (f7.1 3456 0 s (by decide) aw.1.n54).trans (rd s hs), v7⟩
  have stm : MaS (fun s => arF D (A s) (nt (hI h 2624 0 3)) 0) (2 ^ C) gl h7 := fun y s fy hs => arrive_m m7 q hg (by omega) hD (hA s) fy
  obtain ⟨z8, h8, x1, x2⟩ := fm_loop m7.1.1 m7.1.2.1 c1 c2 rfl hT64 stm (2 ^ C) 0 none h7 (by omega) Fr.rf (fun t ht => by cases ht)
  rw [← best_eq (C := C) (pc_le C (by omega))] at x1
  obtain ⟨n', x3⟩ := run7 z8 _ x1
  have fB : Fr fmW h4 h8 := (((f5.sub (by decide)).tr (f6.sub (by decide))).tr (f7.sub (by decide))).tr (x2.sub (by decide))
  have fA : Fr fwW h h8 := (f04.sub (by decide)).tr (fB.sub (by decide))
  refine ⟨orV (ouF pc6 (fun s => arF D (A s) (nt (hI h 2624 0 3)) 0) (2 ^ C) (C + 1) 0), h4, h8, X11_fewest_iff.mpr ⟨z4, ?_⟩, X12_fewest_iff.mpr ⟨n', ?_⟩, r0.keep fA (by decide +kernel) (by decide +kernel) rfl (fun w => ?_)⟩
  · have h77 : hI h3 77 0 0 = nI C := d3.1.2.2.1.1.2.2.2.2.2.1.trans c1
    unfold X11_fewest_g0 X11_fewest_f0
    rw [nnE (sh_640 a), X1_hasGoal_eq, cI_some, h74, ← hK, z, if_neg (by decide), isWithin_wn, cI_some, z2, if_neg (by decide), nnE (sh_643 a), ixE (ln_37 a) rfl hi (by decide), nnE (sh_2368 a i hi), sh_640 a, e1, cV_some, nnE (sh_2368 a i hi), e2, cV_some, nnE (sh_2368 a i hi), nnE (sh_512 a2 i hi), e3, cV_some, nnE (sh_640 a3), h77, shl12 C (by omega), sh_2368 a i hi]
    exact y1
  · unfold X12_fewest_g0 X12_fewest_f0
    rw [isGoal_wn a4 q4, cI_some, hN4, z, if_neg (by decide), wheels_wn, cI_some, z2, if_neg (by decide), e5, cV_some, e6, cV_some]
    exact x3
  · have o4 : OthE h h4 i := (OthE.fr a fW3 (by decide) (by decide)).tr y3
    exact w.walk (o4.tr (OthE.fr a4 fB (by decide) (by decide))) (fun i' hi' => fA.1 192 i' 0 (by decide) (a.n3 hi')) (y5.fr a4 hi fB (by decide) (by decide)) (k := 768) (by omega) (by omega)
