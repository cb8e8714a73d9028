/-! the rows that break a law, in their order -/
def catL (F : Nat → List (Nat × Nat × Nat)) : Nat → Nat → List (Nat × Nat × Nat)
  | 0, _ => []
  | f + 1, k => F k ++ catL F f (k + 1)
theorem catL_len (F : Nat → List (Nat × Nat × Nat)) (B : Nat) : ∀ f k, (∀ j, k ≤ j → j < k + f → (F j).length ≤ B) → (catL F f k).length ≤ B * f
  | 0, _, _ => Nat.zero_le _
  | f + 1, k, e => by
    have e1 := e k (by omega) (by omega)
    have e2 := catL_len F B f (k + 1) (fun j a b => e j (by omega) (by omega))
    show (F k ++ catL F f (k + 1)).length ≤ _
    rw [List.length_append, Nat.mul_add, Nat.mul_one]
    omega
def lkB (x k : Nat) : Bool := decide (x = 0) || decide (x = k)
def lk1 (N : Nat → Int32) (x s r k : Nat) : List (Nat × Nat × Nat) := bif lkB x k && brB N s r k then [(s, r, k)] else []
def LL (N : Nat → Int32) (x : Nat) : List (Nat × Nat × Nat) := catL (fun s => catL (fun r => catL (lk1 N x s r) 4 1) (sR N s) 0) (nt (N 6)) 0
theorem LL_len {h : PH} {b : Nat} {N : Nat → Int32} (q : Hs h b N) (x : Nat) : (LL N x).length ≤ 336 := by
  obtain ⟨S, hS, h14, hSn, hSi, -⟩ := q.signs
  have e1 : ∀ s, s < nt (N 6) → (catL (fun r => catL (lk1 N x s r) 4 1) (sR N s) 0).length ≤ 24 := fun s hs => by
    obtain ⟨-, -, -, e4, -⟩ := q.sign hs
    have e2 : ∀ r, (catL (lk1 N x s r) 4 1).length ≤ 1 * 4 := fun r => catL_len _ 1 4 1 (fun j _ _ => by
      unfold lk1
      cases lkB x j && brB N s r j
      · exact Nat.zero_le _
      · exact Nat.le_refl _)
    have := catL_len (fun r => catL (lk1 N x s r) 4 1) 4 (sR N s) 0 (fun j _ _ => e2 j)
    omega
  have := catL_len (fun s => catL (fun r => catL (lk1 N x s r) 4 1) (sR N s) 0) 24 (nt (N 6)) 0 (fun j _ b => e1 j (by omega))
  unfold LL
  omega
def BS (W : List Nat × List Nat × Bool) (To : Option Nat) (h0 : PH) (Res : Nat × Nat × Nat → Rs → Prop) (P Q : Nat → Nat → PH → Option Rs) (L : List (Nat × Nat × Nat)) : Prop :=
  ∀ c h, Fr W h0 h → c + L.length < 2 ^ 31 → (∀ t e, To = some t → c ≤ t → L[t - c]? = some e → ∃ n z, P n c h = some z ∧ Res e z) ∧ ((∀ t, To = some t → c + L.length ≤ t) → ∃ h1, Fr W h0 h1 ∧ ∀ n z, Q n (c + L.length) h1 = some z → ∃ n', P n' c h = some z)
theorem BS.app {W : List Nat × List Nat × Bool} {To : Option Nat} {h0 : PH} {Res : Nat × Nat × Nat → Rs → Prop} {P Q S : Nat → Nat → PH → Option Rs} {L1 L2 : List (Nat × Nat × Nat)} (a : BS W To h0 Res P Q L1) (b : BS W To h0 Res Q S L2) : BS W To h0 Res P S (L1 ++ L2) := by
  intro c h hf hl
  rw [List.length_append] at hl
  obtain ⟨a1, a2⟩ := a c h hf (by omega)
  refine ⟨fun t e ht hc he => ?_, fun ht => ?_⟩
  · by_cases d : t - c < L1.length
    · rw [List.getElem?_append_left d] at he
      exact a1 t e ht hc he
    · rw [List.getElem?_append_right (by omega)] at he
      obtain ⟨h1, f1, k1⟩ := a2 (fun t' ht' => by rw [ht] at ht'; cases ht'; omega)
      obtain ⟨b1, -⟩ := b (c + L1.length) h1 f1 (by omega)
      obtain ⟨n, z, hz, hR⟩ := b1 t e ht (by omega) (by rw [show t - (c + L1.length) = t - c - L1.length by omega]; exact he)
      obtain ⟨n', hn'⟩ := k1 n z hz
      exact ⟨n', z, hn', hR⟩
  · rw [List.length_append] at ht ⊢
    obtain ⟨h1, f1, k1⟩ := a2 (fun t' ht' => by have := ht t' ht'; omega)
    obtain ⟨-, c2⟩ := b (c + L1.length) h1 f1 (by omega)
    obtain ⟨h2, f2, k2⟩ := c2 (fun t' ht' => by have := ht t' ht'; omega)
    refine ⟨h2, f2, fun n z hz => ?_⟩
    obtain ⟨n1, hn1⟩ := k2 n z (by rw [Nat.add_assoc]; exact hz)
    exact k1 n1 z hn1
theorem BS.rf {W : List Nat × List Nat × Bool} {To : Option Nat} {h0 : PH} {Res : Nat × Nat × Nat → Rs → Prop} {P : Nat → Nat → PH → Option Rs} : BS W To h0 Res P P [] := fun c h hf _ => ⟨fun t e _ _ he => by simp at he, fun _ => ⟨h, hf, fun n _ hz => ⟨n, hz⟩⟩⟩
theorem BS.go {W : List Nat × List Nat × Bool} {To : Option Nat} {h0 : PH} {Res : Nat × Nat × Nat → Rs → Prop} {P Q : Nat → Nat → PH → Option Rs} (e : ∀ n c h, Fr W h0 h → P (n + 1) c h = Q n c h) : BS W To h0 Res P Q [] := fun c h hf _ => ⟨fun t e _ _ he => by simp at he, fun _ => ⟨h, hf, fun n _ hz => ⟨n + 1, (e n c h hf).trans hz⟩⟩⟩
theorem BS.one {W : List Nat × List Nat × Bool} {To : Option Nat} {h0 : PH} {Res : Nat × Nat × Nat → Rs → Prop} {P Q : Nat → Nat → PH → Option Rs} {e : Nat × Nat × Nat} (k : ∀ c h, Fr W h0 h → c < 2 ^ 31 → (To = some c → ∃ n z, P n c h = some z ∧ Res e z) ∧ (To ≠ some c → ∃ h1, Fr W h0 h1 ∧ ∀ n, P (n + 1) c h = Q n (c + 1) h1)) : BS W To h0 Res P Q [e] := by
  intro c h hf hl
  rw [show [e].length = 1 from rfl] at hl ⊢
  obtain ⟨k1, k2⟩ := k c h hf (by omega)
  refine ⟨fun t e' ht hc he => ?_, fun ht => ?_⟩
  · have d : t = c := by
      rcases Nat.lt_or_ge 0 (t - c) with d | d
      · rw [List.getElem?_eq_none (by show 1 ≤ t - c; omega)] at he
        cases he
      · omega
    subst d
    rw [Nat.sub_self] at he
    cases he
    exact k1 ht
  · obtain ⟨h1, f1, e1⟩ := k2 (fun z => by have := ht c z; omega)
    exact ⟨h1, f1, fun n z hz => ⟨n + 1, (e1 n).trans hz⟩⟩
theorem BS.loop {W : List Nat × List Nat × Bool} {To : Option Nat} {h0 : PH} {Res : Nat × Nat × Nat → Rs → Prop} (P : Nat → Nat → Nat → PH → Option Rs) (F : Nat → List (Nat × Nat × Nat)) : ∀ f k, (∀ j, k ≤ j → j < k + f → BS W To h0 Res (P j) (P (j + 1)) (F j)) → BS W To h0 Res (P k) (P (k + f)) (catL F f k)
  | 0, _, _ => BS.rf
  | f + 1, k, e => by
    have e1 := e k (by omega) (by omega)
    have e2 := BS.loop P F f (k + 1) (fun j a b => e j (by omega) (by omega))
    rw [show k + (f + 1) = k + 1 + f by omega]
    exact e1.app e2
theorem BS.wrap {W : List Nat × List Nat × Bool} {To : Option Nat} {h0 : PH} {Res : Nat × Nat × Nat → Rs → Prop} {P P' Q' Q : Nat → Nat → PH → Option Rs} {L : List (Nat × Nat × Nat)} (a : BS W To h0 Res P P' []) (b : BS W To h0 Res P' Q' L) (c : BS W To h0 Res Q' Q []) : BS W To h0 Res P Q L := by
  have := (a.app b).app c
  rw [List.nil_append, List.append_nil] at this
  exact this
theorem BS.all {W : List Nat × List Nat × Bool} {To : Option Nat} {h0 : PH} {Res : Nat × Nat × Nat → Rs → Prop} {N : Nat → Int32} {x : Nat} (Ps : Nat → Nat → Nat → PH → Option Rs) (Pr Pk : Nat → Nat → Nat → Nat → PH → Option Rs) (Pk' : Nat → Nat → Nat → Nat → Nat → PH → Option Rs)
    (s0 : ∀ s, s < nt (N 6) → ∀ n c h, Fr W h0 h → Ps s (n + 1) c h = Pr s 0 n c h)
    (r1 : ∀ s, s < nt (N 6) → ∀ n c h, Fr W h0 h → Pr s (sR N s) (n + 1) c h = Ps (s + 1) n c h)
    (r0 : ∀ s r, s < nt (N 6) → r < sR N s → ∀ n c h, Fr W h0 h → Pr s r (n + 1) c h = Pk' s r 1 n c h)
    (k5 : ∀ s r, s < nt (N 6) → r < sR N s → ∀ n c h, Fr W h0 h → Pk' s r 5 (n + 1) c h = Pr s (r + 1) n c h)
    (kk : ∀ s r k, s < nt (N 6) → r < sR N s → 1 ≤ k → k ≤ 4 → BS W To h0 Res (Pk' s r k) (Pk' s r (k + 1)) (lk1 N x s r k)) : BS W To h0 Res (Ps 0) (Ps (nt (N 6))) (LL N x) := by
  have e1 := BS.loop (W := W) (To := To) (h0 := h0) (Res := Res) Ps (fun s => catL (fun r => catL (lk1 N x s r) 4 1) (sR N s) 0) (nt (N 6)) 0 (fun s _ hs => by
    have hs' : s < nt (N 6) := by omega
    have e2 := BS.loop (W := W) (To := To) (h0 := h0) (Res := Res) (Pr s) (fun r => catL (lk1 N x s r) 4 1) (sR N s) 0 (fun r _ hr => by
      have hr' : r < sR N s := by omega
      exact BS.wrap (BS.go (r0 s r hs' hr')) (BS.loop (Pk' s r) (lk1 N x s r) 4 1 (fun k h1 h4 => kk s r k hs' hr' h1 (by omega))) (BS.go (k5 s r hs' hr')))
    rw [Nat.zero_add] at e2
    exact BS.wrap (BS.go (s0 s hs')) e2 (BS.go (r1 s hs')))
  rw [Nat.zero_add] at e1
  exact e1
def bsW : List Nat × List Nat × Bool := ([739, 740, 741], [], false)
theorem lkB_if {x k : Nat} (hx : x ≤ 4) (hk : 1 ≤ k ∧ k ≤ 4) (A B C : Option Rs) : (if 4 < nI k then C else if nI x = 0 then A else if nI x = nI k then A else B) = bif lkB x k then A else B := by
  rw [if_neg (show ¬ (4 : Int32) < nI k from nI_nlt (a := 4) (by omega) (by omega))]
  unfold lkB
  by_cases c : x = 0
  · subst c
    rw [if_pos (by decide)]
    rfl
  · rw [if_neg (show ¬ nI x = 0 from fun z => c ((nI_eq (b := 0) (by omega) (by omega)).mp z)), decide_eq_false c, Bool.false_or]
    by_cases c2 : x = k
    · rw [if_pos (by rw [c2]), decide_eq_true c2]
      rfl
    · rw [if_neg (fun z => c2 ((nI_eq (by omega) (by omega)).mp z)), decide_eq_false c2]
      rfl
/-- the class counts them -/
theorem X11_breaches_val {h0 : PH} {N : Nat → Int32} (q : Hs h0 0 N) {x : Nat} (hx : x ≤ 4) : ∃ h1, X11_breaches 0 (nI x) h0 = some (some (.inl (nI (LL N x).length)), h1) ∧ Fr bsW h0 h1 := by
  have hs : ∀ h, Fr bsW h0 h → Hs h 0 N := fun h f => q.fr f (by decide +kernel) (by decide +kernel)
  have all := BS.all (W := bsW) (To := none) (h0 := h0) (Res := fun _ _ => True) (N := N) (x := x) (fun s n c h => (X11_breaches_fam n).1 0 (nI x) (nI c) (nI s) h) (fun s r n c h => (X11_breaches_fam n).2.1 0 (nI x) (nI c) (nI s) (nI r) h) (fun _ _ _ _ _ => none) (fun s r k n c h => (X11_breaches_fam n).2.2 0 (nI x) (nI c) (nI s) (nI r) (nI k) h)
    (fun s hs' n c h f => by
      obtain ⟨S, hS, h14, hSn, hSi, h75⟩ := (hs h f).signs
      show X11_breaches_g16 (X11_breaches_fam n) 0 (nI x) (nI c) (nI s) h = _
      unfold X11_breaches_g16 X11_breaches_f16
      rw [nnE (sh_640 (hs h f).1), h75, if_pos (nI_lt (by omega) (by omega))]
      rfl)
    (fun s hs' n c h f => by
      have q' := hs h f
      obtain ⟨-, -, f3, -⟩ := q'.signF hs'
      obtain ⟨-, -, -, e4, -, e6, -⟩ := q'.sign hs'
      rw [Nat.mul_zero, Nat.zero_add] at f3
      show X11_breaches_g30 (X11_breaches_fam n) 0 (nI x) (nI c) (nI s) (nI (sR N s)) h = _
      unfold X11_breaches_g30 X11_breaches_f30
      rw [nnE (sh_640 q'.1), nnE (sh_68 q'.1 0 (by decide)), ixE (ln_18 q'.1 0 (by decide)) rfl e6 (by decide), sh_1152_0 q'.1 s e6, nnE rfl, f3, if_neg (nI_nlt (by omega) (by omega)), nI_1])
    (fun s r hs' hr n c h f => by
      have q' := hs h f
      obtain ⟨-, -, f3, -⟩ := q'.signF hs'
      obtain ⟨-, -, -, e4, -, e6, -⟩ := q'.sign hs'
      rw [Nat.mul_zero, Nat.zero_add] at f3
      show X11_breaches_g30 (X11_breaches_fam n) 0 (nI x) (nI c) (nI s) (nI r) h = _
      unfold X11_breaches_g30 X11_breaches_f30
      rw [nnE (sh_640 q'.1), nnE (sh_68 q'.1 0 (by decide)), ixE (ln_18 q'.1 0 (by decide)) rfl e6 (by decide), sh_1152_0 q'.1 s e6, nnE rfl, f3, if_pos (nI_lt (by omega) (by omega))]
      rfl)
    (fun s r hs' hr n c h f => by
      show X11_breaches_g50 (X11_breaches_fam n) 0 (nI x) (nI c) (nI s) (nI r) (nI 5) h = _
      unfold X11_breaches_g50 X11_breaches_f50
      rw [if_pos (by decide), nI_1])
    (fun s r k hs' hr h1 h4 => by
      have st : ∀ n c h, Fr bsW h0 h → (X11_breaches_fam (n + 1)).2.2 0 (nI x) (nI c) (nI s) (nI r) (nI k) h = bif lkB x k && brB N s r k then (X11_breaches_fam n).2.2 0 (nI x) (nI (c + 1)) (nI s) (nI r) (nI (k + 1)) h else (X11_breaches_fam n).2.2 0 (nI x) (nI c) (nI s) (nI r) (nI (k + 1)) h := fun n c h f => by
        have q' := hs h f
        show X11_breaches_g50 (X11_breaches_fam n) 0 (nI x) (nI c) (nI s) (nI r) (nI k) h = _
        unfold X11_breaches_g50 X11_breaches_f50
        rw [lkB_if hx ⟨h1, h4⟩]
        cases lkB x k with
        | false =>
          show (X11_breaches_fam n).2.2 0 (nI x) (nI c) (nI s) (nI r) (nI k + 1) h = _
          rw [nI_1]
          rfl
        | true =>
          show X11_breaches_g66 (X11_breaches_fam n) 0 (nI x) (nI c) (nI s) (nI r) (nI k) h = _
          unfold X11_breaches_g66 X11_breaches_f66
          rw [sh_640 q'.1, isBroken_eq q' hs' hr ⟨h1, h4⟩, cI_some]
          cases brB N s r k with
          | false =>
            rw [if_pos b2f]
            show (X11_breaches_fam n).2.2 0 (nI x) (nI c) (nI s) (nI r) (nI k + 1) h = _
            rw [nI_1]
            rfl
          | true =>
            rw [if_neg b2t]
            show (X11_breaches_fam n).2.2 0 (nI x) (nI c + 1) (nI s) (nI r) (nI k + 1) h = _
            rw [nI_1, nI_1]
            rfl
      unfold lk1
      cases e : lkB x k && brB N s r k with
      | false => exact BS.go (fun n c h f => by rw [st n c h f, e]; rfl)
      | true => exact BS.one (fun c h f _ => ⟨fun z => by (cases z), fun _ => ⟨h, f, fun n => by rw [st n c h f, e]; rfl⟩⟩))
  have hl := LL_len q x
  obtain ⟨-, a2⟩ := all 0 h0 Fr.rf (by omega)
  obtain ⟨h1, f1, k1⟩ := a2 (fun t z => by cases z)
  rw [Nat.zero_add] at k1
  obtain ⟨S, hS, h14, hSn, hSi, h75⟩ := (hs h1 f1).signs
  obtain ⟨n, hn⟩ := k1 1 (some (.inl (nI (LL N x).length)), h1) (by
    show X11_breaches_g16 (X11_breaches_fam 0) 0 (nI x) (nI (LL N x).length) (nI (nt (N 6))) h1 = _
    unfold X11_breaches_g16 X11_breaches_f16
    rw [nnE (sh_640 (hs h1 f1).1), h75, if_neg (nI_nlt (by omega) (by omega))])
  refine ⟨h1, X11_breaches_iff.mpr ⟨n, ?_⟩, f1⟩
  unfold X11_breaches_g0 X11_breaches_f0
  rw [if_neg (show ¬ nI x < 0 from nI_nlt (b := 0) (by omega) (by omega)), if_neg (show ¬ (4 : Int32) < nI x from nI_nlt (a := 4) (by omega) (by omega))]
  exact hn
/-- the model runs through them -/
theorem breachesTo_all {h0 g : PH} {b : Nat} {N : Nat → Int32} (a0 : SH h0) (hN0 : hI h0 2624 0 = N) (q : Hs g b N) {x : Nat} (hx : x ≤ 4) (To : Option Nat) (hT : ∀ t, To = some t → t < 2 ^ 31) : BS bsW To h0 (fun e z => ∃ v, z.1 = some (.inl v) ∧ Fr bsW h0 z.2 ∧ hI z.2 739 0 0 = nI e.1 ∧ hI z.2 740 0 0 = nI e.2.1 ∧ hI z.2 741 0 0 = nI e.2.2) (fun n c h => (X12_breachesTo_fam n).1 0 (nI x) (oI To) (nI c) (nI 0) h) (fun n c h => (X12_breachesTo_fam n).1 0 (nI x) (oI To) (nI c) (nI (nt (N 6))) h) (LL N x) := by
  obtain ⟨S, hS, h14, hSn, hSi, -⟩ := q.signs
  have sh : ∀ h, Fr bsW h0 h → SH h := fun h f => a0.fr f (by decide)
  have hN : ∀ h, Fr bsW h0 h → hI h 2624 0 = N := fun h f => (now_fr a0 f (by decide)).trans hN0
  exact BS.all (W := bsW) (To := To) (h0 := h0) (N := N) (x := x) (fun s n c h => (X12_breachesTo_fam n).1 0 (nI x) (oI To) (nI c) (nI s) h) (fun s r n c h => (X12_breachesTo_fam n).2.1 0 (nI x) (oI To) (nI c) (nI s) (nI r) h) (fun _ _ _ _ _ => none) (fun s r k n c h => (X12_breachesTo_fam n).2.2 0 (nI x) (oI To) (nI c) (nI s) (nI r) (nI k) h)
    (fun s hs' n c h f => by
      show X12_breachesTo_g5 (X12_breachesTo_fam n) 0 (nI x) (oI To) (nI c) (nI s) h = _
      unfold X12_breachesTo_g5 X12_breachesTo_f5
      rw [nnE (sh_704 (sh h f)), ixE (x := 6) (j := 6) (ln_41 (sh h f)) rfl (by decide) (by decide), hN h f, hS, if_pos (nI_lt (by omega) (by omega))]
      rfl)
    (fun s hs' n c h f => by
      obtain ⟨-, -, -, e4, -, e6, -⟩ := q.sign hs'
      show X12_breachesTo_g20 (X12_breachesTo_fam n) 0 (nI x) (oI To) (nI c) (nI s) (nI (sR N s)) h = _
      unfold X12_breachesTo_g20 X12_breachesTo_f20
      rw [rowsOf_sR (sh h f) (hN h f) q hs', cI_some, if_neg (nI_nlt (by omega) (by omega)), nI_1])
    (fun s r hs' hr n c h f => by
      obtain ⟨-, -, -, e4, -, e6, -⟩ := q.sign hs'
      show X12_breachesTo_g20 (X12_breachesTo_fam n) 0 (nI x) (oI To) (nI c) (nI s) (nI r) h = _
      unfold X12_breachesTo_g20 X12_breachesTo_f20
      rw [rowsOf_sR (sh h f) (hN h f) q hs', cI_some, if_pos (nI_lt (by omega) (by omega))]
      rfl)
    (fun s r hs' hr n c h f => by
      show X12_breachesTo_g34 (X12_breachesTo_fam n) 0 (nI x) (oI To) (nI c) (nI s) (nI r) (nI 5) h = _
      unfold X12_breachesTo_g34 X12_breachesTo_f34
      rw [if_pos (by decide), nI_1])
    (fun s r k hs' hr h1 h4 => by
      have no : ∀ n c h, X12_breachesTo_g91 (X12_breachesTo_fam n) 0 (nI x) (oI To) (nI c) (nI s) (nI r) (nI k) h = (X12_breachesTo_fam n).2.2 0 (nI x) (oI To) (nI c) (nI s) (nI r) (nI (k + 1)) h := fun n c h => by
        show (X12_breachesTo_fam n).2.2 0 (nI x) (oI To) (nI c) (nI s) (nI r) (nI k + 1) h = _
        rw [nI_1]
      have st : ∀ n c h, Fr bsW h0 h → (X12_breachesTo_fam (n + 1)).2.2 0 (nI x) (oI To) (nI c) (nI s) (nI r) (nI k) h = bif lkB x k && brB N s r k then (if nI c = oI To then some (some (.inl (nI c)), pI (pI (pI h 739 0 0 (nI s)) 740 0 0 (nI r)) 741 0 0 (nI k)) else (X12_breachesTo_fam n).2.2 0 (nI x) (oI To) (nI (c + 1)) (nI s) (nI r) (nI (k + 1)) (pI (pI (pI h 739 0 0 (nI s)) 740 0 0 (nI r)) 741 0 0 (nI k))) else (X12_breachesTo_fam n).2.2 0 (nI x) (oI To) (nI c) (nI s) (nI r) (nI (k + 1)) h := fun n c h f => by
        show X12_breachesTo_g34 (X12_breachesTo_fam n) 0 (nI x) (oI To) (nI c) (nI s) (nI r) (nI k) h = _
        unfold X12_breachesTo_g34 X12_breachesTo_f34
        rw [lkB_if hx ⟨h1, h4⟩]
        cases lkB x k with
        | false => exact no n c h
        | true =>
          show X12_breachesTo_g50 (X12_breachesTo_fam n) 0 (nI x) (oI To) (nI c) (nI s) (nI r) (nI k) h = _
          unfold X12_breachesTo_g50 X12_breachesTo_f50
          rw [isBreach_eq (sh h f) (hN h f) q hs' hr ⟨h1, h4⟩, cI_some]
          cases brB N s r k with
          | false =>
            rw [if_pos b2f]
            exact no n c h
          | true =>
            rw [if_neg b2t, wr_eq, wr_eq, wr_eq, nI_1, no]
            rfl
      unfold lk1
      cases e : lkB x k && brB N s r k with
      | false => exact BS.go (fun n c h f => by rw [st n c h f, e]; rfl)
      | true =>
        refine BS.one (fun c h f hc => ?_)
        have f3 : Fr bsW h0 (pI (pI (pI h 739 0 0 (nI s)) 740 0 0 (nI r)) 741 0 0 (nI k)) := ((f.pI (by decide)).pI (by decide)).pI (by decide)
        refine ⟨fun z => ⟨1, (some (.inl (nI c)), pI (pI (pI h 739 0 0 (nI s)) 740 0 0 (nI r)) 741 0 0 (nI k)), ?_, nI c, rfl, f3, ?_, ?_, ?_⟩, fun z => ⟨_, f3, fun n => ?_⟩⟩
        · show (X12_breachesTo_fam 1).2.2 0 (nI x) (oI To) (nI c) (nI s) (nI r) (nI k) h = _
          rw [st 0 c h f, e, z]
          show (if nI c = nI c then _ else _) = _
          rw [if_pos rfl]
        · rw [hI_off _ (by decide), hI_off _ (by decide), hI_pI, if_pos ⟨rfl, rfl, rfl⟩]
        · rw [hI_off _ (by decide), hI_pI, if_pos ⟨rfl, rfl, rfl⟩]
        · rw [hI_pI, if_pos ⟨rfl, rfl, rfl⟩]
        · show (X12_breachesTo_fam (n + 1)).2.2 0 (nI x) (oI To) (nI c) (nI s) (nI r) (nI k) h = _
          rw [st n c h f, e]
          show (if nI c = oI To then _ else _) = _
          rw [if_neg]
          cases To with
          | none => exact fun y => oI_ne (t := c) hc y
          | some t => exact fun y => z (by rw [(nI_eq hc (hT t rfl)).mp y]))
theorem breachesTo_len {h0 g : PH} {b : Nat} {N : Nat → Int32} (a0 : SH h0) (hN0 : hI h0 2624 0 = N) (q : Hs g b N) {x : Nat} (hx : x ≤ 4) : ∃ h1, X12_breachesTo 0 (nI x) (-1) h0 = some (some (.inl (nI (LL N x).length)), h1) ∧ Fr bsW h0 h1 := by
  obtain ⟨S, hS, h14, hSn, hSi, -⟩ := q.signs
  have hl := LL_len q x
  obtain ⟨-, a2⟩ := breachesTo_all a0 hN0 q hx none (fun t z => by cases z) 0 h0 Fr.rf (by omega)
  obtain ⟨h1, f1, k1⟩ := a2 (fun t z => by cases z)
  rw [Nat.zero_add] at k1
  have a1 : SH h1 := a0.fr f1 (by decide)
  obtain ⟨n, hn⟩ := k1 1 (some (.inl (nI (LL N x).length)), h1) (by
    show X12_breachesTo_g5 (X12_breachesTo_fam 0) 0 (nI x) (oI none) (nI (LL N x).length) (nI (nt (N 6))) h1 = _
    unfold X12_breachesTo_g5 X12_breachesTo_f5
    rw [nnE (sh_704 a1), ixE (x := 6) (j := 6) (ln_41 a1) rfl (by decide) (by decide), now_fr a0 f1 (by decide), hN0, hS, nt_nI (by omega), if_neg (nI_nlt (by omega) (by omega))])
  exact ⟨h1, X12_breachesTo_iff.mpr ⟨n, hn⟩, f1⟩
theorem breachesTo_at {h0 g : PH} {b : Nat} {N : Nat → Int32} (a0 : SH h0) (hN0 : hI h0 2624 0 = N) (q : Hs g b N) {t : Nat} {e : Nat × Nat × Nat} (he : (LL N 0)[t]? = some e) : ∃ v h1, X12_breachesTo 0 0 (nI t) h0 = some (some (.inl v), h1) ∧ Fr bsW h0 h1 ∧ hI h1 739 0 0 = nI e.1 ∧ hI h1 740 0 0 = nI e.2.1 ∧ hI h1 741 0 0 = nI e.2.2 := by
  have hl := LL_len q 0
  have ht : t < (LL N 0).length := by
    rcases Nat.lt_or_ge t (LL N 0).length with d | d
    · exact d
    · rw [List.getElem?_eq_none d] at he
      cases he
  obtain ⟨a1, -⟩ := breachesTo_all a0 hN0 q (x := 0) (by omega) (some t) (fun t' z => by cases z; omega) 0 h0 Fr.rf (by omega)
  obtain ⟨n, z, hz, v, e1, e2⟩ := a1 t e rfl (by omega) he
  obtain ⟨z1, z2⟩ := z
  subst e1
  exact ⟨v, z2, X12_breachesTo_iff.mpr ⟨n, hz⟩, e2⟩
theorem R.bs {m : Nat} {h h' : PH} (r : R m h) (f : Fr bsW h h') : R (m + 1) h' := r.keep f (by decide +kernel) (by decide +kernel) rfl (fun w => (w.fr r.1 f (by decide)).mono)
theorem pair_breaches (m : Nat) (h : PH) (x1 : Int32) (_ : m < 64) (r : R m h) : Pr (R (m + 1)) (X11_breaches 0 x1) (X12_breaches 0 x1) h := by
  have r0 := r
  obtain ⟨a, q, -⟩ := r
  by_cases d1 : x1 < 0
  · refine r0.same (v := -1000000001) ?_ ?_
    · refine X11_breaches_iff.mpr ⟨0, ?_⟩
      unfold X11_breaches_g0 X11_breaches_f0
      rw [if_pos d1]
    · unfold X12_breaches X12_breaches_g0 X12_breaches_f0
      rw [X12_in_eq, cI_some, if_pos d1, if_pos rfl]
  by_cases d2 : 4 < x1
  · refine r0.same (v := -1000000001) ?_ ?_
    · refine X11_breaches_iff.mpr ⟨0, ?_⟩
      unfold X11_breaches_g0 X11_breaches_f0
      rw [if_neg d1, if_pos d2]
    · unfold X12_breaches X12_breaches_g0 X12_breaches_f0
      rw [X12_in_eq, cI_some, if_neg d1, if_pos d2, if_pos rfl]
  obtain ⟨x, hx31, rfl⟩ := nI_of d1
  have hx : x ≤ 4 := by
    rw [i_lt, nI_toInt hx31, show (4 : Int32).toInt = 4 by decide] at d2
    omega
  obtain ⟨h1, c1, f1⟩ := X11_breaches_val q hx
  have a1 : SH h1 := a.fr f1 (by decide)
  obtain ⟨h2, c2, f2⟩ := breachesTo_len a1 (now_fr a f1 (by decide)) q hx
  refine ⟨_, h1, h2, c1, ?_, r0.bs (f1.tr f2)⟩
  unfold X12_breaches X12_breaches_g0 X12_breaches_f0
  rw [X12_in_eq, cI_some, if_neg d1, if_neg d2, if_neg (by decide), c2, cI_some]
