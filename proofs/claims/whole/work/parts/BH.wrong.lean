/-! rows that are wrong, and mended -/
def mdA (N : Nat → Int32) (U : Nat → Nat → Option Nat) (s r : Nat) : Nat := (U s r).getD (sA N s r)
def mdP (N : Nat → Int32) (U : Nat → Nat → Option Nat) (s0 r0 : Nat) : Nat → Int32 := fun j => if (225 ≤ j ∧ j < 393 ∧ (j - 225) % 2 = 1) ∧ (j - 225) / 12 < nt (N 6) ∧ (j - 225) % 12 / 2 < sR N ((j - 225) / 12) ∧ ((j - 225) / 12 < s0 ∨ ((j - 225) / 12 = s0 ∧ (j - 225) % 12 / 2 < r0)) then nI (mdA N U ((j - 225) / 12) ((j - 225) % 12 / 2)) else N j
theorem mdP_at (N : Nat → Int32) (U : Nat → Nat → Option Nat) (s0 r0 : Nat) {s r : Nat} (hs : s < 14) (hr : r < 6) : mdP N U s0 r0 (226 + 12 * s + 2 * r) = if s < nt (N 6) ∧ r < sR N s ∧ (s < s0 ∨ (s = s0 ∧ r < r0)) then nI (mdA N U s r) else N (226 + 12 * s + 2 * r) := by
  have e1 : (226 + 12 * s + 2 * r - 225) / 12 = s := by omega
  have e2 : (226 + 12 * s + 2 * r - 225) % 12 / 2 = r := by omega
  have e3 : 225 ≤ 226 + 12 * s + 2 * r ∧ 226 + 12 * s + 2 * r < 393 ∧ (226 + 12 * s + 2 * r - 225) % 2 = 1 := by omega
  unfold mdP
  rw [e1, e2]
  by_cases c : s < nt (N 6) ∧ r < sR N s ∧ (s < s0 ∨ (s = s0 ∧ r < r0))
  · rw [if_pos ⟨e3, c⟩, if_pos c]
  · rw [if_neg (fun z => c z.2), if_neg c]
theorem mdP_off (N : Nat → Int32) (U : Nat → Nat → Option Nat) (s0 r0 : Nat) {j : Nat} (hj : j < 225 ∨ 393 ≤ j ∨ (j - 225) % 2 = 0) : mdP N U s0 r0 j = N j := by
  unfold mdP
  rw [if_neg]
  intro z
  omega
theorem mdP_ext {N : Nat → Int32} {U : Nat → Nat → Option Nat} {X : Nat → Int32} {s0 r0 : Nat} (h1 : ∀ s r, s < 14 → r < 6 → X (226 + 12 * s + 2 * r) = mdP N U s0 r0 (226 + 12 * s + 2 * r)) (h2 : ∀ j, j < 225 ∨ 393 ≤ j ∨ (j - 225) % 2 = 0 → X j = N j) : X = mdP N U s0 r0 := by
  funext j
  by_cases c : j < 225 ∨ 393 ≤ j ∨ (j - 225) % 2 = 0
  · rw [h2 j c, mdP_off N U s0 r0 c]
  · have e : j = 226 + 12 * ((j - 225) / 12) + 2 * ((j - 225) % 12 / 2) := by omega
    have := h1 ((j - 225) / 12) ((j - 225) % 12 / 2) (by omega) (by omega)
    rw [← e] at this
    exact this
theorem mdP_0 (N : Nat → Int32) (U : Nat → Nat → Option Nat) : N = mdP N U 0 0 := mdP_ext (fun s r hs hr => by rw [mdP_at N U 0 0 hs hr, if_neg (fun z => by omega)]) (fun j _ => rfl)
theorem mdP_row (N : Nat → Int32) (U : Nat → Nat → Option Nat) (s0 : Nat) : mdP N U s0 (sR N s0) = mdP N U (s0 + 1) 0 := mdP_ext (fun s r hs hr => by
  rw [mdP_at N U _ _ hs hr, mdP_at N U _ _ hs hr]
  by_cases c : s < nt (N 6) ∧ r < sR N s ∧ (s < s0 ∨ (s = s0 ∧ r < sR N s0))
  · rw [if_pos c, if_pos ⟨c.1, c.2.1, by omega⟩]
  · rw [if_neg c, if_neg (fun z => c ⟨z.1, z.2.1, by
      by_cases d : s = s0
      · subst d
        exact Or.inr ⟨rfl, z.2.1⟩
      · exact Or.inl (by omega)⟩)]) (fun j hj => mdP_off N U _ _ hj)
theorem mdP_step (N : Nat → Int32) (U : Nat → Nat → Option Nat) {s0 r0 : Nat} (hs : s0 < nt (N 6)) (hs14 : s0 < 14) (hr : r0 < sR N s0) (hr6 : r0 < 6) : updF (mdP N U s0 r0) (226 + 12 * s0 + 2 * r0) (nI (mdA N U s0 r0)) = mdP N U s0 (r0 + 1) := mdP_ext (fun s r hs' hr' => by
  unfold updF
  by_cases c : 226 + 12 * s + 2 * r = 226 + 12 * s0 + 2 * r0
  · have c1 : s = s0 := by omega
    have c2 : r = r0 := by omega
    subst c1 c2
    rw [if_pos rfl, mdP_at N U _ _ hs' hr', if_pos ⟨hs, hr, Or.inr ⟨rfl, by omega⟩⟩]
  · rw [if_neg c, mdP_at N U _ _ hs' hr', mdP_at N U _ _ hs' hr']
    by_cases d : s < nt (N 6) ∧ r < sR N s ∧ (s < s0 ∨ (s = s0 ∧ r < r0))
    · rw [if_pos d, if_pos ⟨d.1, d.2.1, by omega⟩]
    · rw [if_neg d, if_neg (fun z => d ⟨z.1, z.2.1, by omega⟩)]) (fun j hj => by
  unfold updF
  rw [if_neg (by omega), mdP_off N U _ _ hj])
theorem updF_self (N : Nat → Int32) (j : Nat) : updF N j (N j) = N := by
  funext k
  unfold updF
  by_cases c : k = j
  · rw [if_pos c, c]
  · rw [if_neg c]
theorem pI_self (h : PH) (c i j : Nat) : pI h c i j (hI h c i j) = h := by
  refine Prod.ext (funext fun c' => funext fun i' => funext fun j' => ?_) rfl
  show hI (pI h c i j (hI h c i j)) c' i' j' = hI h c' i' j'
  rw [hI_pI]
  by_cases d : c' = c ∧ i' = i ∧ j' = j
  · rw [if_pos d, d.1, d.2.1, d.2.2]
  · rw [if_neg d]
theorem Hs.arrow {h : PH} {N : Nat → Int32} (q : Hs h 0 N) {s rr d : Nat} (hs : s < nt (N 6)) (hrr : rr < sR N s) (hd : d < 8) : Hs (pI h 1792 s rr (nI d)) 0 (updF N (226 + 12 * s + 2 * rr) (nI d)) := by
  have a := q.1
  obtain ⟨-, -, e3, e4, -, e6, -⟩ := q.sign hs
  obtain ⟨S, hS, h14, hSn, hSi, -⟩ := q.signs
  generalize hh4 : pI h 1792 s rr (nI d) = h4
  have f4 : Fr ([1792], [], false) h h4 := by
    subst hh4
    exact Fr.rf.pI (by decide)
  have up : ∀ j, j ≠ 226 + 12 * s + 2 * rr → updF N (226 + 12 * s + 2 * rr) (nI d) j = N j := fun j hj => if_neg hj
  have us : updF N (226 + 12 * s + 2 * rr) (nI d) (226 + 12 * s + 2 * rr) = nI d := if_pos rfl
  have c1792 : ∀ i j, hI h4 1792 i j = if i = s ∧ j = rr then nI d else hI h 1792 i j := fun i j => by
    subst hh4
    rw [hI_pI]
    by_cases c : i = s ∧ j = rr
    · rw [if_pos ⟨rfl, c⟩, if_pos c]
    · rw [if_neg (fun e => c e.2), if_neg c]
  have kd : (nI d).toInt = d := nI_toInt (by omega)
  refine ⟨a.fr f4 (by decide), by decide, q.2.2.1.signs a (Same.fr f4 (by decide)) (fun j hj => up j (by omega)) (fun t ht => ?_), q.2.2.2.scal a (by decide) f4 (by decide) (Same.fr f4 (by decide)) (up 8 (by omega)) (fun j e1 _ => up j (by omega))⟩
  rw [up 6 (by omega)] at ht
  have o := q.2.2.1.2.2.2.2.1.one ht
  have ht14 : t < 14 := by omega
  have kc : ∀ c, c ∈ signCs → c ≠ 1792 → ∀ j, hI h4 c (14 * 0 + t) j = hI h c (14 * 0 + t) j := fun c hc hne j => by
    subst hh4
    rw [hI_off _ hne]
  obtain ⟨p1, p2, p3, p4, p5, p6, p7, p8, p9, p10⟩ := o
  rw [up (155 + 5 * t) (by omega), up (156 + 5 * t) (by omega), up (157 + 5 * t) (by omega), up (158 + 5 * t) (by omega), up (159 + 5 * t) (by omega), up 3 (by omega), kc 320 (by decide) (by decide), kc 321 (by decide) (by decide), kc 322 (by decide) (by decide), kc 323 (by decide) (by decide), kc 324 (by decide) (by decide)]
  refine ⟨p1, p2, p3, p4, p5, p6, p7, p8, p9, fun r' hr' => ?_⟩
  obtain ⟨p8a, p8b⟩ := p8
  obtain ⟨o1, o2, o3, o4⟩ := p10 r' hr'
  rw [up (225 + 12 * t + 2 * r') (by omega), kc 1728 (by decide) (by decide), c1792]
  refine ⟨o1, ?_, o3, ?_⟩
  · by_cases c : 14 * 0 + t = s ∧ r' = rr
    · rw [if_pos c, show 226 + 12 * t + 2 * r' = 226 + 12 * s + 2 * rr by omega, us]
    · rw [if_neg c, up (226 + 12 * t + 2 * r') (by omega)]
      exact o2
  · by_cases c : t = s ∧ r' = rr
    · rw [show 226 + 12 * t + 2 * r' = 226 + 12 * s + 2 * rr by omega, us]
      exact ⟨by rw [kd]; omega, by rw [kd]; omega⟩
    · rw [up (226 + 12 * t + 2 * r') (by omega)]
      exact o4
/-- the rows that are wrong -/
def wrB (N : Nat → Int32) (T : Nat → Nat → Option Nat) (s r : Nat) : Bool := match T s r with
  | none => false
  | some d => !decide (d = sA N s r)
def csF (N : Nat → Int32) (T : Nat → Nat → Option Nat) : Nat → Nat → Nat
  | 0, _ => 0
  | k + 1, s => cntF (wrB N T s) (sR N s) 0 + csF N T k (s + 1)
def flU (fl : Bool) (T : Nat → Nat → Option Nat) (s r : Nat) : Option Nat := bif fl then T s r else none
def wgW (fl : Bool) : List Nat × List Nat × Bool := (bif fl then [1792] else [], [], false)
def wmW (fl : Bool) : List Nat × List Nat × Bool := (bif fl then [2624] else [], [], false)
theorem flU_n {fl : Bool} {T : Nat → Nat → Option Nat} {N : Nat → Int32} {s r : Nat} (h : wrB N T s r = false) : mdA N (flU fl T) s r = sA N s r := by
  unfold mdA flU
  cases fl with
  | false => rfl
  | true =>
    show (T s r).getD (sA N s r) = sA N s r
    unfold wrB at h
    cases c : T s r with
    | none => rfl
    | some d =>
      rw [c] at h
      have h : (!decide (d = sA N s r)) = false := h
      by_cases e : d = sA N s r
      · exact e
      · rw [decide_eq_false e] at h
        cases h
/-- the row after one more row was looked at -/
theorem md_no {N : Nat → Int32} {T : Nat → Nat → Option Nat} {fl : Bool} {s r : Nat} (hs : s < nt (N 6)) (hs14 : s < 14) (hr : r < sR N s) (hr6 : r < 6) (eA : N (226 + 12 * s + 2 * r) = nI (sA N s r)) (h : mdA N (flU fl T) s r = sA N s r) : mdP N (flU fl T) s (r + 1) = mdP N (flU fl T) s r := by
  have e1 : mdP N (flU fl T) s r (226 + 12 * s + 2 * r) = nI (mdA N (flU fl T) s r) := by
    rw [mdP_at N _ _ _ hs14 hr6, if_neg (by omega), eA, h]
  rw [← mdP_step N (flU fl T) hs hs14 hr hr6, ← e1, updF_self]
section
variable {N : Nat → Int32} {T : Nat → Nat → Option Nat} {P : Nat → Bool} {fl : Bool} {i : Nat}
theorem wrong_c {h0 g0 : PH} (q0 : Hs g0 0 N) (hT : ∀ s r, T s r = rtO N P (sP N s) (nmN N s r)) {s : Nat} (hs : s < nt (N 6)) : ∀ k r c h, r + k = sR N s → RdE h i 0 (mdP N (flU fl T) s r) P → (∀ g, g < nt (N 5) → LsE h i g (fewM N P (gP N g))) → Fr (wgW fl) h0 h → (∀ i' j, 14 ≤ i' → hI h 1792 i' j = hI h0 1792 i' j) → ∃ h1, RdE h1 i 0 (mdP N (flU fl T) (s + 1) 0) P ∧ (∀ g, g < nt (N 5) → LsE h1 i g (fewM N P (gP N g))) ∧ Fr (wgW fl) h0 h1 ∧ (∀ i' j, 14 ≤ i' → hI h1 1792 i' j = hI h0 1792 i' j) ∧ ∀ n z, (X11_wrongRows_fam n).1 0 (b2 fl) (i + 1) (nI (c + cntF (wrB N T s) k r)) (nI (s + 1)) h1 = some z → ∃ n', (X11_wrongRows_fam n').2 0 (b2 fl) (i + 1) (nI c) (nI s) (s + 1) (nI r) h = some z := by
  obtain ⟨e1, e2, e3, e4, e5, e6, -⟩ := q0.sign hs
  have n12 := q0.n12
  have o6 : ∀ s' r', nt (mdP N (flU fl T) s' r' 6) = nt (N 6) := fun s' r' => by rw [mdP_off N _ _ _ (by omega)]
  have oP : ∀ s' r', sP (mdP N (flU fl T) s' r') s = sP N s := fun s' r' => by unfold sP; rw [mdP_off N _ _ _ (by omega)]
  have oR : ∀ s' r', sR (mdP N (flU fl T) s' r') s = sR N s := fun s' r' => by unfold sR; rw [mdP_off N _ _ _ (by omega)]
  intro k
  induction k with
  | zero =>
    intro r c h er q hF f k1
    have er' : r = sR N s := by omega
    rw [er', mdP_row] at q
    refine ⟨h, q, hF, f, k1, fun n z hz => ⟨n + 1, ?_⟩⟩
    obtain ⟨-, -, f3, -⟩ := q.1.signF (s := s) (by rw [o6]; exact hs)
    rw [Nat.mul_zero, Nat.zero_add, oR] at f3
    show X11_wrongRows_g43 (X11_wrongRows_fam n) 0 (b2 fl) (i + 1) (nI c) (nI s) (s + 1) (nI r) h = _
    unfold X11_wrongRows_g43 X11_wrongRows_f43
    rw [nnE rfl, f3, if_neg (nI_nlt (by omega) (by omega)), nI_1]
    exact hz
  | succ k ih =>
    intro r c h er q hF f k1
    have hr : r < sR N s := by omega
    have a := q.1.1
    obtain ⟨f1, -, f3, -⟩ := q.1.signF (s := s) (by rw [o6]; exact hs)
    obtain ⟨g1, g2, -⟩ := q.1.row (s := s) (r := r) (by rw [o6]; exact hs) (by rw [oR]; exact hr)
    obtain ⟨m1, m2⟩ := q0.nm hs hr
    obtain ⟨-, -, w3, w4, -⟩ := q0.row hs hr
    have oA : sA (mdP N (flU fl T) s r) s r = sA N s r := by
      unfold sA
      rw [mdP_at N _ _ _ e6 (by omega), if_neg (by omega)]
    rw [Nat.mul_zero, Nat.zero_add, oP] at f1
    rw [Nat.mul_zero, Nat.zero_add, oR] at f3
    rw [Nat.mul_zero, Nat.zero_add, mdP_off N _ _ _ (by omega), m1] at g1
    rw [Nat.mul_zero, Nat.zero_add, oA] at g2
    have hd := headingOfName_eq q q0 (fun j hj => mdP_off N _ _ _ (by omega)) hF (show sP N s < 12 by omega) m2
    rw [← hT] at hd
    have nx : ∀ n c' h', X11_wrongRows_g119 (X11_wrongRows_fam n) 0 (b2 fl) (i + 1) (nI c') (nI s) (s + 1) (nI r) h' = (X11_wrongRows_fam n).2 0 (b2 fl) (i + 1) (nI c') (nI s) (s + 1) (nI (r + 1)) h' := fun n c' h' => by
      show (X11_wrongRows_fam n).2 0 (b2 fl) (i + 1) (nI c') (nI s) (s + 1) (nI r + 1) h' = _
      rw [nI_1]
    rw [show cntF (wrB N T s) (k + 1) r = (if wrB N T s r = true then 1 else 0) + cntF (wrB N T s) k (r + 1) from rfl, ← Nat.add_assoc]
    cases cT : T s r with
    | none =>
      have eW : wrB N T s r = false := by
        unfold wrB
        rw [cT]
      rw [eW, if_neg (by decide), Nat.add_zero]
      obtain ⟨h1, q1, l1, f1', k1', z1⟩ := ih (r + 1) c h (by omega) (by rw [md_no hs e6 hr (by omega) w3 (flU_n eW)]; exact q) hF f k1
      refine ⟨h1, q1, l1, f1', k1', fun n z hz => ?_⟩
      obtain ⟨n', hn'⟩ := z1 n z hz
      refine ⟨n' + 1, ?_⟩
      show X11_wrongRows_g43 (X11_wrongRows_fam n') 0 (b2 fl) (i + 1) (nI c) (nI s) (s + 1) (nI r) h = _
      unfold X11_wrongRows_g43 X11_wrongRows_f43
      rw [nnE rfl, f3, if_pos (nI_lt (by omega) (by omega)), nnE rfl, nnE rfl, nnE (sh_325 a s (by omega)), ixE (ln_27 a s (by omega)) rfl (show r < 6 by omega) (by decide), nnE rfl, f1, g1, hd, cI_some, cT, if_pos (show oI none = -1 from rfl), nx]
      exact hn'
    | some d =>
      have d8 : d < 8 := by
        rw [hT] at cT
        exact rtO_lt cT
      by_cases cd : d = sA N s r
      · have eW : wrB N T s r = false := by
          unfold wrB
          rw [cT]
          show (!decide (d = sA N s r)) = false
          rw [decide_eq_true cd]
          rfl
        rw [eW, if_neg (by decide), Nat.add_zero]
        obtain ⟨h1, q1, l1, f1', k1', z1⟩ := ih (r + 1) c h (by omega) (by rw [md_no hs e6 hr (by omega) w3 (flU_n eW)]; exact q) hF f k1
        refine ⟨h1, q1, l1, f1', k1', fun n z hz => ?_⟩
        obtain ⟨n', hn'⟩ := z1 n z hz
        refine ⟨n' + 1, ?_⟩
        show X11_wrongRows_g43 (X11_wrongRows_fam n') 0 (b2 fl) (i + 1) (nI c) (nI s) (s + 1) (nI r) h = _
        unfold X11_wrongRows_g43 X11_wrongRows_f43
        rw [nnE rfl, f3, if_pos (nI_lt (by omega) (by omega)), nnE rfl, nnE rfl, nnE (sh_325 a s (by omega)), ixE (ln_27 a s (by omega)) rfl (show r < 6 by omega) (by decide), nnE rfl, f1, g1, hd, cI_some, cT, if_neg (oI_ne (t := d) (by omega)), nnE rfl, nnE (sh_326 a s (by omega)), ixE (ln_28 a s (by omega)) rfl (show r < 6 by omega) (by decide), g2, if_pos (by rw [cd]; rfl), nx]
        exact hn'
      · have eW : wrB N T s r = true := by
          unfold wrB
          rw [cT]
          show (!decide (d = sA N s r)) = true
          rw [decide_eq_false cd]
          rfl
        rw [eW, if_pos rfl]
        have e118 : ∀ n v, X11_wrongRows_g118 (X11_wrongRows_fam n) 0 (b2 fl) (i + 1) (nI c + 1) (nI s) (s + 1) (nI r) v (nI r) (s + 1) h = (X11_wrongRows_fam n).2 0 (b2 fl) (i + 1) (nI (c + 1)) (nI s) (s + 1) (nI (r + 1)) (pI h 1792 s r v) := fun n v => by
          unfold X11_wrongRows_g118 X11_wrongRows_f118
          rw [nnE rfl, ixE (ln_28 a s (by omega)) rfl (show r < 6 by omega) (by decide), wr_eq, nI_1, nx]
        have go : ∀ v h2, pI h 1792 s r v = h2 → v = (bif fl then nI d else nI (sA N s r)) → RdE h2 i 0 (mdP N (flU fl T) s (r + 1)) P ∧ Fr (wgW fl) h0 h2 ∧ (∀ i' j, 14 ≤ i' → hI h2 1792 i' j = hI h0 1792 i' j) ∧ (∀ g, g < nt (N 5) → LsE h2 i g (fewM N P (gP N g))) := by
          intro v h2 hh2 hv
          cases fl with
          | false =>
            have e0 : h2 = h := by
              rw [← hh2, hv]
              show pI h 1792 s r (nI (sA N s r)) = h
              rw [← g2, pI_self]
            rw [e0, md_no hs e6 hr (by omega) w3 (by rfl)]
            exact ⟨q, f, k1, hF⟩
          | true =>
            have hv : v = nI d := hv
            subst hv
            have e0 : mdA N (flU true T) s r = d := by
              unfold mdA flU
              show (T s r).getD (sA N s r) = d
              rw [cT]
              rfl
            have f2 : Fr ([1792], [], false) h h2 := by
              subst hh2
              exact Fr.rf.pI (by decide)
            have qA : Hs h2 0 (mdP N (flU true T) s (r + 1)) := by
              have := q.1.arrow (s := s) (rr := r) (d := d) (by rw [o6]; exact hs) (by rw [oR]; exact hr) d8
              rw [hh2, ← e0, mdP_step N (flU true T) hs e6 hr (by omega)] at this
              exact this
            refine ⟨⟨qA, q.2.1, ?_, fun v hv => ?_⟩, ?_, fun i' j hi' => ?_, fun g hg p hp => ?_⟩
            · subst hh2
              exact q.2.2.1
            · subst hh2
              rw [hI_off _ (by decide)]
              refine q.2.2.2 v ?_
              rw [mdP_off N _ _ _ (by omega)] at hv ⊢
              exact hv
            · exact f.tr f2
            · subst hh2
              rw [hI_pI, if_neg (by omega)]
              exact k1 i' j hi'
            · subst hh2
              rw [hI_off _ (by decide)]
              exact hF g hg p hp
        have reach : ∀ n', X11_wrongRows_g43 (X11_wrongRows_fam n') 0 (b2 fl) (i + 1) (nI c) (nI s) (s + 1) (nI r) h = (X11_wrongRows_fam n').2 0 (b2 fl) (i + 1) (nI (c + 1)) (nI s) (s + 1) (nI (r + 1)) (pI h 1792 s r (bif fl then nI d else nI (sA N s r))) := fun n' => by
          unfold X11_wrongRows_g43 X11_wrongRows_f43
          rw [nnE rfl, f3, if_pos (nI_lt (by omega) (by omega)), nnE rfl, nnE rfl, nnE (sh_325 a s (by omega)), ixE (ln_27 a s (by omega)) rfl (show r < 6 by omega) (by decide), nnE rfl, f1, g1, hd, cI_some, cT, if_neg (oI_ne (t := d) (by omega)), nnE rfl, nnE (sh_326 a s (by omega)), ixE (ln_28 a s (by omega)) rfl (show r < 6 by omega) (by decide), g2, if_neg (show ¬ oI (some d) = nI (sA N s r) from fun z => cd ((nI_eq (by omega) (by omega)).mp z)), nnE rfl]
          cases fl with
          | false => rw [if_pos b2f, nnE rfl, nnE (sh_326 a s (by omega)), ixE (ln_28 a s (by omega)) rfl (show r < 6 by omega) (by decide), sh_326 a s (by omega), g2, e118]; rfl
          | true => rw [if_neg b2t, sh_326 a s (by omega), e118]; rfl
        obtain ⟨y1, y2, y3, y4⟩ := go _ _ rfl rfl
        obtain ⟨h1, q1, l1, f1', k1', z1⟩ := ih (r + 1) (c + 1) _ (by omega) y1 y4 y2 y3
        refine ⟨h1, q1, l1, f1', k1', fun n z hz => ?_⟩
        obtain ⟨n', hn'⟩ := z1 n z hz
        refine ⟨n' + 1, ?_⟩
        show X11_wrongRows_g43 (X11_wrongRows_fam n') 0 (b2 fl) (i + 1) (nI c) (nI s) (s + 1) (nI r) h = _
        rw [reach]
        exact hn'
theorem wrong_c2 {h0 g0 : PH} (q0 : Hs g0 0 N) (hT : ∀ s r, T s r = rtO N P (sP N s) (nmN N s r)) : ∀ k s c h, s + k = nt (N 6) → RdE h i 0 (mdP N (flU fl T) s 0) P → (∀ g, g < nt (N 5) → LsE h i g (fewM N P (gP N g))) → Fr (wgW fl) h0 h → (∀ i' j, 14 ≤ i' → hI h 1792 i' j = hI h0 1792 i' j) → ∃ n h1, (X11_wrongRows_fam n).1 0 (b2 fl) (i + 1) (nI c) (nI s) h = some (some (.inl (nI (c + csF N T k s))), h1) ∧ Hs h1 0 (mdP N (flU fl T) (nt (N 6)) 0) ∧ Fr (wgW fl) h0 h1 ∧ (∀ i' j, 14 ≤ i' → hI h1 1792 i' j = hI h0 1792 i' j) := by
  obtain ⟨S, hS, h14, hSn, hSi, -⟩ := q0.signs
  have h75 : ∀ h s r, Hs h 0 (mdP N (flU fl T) s r) → hI h 75 0 0 = nI S := fun h s r q => by
    obtain ⟨S', a1, a2, a3, a4, a5⟩ := q.signs
    rw [mdP_off N _ _ _ (by omega)] at a3
    rw [a5, ← a3, hSn]
  intro k
  induction k with
  | zero =>
    intro s c h es q hF f k1
    refine ⟨1, h, ?_, by rw [show nt (N 6) = s by omega]; exact q.1, f, k1⟩
    show X11_wrongRows_g16 (X11_wrongRows_fam 0) 0 (b2 fl) (i + 1) (nI c) (nI s) h = _
    unfold X11_wrongRows_g16 X11_wrongRows_f16
    rw [nnE (sh_640 q.1.1), h75 h _ _ q.1, if_neg (nI_nlt (by omega) (by omega))]
    rfl
  | succ k ih =>
    intro s c h es q hF f k1
    have hs : s < nt (N 6) := by omega
    obtain ⟨h1, q1, l1, f1, k1', z1⟩ := wrong_c (fl := fl) (i := i) (h0 := h0) q0 hT hs (sR N s) 0 c h (by omega) q hF f k1
    obtain ⟨n, h2, e2, q2, f2, k2⟩ := ih (s + 1) (c + cntF (wrB N T s) (sR N s) 0) h1 (by omega) q1 l1 f1 k1'
    obtain ⟨n', hn'⟩ := z1 n _ e2
    refine ⟨n' + 1, h2, ?_, q2, f2, k2⟩
    show X11_wrongRows_g16 (X11_wrongRows_fam n') 0 (b2 fl) (i + 1) (nI c) (nI s) h = _
    unfold X11_wrongRows_g16 X11_wrongRows_f16
    rw [nnE (sh_640 q.1.1), h75 h _ _ q.1, if_pos (nI_lt (by omega) (by omega)), nnE (sh_640 q.1.1), nnE (sh_68 q.1.1 0 (by decide)), ixE (ln_18 q.1.1 0 (by decide)) rfl (show s < 14 by omega) (by decide), sh_1152_0 q.1.1 s (by omega), show csF N T (k + 1) s = cntF (wrB N T s) (sR N s) 0 + csF N T k (s + 1) from rfl, ← Nat.add_assoc]
    exact hn'
/-- the model's -/
theorem wrong_m {h0 g0 : PH} {b : Nat} (q0 : Hs g0 b N) (hT : ∀ s r, T s r = rtO N P (sP N s) (nmN N s r)) {s : Nat} (hs : s < nt (N 6)) : ∀ k r c h, r + k = sR N s → SH h → hI h 2624 0 = mdP N (flU fl T) s r → RtE h N P (nt (N 5)) → Fr (wmW fl) h0 h → ∃ h1, SH h1 ∧ hI h1 2624 0 = mdP N (flU fl T) (s + 1) 0 ∧ RtE h1 N P (nt (N 5)) ∧ Fr (wmW fl) h0 h1 ∧ ∀ n z, (X12_wrongRows_fam n).1 0 (b2 fl) (nI (c + cntF (wrB N T s) k r)) (nI (s + 1)) h1 = some z → ∃ n', (X12_wrongRows_fam n').2 0 (b2 fl) (nI c) (nI s) (nI r) h = some z := by
  obtain ⟨e1, e2, e3, e4, e5, e6, -⟩ := q0.sign hs
  have n12 := q0.n12
  have rows : ∀ h s' r', SH h → hI h 2624 0 = mdP N (flU fl T) s' r' → X12_rowsOf 0 (nI s) h = some (some (.inl (nI (sR N s))), h) := fun h s' r' a hN => by
    rw [X12_rowsOf_eq a e6, hN, mdP_off N _ _ _ (by omega), show 155 + 5 * s + 2 = 157 + 5 * s by omega, e3]
  intro k
  induction k with
  | zero =>
    intro r c h er a hN t f
    have er' : r = sR N s := by omega
    refine ⟨h, a, by rw [hN, er', mdP_row], t, f, fun n z hz => ⟨n + 1, ?_⟩⟩
    show X12_wrongRows_g29 (X12_wrongRows_fam n) 0 (b2 fl) (nI c) (nI s) (nI r) h = _
    unfold X12_wrongRows_g29 X12_wrongRows_f29
    rw [rows h s r a hN, cI_some, if_neg (nI_nlt (by omega) (by omega)), nI_1]
    exact hz
  | succ k ih =>
    intro r c h er a hN t f
    have hr : r < sR N s := by omega
    obtain ⟨m1, m2⟩ := q0.nm hs hr
    obtain ⟨-, -, w3, w4, -⟩ := q0.row hs hr
    have cA : hI h 2624 0 (226 + 12 * s + 2 * r) = nI (sA N s r) := by
      rw [hN, mdP_at N _ _ _ e6 (by omega), if_neg (by omega), w3]
    have cN : hI h 2624 0 (225 + 12 * s + 2 * r) = nI (nmN N s r) := by
      rw [hN, mdP_off N _ _ _ (by omega), m1]
    have cP : X12_of5 0 (nI s) 0 h = some (some (.inl (nI (sP N s))), h) := by
      rw [show (0 : Int32) = nI 0 from rfl, of5_at a hN e6 (by decide) (Nat.add_zero _), mdP_off N _ _ _ (by omega), e1]
    have hd := rightAt_eq a q0 (fun j hj => by rw [hN, mdP_off N _ _ _ (by omega)]) t e2 m2
    rw [← hT] at hd
    have nx : ∀ n c' h', X12_wrongRows_g104 (X12_wrongRows_fam n) 0 (b2 fl) (nI c') (nI s) (nI r) h' = (X12_wrongRows_fam n).2 0 (b2 fl) (nI c') (nI s) (nI (r + 1)) h' := fun n c' h' => by
      show (X12_wrongRows_fam n).2 0 (b2 fl) (nI c') (nI s) (nI r + 1) h' = _
      rw [nI_1]
    rw [show cntF (wrB N T s) (k + 1) r = (if wrB N T s r = true then 1 else 0) + cntF (wrB N T s) k (r + 1) from rfl, ← Nat.add_assoc]
    cases cT : T s r with
    | none =>
      have eW : wrB N T s r = false := by
        unfold wrB
        rw [cT]
      rw [eW, if_neg (by decide), Nat.add_zero]
      obtain ⟨h1, a1, n1, t1, f1, z1⟩ := ih (r + 1) c h (by omega) a (by rw [md_no hs e6 hr (by omega) w3 (flU_n eW)]; exact hN) t f
      refine ⟨h1, a1, n1, t1, f1, fun n z hz => ?_⟩
      obtain ⟨n', hn'⟩ := z1 n z hz
      refine ⟨n' + 1, ?_⟩
      show X12_wrongRows_g29 (X12_wrongRows_fam n') 0 (b2 fl) (nI c) (nI s) (nI r) h = _
      unfold X12_wrongRows_g29 X12_wrongRows_f29
      rw [rows h s r a hN, cI_some, if_pos (nI_lt (by omega) (by omega)), cP, cI_some, X12_nameAt_eq a e6 (by omega), cI_some, cN, hd, cI_some, cT, if_pos (by decide), nx]
      exact hn'
    | some d =>
      have d8 : d < 8 := by
        rw [hT] at cT
        exact rtO_lt cT
      by_cases cd : d = sA N s r
      · have eW : wrB N T s r = false := by
          unfold wrB
          rw [cT]
          show (!decide (d = sA N s r)) = false
          rw [decide_eq_true cd]
          rfl
        rw [eW, if_neg (by decide), Nat.add_zero]
        obtain ⟨h1, a1, n1, t1, f1, z1⟩ := ih (r + 1) c h (by omega) a (by rw [md_no hs e6 hr (by omega) w3 (flU_n eW)]; exact hN) t f
        refine ⟨h1, a1, n1, t1, f1, fun n z hz => ?_⟩
        obtain ⟨n', hn'⟩ := z1 n z hz
        refine ⟨n' + 1, ?_⟩
        show X12_wrongRows_g29 (X12_wrongRows_fam n') 0 (b2 fl) (nI c) (nI s) (nI r) h = _
        unfold X12_wrongRows_g29 X12_wrongRows_f29
        rw [rows h s r a hN, cI_some, if_pos (nI_lt (by omega) (by omega)), cP, cI_some, X12_nameAt_eq a e6 (by omega), cI_some, cN, hd, cI_some, cT, if_neg (oI_pos (t := d) (by omega)), X12_arrowAt_eq a e6 (by omega), cI_some, cA, if_pos (by rw [cd]; rfl), nx]
        exact hn'
      · have eW : wrB N T s r = true := by
          unfold wrB
          rw [cT]
          show (!decide (d = sA N s r)) = true
          rw [decide_eq_false cd]
          rfl
        rw [eW, if_pos rfl]
        have go : ∃ h2, SH h2 ∧ hI h2 2624 0 = mdP N (flU fl T) s (r + 1) ∧ RtE h2 N P (nt (N 5)) ∧ Fr (wmW fl) h0 h2 ∧ ∀ n', X12_wrongRows_g29 (X12_wrongRows_fam n') 0 (b2 fl) (nI c) (nI s) (nI r) h = (X12_wrongRows_fam n').2 0 (b2 fl) (nI (c + 1)) (nI s) (nI (r + 1)) h2 := by
          cases fl with
          | false =>
            refine ⟨h, a, by rw [md_no hs e6 hr (by omega) w3 (by rfl)]; exact hN, t, f, fun n' => ?_⟩
            unfold X12_wrongRows_g29 X12_wrongRows_f29
            rw [rows h s r a hN, cI_some, if_pos (nI_lt (by omega) (by omega)), cP, cI_some, X12_nameAt_eq a e6 (by omega), cI_some, cN, hd, cI_some, cT, if_neg (oI_pos (t := d) (by omega)), X12_arrowAt_eq a e6 (by omega), cI_some, cA, if_neg (show ¬ oI (some d) = nI (sA N s r) from fun z => cd ((nI_eq (by omega) (by omega)).mp z)), if_pos b2f, nI_1, nx]
          | true =>
            have e0 : mdA N (flU true T) s r = d := by
              unfold mdA flU
              show (T s r).getD (sA N s r) = d
              rw [cT]
              rfl
            generalize hh2 : pI (pI h 2624 0 (225 + 12 * s + 2 * r) (nI (nmN N s r))) 2624 0 (226 + 12 * s + 2 * r) (nI d) = h2
            have f2 : Fr ([2624], [], false) h h2 := by
              subst hh2
              exact (Fr.rf.pI (by decide)).pI (by decide)
            have a2 : SH h2 := a.fr f2 (by decide)
            refine ⟨h2, a2, ?_, fun g hg p hp => ?_, f.tr f2, fun n' => ?_⟩
            · subst hh2
              rw [← mdP_step N (flU true T) hs e6 hr (by omega), e0, ← hN, ← cN, pI_self, hI_upd]
            · rw [f2.1 3776 0 _ (by decide) a.n59, f2.1 3840 0 _ (by decide) a.n60]
              exact t g hg p hp
            · unfold X12_wrongRows_g29 X12_wrongRows_f29
              rw [rows h s r a hN, cI_some, if_pos (nI_lt (by omega) (by omega)), cP, cI_some, X12_nameAt_eq a e6 (by omega), cI_some, cN, hd, cI_some, cT, if_neg (oI_pos (t := d) (by omega)), X12_arrowAt_eq a e6 (by omega), cI_some, cA, if_neg (show ¬ oI (some d) = nI (sA N s r) from fun z => cd ((nI_eq (by omega) (by omega)).mp z)), if_neg b2t, X12_nameAt_eq a e6 (by omega), cI_some, cN, setsRow_eq a e6 (by omega), cV_some, show oI (some d) = nI d from rfl, hh2, nI_1, nx]
        obtain ⟨h2, y1, y2, y3, y4, reach⟩ := go
        obtain ⟨h1, a1, n1, t1, f1, z1⟩ := ih (r + 1) (c + 1) h2 (by omega) y1 y2 y3 y4
        refine ⟨h1, a1, n1, t1, f1, fun n z hz => ?_⟩
        obtain ⟨n', hn'⟩ := z1 n z hz
        refine ⟨n' + 1, ?_⟩
        show X12_wrongRows_g29 (X12_wrongRows_fam n') 0 (b2 fl) (nI c) (nI s) (nI r) h = _
        rw [reach]
        exact hn'
theorem wrong_m2 {h0 g0 : PH} {b : Nat} (q0 : Hs g0 b N) (hT : ∀ s r, T s r = rtO N P (sP N s) (nmN N s r)) : ∀ k s c h, s + k = nt (N 6) → SH h → hI h 2624 0 = mdP N (flU fl T) s 0 → RtE h N P (nt (N 5)) → Fr (wmW fl) h0 h → ∃ n h1, (X12_wrongRows_fam n).1 0 (b2 fl) (nI c) (nI s) h = some (some (.inl (nI (c + csF N T k s))), h1) ∧ hI h1 2624 0 = mdP N (flU fl T) (nt (N 6)) 0 ∧ Fr (wmW fl) h0 h1 := by
  obtain ⟨S, hS, h14, hSn, hSi, -⟩ := q0.signs
  intro k
  induction k with
  | zero =>
    intro s c h es a hN t f
    refine ⟨1, h, ?_, by rw [show nt (N 6) = s by omega]; exact hN, f⟩
    show X12_wrongRows_g14 (X12_wrongRows_fam 0) 0 (b2 fl) (nI c) (nI s) h = _
    unfold X12_wrongRows_g14 X12_wrongRows_f14
    rw [nnE (sh_704 a), ixE (x := 6) (j := 6) (ln_41 a) rfl (by decide) (by decide), hN, mdP_off N _ _ _ (by omega), hS, if_neg (nI_nlt (by omega) (by omega))]
    rfl
  | succ k ih =>
    intro s c h es a hN t f
    have hs : s < nt (N 6) := by omega
    obtain ⟨h1, a1, n1, t1, f1, z1⟩ := wrong_m (fl := fl) (h0 := h0) q0 hT hs (sR N s) 0 c h (by omega) a hN t f
    obtain ⟨n, h2, e2, n2, f2⟩ := ih (s + 1) (c + cntF (wrB N T s) (sR N s) 0) h1 (by omega) a1 n1 t1 f1
    obtain ⟨n', hn'⟩ := z1 n _ e2
    refine ⟨n' + 1, h2, ?_, n2, f2⟩
    show X12_wrongRows_g14 (X12_wrongRows_fam n') 0 (b2 fl) (nI c) (nI s) h = _
    unfold X12_wrongRows_g14 X12_wrongRows_f14
    rw [nnE (sh_704 a), ixE (x := 6) (j := 6) (ln_41 a) rfl (by decide) (by decide), hN, mdP_off N _ _ _ (by omega), hS, if_pos (nI_lt (by omega) (by omega)), show csF N T (k + 1) s = cntF (wrB N T s) (sR N s) 0 + csF N T k (s + 1) from rfl, ← Nat.add_assoc]
    exact hn'
end
