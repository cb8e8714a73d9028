/-! strangers that are drawn -/
def lcg (z : Int32) : Int32 := z * 1103515245 + 12345
theorem ush8 (z : Int32) : ∃ k, k < 16777216 ∧ jushr z 8 = nI k := by
  refine ⟨(z.toUInt32 >>> 8).toNat, ?_, ?_⟩
  · rw [UInt32.toNat_shiftRight]
    have h1 : (8 : UInt32).toNat % 32 = 8 := by decide
    rw [h1, Nat.shiftRight_eq_div_pow]
    have := z.toUInt32.toNat_lt
    omega
  · unfold jushr
    have h1 : (8 : Int32).toUInt32 &&& Int32.toUInt32 31 = 8 := by decide
    rw [h1]
    apply Int32.toBitVec_inj.mp
    show (z.toUInt32 >>> 8).toBitVec = BitVec.ofNat 32 (z.toUInt32 >>> 8).toNat
    rw [← UInt32.toNat_toBitVec, BitVec.ofNat_toNat, BitVec.setWidth_eq]
def drw (z : Int32) (n : Nat) : Nat := nt (jushr z 8) % n
theorem drw_eq (z : Int32) {n : Nat} (hn : 0 < n) (hn31 : n < 2 ^ 31) : jrem (jushr z 8) (nI n) = nI (drw z n) := by
  obtain ⟨k, hk, e⟩ := ush8 z
  unfold drw jrem
  rw [e, nt_nI (by omega), pk_rem (by omega) hn (by omega)]
theorem drw_lt (z : Int32) {n : Nat} (hn : 0 < n) : drw z n < n := Nat.mod_lt _ hn
theorem draw_c {h : PH} {b n : Nat} (hn : 0 < n) (hn31 : n < 2 ^ 31) : X1_draw b (nI n) h = some (some (.inl (nI (drw (lcg (hI h 80 b 0)) n))), pI h 80 b 0 (lcg (hI h 80 b 0))) := by
  unfold X1_draw X1_draw_g0 X1_draw_f0
  rw [wr_eq, if_neg (show ¬ nI n < 1 from nI_nlt (b := 1) (by omega) (by omega)), dv_ok (fun z => by have := (nI_eq (b := 0) hn31 (by omega)).mp z; omega), hI_pI, if_pos ⟨rfl, rfl, rfl⟩]
  show (some (some (.inl (jrem (jushr (lcg (hI h 80 b 0)) 8) (nI n))), pI h 80 b 0 (lcg (hI h 80 b 0))) : Option Rs) = _
  rw [drw_eq _ hn hn31]
theorem draw_m {h : PH} (a : SH h) : X12_draw 0 h = some (some (.inl (jushr (lcg (hI h 2624 0 0)) 8)), pI h 2624 0 0 (lcg (hI h 2624 0 0))) := by
  have a1 : SH (pI h 2624 0 0 (lcg (hI h 2624 0 0))) := a
  unfold X12_draw X12_draw_g0 X12_draw_f0
  rw [nnE (sh_704 a), ixE (x := 0) (j := 0) (ln_41 a) rfl (by decide) (by decide), nnE (sh_704 a), ixE (x := 0) (j := 0) (ln_41 a) rfl (by decide) (by decide), wr_eq]
  show (nn (hR (pI h 2624 0 0 (lcg (hI h 2624 0 0))) 704 0 0) fun r6 => ix 0 (hL (pI h 2624 0 0 (lcg (hI h 2624 0 0))) 41 r6) fun j7 => some (some (.inl (jushr (hI (pI h 2624 0 0 (lcg (hI h 2624 0 0))) 2624 r6 j7) 8)), pI h 2624 0 0 (lcg (hI h 2624 0 0)))) = _
  rw [nnE (sh_704 a1), ixE (x := 0) (j := 0) (ln_41 a1) rfl (by decide) (by decide), hI_pI, if_pos ⟨rfl, rfl, rfl⟩]
/-- rows that differ in the seed and in who was led astray -/
def AgS (N N' : Nat → Int32) : Prop := ∀ j, j ≠ 0 → (j % 5 ≠ 3 ∨ j < 158 ∨ 223 < j) → N' j = N j
theorem AgS.rf {N : Nat → Int32} : AgS N N := fun _ _ _ => rfl
theorem AgS.tr {N N1 N2 : Nat → Int32} (a : AgS N N1) (b : AgS N1 N2) : AgS N N2 := fun j h1 h2 => (b j h1 h2).trans (a j h1 h2)
theorem AgS.seed (N : Nat → Int32) (z : Int32) : AgS N (updF N 0 z) := fun _ h1 _ => if_neg h1
theorem AgS.astray (N : Nat → Int32) {s : Nat} (hs : s < 14) (v : Int32) : AgS N (updF N (158 + 5 * s) v) := fun _ _ h2 => if_neg (by omega)
theorem ag_cnt {N N' : Nat → Int32} (ag : AgS N N') {key : Int32} (h8 : nt (N 8) ≤ 14) : cntO N' key (nt (N' 8)) = cntO N key (nt (N 8)) := by
  rw [ag 8 (by omega) (by omega)]
  exact cntO_cong (fun t ht => ag _ (by omega) (by omega))
theorem ag_tx {N N' : Nat → Int32} (ag : AgS N N') (t : Nat) (fa : Nat → Int32) : txV N' t fa = txV N t fa := by
  have e1 : codeT N' t = codeT N t := funext fun j => ag _ (by omega) (by omega)
  unfold txV manyT
  rw [e1, ag (393 + 2 * t) (by omega) (by omega)]
theorem ag_pass {N N' : Nat → Int32} (ag : AgS N N') (h8 : nt (N 8) ≤ 14) {w : Nat} (hw : w < 20) (x : Int32) : passB N' w x = passB N w x := by
  unfold passB passT gateB
  rw [ag (20 + 6 * w) (by omega) (by omega), ag (18 + 6 * w) (by omega) (by omega), ag (19 + 6 * w) (by omega) (by omega), ag 1 (by omega) (by omega), ag 2 (by omega) (by omega), ag_cnt ag h8]
  cases cntO N 1 (nt (N 8)) with
  | none => rfl
  | some t =>
    show (if N (20 + 6 * w) = 1 then false else if N (18 + 6 * w) = 1 ∧ x = 1 then false else if N (18 + 6 * w) = 3 then !decide (txV N' t (fa4 (N 1) (N 2) (N (19 + 6 * w)) 0) = 0) else true) = _
    rw [ag_tx ag]
theorem ag_read {N N' : Nat → Int32} (ag : AgS N N') (h8 : nt (N 8) ≤ 14) (x : Int32) (s : Nat) : readB N' x s = readB N x s := by
  have e1 : litB N' s = litB N s := by
    unfold litB litT
    rw [ag (156 + 5 * s) (by omega) (by omega), ag (159 + 5 * s) (by omega) (by omega), ag (157 + 5 * s) (by omega) (by omega), ag 1 (by omega) (by omega), ag 2 (by omega) (by omega), ag_cnt ag h8]
    cases cntO N 0 (nt (N 8)) with
    | none => rfl
    | some t =>
      show (if N (156 + 5 * s) = 5 then decide (N 2 < N (159 + 5 * s)) else if N (156 + 5 * s) = 3 then !decide (txV N' t (fa4 (N 1) (N 2) (N (157 + 5 * s)) 0) = 0) else true) = _
      rw [ag_tx ag]
  have e2 : obeyB N' s x = obeyB N s x := by
    unfold obeyB
    rw [ag (156 + 5 * s) (by omega) (by omega), ag 1 (by omega) (by omega), ag_cnt ag h8]
    cases cntO N 2 (nt (N 8)) with
    | none => rfl
    | some t =>
      show (!decide (txV N' t (fa4 (N (156 + 5 * s)) (seenK (N (156 + 5 * s))) x (N 1)) = 0)) = _
      rw [ag_tx ag]
  unfold readB
  rw [e1, e2]
theorem ag_ord {N N' : Nat → Int32} (ag : AgS N N') (h8 : nt (N 8) ≤ 14) (x : Int32) (S v : Nat) : ordO N' x S v = ordO N x S v := by
  have e1 : ∀ v k s, ordI N' x v k s = ordI N x v k s := by
    intro v k
    induction k with
    | zero => intro s; rfl
    | succ k ih =>
      intro s
      have es : sn N' s = sn N s := by
        unfold sn
        rw [ag (156 + 5 * s) (by omega) (by omega)]
      show (bif decide (sn N' s = v) && readB N' x s then s :: ordI N' x v k (s + 1) else ordI N' x v k (s + 1)) = (bif decide (sn N s = v) && readB N x s then s :: ordI N x v k (s + 1) else ordI N x v k (s + 1))
      rw [es, ag_read ag h8, ih]
  induction v with
  | zero => rfl
  | succ v ih =>
    show ordI N' x (v + 1) S 0 ++ ordO N' x S v = ordI N x (v + 1) S 0 ++ ordO N x S v
    rw [e1, ih]
theorem Hs.n8 {h : PH} {b : Nat} {N : Nat → Int32} (q : Hs h b N) : nt (N 8) ≤ 14 := by
  obtain ⟨K, t1, t2, t3, -⟩ := q.texts
  omega
theorem EnE.ag {W : List Nat × List Nat × Bool} {h h' : PH} {b : Nat} {N N' : Nat → Int32} (en : EnE h b N) (q : Hs h b N) (q' : Hs h' b N') (ag : AgS N N') (f : Fr W h h') (hw : [515, 1536, 1984].all (fun c => !W.1.contains c) = true) (hv : [193, 513].all (fun c => !W.2.1.contains c) = true) : EnE h' b N' := fun i hi => by
  obtain ⟨r, d, l⟩ := en i hi
  have a := q.1
  have h8 := q.n8
  have n20 := q.n20
  have e6 : nt (N' 6) = nt (N 6) := by rw [ag 6 (by omega) (by omega)]
  refine ⟨(f.2.1 513 i 0 (ninW hv (by decide)) (a.n8 hi)).trans r, ⟨q', hi, (f.2.1 193 i 0 (ninW hv (by decide)) (a.n3 hi)).trans d.2.2.1, fun v hv' => ?_⟩, ?_⟩
  · have hv2 : v < nt (N 4) := by
      rw [ag 4 (by omega) (by omega)] at hv'
      exact hv'
    rw [f.1 1536 i v (ninW hw (by decide)) (a.n24 hi), d.2.2.2 v hv2]
    show _ = b2 (passB N' v (nI i))
    rw [ag_pass ag h8 (by omega)]
  · rw [e6, ag_ord ag h8]
    exact l.fr a hi f (ninW hw (by decide)) (ninW hw (by decide))
theorem Hs.seed {h : PH} {b : Nat} {N : Nat → Int32} (q : Hs h b N) (z : Int32) : Hs (pI h 80 b 0 z) b (updF N 0 z) := by
  obtain ⟨a, hb, ⟨q1, q2, q3, q4, q5, q6⟩, t⟩ := q
  have f : Fr ([80], [], false) h (pI h 80 b 0 z) := Fr.rf.pI (by decide)
  have e : ∀ j, j ≠ 0 → updF N 0 z j = N j := fun j hj => if_neg hj
  have e3 : (N 3).toInt ≤ (updF N 0 z 3).toInt := by rw [e 3 (by omega)]; exact Int.le_refl _
  refine ⟨a, hb, ⟨?_, ?_, q3.cong a hb q2.2.1.2 (e 4 (by omega)) (fun j h1 _ => e j (by omega)) e3 (Same.fr f (by decide)), q4.cong a hb q2.2.2.1.2 (e 5 (by omega)) (fun j h1 _ => e j (by omega)) e3 (Same.fr f (by decide)), q5.cong a hb q2.2.2.2.1.2 (e 6 (by omega)) (fun j h1 _ => e j (by omega)) e3 (Same.fr f (by decide)), q6.cong a hb q2.2.2.2.2.2.1.2 (e 7 (by omega)) (fun j h1 _ => e j (by omega)) e3 (Same.fr f (by decide))⟩, t.cong a hb (e 8 (by omega)) (fun j h1 _ => e j (by omega)) (Same.fr f (by decide)) f.2.2.2.1 (fun _ _ _ _ _ _ => rfl) f.2.2.1⟩
  · unfold HScal at q1 ⊢
    rw [e 1 (by omega), e 2 (by omega), e 3 (by omega), e 4 (by omega), e 5 (by omega), e 6 (by omega), e 7 (by omega), e 8 (by omega), hI_off _ (by decide), hI_off _ (by decide), hI_off _ (by decide), hI_off _ (by decide), hI_off _ (by decide), hI_off _ (by decide), hI_off _ (by decide), hI_off _ (by decide), hI_pI, if_pos ⟨rfl, rfl, rfl⟩]
    obtain ⟨u1, u2, u3, u4, u5, u6, u7, u8, -⟩ := q1
    exact ⟨u1, u2, u3, u4, u5, u6, u7, u8, rfl⟩
  · unfold HRange at q2 ⊢
    rw [e 1 (by omega), e 2 (by omega), e 3 (by omega), e 4 (by omega), e 5 (by omega), e 6 (by omega), e 7 (by omega), e 8 (by omega)]
    exact q2
theorem Hs.astray {h : PH} {b : Nat} {N : Nat → Int32} (q : Hs h b N) {s : Nat} (hs : s < nt (N 6)) {v : Int32} (hv : rgI v 0 9999) : Hs (pI h 323 (14 * b + s) 0 v) b (updF N (158 + 5 * s) v) := by
  obtain ⟨-, -, -, -, -, e6, -⟩ := q.sign hs
  obtain ⟨a, hb, ⟨q1, q2, q3, q4, q5, q6⟩, t⟩ := q
  have f : Fr ([323], [], false) h (pI h 323 (14 * b + s) 0 v) := Fr.rf.pI (by decide)
  have e : ∀ j, j ≠ 158 + 5 * s → updF N (158 + 5 * s) v j = N j := fun j hj => if_neg hj
  have e3 : (N 3).toInt ≤ (updF N (158 + 5 * s) v 3).toInt := by rw [e 3 (by omega)]; exact Int.le_refl _
  refine ⟨a, hb, ⟨?_, ?_, q3.cong a hb q2.2.1.2 (e 4 (by omega)) (fun j h1 _ => e j (by omega)) e3 (Same.fr f (by decide)), q4.cong a hb q2.2.2.1.2 (e 5 (by omega)) (fun j h1 _ => e j (by omega)) e3 (Same.fr f (by decide)), fun t' ht' => ?_, q6.cong a hb q2.2.2.2.2.2.1.2 (e 7 (by omega)) (fun j h1 _ => e j (by omega)) e3 (Same.fr f (by decide))⟩, t.cong a hb (e 8 (by omega)) (fun j h1 _ => e j (by omega)) (Same.fr f (by decide)) f.2.2.2.1 (fun _ _ _ _ _ _ => rfl) f.2.2.1⟩
  · unfold HScal at q1 ⊢
    rw [e 0 (by omega), e 1 (by omega), e 2 (by omega), e 3 (by omega), e 4 (by omega), e 5 (by omega), e 6 (by omega), e 7 (by omega), e 8 (by omega), hI_off _ (by decide), hI_off _ (by decide), hI_off _ (by decide), hI_off _ (by decide), hI_off _ (by decide), hI_off _ (by decide), hI_off _ (by decide), hI_off _ (by decide), hI_off _ (by decide)]
    exact q1
  · exact q2.of (fun j hj => e j (by omega))
  · rw [e 6 (by omega)] at ht'
    by_cases c : t' = s
    · subst c
      obtain ⟨p1, p2, p3, p4, p5, p6, p7, p8, p9, p10⟩ := q5 t' ht'
      rw [e (155 + 5 * t') (by omega), e (156 + 5 * t') (by omega), e (157 + 5 * t') (by omega), e (159 + 5 * t') (by omega), e 3 (by omega), show updF N (158 + 5 * t') v (158 + 5 * t') = v from if_pos rfl, hI_off (c' := 320) _ (by decide), hI_off (c' := 321) _ (by decide), hI_off (c' := 324) _ (by decide), hI_off (c' := 322) _ (by decide), hI_pI, if_pos ⟨rfl, rfl, rfl⟩]
      refine ⟨p1, p2, p3, rfl, p5, p6, p7, p8, hv, fun r hr => ?_⟩
      rw [hI_off _ (by decide), hI_off _ (by decide), e (225 + 12 * t' + 2 * r) (by omega), e (226 + 12 * t' + 2 * r) (by omega)]
      exact p10 r hr
    · refine (q5.one ht').cong (fun j hj => e j (by omega)) e3 (fun c' hc' j => ?_)
      rw [hI_pI, if_neg (by omega)]
