/-! pair: text, the relation -/
def txW : List Nat × List Nat × Bool := ([129, 130, 131, 132, 133, 134, 136, 137, 138, 139, 1472, 711, 712, 713, 714, 715, 716, 717, 721, 722, 724, 3072, 3136, 3200], [], false)
def tyW : List Nat × List Nat × Bool := ([129, 130, 131, 132, 133, 134, 136, 137, 138, 139, 1472, 711, 712, 713, 714, 715, 716, 717, 721, 722, 724, 3072, 3136, 3200, 76, 1280, 2624], [1216], true)
def tzW : List Nat × List Nat × Bool := ([129, 130, 131, 132, 133, 134, 136, 137, 138, 139, 1472, 76, 1280], [1216], true)
theorem R.txt {m : Nat} {h hf : PH} (r : R m h) {N N' : Nat → Int32} (eN : hI h 2624 0 = N) (eN' : hI hf 2624 0 = N') {K key e lv T S V : Nat} (hk : key < 3) (he : e ≤ 96) (hl0 : 0 < lv) (hl : lv ≤ 96) (hK : K < 14) (h8 : N 8 = nI K) (f : Fr tyW h hf) (e129 : hI hf 129 0 0 = nI 0) (e711 : hI hf 711 0 0 = nI 0) (e76 : hI hf 76 0 0 = nI (K + 1)) (o76 : ∀ j, hI hf 76 1 j = hI h 76 1 j) (e1280 : ∀ k, hI hf 1280 0 k = if k = key then nI K else hI h 1280 0 k) (o1280 : ∀ j, hI hf 1280 1 j = hI h 1280 1 j) (e1216 : ∀ j, hR hf 1216 0 j = if j = K then T + 1 else hR h 1216 0 j) (o1216 : ∀ j, hR hf 1216 1 j = hR h 1216 1 j)
    (n1 : T < hN hf 7 ∧ hI hf 448 T 0 = nI key ∧ hI hf 449 T 0 = nI lv ∧ hR hf 450 T 0 = S + 1 ∧ S < hN hf 29 ∧ hL hf 29 S = e ∧ hR hf 451 T 0 = V + 1 ∧ V < hN hf 30 ∧ hL hf 30 V = lv ∧ ∀ j, j < e → hI hf 1856 S j = stepOf (N' (421 + 96 * K + j)))
    (n2 : N' 8 = nI (K + 1) ∧ N' (393 + 2 * K) = nI (1000 * key + e) ∧ N' (394 + 2 * K) = nI lv ∧ ∀ x, x ≠ 8 → x ≠ 393 + 2 * K → x ≠ 394 + 2 * K → (x < 421 + 96 * K ∨ 421 + 96 * K + e ≤ x) → N' x = N x)
    (n3 : wfD (codeT N' K) lv e 0 0 ∧ (key ≠ 2 → ∀ j, j < e → (codeT N' K j).toInt < 10003)) (hC : hC hf ≤ hC h + 3) (hS : hS hf ≤ hS h + 200) : R (m + 1) hf := by
  subst eN
  subst eN'
  obtain ⟨a, q, q2, q3, q4, q5, q6, q7, q8, q9, q10⟩ := r
  obtain ⟨m8, m393, m394, mo⟩ := n2
  have af : SH hf := a.fr f (by decide +kernel)
  have lo : ∀ x, x < 393 → x ≠ 8 → hI hf 2624 0 x = hI h 2624 0 x := fun x h1 h2 => mo x h2 (by omega) (by omega) (by omega)
  have n11 : 0 < hN h 11 := a.n11
  have e9 : ∀ c ∈ hsCols, c ≠ 76 → c ≠ 1280 → tyW.1.contains c = false := by decide +kernel
  have s1 : Same h hf 1 hsCols := fun c hc i j hi hb => by
    by_cases c7 : c = 76
    · subst c7
      have hi1 : i = 1 := hb.2.2 ⟨by decide, by decide, by decide⟩
      subst hi1
      exact o76 j
    · by_cases c8 : c = 1280
      · subst c8
        have hi1 : i = 1 := hb.2.2 ⟨by decide, by decide, by decide⟩
        subst hi1
        exact o1280 j
      · exact f.1 c i j (e9 c hc c7 c8) hi
  have r1 : ∀ c i j, c ∈ trRefs → i < hN h (c / 64) → (c = 1216 → i = 1) → hR hf c i j = hR h c i j := fun c i j hc hi h1 => by
    by_cases c7 : c = 1216
    · have hi1 := h1 c7
      subst hi1
      subst c7
      exact o1216 j
    · have er : ∀ c ∈ trRefs, c ≠ 1216 → tyW.2.1.contains c = false := by decide
      exact f.2.1 c i j (er c hc c7) hi
  have sw : Same h hf 0 (wayCs ++ goalCs ++ signCs ++ [1344]) := Same.fr f (by decide +kernel)
  obtain ⟨-, hb, ⟨p1, p2, p3, p4, p5, p6⟩, t⟩ := q
  have e3 : hI hf 2624 0 3 = hI h 2624 0 3 := lo 3 (by omega) (by omega)
  have rel : HRel hf 0 (hI hf 2624 0) := by
    refine ⟨?_, ?_, p3.cong a hb p2.2.1.2 (lo 4 (by omega) (by omega)) (fun j h1 h2 => lo j (by omega) (by omega)) (by rw [e3]; omega) (sw.sub (by decide)), p4.cong a hb p2.2.2.1.2 (lo 5 (by omega) (by omega)) (fun j h1 h2 => lo j (by omega) (by omega)) (by rw [e3]; omega) (sw.sub (by decide)), p5.cong a hb p2.2.2.2.1.2 (lo 6 (by omega) (by omega)) (fun j h1 h2 => lo j (by omega) (by omega)) (by rw [e3]; omega) (sw.sub (by decide)), p6.cong a hb p2.2.2.2.2.2.1.2 (lo 7 (by omega) (by omega)) (fun j h1 h2 => lo j (by omega) (by omega)) (by rw [e3]; omega) (sw.sub (by decide))⟩
    · unfold HScal at p1 ⊢
      obtain ⟨x1, x2, x3, x4, x5, x6, x7, x8, x9⟩ := p1
      have b1 := a.b1 hb
      refine ⟨?_, ?_, ?_, ?_, e76.trans m8.symm, ?_, ?_, ?_, ?_⟩
      · rw [f.1 72 0 0 (by decide) b1, x1, e3]
      · rw [f.1 73 0 0 (by decide) b1, x2, lo 4 (by omega) (by omega)]
      · rw [f.1 74 0 0 (by decide) b1, x3, lo 5 (by omega) (by omega)]
      · rw [f.1 75 0 0 (by decide) b1, x4, lo 6 (by omega) (by omega)]
      · rw [f.1 77 0 0 (by decide) b1, x6, lo 7 (by omega) (by omega)]
      · rw [f.1 78 0 0 (by decide) b1, x7, lo 1 (by omega) (by omega)]
      · rw [f.1 79 0 0 (by decide) b1, x8, lo 2 (by omega) (by omega)]
      · rw [f.1 80 0 0 (by decide) b1, x9, lo 0 (by omega) (by omega)]
    · unfold HRange at p2 ⊢
      rw [e3, lo 4 (by omega) (by omega), lo 5 (by omega) (by omega), lo 6 (by omega) (by omega), lo 7 (by omega) (by omega), lo 1 (by omega) (by omega), lo 2 (by omega) (by omega), m8]
      obtain ⟨x1, x2, x3, x4, x5, x6, x7, x8⟩ := p2
      refine ⟨x1, x2, x3, x4, ⟨?_, ?_⟩, x6, x7, x8⟩
      · rw [nI_toInt (by omega)]
        omega
      · rw [nI_toInt (by omega)]
        omega
  have trl : TRel hf 0 (hI hf 2624 0) := by
    obtain ⟨K', t1, t2, t3, t4⟩ := t
    have eK : K' = K := (nI_eq (by omega) (by omega)).mp (t1.symm.trans h8)
    subst eK
    refine ⟨K' + 1, m8, by omega, fun t ht => ?_, fun k hk' => ?_⟩
    · by_cases c : t = K'
      · subst c
        obtain ⟨u1, u2, u3, u4, u5, u6, u7, u8, u9, u10⟩ := n1
        exact ⟨T, S, V, key, e, lv, ⟨by rw [e1216, if_pos rfl], u1, u2, u3, u4, u5, u6, u7, u8, u9, u10⟩, m393, hk, he, m394, hl0, hl, n3.1, n3.2⟩
      · -- an elder text
        have old : TOne hf 0 (hI h 2624 0) t := by
          obtain ⟨T', S', V', key', many, atoms, ⟨r1', r2, r3, r4, r5, r6, r7, r8, r9, r10, r11⟩, rest⟩ := t3 t (by omega)
          refine ⟨T', S', V', key', many, atoms, ⟨?_, Nat.lt_of_lt_of_le r2 (f.2.2.2.1 _), ?_, ?_, ?_, Nat.lt_of_lt_of_le r6 (f.2.2.2.1 _), ?_, ?_, Nat.lt_of_lt_of_le r9 (f.2.2.2.1 _), ?_, fun j hj => ?_⟩, rest⟩
          · rw [e1216, if_neg c]; exact r1'
          · rw [f.1 448 T' 0 (by decide) r2]; exact r3
          · rw [f.1 449 T' 0 (by decide) r2]; exact r4
          · rw [f.2.1 450 T' 0 (by decide) r2]; exact r5
          · rw [f.2.2.1 29 S' r6]; exact r7
          · rw [f.2.1 451 T' 0 (by decide) r2]; exact r8
          · rw [f.2.2.1 30 V' r9]; exact r10
          · rw [f.1 1856 S' j (by decide) r6]; exact r11 j hj
        exact old.codes (mo _ (by omega) (by omega) (by omega) (by omega)) (mo _ (by omega) (by omega) (by omega) (by omega)) (fun j hj => mo _ (by omega) (by omega) (by omega) (by omega))
    · rw [e1280]
      show (if k = key then nI K' else hI h 1280 0 k) = oI (if hI hf 2624 0 (393 + 2 * K') / 1000 = nI k then some K' else cntO (hI hf 2624 0) (nI k) K')
      rw [m393, key_div key hk e (by omega), cntO_cong (N := hI h 2624 0) (fun t ht => mo _ (by omega) (by omega) (by omega) (by omega))]
      by_cases c : k = key
      · rw [if_pos c, if_pos (by rw [c])]
        rfl
      · rw [if_neg c, if_neg (fun z => c ((nI_eq (by omega) (by omega)).mp z).symm)]
        exact t4 k hk'
  have sub : ∀ L : List Nat, L.all (fun c => !tyW.1.contains c) = true → L.all (fun c => !tyW.1.contains c) = true := fun _ h => h
  refine ⟨af, ⟨af, hb, rel, trl⟩, ?_, ?_, ⟨0, by omega, e129, e711, fun j hj => by omega⟩, q5.fr a f (by decide), q6.fr a f (by decide), q7.fr a f (by decide), (q8.fr a f (by decide)).mono, q9.fr a f (by decide), ?_⟩
  · have i1' := f.1 642 0 0 (by decide) (a.k1 (k := 10) (n := 1) (by decide +kernel) (by decide))
    have i2' := f.1 707 0 0 (by decide) n11
    have i3' : hI hf 2688 0 = hI h 2688 0 := funext fun j => f.1 2688 0 j (by decide) (a.nl (k := 42) (n := 1765) (by decide +kernel))
    unfold Img at q2 ⊢
    rw [i1', i2', i3']
    refine ⟨q2.1, ?_⟩
    rcases q2.2 with c | ⟨c, d⟩
    · exact Or.inl c
    · exact Or.inr ⟨c, d.same af s1 f.2.2.2.1 r1 f.2.2.1⟩
  · rw [lo 6 (by omega) (by omega)]
    exact q3.fr a f (by decide)
  · exact ⟨by have := q10.1; omega, by have := q10.2; omega⟩
theorem mk_all {h : PH} (a : SH h) {key lv e : Nat} (h4 : hI h 134 0 0 = nI key) (h6 : hI h 136 0 0 = nI e) (h7 : hI h 137 0 0 = nI lv) (he : e < 96) (hlv : lv ≤ 96) : ∃ g tT tS tV, X3_makeText 0 h = some (some (.inr (7, tT + 1)), g) ∧ Fr ([], [], true) h g ∧ (hI g 448 tT 0 = nI key ∧ hI g 449 tT 0 = nI lv ∧ hR g 450 tT 0 = tS + 1 ∧ hR g 451 tT 0 = tV + 1 ∧ hL g 29 tS = e ∧ hL g 30 tV = lv ∧ (∀ j, j < e → hI g 1856 tS j = hI h 1472 0 j) ∧ tT < hN g 7 ∧ tS < hN g 29 ∧ tV < hN g 30) ∧ hC g = hC h + 1 + 1 + 1 ∧ hS g = hS h + 4 + e + lv :=
  ⟨mkH h key lv e, hN h 7, hN h 29, hN h 30, makeText_c a h4 h6 h7 he hlv, mk_fr, mk_new a, mk_C, mk_S⟩
theorem tx_all {h : PH} {L : Nat} {T : Nat → Nat} (a : SH h) (tp : TpE h L T) : ∃ tx : Option (Nat × List Int32) × Nat,
    (∃ v h', X3_readTape 0 h = some (some (.inl v), h') ∧ Fr rtW h h' ∧ hI h' 129 0 0 = nI 0 ∧ (∀ key E, tx.1 = some (key, E) → v = -1 ∧ hI h' 134 0 0 = nI key ∧ hI h' 136 0 0 = nI E.length ∧ StC h' E ∧ hI h' 137 0 0 = nI (lvN E)) ∧ (tx.1 = none → v = nI tx.2 ∧ tx.2 ≤ 96)) ∧
    (∀ g, SH g → TmE g L T → Kys g → ∃ h', Fr mxW g h' ∧ (∀ G, X12_text_g0 G 0 g = X12_text_g33 G 0 (b2 tx.1.isSome) h') ∧ (∀ key E, tx.1 = some (key, E) → hI h' 717 0 0 = nI key ∧ hI h' 721 0 0 = nI E.length ∧ StM 3072 h' E ∧ hI h' 722 0 0 = nI (lvN E)) ∧ (tx.1 = none → hI h' 713 0 0 = nI tx.2)) ∧
    ∀ key E, tx.1 = some (key, E) → key < 3 ∧ WfL E 1 ∧ (∀ v ∈ E, v.toInt < (if key = 2 then 10004 else 10003)) ∧ E.length ≤ 92 :=
  ⟨txR T L, readTape_c a tp, fun _ ag tg kg => text_m ag tg kg, fun _ _ e => tx_ok tp e⟩
theorem pair_text (m : Nat) (h : PH) (_ : m < 64) (r : R m h) : Pr (R (m + 1)) (X11_text 0) (X12_text 0) h := by
  have r0 := r
  obtain ⟨a, q, q2, q3, q4, q5, q6, q7, q8, q9, q10⟩ := r
  obtain ⟨L, T, tp, tm⟩ := q4.tp
  have hL96 := tp.1
  obtain ⟨tx, ⟨v, h2, e2, f2, e129, y1, y2⟩, text_m', tx_ok'⟩ := tx_all a tp
  have a2 : SH h2 := a.fr f2 (by decide)
  obtain ⟨K, hK, h14, hKn, h76⟩ := q.texts
  have h762 : hI h2 76 0 0 = nI K := (f2.1 76 0 0 (by decide) (a.b1 (by decide))).trans h76
  have hN2 : hI h2 2624 0 = hI h 2624 0 := now_fr a f2 (by decide)
  -- what is refused
  have no : ∀ w h5, X11_text 0 h = some (some (.inl w), h2) → Fr mxW h2 h5 → hI h5 711 0 0 = nI 0 → (∃ n, X12_text_g0 (X12_text_fam n) 0 h2 = some (some (.inl w), h5)) → Pr (R (m + 1)) (X11_text 0) (X12_text 0) h := fun w h5 c1 f5 e711 ⟨n, c2⟩ => by
    have fA : Fr txW h h5 := (f2.sub (by decide)).tr (f5.sub (by decide))
    refine ⟨w, h2, h5, c1, X12_text_iff.mpr ⟨n, c2⟩, r0.oth fA (by decide +kernel) (by decide +kernel) rfl ⟨0, by omega, ?_, e711, fun j hj => by omega⟩ (q5.fr a fA (by decide)) (q6.fr a fA (by decide)) (q7.fr a fA (by decide))⟩
    rw [f5.1 129 0 0 (by decide) a2.n2, e129]
  cases ct : tx.1 with
  | none =>
    obtain ⟨z1, z2⟩ := y2 ct
    obtain ⟨h4, f4, run, -, k4⟩ := text_m' _ a2 (tm.fr a f2 (by decide) (by decide)) (q9.fr a f2 (by decide))
    have k4 := k4 ct
    refine no (-100 - nI tx.2) (pI h4 711 0 0 0) ?_ (f4.pI (by decide)) (by rw [hI_pI, if_pos ⟨rfl, rfl, rfl⟩]; rfl) ⟨0, ?_⟩
    · unfold X11_text X11_text_g0 X11_text_f0
      rw [nnE (sh_645 a), e2, cI_some, z1, if_neg (fun z => nI_pos (n := tx.2) (by omega) (by rw [z]; decide))]
    · rw [run, ct]
      show X12_text_g33 (X12_text_fam 0) 0 0 h4 = _
      unfold X12_text_g33 X12_text_f33
      rw [wr_eq, if_pos rfl, hI_off _ (by decide), k4]
  | some p =>
    obtain ⟨key, E⟩ := p
    obtain ⟨hk, wf, bd, l92⟩ := tx_ok' key E ct
    obtain ⟨z1, z2, z3, z4, z5⟩ := y1 key E ct
    have lv1 := wf_lv wf
    have lvl := lvN_le E
    have cls : X11_text 0 h = (nn (hR h2 640 0 0) fun r4 => if (hI h2 76 r4 0) < 14 then (nn (hR h2 645 0 0) fun r5 => cR 7 (X3_makeText r5 h2) fun r7 h6 => nn (hR h6 640 0 0) fun r8 => nn (hR h6 640 0 0) fun r9 => nn (hR h6 69 r8 0) fun r10 => ix (hI h6 76 r9 0) (hL h6 19 r10) fun j11 => wr (pR h6 1216 r10 j11 r7) fun h12 => nn (hR h12 640 0 0) fun r13 => nn r7 fun r14 => nn (hR h12 640 0 0) fun r15 => nn (hR h12 70 r13 0) fun r16 => ix (hI h12 448 r14 0) (hL h12 20 r16) fun j17 => wr (pI h12 1280 r16 j17 (hI h12 76 r15 0)) fun h18 => nn (hR h18 640 0 0) fun r19 => nn (hR h18 640 0 0) fun r20 => wr (pI h18 76 r20 0 ((hI h18 76 r19 0) + 1)) fun h21 => some (some (.inl (hI h18 76 r19 0)), h21)) else some (some (.inl (-1000000003)), h2)) := by
      unfold X11_text X11_text_g0 X11_text_f0
      rw [nnE (sh_645 a), e2, cI_some, z1, if_pos rfl]
    by_cases c14 : K < 14
    case neg =>
      obtain ⟨h4, f4, run, -, -⟩ := text_m' _ a2 (tm.fr a f2 (by decide) (by decide)) (q9.fr a f2 (by decide))
      refine no (-1000000003) (pI h4 711 0 0 0) ?_ (f4.pI (by decide)) (by rw [hI_pI, if_pos ⟨rfl, rfl, rfl⟩]; rfl) ⟨0, ?_⟩
      · rw [cls, nnE (sh_640 a2), h762, if_neg (show ¬ nI K < 14 from nI_nlt (b := 14) (by omega) (by omega))]
      · have a4' : SH h4 := a2.fr f4 (by decide)
        have a4 : SH (pI h4 711 0 0 0) := a4'
        have hN4 : hI (pI h4 711 0 0 0) 2624 0 8 = nI 14 := by
          rw [hI_off _ (by decide), f4.1 2624 0 8 (by decide) (a2.nl (k := 41) (n := 1765) (by decide +kernel)), hN2, hK, show K = 14 by omega]
        rw [run, ct]
        show X12_text_g33 (X12_text_fam 0) 0 1 h4 = _
        unfold X12_text_g33 X12_text_f33
        rw [wr_eq, if_neg (by decide), nnE (sh_704 a4), ixE (x := 8) (j := 8) (ln_41 a4) rfl (by decide) (by decide), hN4, if_pos (show nI 14 = 14 from rfl)]
    case pos =>
      obtain ⟨g, tT, tS, tV, mt, mf, ⟨w1, w2, w3, w4, w5, w6, w7, w8, w9, w10⟩, hc3, hs3⟩ := mk_all a2 z2 z3 z5 (by omega) (by omega)
      have am : SH g := a2.fr mf (by decide)
      have e2e := f2.2.2.2.2 rfl
      have hc2 : hC h2 = hC h := by
        unfold hC
        rw [e2e]
      have hs2 : hS h2 = hS h := by
        unfold hS
        rw [e2e]
      have g76 : hI g 76 0 0 = nI K := (mf.1 76 0 0 (by decide) (a2.b1 (by decide))).trans h762
      have run1 := text_made a2 am mt hk c14 h762 g76 w1
      generalize hg3 : pI (pI (pR g 1216 0 K (tT + 1)) 1280 0 key (nI K)) 76 0 0 (nI (K + 1)) = g3 at run1
      have fg : Fr tzW g g3 := by
        subst hg3
        exact ((Fr.rf.pR (by decide)).pI (by decide)).pI (by decide)
      have f03 : Fr tzW h g3 := ((f2.sub (by decide)).tr (mf.sub (by decide))).tr fg
      have a3 : SH g3 := am.fr fg (by decide +kernel)
      have cc3 : hC g3 = hC g ∧ hS g3 = hS g := by
        subst hg3
        exact ⟨rfl, rfl⟩
      have hN3 : hI g3 2624 0 = hI h 2624 0 := now_fr a f03 (by decide)
      obtain ⟨h4, f4, run, k4, -⟩ := text_m' _ a3 (tm.fr a f03 (by decide) (by decide)) (q9.fr a f03 (by decide))
      obtain ⟨x1, x2, x3, x4⟩ := k4 key E ct
      have a4 : SH h4 := a3.fr f4 (by decide)
      have hN4 : hI h4 2624 0 = hI h 2624 0 := (now_fr a3 f4 (by decide)).trans hN3
      obtain ⟨n, hf, run5, f5, e711, nv⟩ := text_in a4 hN4 hK c14 x1 x2 x4 (by omega)
      have f3f : Fr ([711, 712, 713, 714, 715, 716, 717, 721, 722, 724, 3072, 3136, 3200, 2624], [], false) g3 hf := (f4.sub (by decide)).tr (f5.sub (by decide))
      have fA : Fr tyW h hf := (f03.sub (by decide)).tr (f3f.sub (by decide))
      have gb : ∀ c i j, c ∈ [(448 : Nat), 449, 1856] → i < hN g (c / 64) → hI hf c i j = hI g c i j := fun c i j hc hi => by
        have e1 : ∀ c ∈ [(448 : Nat), 449, 1856], tzW.1.contains c = false ∧ ([711, 712, 713, 714, 715, 716, 717, 721, 722, 724, 3072, 3136, 3200, 2624] : List Nat).contains c = false := by decide
        rw [f3f.1 c i j (e1 c hc).2 (Nat.lt_of_lt_of_le hi (fg.2.2.2.1 _)), fg.1 c i j (e1 c hc).1 hi]
      have gr : ∀ c i j, c ∈ [(450 : Nat), 451] → i < hN g (c / 64) → hR hf c i j = hR g c i j := fun c i j hc hi => by
        have e1 : ∀ c ∈ [(450 : Nat), 451], tzW.2.1.contains c = false := by decide
        rw [f3f.2.1 c i j rfl (Nat.lt_of_lt_of_le hi (fg.2.2.2.1 _)), fg.2.1 c i j (e1 c hc) hi]
      have gl : ∀ k i, i < hN g k → hL hf k i = hL g k i := fun k i hi => by
        rw [f3f.2.2.1 k i (Nat.lt_of_lt_of_le hi (fg.2.2.2.1 _)), fg.2.2.1 k i hi]
      have gn : ∀ k, hN g k ≤ hN hf k := fun k => Nat.le_trans (fg.2.2.2.1 k) (f3f.2.2.2.1 k)
      have o2 : ∀ c i j, rtW.1.contains c = false → i < hN h (c / 64) → hI g c i j = hI h c i j := fun c i j hc hi => by
        rw [mf.1 c i j rfl (Nat.lt_of_lt_of_le hi (f2.2.2.2.1 _)), f2.1 c i j hc hi]
      have o2r : ∀ i j, i < hN h 19 → hR g 1216 i j = hR h 1216 i j := fun i j hi => by
        rw [mf.2.1 1216 i j rfl (Nat.lt_of_lt_of_le hi (f2.2.2.2.1 _)), f2.2.1 1216 i j rfl hi]
      have i3f : ∀ c i j, c ∈ [(76 : Nat), 1280, 129] → i < hN g3 (c / 64) → hI hf c i j = hI g3 c i j := fun c i j hc hi => by
        have e1 : ∀ c ∈ [(76 : Nat), 1280, 129], ([711, 712, 713, 714, 715, 716, 717, 721, 722, 724, 3072, 3136, 3200, 2624] : List Nat).contains c = false := by decide
        exact f3f.1 c i j (e1 c hc) hi
      have cst : hC hf = hC g3 ∧ hS hf = hS g3 := by
        have := f3f.2.2.2.2 rfl
        unfold hC hS
        rw [this]
        exact ⟨rfl, rfl⟩
      have nvC : ∀ j, j < E.length → hI hf 2624 0 (421 + 96 * K + j) = hI h4 3072 0 j := fun j hj => by
        rw [nv]
        unfold ntF
        rw [if_neg (by omega), if_pos (by omega), show 421 + 96 * K + j - (421 + 96 * K) = j by omega]
      refine ⟨nI K, g3, hf, cls.trans run1, X12_text_iff.mpr ⟨n, by rw [run, ct]; exact run5⟩, r0.txt rfl rfl (K := K) (key := key) (e := E.length) (lv := lvN E) (T := tT) (S := tS) (V := tV) hk (by omega) (by omega) (by omega) c14 hK fA ?_ e711 ?_ ?_ ?_ ?_ ?_ ?_ ?_ ?_ ?_ ?_ ?_⟩
      · rw [i3f 129 0 0 (by decide) a3.n2]
        subst hg3
        rw [hI_off _ (by decide), hI_off _ (by decide)]
        show hI g 129 0 0 = nI 0
        rw [mf.1 129 0 0 rfl a2.n2, e129]
      · rw [i3f 76 0 0 (by decide) (a3.b1 (by decide))]
        subst hg3
        rw [hI_pI, if_pos ⟨rfl, rfl, rfl⟩]
      · intro j
        rw [i3f 76 1 j (by decide) (a3.b1 (by decide))]
        subst hg3
        rw [hI_pI, if_neg (fun z => absurd z.2.1 (by decide)), hI_off _ (by decide)]
        exact o2 76 1 j (by decide) (a.b1 (by decide))
      · intro k
        rw [i3f 1280 0 k (by decide) (a3.n20 (by decide))]
        subst hg3
        rw [hI_off _ (by decide), hI_pI]
        by_cases c : k = key
        · rw [if_pos ⟨rfl, rfl, c⟩, if_pos c]
        · rw [if_neg (fun z => c z.2.2), if_neg c]
          exact o2 1280 0 k (by decide) (a.n20 (by decide))
      · intro j
        rw [i3f 1280 1 j (by decide) (a3.n20 (by decide))]
        subst hg3
        rw [hI_off _ (by decide), hI_pI, if_neg (fun z => absurd z.2.1 (by decide))]
        exact o2 1280 1 j (by decide) (a.n20 (by decide))
      · intro j
        rw [f3f.2.1 1216 0 j rfl (a3.n19 (by decide))]
        subst hg3
        show hR (pR g 1216 0 K (tT + 1)) 1216 0 j = _
        rw [hR_pR]
        by_cases c : j = K
        · rw [if_pos ⟨rfl, rfl, c⟩, if_pos c]
        · rw [if_neg (fun z => c z.2.2), if_neg c]
          exact o2r 0 j (a.n19 (by decide))
      · intro j
        rw [f3f.2.1 1216 1 j rfl (a3.n19 (by decide))]
        subst hg3
        show hR (pR g 1216 0 K (tT + 1)) 1216 1 j = _
        rw [hR_pR, if_neg (fun z => absurd z.2.1 (by decide))]
        exact o2r 1 j (a.n19 (by decide))
      · refine ⟨Nat.lt_of_lt_of_le w8 (gn 7), (gb 448 tT 0 (by decide) w8).trans w1, (gb 449 tT 0 (by decide) w8).trans w2, (gr 450 tT 0 (by decide) w8).trans w3, Nat.lt_of_lt_of_le w9 (gn 29), (gl 29 tS w9).trans w5, (gr 451 tT 0 (by decide) w8).trans w4, Nat.lt_of_lt_of_le w10 (gn 30), (gl 30 tV w10).trans w6, fun j hj => ?_⟩
        rw [gb 1856 tS j (by decide) w9, w7 j hj, nvC j hj]
        exact (st_both z4 x3 j hj).1
      · refine ⟨?_, ?_, ?_, fun x c1 c2 c3 c4 => ?_⟩
        · rw [nv]
          unfold ntF
          rw [if_pos rfl]
        · rw [nv]
          unfold ntF
          rw [if_neg (by omega), if_neg (by omega), if_neg (by omega), if_pos rfl]
        · rw [nv]
          unfold ntF
          rw [if_neg (by omega), if_neg (by omega), if_pos rfl]
        · rw [nv]
          unfold ntF
          rw [if_neg c1, if_neg (by omega), if_neg c3, if_neg c2]
      · refine ⟨?_, fun k2 j hj => ?_⟩
        · have w0 := wf_of (h := h4) (m := lvN E) (E := E) 0 1 x3 wf (Nat.le_refl _) rfl
          rw [Nat.add_zero] at w0
          exact wfD_cong (N := E.length) (fun j hj => nvC j hj) E.length 0 0 (by omega) w0
        · have b0 := bd _ (st_both z4 x3 j hj).2
          rw [if_neg k2] at b0
          show (hI hf 2624 0 (421 + 96 * K + j)).toInt < 10003
          rw [nvC j hj]
          exact b0
      · rw [cst.1, cc3.1, hc3, hc2]
        omega
      · rw [cst.2, cc3.2, hs3, hs2]
        omega
