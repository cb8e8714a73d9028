/-! texts: the model reads as the grammar does -/
theorem nn10 (S : List Int32) : nnN (-10 :: S) = nnN S + 1 := by
  show (if (-10 : Int32) = -10 then 1 else 0) + nnN S = nnN S + 1
  rw [if_pos rfl, Nat.add_comm]
theorem lvK_r (k : Nat) : lvK k ≤ 4 ∨ lvK k = 9 := by
  unfold lvK
  repeat' split
  all_goals omega
theorem bin_all {w : Int32} (h : isBin w) : w < 0 ∧ w ≠ -11 ∧ w ≠ -10 := by
  rcases h with rfl | rfl | rfl | rfl | rfl | rfl | rfl | rfl | rfl <;> decide
def SmP (h0 : PH) (L key : Nat) (T : Nat → Nat) (f : Nat) : Prop := ∀ u D j S0 o n h, ndF 6 o n ≤ f → o ≤ 8 → n ≤ 8 → Fr meW h0 h → MpE h T u D (List.replicate j (-10) ++ S0) → okV T L u → D.length + (List.replicate j (-10 : Int32) ++ S0).length + 4 ≤ u.2.1 → nnN (List.replicate j (-10) ++ S0) = n → topE 5 S0 →
  ((psF (nxF T L) (lfF T key) f 6 u o n).1 = true → ∃ h', Fr meW h0 h' ∧ MpE h' T (psF (nxF T L) (lfF T key) f 6 u o n).2.1 (List.replicate j (-10) ++ ((psF (nxF T L) (lfF T key) f 6 u o n).2.2 ++ D)) S0 ∧ (∀ i, i ≤ o → hI h' 3200 0 i = hI h 3200 0 i) ∧ ∀ z y, X12_takesE_fam z 0 (nI o) (nI (nnN S0)) 0 h' = some y → ∃ z', X12_takesE_fam z' 0 (nI o) (nI n) 1 h = some y) ∧
  ((psF (nxF T L) (lfF T key) f 6 u o n).1 = false → ∃ z h', X12_takesE_fam z 0 (nI o) (nI n) 1 h = some (some (.inl 0), h') ∧ Fr meW h0 h' ∧ hI h' 713 0 0 = nI (psF (nxF T L) (lfF T key) f 6 u o n).2.1.2.1)
def SmL (h0 : PH) (L key : Nat) (T : Nat → Nat) (f m : Nat) : Prop := ∀ u D S o n tt h, ndF m o n ≤ f → o ≤ 8 → n ≤ 8 → Fr meW h0 h → MpE h T u D S → okV T L u → D.length + S.length + 4 ≤ u.2.1 → nnN S = n → hI h 3200 0 o = b2 tt → (m ≤ 2 → tt = false) → topE m S →
  ((psF (nxF T L) (lfF T key) f m u o n).1 = true → ∃ h' D' X tt', Fr meW h0 h' ∧ MpE h' T (psF (nxF T L) (lfF T key) f m u o n).2.1 D' (X ++ S) ∧ (∀ w ∈ X, isBin w ∧ m + 1 ≤ rkI w) ∧ X.reverse ++ D' = (psF (nxF T L) (lfF T key) f m u o n).2.2 ++ D ∧ (∀ i, i < o → hI h' 3200 0 i = hI h 3200 0 i) ∧ hI h' 3200 0 o = b2 tt' ∧ (3 ≤ m → tt' = tt) ∧ (m ≤ 2 → lvK (psF (nxF T L) (lfF T key) f m u o n).2.1.1 = 2 → tt' = true) ∧ ∀ z y, X12_takesE_fam z 0 (nI o) (nI n) 0 h' = some y → ∃ z', X12_takesE_fam z' 0 (nI o) (nI n) 1 h = some y) ∧
  ((psF (nxF T L) (lfF T key) f m u o n).1 = false → ∃ z h', X12_takesE_fam z 0 (nI o) (nI n) 1 h = some (some (.inl 0), h') ∧ Fr meW h0 h' ∧ hI h' 713 0 0 = nI (psF (nxF T L) (lfF T key) f m u o n).2.1.2.1)
section
variable {h0 : PH} {L key : Nat} {T : Nat → Nat}
theorem ps_okM (t0 : TmE h0 L T) (hk : key < 3) (f m : Nat) (u : Tu) (o n : Nat) (hm : m ≤ 6) (v : okV T L u) : okV T L (psF (nxF T L) (lfF T key) f m u o n).2.1 ∧ ((psF (nxF T L) (lfF T key) f m u o n).1 = true → AcE (if key = 2 then 10004 else 10003) u.2.1 (psF (nxF T L) (lfF T key) f m u o n).2.1 (psF (nxF T L) (lfF T key) f m u o n).2.2 ∧ exT m (psF (nxF T L) (lfF T key) f m u o n).2.1) :=
  ps_ok (V := okV T L) (by split <;> omega) (by split <;> omega) t0.1 (fun _ w => w.1) (fun u w => lkF_okV (fun j hj => (t0.2.2 j hj).1) u.1 w.1.2.2.1) (fun _ _ w e => lf_ok hk w e) f m u o n hm v
theorem nx_okM (t0 : TmE h0 L T) {u : Tu} (v : okV T L u) : okV T L (nxF T L u) ∧ u.2.2 ≤ (nxF T L u).2.1 := lkF_okV (fun j hj => (t0.2.2 j hj).1) u.1 v.1.2.2.1
theorem sm_piece (a0 : SH h0) (t0 : TmE h0 L T) (hk : key < 3) (h7 : hI h0 717 0 0 = nI key) {f : Nat} (ihP : SmP h0 L key T f) (ihL : SmL h0 L key T f 0) : SmP h0 L key T (f + 1) := by
  intro u D j S0 o n h hf ho hn fh q v hc hN ht
  have hL := t0.1
  rw [nd_6] at hf
  obtain ⟨o1, o2, o3, o4, o5⟩ := v.1
  obtain ⟨nv, np⟩ := nx_okM t0 v
  cases e : lfF T key u with
  | some x =>
    rw [ps_leaf e]
    refine ⟨fun _ => ?_, fun z => by cases z⟩
    obtain ⟨h2, f2, q2, g2, run⟩ := mt_leaf a0 t0 hk h7 (o := o) (n := n) fh q v e ht (by omega)
    exact ⟨h2, fh.tr f2, q2, fun i _ => g2 i, fun z y hy => ⟨z + 1, by rw [run]; exact hy⟩⟩
  | none =>
    rw [ps_none e]
    by_cases d1 : u.1 = 38 ∧ n < 8
    · rw [if_pos d1]
      have lt := o5 (by omega)
      obtain ⟨h2, f2, q2, g2, run⟩ := mt_not a0 t0 (o := o) fh q v d1.1 d1.2 (by omega)
      have er : (-10 : Int32) :: (List.replicate j (-10) ++ S0) = List.replicate (j + 1) (-10) ++ S0 := by
        rw [List.replicate_succ, List.cons_append]
      have lr : (List.replicate (j + 1) (-10 : Int32) ++ S0).length = (List.replicate j (-10 : Int32) ++ S0).length + 1 := by
        rw [← er, List.length_cons]
      have nr : nnN (List.replicate (j + 1) (-10) ++ S0) = n + 1 := by
        rw [← er, nn10, hN]
      rw [er] at q2 run
      rw [nr] at run
      obtain ⟨i1', i2'⟩ := ihP (nxF T L u) D (j + 1) S0 o (n + 1) h2 (by rw [nd_6]; omega) ho (by omega) (fh.tr f2) q2 nv (by omega) nr ht
      refine ⟨fun z => ?_, fun z => ?_⟩
      · obtain ⟨h3, f3, q3, g3, run3⟩ := i1' z
        refine ⟨h3, f3, ?_, fun i hi => (g3 i hi).trans (g2 i), fun z y hy => ?_⟩
        · have el : List.replicate (j + 1) (-10 : Int32) ++ ((psF (nxF T L) (lfF T key) f 6 (nxF T L u) o (n + 1)).2.2 ++ D) = List.replicate j (-10) ++ (((-10) :: (psF (nxF T L) (lfF T key) f 6 (nxF T L u) o (n + 1)).2.2) ++ D) := by
            rw [List.replicate_succ', List.append_assoc, List.cons_append]
            rfl
          rw [el] at q3
          exact q3
        · obtain ⟨z', hz⟩ := run3 z y hy
          exact ⟨z' + 1, by rw [run]; exact hz⟩
      · obtain ⟨z', h3, y1, y2, y3⟩ := i2' z
        exact ⟨z' + 1, h3, by rw [run]; exact y1, y2, y3⟩
    · rw [if_neg d1]
      by_cases d2 : u.1 = 45 ∧ o < 8
      · rw [if_pos d2]
        have lt := o5 (by omega)
        obtain ⟨h2, f2, q2, g2, g2', run⟩ := mt_open a0 t0 (n := n) fh q v d2.1 d2.2 (by omega)
        rw [hN] at run
        have nr : nnN (-11 :: (List.replicate j (-10) ++ S0)) = n := by rw [nn11, hN]
        obtain ⟨i1', i2'⟩ := ihL (nxF T L u) D (-11 :: (List.replicate j (-10) ++ S0)) (o + 1) n false h2 (by rw [nd_l (by omega)]; omega) (by omega) hn (fh.tr f2) q2 nv (by rw [List.length_cons]; omega) nr g2' (fun _ => rfl) (fun w S' hw => by cases hw; exact Or.inl rfl)
        obtain ⟨pv, pt⟩ := ps_okM t0 hk f 0 (nxF T L u) (o + 1) n (by omega) nv
        unfold afB
        generalize psF (nxF T L) (lfF T key) f 0 (nxF T L u) (o + 1) n = r at i1' i2' pv pt
        cases rb : r.1 with
        | false =>
          rw [if_neg (fun z => by cases z.1)]
          refine ⟨fun z => (by cases z), fun _ => ?_⟩
          obtain ⟨z', h3, y1, y2, y3⟩ := i2' rb
          exact ⟨z' + 1, h3, by rw [run]; exact y1, y2, y3⟩
        | true =>
          obtain ⟨h3, D', X, tt', f3, q3, x3, l3, g3, g3', -, k3, run3⟩ := i1' rb
          obtain ⟨⟨p1, p2, -, -⟩, ex⟩ := pt rb
          obtain ⟨w1, w2, w3, w4, w5⟩ := pv.1
          have ln : X.length + D'.length = r.2.2.length + D.length := by
            have := congrArg List.length l3
            rw [List.length_append, List.length_append, List.length_reverse] at this
            exact this
          have cap : D'.length + (X ++ (-11 :: (List.replicate j (-10 : Int32) ++ S0))).length ≤ 96 := by
            rw [List.length_append, List.length_cons]
            omega
          by_cases d3 : r.2.1.1 = 46
          · rw [if_pos ⟨rfl, d3⟩]
            refine ⟨fun _ => ?_, fun z => by cases z⟩
            obtain ⟨h4, f4, q4, g4, run4⟩ := mt_close a0 t0 (n := n) f3 q3 pv d3 d2.2 (fun w hw => ⟨(bin_all (x3 w hw).1).1, (bin_all (x3 w hw).1).2.1⟩) ht cap
            rw [l3] at q4
            refine ⟨h4, f3.tr f4, q4, fun i hi => ?_, fun z y hy => ?_⟩
            · rw [g4, g3 i (by omega), g2 i (by omega)]
            · obtain ⟨z', hz⟩ := run3 (z + 1) y (by rw [run4]; exact hy)
              exact ⟨z' + 1, by rw [run]; exact hz⟩
          · rw [if_neg (fun z => d3 z.2)]
            refine ⟨fun z => (by cases z), fun _ => ?_⟩
            by_cases d4 : r.2.1.1 = 0
            · obtain ⟨h4, f4, q4, run4⟩ := mt_end a0 (o := o + 1) (n := n) f3 q3 pv d4 (by omega) (fun w hw => ⟨(bin_all (x3 w hw).1).1, (bin_all (x3 w hw).1).2.1⟩) (fun w S' hw => by cases hw; rfl) cap
              obtain ⟨z', hz⟩ := run3 1 _ (run4 0)
              rw [if_neg (by omega)] at hz
              exact ⟨z' + 1, h4, by rw [run]; exact hz, f3.tr f4, q4.1.1⟩
            · have st : lvK r.2.1.1 = 9 ∨ (lvK r.2.1.1 = 2 ∧ hI h3 3200 0 (o + 1) = 1) := by
                rcases lvK_r r.2.1.1 with z | z
                · by_cases z2 : lvK r.2.1.1 = 2
                  · exact Or.inr ⟨z2, by rw [g3', k3 (by omega) z2]; rfl⟩
                  · exact absurd rfl (ex (lvK r.2.1.1) (by omega) z z2)
                · exact Or.inl z
              have run4 := mt_stop a0 (n := n) f3 q3 pv d4 (fun z => d3 z.1) (by omega) st 0
              obtain ⟨z', hz⟩ := run3 1 _ run4
              exact ⟨z' + 1, h3, by rw [run]; exact hz, f3, q3.1.1⟩
      · rw [if_neg d2]
        refine ⟨fun z => (by cases z), fun _ => ⟨1, h, mt_bad a0 t0 hk h7 fh q v e d1 d2 ho hn 0, fh, q.1.1⟩⟩
theorem sm_loop (a0 : SH h0) (t0 : TmE h0 L T) (hk : key < 3) {f m : Nat} (hm : m < 5) (ih : SmL h0 L key T f (m + 1)) {D S : List Int32} {o n : Nat} (hf : ndF m o n ≤ f + 1) (ho : o ≤ 8) (hn : n ≤ 8) (hN : nnN S = n) (ht : topE m S) : ∀ k u Er D1 X tt1 h1, Fr meW h0 h1 → MpE h1 T u D1 (X ++ S) → okV T L u → (∀ w ∈ X, isBin w ∧ m + 1 ≤ rkI w) → X.reverse ++ D1 = Er ++ D → Er.length + D.length + S.length + 4 ≤ u.2.1 → hI h1 3200 0 o = b2 tt1 → (m < 2 → lvK u.1 = 2 → tt1 = true) → (m = 2 → (k = 1 ∧ tt1 = false) ∨ (k = 0 ∧ tt1 = true)) →
    ((lpF (nxF T L) (fun w => psF (nxF T L) (lfF T key) f (m + 1) w o n) m k u Er).1 = true → ∃ h' D' X' tt', Fr meW h0 h' ∧ MpE h' T (lpF (nxF T L) (fun w => psF (nxF T L) (lfF T key) f (m + 1) w o n) m k u Er).2.1 D' (X' ++ S) ∧ (∀ w ∈ X', isBin w ∧ m + 1 ≤ rkI w) ∧ X'.reverse ++ D' = (lpF (nxF T L) (fun w => psF (nxF T L) (lfF T key) f (m + 1) w o n) m k u Er).2.2 ++ D ∧ (∀ i, i < o → hI h' 3200 0 i = hI h1 3200 0 i) ∧ hI h' 3200 0 o = b2 tt' ∧ (3 ≤ m → tt' = tt1) ∧ (m ≤ 2 → lvK (lpF (nxF T L) (fun w => psF (nxF T L) (lfF T key) f (m + 1) w o n) m k u Er).2.1.1 = 2 → tt' = true) ∧ ∀ z y, X12_takesE_fam z 0 (nI o) (nI n) 0 h' = some y → ∃ z', X12_takesE_fam z' 0 (nI o) (nI n) 0 h1 = some y) ∧
    ((lpF (nxF T L) (fun w => psF (nxF T L) (lfF T key) f (m + 1) w o n) m k u Er).1 = false → ∃ z h', X12_takesE_fam z 0 (nI o) (nI n) 0 h1 = some (some (.inl 0), h') ∧ Fr meW h0 h' ∧ hI h' 713 0 0 = nI (lpF (nxF T L) (fun w => psF (nxF T L) (lfF T key) f (m + 1) w o n) m k u Er).2.1.2.1) := by
  have hL := t0.1
  rw [nd_l (by omega)] at hf
  intro k
  induction k with
  | zero =>
    intro u Er D1 X tt1 h1 fh q v hX hE hc h3 t2 t3
    refine ⟨fun _ => ⟨h1, D1, X, tt1, fh, q, hX, hE, fun _ _ => rfl, h3, fun _ => rfl, fun m2 l2 => ?_, fun z y hy => ⟨z, hy⟩⟩, fun z => by cases z⟩
    by_cases c : m = 2
    · rcases t3 c with z | z
      · omega
      · exact z.2
    · exact t2 (by omega) l2
  | succ k ihk =>
    intro u Er D1 X tt1 h1 fh q v hX hE hc h3 t2 t3
    rw [lpF_s]
    by_cases c : lvK u.1 = m
    · rw [if_pos c]
      obtain ⟨o1, o2, o3, o4, o5⟩ := v.1
      obtain ⟨nv, np⟩ := nx_okM t0 v
      have n0 : u.1 ≠ 0 := fun z => by
        rw [z] at c
        have : lvK 0 = 9 := by decide
        omega
      have lt := o5 n0
      obtain ⟨s1, s2, -, s4, -⟩ := sc_all (k := u.1) (by omega)
      have ln : X.length + D1.length = Er.length + D.length := by
        have := congrArg List.length hE
        rw [List.length_append, List.length_append, List.length_reverse] at this
        exact this
      obtain ⟨h2, f2, q2, g2, g2', run⟩ := mt_sign a0 t0 (n := n) fh q v (by omega) ho h3 (fun z => by
        rcases t3 (by omega) with y | y
        · exact y.2
        · omega) (fun w hw => ⟨(bin_all (hX w hw).1).1, (bin_all (hX w hw).1).2.1, by rw [c]; exact (hX w hw).2⟩) (by rw [c]; exact ht) (by rw [List.length_append]; omega)
      rw [hE] at q2
      rw [c] at g2' s2
      have nr : nnN (scI u.1 :: S) = n := by
        show (if scI u.1 = -10 then 1 else 0) + nnN S = n
        rw [if_neg (bin_all s1).2.2, Nat.zero_add, hN]
      obtain ⟨i1', i2'⟩ := ih (nxF T L u) (Er ++ D) (scI u.1 :: S) o n (ntB m tt1) h2 (by
        by_cases z : m + 1 = 6
        · omega
        · rw [nd_l (by omega)]
          omega) ho hn (fh.tr f2) q2 nv (by rw [List.length_append, List.length_cons]; omega) nr g2' (fun z => by
        unfold ntB
        rw [if_neg (by omega), if_neg (by omega)]) (fun w S' hw => by
        cases hw
        exact Or.inr (by omega))
      obtain ⟨pv, pt⟩ := ps_okM t0 hk f (m + 1) (nxF T L u) o n (by omega) nv
      generalize psF (nxF T L) (lfF T key) f (m + 1) (nxF T L u) o n = r at i1' i2' pv pt
      cases rb : r.1 with
      | false =>
        refine ⟨fun z => (by cases z), fun _ => ?_⟩
        obtain ⟨z', h3', y1, y2, y3⟩ := i2' rb
        exact ⟨z' + 1, h3', by rw [run]; exact y1, y2, y3⟩
      | true =>
        obtain ⟨h4, D3, X3, tt3, f4, q4, x4, l4, g4, g4', k4, k4', run4⟩ := i1' rb
        obtain ⟨⟨p1, p2, -, -⟩, -⟩ := pt rb
        have ex : X3 ++ (scI u.1 :: S) = (X3 ++ [scI u.1]) ++ S := by
          rw [List.append_assoc]
          rfl
        have el : (X3 ++ [scI u.1]).reverse ++ D3 = (scI u.1 :: (r.2.2 ++ Er)) ++ D := by
          rw [List.reverse_append, List.append_assoc, l4, List.cons_append, List.append_assoc]
          rfl
        rw [ex] at q4
        have hX' : ∀ w ∈ X3 ++ [scI u.1], isBin w ∧ m + 1 ≤ rkI w := fun w hw => by
          rcases List.mem_append.mp hw with z | z
          · exact ⟨(x4 w z).1, by have := (x4 w z).2; omega⟩
          · rw [List.mem_singleton.mp z]
            exact ⟨s1, by omega⟩
        obtain ⟨j1, j2⟩ := ihk r.2.1 (scI u.1 :: (r.2.2 ++ Er)) D3 (X3 ++ [scI u.1]) tt3 h4 f4 q4 pv hX' el (by rw [List.length_cons, List.length_append]; omega) g4' (fun z l2 => k4' (by omega) l2) (fun z => by
          have e3 := k4 (by omega)
          rcases t3 z with y | y
          · refine Or.inr ⟨by omega, ?_⟩
            rw [e3]
            unfold ntB
            rw [if_pos z]
          · omega)
        show ((lpF _ _ m k r.2.1 (scI u.1 :: (r.2.2 ++ Er))).1 = true → _) ∧ ((lpF _ _ m k r.2.1 (scI u.1 :: (r.2.2 ++ Er))).1 = false → _)
        refine ⟨fun z => ?_, fun z => ?_⟩
        · obtain ⟨h5, D5, X5, tt5, f5, q5, x5, l5, g5, g5', k5, k5', run5⟩ := j1 z
          refine ⟨h5, D5, X5, tt5, f5, q5, x5, l5, fun i hi => ?_, g5', fun m3 => ?_, k5', fun z y hy => ?_⟩
          · rw [g5 i hi, g4 i hi, g2 i (by omega)]
          · rw [k5 m3, k4 (by omega)]
            unfold ntB
            rw [if_neg (by omega), if_pos (by omega)]
          · obtain ⟨z1, y1⟩ := run5 z y hy
            obtain ⟨z2, y2⟩ := run4 z1 y y1
            exact ⟨z2 + 1, by rw [run]; exact y2⟩
        · obtain ⟨z1, h5, y1, y2, y3⟩ := j2 z
          obtain ⟨z2, y4⟩ := run4 z1 _ y1
          exact ⟨z2 + 1, h5, by rw [run]; exact y4, y2, y3⟩
    · rw [if_neg c]
      refine ⟨fun _ => ⟨h1, D1, X, tt1, fh, q, hX, hE, fun _ _ => rfl, h3, fun _ => rfl, fun m2 l2 => ?_, fun z y hy => ⟨z, hy⟩⟩, fun z => by cases z⟩
      exact t2 (by have l2 : lvK u.1 = 2 := l2; omega) l2
theorem sm_main (a0 : SH h0) (t0 : TmE h0 L T) (hk : key < 3) (h7 : hI h0 717 0 0 = nI key) : ∀ f, SmP h0 L key T f ∧ ∀ m, m ≤ 5 → SmL h0 L key T f m := by
  intro f
  induction f with
  | zero =>
    refine ⟨fun u D j S0 o n h hf => ?_, fun m hm u D S o n tt h hf => ?_⟩
    · rw [nd_6] at hf
      omega
    · rw [nd_l (by omega)] at hf
      omega
  | succ f ih =>
    refine ⟨sm_piece a0 t0 hk h7 ih.1 (ih.2 0 (by omega)), fun m hm => ?_⟩
    by_cases c5 : m = 5
    · subst c5
      intro u D S o n tt h hf ho hn fh q v hc hN h3 t2 ht
      rw [nd_l (by omega)] at hf
      obtain ⟨i1', i2'⟩ := ih.1 u D 0 S o n h (by rw [nd_6]; omega) ho hn fh q v hc hN ht
      rw [ps_five]
      refine ⟨fun z => ?_, i2'⟩
      obtain ⟨h2, f2, q2, g2, run⟩ := i1' z
      rw [hN] at run
      exact ⟨h2, _, [], tt, f2, q2, fun w hw => (by cases hw), rfl, fun i hi => g2 i (by omega), (g2 o (by omega)).trans h3, fun _ => rfl, fun z => absurd z (by decide), run⟩
    · intro u D S o n tt h hf ho hn fh q v hc hN h3 t2 ht
      have hf' := hf
      rw [nd_l (by omega)] at hf'
      obtain ⟨i1', i2'⟩ := ih.2 (m + 1) (by omega) u D S o n tt h (by rw [nd_l (by omega)]; omega) ho hn fh q v hc hN h3 (fun z => t2 (by omega)) (fun w S' hw => by
        rcases ht w S' hw with z | z
        · exact Or.inl z
        · exact Or.inr (by omega))
      obtain ⟨pv, pt⟩ := ps_okM t0 hk f (m + 1) u o n (by omega) v
      rw [ps_lev (by omega)]
      unfold afL
      cases rb : (psF (nxF T L) (lfF T key) f (m + 1) u o n).1 with
      | false =>
        rw [cond_false]
        exact ⟨fun z => (by rw [rb] at z; cases z), fun _ => i2' rb⟩
      | true =>
        rw [cond_true]
        obtain ⟨h4, D3, X3, tt3, f4, q4, x4, l4, g4, g4', k4, k4', run4⟩ := i1' rb
        obtain ⟨⟨p1, p2, -, -⟩, -⟩ := pt rb
        obtain ⟨j1, j2⟩ := sm_loop a0 t0 hk (by omega) (ih.2 (m + 1) (by omega)) (D := D) hf ho hn hN ht (ctL m) _ _ D3 X3 tt3 h4 f4 q4 pv (fun w hw => ⟨(x4 w hw).1, by have := (x4 w hw).2; omega⟩) l4 (by omega) g4' (fun z l2 => k4' (by omega) l2) (fun z => Or.inl ⟨by unfold ctL; rw [if_pos z], by rw [k4 (by omega)]; exact t2 (by omega)⟩)
        refine ⟨fun z => ?_, fun z => ?_⟩
        · obtain ⟨h5, D5, X5, tt5, f5, q5, x5, l5, g5, g5', k5, k5', run5⟩ := j1 z
          refine ⟨h5, D5, X5, tt5, f5, q5, x5, l5, fun i hi => (g5 i hi).trans (g4 i hi), g5', fun m3 => (k5 m3).trans (k4 (by omega)), k5', fun z y hy => ?_⟩
          obtain ⟨z1, y1⟩ := run5 z y hy
          exact run4 z1 y y1
        · obtain ⟨z1, h5, y1, y2, y3⟩ := j2 z
          obtain ⟨z2, y4⟩ := run4 z1 _ y1
          exact ⟨z2, h5, y4, y2, y3⟩
end
