/-! how the pure heap's columns show in the cells -/
theorem hI_pI (h : PH) (c i j : Nat) (v : Int32) (c' i' j' : Nat) : hI (pI h c i j v) c' i' j' = if c' = c ∧ i' = i ∧ j' = j then v else hI h c' i' j' := rfl
theorem hR_pI (h : PH) (c i j : Nat) (v : Int32) : hR (pI h c i j v) = hR h := rfl
theorem hL_pI (h : PH) (c i j : Nat) (v : Int32) : hL (pI h c i j v) = hL h := rfl
theorem hN_pI (h : PH) (c i j : Nat) (v : Int32) : hN (pI h c i j v) = hN h := rfl
theorem hC_pI (h : PH) (c i j : Nat) (v : Int32) : hC (pI h c i j v) = hC h := rfl
theorem hS_pI (h : PH) (c i j : Nat) (v : Int32) : hS (pI h c i j v) = hS h := rfl
theorem hI_pR (h : PH) (c i j v : Nat) : hI (pR h c i j v) = hI h := rfl
theorem hR_pR (h : PH) (c i j v c' i' j' : Nat) : hR (pR h c i j v) c' i' j' = if c' = c ∧ i' = i ∧ j' = j then v else hR h c' i' j' := rfl
theorem hL_pR (h : PH) (c i j v : Nat) : hL (pR h c i j v) = hL h := rfl
theorem hN_pR (h : PH) (c i j v : Nat) : hN (pR h c i j v) = hN h := rfl
theorem hC_pR (h : PH) (c i j v : Nat) : hC (pR h c i j v) = hC h := rfl
theorem hS_pR (h : PH) (c i j v : Nat) : hS (pR h c i j v) = hS h := rfl
theorem nf_le (k : Nat) : nf k ≤ 51 := by unfold nf; split <;> decide
theorem fvs_at {ad : Nat → Nat → Nat} {h : PH} {k i j : Nat} (hj : j < nf k) : (fvs ad h k i)[j]? = some (fv ad h k i j) := by
  unfold fvs
  rw [List.getElem?_map, List.getElem?_range hj]
  rfl
theorem fvs_len (ad : Nat → Nat → Nat) (h : PH) (k i : Nat) : (fvs ad h k i).length = nf k := by simp [fvs]
theorem fvs_ext {ad : Nat → Nat → Nat} {h : PH} {k i : Nat} {fs : List Value} (hl : fs.length = nf k) (hv : ∀ j, j < nf k → fs[j]? = some (fv ad h k i j)) : fs = fvs ad h k i := by
  apply List.ext_getElem?
  intro j
  by_cases hj : j < nf k
  · rw [hv j hj, fvs_at hj]
  · rw [List.getElem?_eq_none (by omega), List.getElem?_eq_none (by rw [fvs_len]; omega)]
/-- a cell's picture depends on its own columns alone -/
theorem cel_congr {cA : Nat → ClassId} {ad ad' : Nat → Nat → Nat} {h h' : PH} {k i : Nat} (hI' : ∀ j, j < 64 → ∀ z, hI h' (64 * k + j) i z = hI h (64 * k + j) i z) (hR' : ∀ j, j < 64 → ∀ z, hR h' (64 * k + j) i z = hR h (64 * k + j) i z) (hL' : hL h' k i = hL h k i)
    (had : ∀ j, k < 12 → j < nf k → ∀ kt, fk k j = some kt → ro ad' kt (hR h (64 * k + j) i 0) = ro ad kt (hR h (64 * k + j) i 0)) (had2 : 12 ≤ k → ∀ kt, akt k = some kt → ∀ z, ro ad' kt (hR h (64 * k) i z) = ro ad kt (hR h (64 * k) i z)) : cel cA ad' h' k i = cel cA ad h k i := by
  unfold cel
  split
  · rename_i hk
    congr 2
    refine fvs_ext (by rw [fvs_len]) (fun j hj => ?_)
    rw [fvs_at hj]
    congr 1
    have hj64 : j < 64 := Nat.lt_of_lt_of_le hj (Nat.le_trans (nf_le k) (by decide))
    unfold fv
    split
    · rw [hI' j hj64]
    · rename_i kt e
      rw [hR' j hj64, had j hk hj kt e]
  · rename_i hk
    unfold ca
    have h0 := hI' 0 (by decide)
    have h1 := hR' 0 (by decide)
    simp only [Nat.add_zero] at h0 h1
    split
    · rw [hL']
      simp only [h0]
    · rename_i kt e
      rw [hL']
      simp only [h1, had2 (by omega) kt e]
theorem ne_col {k k' j f : Nat} (hj : j < 64) (hf : f < 64) (h : 64 * k' + j = 64 * k + f) : k' = k ∧ j = f := by omega
theorem Sm_set {cA : Nat → ClassId} {ad ps : Nat → Nat → Nat} {ws : va_W} {h h' : PH} {kd i : Nat} {e' : va_E} (hS : Sm cA ad ps ws h) (hk : kd < 71) (hi : i < hN h kd) (hN' : hN h' = hN h) (hc : ∀ k' i', ¬ (k' = kd ∧ i' = i) → k' < 71 → i' < hN h k' → cel cA ad h' k' i' = cel cA ad h k' i') (he : cel cA ad h' kd i = e')
    (h3 : ∀ k i j kt, k < 12 → i < hN h k → j < nf k → fk k j = some kt → hR h' (64 * k + j) i 0 ≤ hN h kt) (h4 : ∀ k i j kt, 12 ≤ k → k < 71 → i < hN h k → akt k = some kt → hR h' (64 * k) i j ≤ hN h kt) (h5 : ∀ i j, i < hN h 26 → fits .short (.int (hI h' 1664 i j)) = true) : Sm cA ad ps (ws.set (ps kd i) (ad kd i, e')) h' := by
  obtain ⟨s1, s2, s3, s4, s5, s6⟩ := hS
  refine ⟨fun k' i' a1 a2 => ?_, fun k i k' i' => by rw [hN']; exact s2 k i k' i', by rw [hN']; exact h3, by rw [hN']; exact h4, by rw [hN']; exact h5, by rw [hN']; exact s6⟩
  rw [hN'] at a2
  by_cases e : k' = kd ∧ i' = i
  · obtain ⟨rfl, rfl⟩ := e
    have hlt : ps k' i' < ws.length := (List.getElem?_eq_some_iff.mp (s1 k' i' hk hi)).1
    rw [List.getElem?_set_self hlt, he]
  · rw [List.getElem?_set_ne (fun q => e (s2 k' i' kd i a1 hk a2 hi q.symm)), hc k' i' e a1 a2]
    exact s1 k' i' a1 a2
theorem Sm_pI {cA : Nat → ClassId} {ad ps : Nat → Nat → Nat} {ws : va_W} {h : PH} {kd i j f c : Nat} {v : Int32} {e' : va_E} (hS : Sm cA ad ps ws h) (hk : kd < 71) (hi : i < hN h kd) (hc : c = 64 * kd + f) (hf : f < 64) (hfit : kd = 26 → fits .short (.int v) = true) (he : cel cA ad (pI h c i j v) kd i = e') : Sm cA ad ps (ws.set (ps kd i) (ad kd i, e')) (pI h c i j v) := by
  refine Sm_set hS hk hi rfl (fun k' i' hne a1 a2 => ?_) he hS.2.2.1 hS.2.2.2.1 (fun a b ha => ?_)
  · refine cel_congr (fun q hq z => ?_) (fun _ _ _ => rfl) rfl (fun _ _ _ _ _ => rfl) (fun _ _ _ _ => rfl)
    rw [hI_pI, if_neg]
    rintro ⟨e1, e2, -⟩
    rw [hc] at e1
    exact hne ⟨(ne_col hq hf e1).1, e2⟩
  · rw [hI_pI]
    split
    · rename_i e
      exact hfit (by omega)
    · exact hS.2.2.2.2.1 a b ha
theorem Sm_pR {cA : Nat → ClassId} {ad ps : Nat → Nat → Nat} {ws : va_W} {h : PH} {kd i j f c v kt : Nat} {e' : va_E} (hS : Sm cA ad ps ws h) (hk : kd < 71) (hi : i < hN h kd) (hc : c = 64 * kd + f) (hf : f < 64) (hkt : (kd < 12 → fk kd f = some kt) ∧ (12 ≤ kd → akt kd = some kt)) (hv : v ≤ hN h kt) (he : cel cA ad (pR h c i j v) kd i = e') : Sm cA ad ps (ws.set (ps kd i) (ad kd i, e')) (pR h c i j v) := by
  refine Sm_set hS hk hi rfl (fun k' i' hne a1 a2 => ?_) he (fun k' i' j' kt' a1 a2 a3 a4 => ?_) (fun k' i' j' kt' a0 a1 a2 a4 => ?_) hS.2.2.2.2.1
  · refine cel_congr (fun _ _ _ => rfl) (fun q hq z => ?_) rfl (fun _ _ _ _ _ => ?_) (fun _ _ _ _ => ?_)
    · rw [hR_pR, if_neg]
      rintro ⟨e1, e2, -⟩
      rw [hc] at e1
      exact hne ⟨(ne_col hq hf e1).1, e2⟩
    · rfl
    · rfl
  · rw [hR_pR]
    split
    · rename_i e
      have hj64 : j' < 64 := Nat.lt_of_lt_of_le a3 (Nat.le_trans (nf_le k') (by decide))
      obtain ⟨rfl, rfl⟩ := ne_col hj64 hf (e.1.trans hc)
      have := (hkt.1 a1).symm.trans a4
      cases this
      exact hv
    · exact hS.2.2.1 k' i' j' kt' a1 a2 a3 a4
  · rw [hR_pR]
    split
    · rename_i e
      have e1 := ne_col (j := 0) (by decide) hf ((Nat.add_zero (64 * k')).trans (e.1.trans hc))
      obtain ⟨rfl, rfl⟩ := e1
      have := (hkt.2 a0).symm.trans a4
      cases this
      exact hv
    · exact hS.2.2.2.1 k' i' j' kt' a0 a1 a2 a4
/-- what the names say of a kind's class -/
def KO (kd : Nat) (C : String) (T : u_T) (ty : Nat → FieldType) : Prop := kd < 12 ∧ vwCl[kd]? = some (C, T, nf kd) ∧ (∀ w ∈ u_ws C T (nf kd), w ∈ TBg) ∧ (∀ k, k < nf kd → parseFieldDescriptor (T k).2.2.1 = some (ty k)) ∧ (∀ a, a < nf kd → ∀ b, b < nf kd → a ≠ b → (T a).2.1 ≠ (T b).2.1)
theorem Sm.obj {cA : Nat → ClassId} {ad ps : Nat → Nat → Nat} {ws : va_W} {h : PH} {kd i : Nat} (hS : Sm cA ad ps ws h) (hk : kd < 12) (hi : i < hN h kd) : ws[ps kd i]? = some (ad kd i, .inr (kd, fvs ad h kd i)) := by
  have := hS.1 kd i (by omega) hi
  rwa [cel, if_pos hk] at this
theorem Sm.iarr {cA : Nat → ClassId} {ad ps : Nat → Nat → Nat} {ws : va_W} {h : PH} {kd i : Nat} (hS : Sm cA ad ps ws h) (hk : 12 ≤ kd) (hk2 : kd < 71) (hi : i < hN h kd) (ha : akt kd = none) : ws[ps kd i]? = some (ad kd i, .inl (cA kd, hL h kd i, .inl (fun j => hI h (64 * kd) i j))) := by
  have := hS.1 kd i hk2 hi
  rwa [cel, if_neg (by omega), ca, ha] at this
theorem Sm.rarr {cA : Nat → ClassId} {ad ps : Nat → Nat → Nat} {ws : va_W} {h : PH} {kd i kt : Nat} (hS : Sm cA ad ps ws h) (hk : 12 ≤ kd) (hk2 : kd < 71) (hi : i < hN h kd) (ha : akt kd = some kt) : ws[ps kd i]? = some (ad kd i, .inl (cA kd, hL h kd i, .inr (.inr (.inr (.inr (fun j => ro ad kt (hR h (64 * kd) i j))))))) := by
  have := hS.1 kd i hk2 hi
  rwa [cel, if_neg (by omega), ca, ha] at this
theorem WD.sm {x : CX} {ad ps : Nat → Nat → Nat} {ws : va_W} {h : PH} {H : Heap} {locs : List Loc} (hw : WD x ad ps ws h H locs) : Sm (xcA x) ad ps ws h := hw.1
theorem beq_lit {q k : Nat} {A B : Option Rs} {r : Rs} (hB : B = none) (e : (bif Nat.beq q k then A else B) = some r) : q = k ∧ A = some r := by
  cases hq : Nat.beq q k with
  | true => rw [hq] at e; exact ⟨Nat.eq_of_beq_eq_true hq, e⟩
  | false => rw [hq, hB] at e; cases e
theorem nn_of {r : Nat} {f : Nat → Option Rs} {z : Rs} (e : nn r f = some z) : ∃ i, r = i + 1 ∧ f i = some z := by
  cases r with
  | zero => cases e
  | succ i => exact ⟨i, rfl, e⟩
theorem ix_of {y : Int32} {n : Nat} {f : Nat → Option Rs} {z : Rs} (e : ix y n f = some z) : vp_in y n ∧ f y.toNatClampNeg = some z := by
  unfold ix at e
  split at e
  · cases e
  · rename_i h
    exact ⟨h, e⟩
section SND
variable {x : CX} {pc : Nat} {k : Kn}
theorem s_gI {kd f c idx : Nat} {C : String} {T : u_T} {ty : Nat → FieldType} (ho : KO kd C T ty) (hf : f < nf kd) (hfk : fk kd f = none) (hc : c = 64 * kd + f) (hw : Cond.fieldLink (xown x) idx (T f).1 (T f).2.1 (T f).2.2.1 ∈ lw_tbl) (hd : decode (xcc x) pc = .ok (.getfield idx, 3)) (hk : SK x (pc + 3) k) : SK x pc (a_gI kd c k) := by
  intro ls st h r e
  unfold a_gI at e
  split at e
  · rename_i q rr st'
    obtain ⟨rfl, e1⟩ := beq_lit rfl e
    obtain ⟨i, rfl, e2⟩ := nn_of e1
    obtain ⟨⟨q1, q2⟩, q3⟩ := hk _ _ _ _ e2
    refine ⟨⟨q1, q2⟩, fun hx g1 g2 o ad ps ws H locs lR hW hl hn hv1 hs => ?_⟩
    have hi : i < hN h q := hs _ List.mem_cons_self
    have h3 := q3 hx g1 g2 o ad ps ws H locs lR hW hl hn hv1 (vv_cons trivial (fun w hw => hs w (List.mem_cons_of_mem _ hw)))
    refine va_get hx.1 hx.2.1 hx.2.2.2.2.1 ho.2.2.1 hx.2.2.2.1 hx.2.2.2.2.2.1.1 hW.2.1 (ps q i) (hW.1.obj ho.1 hi) ho.2.1 f hf (hx.2.2.2.2.1 _ (TBg_in hw rfl)) (fun _ z => z) (v := .int (hI h c i 0)) ?_ hd h3
    rw [fvs_at hf, fv, hfk, hc]
  · cases e
theorem s_gR {kd f c kt idx : Nat} {C : String} {T : u_T} {ty : Nat → FieldType} (ho : KO kd C T ty) (hf : f < nf kd) (hfk : fk kd f = some kt) (hc : c = 64 * kd + f) (hw : Cond.fieldLink (xown x) idx (T f).1 (T f).2.1 (T f).2.2.1 ∈ lw_tbl) (hd : decode (xcc x) pc = .ok (.getfield idx, 3)) (hk : SK x (pc + 3) k) : SK x pc (a_gR kd c kt k) := by
  intro ls st h r e
  unfold a_gR at e
  split at e
  · rename_i q rr st'
    obtain ⟨rfl, e1⟩ := beq_lit rfl e
    obtain ⟨i, rfl, e2⟩ := nn_of e1
    obtain ⟨⟨q1, q2⟩, q3⟩ := hk _ _ _ _ e2
    refine ⟨⟨q1, q2⟩, fun hx g1 g2 o ad ps ws H locs lR hW hl hn hv1 hs => ?_⟩
    have hi : i < hN h q := hs _ List.mem_cons_self
    have h3 := q3 hx g1 g2 o ad ps ws H locs lR hW hl hn hv1 (vv_cons (by rw [hc]; exact hW.1.2.2.1 q i f kt ho.1 hi hf hfk) (fun w hw => hs w (List.mem_cons_of_mem _ hw)))
    refine va_get hx.1 hx.2.1 hx.2.2.2.2.1 ho.2.2.1 hx.2.2.2.1 hx.2.2.2.2.2.1.1 hW.2.1 (ps q i) (hW.1.obj ho.1 hi) ho.2.1 f hf (hx.2.2.2.2.1 _ (TBg_in hw rfl)) (fun _ z => z) (v := va_rf (ro ad kt (hR h c i 0))) ?_ hd h3
    rw [fvs_at hf, fv, hfk, hc]
  · cases e
/-- the nest's way to a private field of another class -/
theorem s_gRN {kd f c kt idx : Nat} {C host : String} {T : u_T} {ty : Nat → FieldType} (ho : KO kd C T ty) (hf : f < nf kd) (hfk : fk kd f = some kt) (hc : c = 64 * kd + f) (hw : Cond.fieldLinkNest (xown x) idx (T f).1 (T f).2.1 (T f).2.2.1 host ∈ NWl) (hd : decode (xcc x) pc = .ok (.getfield idx, 3)) (hk : SK x (pc + 3) k) : SK x pc (a_gR kd c kt k) := by
  intro ls st h r e
  unfold a_gR at e
  split at e
  · rename_i q rr st'
    obtain ⟨rfl, e1⟩ := beq_lit rfl e
    obtain ⟨i, rfl, e2⟩ := nn_of e1
    obtain ⟨⟨q1, q2⟩, q3⟩ := hk _ _ _ _ e2
    refine ⟨⟨q1, q2⟩, fun hx g1 g2 o ad ps ws H locs lR hW hl hn hv1 hs => ?_⟩
    have hi : i < hN h q := hs _ List.mem_cons_self
    have h3 := q3 hx g1 g2 o ad ps ws H locs lR hW hl hn hv1 (vv_cons (by rw [hc]; exact hW.1.2.2.1 q i f kt ho.1 hi hf hfk) (fun w hw => hs w (List.mem_cons_of_mem _ hw)))
    refine va_getN hx.1 hx.2.1 hx.2.2.2.2.1 ho.2.2.1 hx.2.2.2.1 hx.2.2.2.2.2.1.1 hW.2.1 (ps q i) (hW.1.obj ho.1 hi) ho.2.1 f hf (va_Nw.use rfl (hx.2.2.2.2.2.1.2.1 _ hw)) (fun _ z => z) (v := va_rf (ro ad kt (hR h c i 0))) ?_ hd h3
    rw [fvs_at hf, fv, hfk, hc]
  · cases e
theorem WD.put {ad ps : Nat → Nat → Nat} {ws ws' : va_W} {h h' : PH} {H H' : Heap} {locs locs' : List Loc} (hW : WD x ad ps ws h H locs) (hS : Sm (xcA x) ad ps ws' h') (hP : va_P (xD x) vwCl ws' H') (hD : va_D (xA x) ws') (hV : va_S (xA x) (xS x).heap H' locs') (hN' : hN h' = hN h) : WD x ad ps ws' h' H' locs' :=
  ⟨hS, hP, hD, hV, hW.2.2.2.2.1, by rw [hN']; exact hW.2.2.2.2.2⟩
theorem vl_eq {h h' : PH} (hN' : hN h' = hN h) {ls : PL} (hv : ∀ v ∈ ls, vl h v) : ∀ v ∈ ls, vl h' v := by
  intro v hm w hw
  have := hv v hm w hw
  unfold vv at this ⊢
  split
  · trivial
  · rw [hN']
    exact this
theorem vv_eq {h h' : PH} (hN' : hN h' = hN h) {st : List PV} (hv : ∀ v ∈ st, vv h v) : ∀ v ∈ st, vv h' v := by
  intro v hm
  have := hv v hm
  unfold vv at this ⊢
  split
  · trivial
  · rw [hN']
    exact this
theorem fvs_pI {ad : Nat → Nat → Nat} {h : PH} {kd i f : Nat} {v : Int32} (hf : f < nf kd) (hfk : fk kd f = none) : fvs ad (pI h (64 * kd + f) i 0 v) kd i = (fvs ad h kd i).set f (.int v) := by
  symm
  refine fvs_ext (by simp [fvs_len]) (fun j hj => ?_)
  by_cases e : j = f
  · subst e
    rw [List.getElem?_set_self (by rw [fvs_len]; exact hj), fv, hfk, hI_pI, if_pos ⟨rfl, rfl, rfl⟩]
  · rw [List.getElem?_set_ne (fun q => e q.symm), fvs_at hj, fv, fv]
    split
    · rw [hI_pI, if_neg (fun q => e (by omega))]
    · rw [hR_pI]
theorem fvs_pR {ad : Nat → Nat → Nat} {h : PH} {kd i f kt v : Nat} (hf : f < nf kd) (hfk : fk kd f = some kt) : fvs ad (pR h (64 * kd + f) i 0 v) kd i = (fvs ad h kd i).set f (va_rf (ro ad kt v)) := by
  symm
  refine fvs_ext (by simp [fvs_len]) (fun j hj => ?_)
  by_cases e : j = f
  · subst e
    rw [List.getElem?_set_self (by rw [fvs_len]; exact hj), fv, hfk, hR_pR, if_pos ⟨rfl, rfl, rfl⟩]
  · rw [List.getElem?_set_ne (fun q => e q.symm), fvs_at hj, fv, fv]
    split
    · rw [hI_pR]
    · rw [hR_pR, if_neg (fun q => e (by omega))]
theorem s_pI {kd f c idx : Nat} {C : String} {T : u_T} {ty : Nat → FieldType} (ho : KO kd C T ty) (hf : f < nf kd) (hfk : fk kd f = none) (hc : c = 64 * kd + f) (hfin : (T f).2.2.2 = false) (hint : parseFieldDescriptor (T f).2.2.1 = some .int) (hw : Cond.fieldLink (xown x) idx (T f).1 (T f).2.1 (T f).2.2.1 ∈ lw_tbl) (hd : decode (xcc x) pc = .ok (.putfield idx, 3)) (hk : SK x (pc + 3) k) : SK x pc (a_pI kd c k) := by
  subst hc
  intro ls st h r e
  unfold a_pI at e
  split at e
  · rename_i v q rr st'
    obtain ⟨rfl, e1⟩ := beq_lit rfl e
    obtain ⟨i, rfl, e2⟩ := nn_of e1
    obtain ⟨⟨q1, q2⟩, q3⟩ := hk _ _ _ _ e2
    refine ⟨⟨q1, q2⟩, fun hx g1 g2 o ad ps ws H locs lR hW hl hn hv1 hs => ?_⟩
    have hi : i < hN h q := hs _ (List.mem_cons_of_mem _ List.mem_cons_self)
    have h12 := ho.1
    refine va_put hx.1 hx.2.1 hx.2.2.2.2.1 ho.2.2.1 ty ho.2.2.2.1 ho.2.2.2.2 hx.2.2.2.1 hx.2.2.2.2.2.1.1 hW.2.1 hW.2.2.1 hW.2.2.2.1 (ps q i) (hW.1.obj ho.1 hi) ho.2.1 f hf (hx.2.2.2.2.1 _ (TBg_in hw rfl)) (fun _ z => z) hfin hint rfl rfl (by rw [fvs_len]; exact hf) hd (fun H1 locs1 hP hD hS => ?_)
    refine q3 hx g1 g2 o ad ps _ H1 locs1 lR (hW.put (Sm_pI hW.1 (by omega) hi rfl (Nat.lt_of_lt_of_le hf (Nat.le_trans (nf_le q) (by decide))) (by omega) ?_) hP hD hS rfl) hl hn (vl_eq rfl hv1) (vv_eq (h := h) rfl (fun w hw => hs w (List.mem_cons_of_mem _ (List.mem_cons_of_mem _ hw))))
    rw [cel, if_pos ho.1, fvs_pI hf hfk]
    rfl
  · cases e
theorem nar_z {v : Int32} (h : v = 0 ∨ v = 1) : narrow .boolean (.int v) = .int v ∧ fits .boolean (.int v) = true := by
  rcases h with rfl | rfl <;> exact ⟨by decide +kernel, by decide +kernel⟩
theorem bz_of {y : Int32} {f : Option Rs} {z : Rs} (e : bz y f = some z) : (y = 0 ∨ y = 1) ∧ f = some z := by
  unfold bz at e
  split at e
  · rename_i h
    exact ⟨h, e⟩
  · cases e
theorem s_pZ {kd f c idx : Nat} {C : String} {T : u_T} {ty : Nat → FieldType} (ho : KO kd C T ty) (hf : f < nf kd) (hfk : fk kd f = none) (hc : c = 64 * kd + f) (hfin : (T f).2.2.2 = false) (hint : parseFieldDescriptor (T f).2.2.1 = some .boolean) (hw : Cond.fieldLink (xown x) idx (T f).1 (T f).2.1 (T f).2.2.1 ∈ lw_tbl) (hd : decode (xcc x) pc = .ok (.putfield idx, 3)) (hk : SK x (pc + 3) k) : SK x pc (a_pZ kd c k) := by
  subst hc
  intro ls st h r e
  unfold a_pZ at e
  split at e
  · rename_i v q rr st'
    obtain ⟨rfl, e1⟩ := beq_lit rfl e
    obtain ⟨i, rfl, e2⟩ := nn_of e1
    obtain ⟨hz, e3⟩ := bz_of e2
    obtain ⟨⟨q1, q2⟩, q3⟩ := hk _ _ _ _ e3
    refine ⟨⟨q1, q2⟩, fun hx g1 g2 o ad ps ws H locs lR hW hl hn hv1 hs => ?_⟩
    have hi : i < hN h q := hs _ (List.mem_cons_of_mem _ List.mem_cons_self)
    have h12 := ho.1
    refine va_put hx.1 hx.2.1 hx.2.2.2.2.1 ho.2.2.1 ty ho.2.2.2.1 ho.2.2.2.2 hx.2.2.2.1 hx.2.2.2.2.2.1.1 hW.2.1 hW.2.2.1 hW.2.2.2.1 (ps q i) (hW.1.obj ho.1 hi) ho.2.1 f hf (hx.2.2.2.2.1 _ (TBg_in hw rfl)) (fun _ z => z) hfin hint (nar_z hz).1 (nar_z hz).2 (by rw [fvs_len]; exact hf) hd (fun H1 locs1 hP hD hS => ?_)
    refine q3 hx g1 g2 o ad ps _ H1 locs1 lR (hW.put (Sm_pI hW.1 (by omega) hi rfl (Nat.lt_of_lt_of_le hf (Nat.le_trans (nf_le q) (by decide))) (by omega) ?_) hP hD hS rfl) hl hn (vl_eq rfl hv1) (vv_eq (h := h) rfl (fun w hw => hs w (List.mem_cons_of_mem _ (List.mem_cons_of_mem _ hw))))
    rw [cel, if_pos ho.1, fvs_pI hf hfk]
    rfl
  · cases e
end SND
