/-! new cells -/
theorem hN_nw (h : PH) (k len sl q : Nat) : hN (nw h k len sl) q = if q = k then hN h k + 1 else hN h q := rfl
theorem hI_nw (h : PH) (k len sl c i j : Nat) : hI (nw h k len sl) c i j = if c / 64 = k ∧ i = hN h k then 0 else hI h c i j := rfl
theorem hR_nw (h : PH) (k len sl c i j : Nat) : hR (nw h k len sl) c i j = if c / 64 = k ∧ i = hN h k then 0 else hR h c i j := rfl
theorem hL_nw (h : PH) (k len sl q i : Nat) : hL (nw h k len sl) q i = if q = k ∧ i = hN h k then len else hL h q i := rfl
theorem hC_nw (h : PH) (k len sl : Nat) : hC (nw h k len sl) = hC h + 1 := rfl
theorem hS_nw (h : PH) (k len sl : Nat) : hS (nw h k len sl) = hS h + sl := rfl
def adN (ad : Nat → Nat → Nat) (h : PH) (kd q : Nat) : Nat → Nat → Nat := fun k i => if k = kd ∧ i = hN h kd then q else ad k i
theorem adN_old {ad : Nat → Nat → Nat} {h : PH} {kd q k i : Nat} (hi : i < hN h k) : adN ad h kd q k i = ad k i := by
  unfold adN
  rw [if_neg]
  rintro ⟨rfl, rfl⟩
  exact Nat.lt_irrefl _ hi
theorem hN_le_nw (h : PH) (k len sl q : Nat) : hN h q ≤ hN (nw h k len sl) q := by
  rw [hN_nw]
  split
  · rename_i e
    rw [e]
    omega
  · exact Nat.le_refl _
theorem ro_ext {ad ad' : Nat → Nat → Nat} {n k r : Nat} (he : ∀ i, i < n → ad' k i = ad k i) (hr : r ≤ n) : ro ad' k r = ro ad k r := by
  cases r with
  | zero => rfl
  | succ i => exact congrArg some (he i hr)
theorem rv_ext {ad ad' : Nat → Nat → Nat} {h : PH} (he : ∀ k i, i < hN h k → ad' k i = ad k i) {v : PV} (hv : vv h v) : rv ad' v = rv ad v := by
  rcases v with y | ⟨k, r⟩
  · rfl
  · exact congrArg va_rf (ro_ext (he k) hv)
theorem st_ext {ad ad' : Nat → Nat → Nat} {h : PH} (he : ∀ k i, i < hN h k → ad' k i = ad k i) {st : List PV} (hv : ∀ v ∈ st, vv h v) : st.map (rv ad') = st.map (rv ad) := List.map_congr_left fun v hm => rv_ext he (hv v hm)
theorem ls_ext {ad ad' : Nat → Nat → Nat} {h : PH} (he : ∀ k i, i < hN h k → ad' k i = ad k i) : ∀ {ls : PL} {i : Nat}, (∀ v ∈ ls, vl h v) → lvs ad' i ls = lvs ad i ls
  | [], _, _ => rfl
  | none :: t, i, hv => by
    simp only [lvs]
    exact ls_ext he fun v hm => hv v (List.mem_cons_of_mem _ hm)
  | some w :: t, i, hv => by
    simp only [lvs]
    rw [rv_ext he (hv _ List.mem_cons_self w rfl), ls_ext he fun v hm => hv v (List.mem_cons_of_mem _ hm)]
theorem vv_le {h h' : PH} (hle : ∀ k, hN h k ≤ hN h' k) {st : List PV} (hv : ∀ v ∈ st, vv h v) : ∀ v ∈ st, vv h' v := by
  intro v hm
  have := hv v hm
  unfold vv at this ⊢
  split
  · trivial
  · exact Nat.le_trans this (hle _)
theorem vl_le {h h' : PH} (hle : ∀ k, hN h k ≤ hN h' k) {ls : PL} (hv : ∀ v ∈ ls, vl h v) : ∀ v ∈ ls, vl h' v := by
  intro v hm w hw
  have := hv v hm w hw
  unfold vv at this ⊢
  split
  · trivial
  · exact Nat.le_trans this (hle _)
theorem div64 (k j : Nat) (hj : j < 64) : (64 * k + j) / 64 = k := by omega
theorem Sm_nw {cA : Nat → ClassId} {ad ps : Nat → Nat → Nat} {ws : va_W} {h : PH} {kd len sl q : Nat} {e' : va_E} (hS : Sm cA ad ps ws h) (hk : kd < 71) (he : cel cA (adN ad h kd q) (nw h kd len sl) kd (hN h kd) = e') : Sm cA (adN ad h kd q) (adN ps h kd ws.length) (ws ++ [(q, e')]) (nw h kd len sl) := by
  obtain ⟨s1, s2, s3, s4, s5, s6⟩ := hS
  have lt : ∀ k i, k < 71 → i < hN h k → ps k i < ws.length := fun k i a b => (List.getElem?_eq_some_iff.mp (s1 k i a b)).1
  have old : ∀ k i, i < hN (nw h kd len sl) k → i < hN h k ∨ (k = kd ∧ i = hN h kd) := by
    intro k i hi
    rw [hN_nw] at hi
    split at hi
    · rename_i e
      subst e
      omega
    · exact Or.inl hi
  refine ⟨fun k i a1 a2 => ?_, fun k i k' i' a1 a2 a3 a4 a5 => ?_, fun k i j kt a1 a2 a3 a4 => ?_, fun k i j kt a0 a1 a2 a4 => ?_, fun i j a => ?_, ⟨by rw [hN_nw, if_neg (by omega)]; exact s6.1, by rw [hN_nw, if_neg (by omega)]; exact s6.2.1, by rw [hN_nw, if_neg (by omega)]; exact s6.2.2.1, by rw [hN_nw, if_neg (by omega)]; exact s6.2.2.2⟩⟩
  · rcases old k i a2 with hi | ⟨rfl, rfl⟩
    · rw [adN_old hi, adN_old hi, List.getElem?_append_left (lt k i a1 hi), s1 k i a1 hi]
      congr 2
      symm
      have hne : ∀ j, j < 64 → ¬ ((64 * k + j) / 64 = kd ∧ i = hN h kd) := by
        rintro j hj ⟨e1, e2⟩
        rw [div64 k j hj] at e1
        subst e1
        omega
      refine cel_congr (fun j hj z => ?_) (fun j hj z => ?_) ?_ (fun j b1 b2 kt b3 => ?_) (fun b1 kt b2 z => ?_)
      · rw [hI_nw, if_neg (hne j hj)]
      · rw [hR_nw, if_neg (hne j hj)]
      · rw [hL_nw, if_neg]
        rintro ⟨rfl, rfl⟩
        omega
      · exact ro_ext (fun i' hi' => adN_old hi') (s3 k i j kt b1 hi b2 b3)
      · exact ro_ext (fun i' hi' => adN_old hi') (s4 k i z kt b1 a1 hi b2)
    · have e1 : adN ps h k ws.length k (hN h k) = ws.length := if_pos ⟨rfl, rfl⟩
      have e2 : adN ad h k q k (hN h k) = q := if_pos ⟨rfl, rfl⟩
      rw [e1, e2, he, List.getElem?_append_right (Nat.le_refl _)]
      simp
  · rcases old k i a3 with hi | ⟨rfl, rfl⟩
    · rcases old k' i' a4 with hi' | ⟨rfl, rfl⟩
      · rw [adN_old hi, adN_old hi'] at a5
        exact s2 k i k' i' a1 a2 hi hi' a5
      · have e1 : adN ps h k' ws.length k' (hN h k') = ws.length := if_pos ⟨rfl, rfl⟩
        rw [adN_old hi, e1] at a5
        have := lt k i a1 hi
        omega
    · rcases old k' i' a4 with hi' | ⟨rfl, rfl⟩
      · have e1 : adN ps h k ws.length k (hN h k) = ws.length := if_pos ⟨rfl, rfl⟩
        rw [adN_old hi', e1] at a5
        have := lt k' i' a2 hi'
        omega
      · exact ⟨rfl, rfl⟩
  · rw [hR_nw]
    split
    · exact Nat.zero_le _
    · rename_i hne
      rcases old k i a2 with hi | ⟨rfl, rfl⟩
      · exact Nat.le_trans (s3 k i j kt a1 hi a3 a4) (hN_le_nw _ _ _ _ _)
      · exact absurd ⟨div64 k j (Nat.lt_of_lt_of_le a3 (Nat.le_trans (nf_le k) (by decide))), rfl⟩ hne
  · rw [hR_nw]
    split
    · exact Nat.zero_le _
    · rename_i hne
      rcases old k i a2 with hi | ⟨rfl, rfl⟩
      · exact Nat.le_trans (s4 k i j kt a0 a1 hi a4) (hN_le_nw _ _ _ _ _)
      · exact absurd ⟨by have := div64 k 0 (by decide); simpa using this, rfl⟩ hne
  · rw [hI_nw]
    split
    · decide +kernel
    · rename_i hne
      rcases old 26 i a with hi | ⟨e1, rfl⟩
      · exact s5 i j hi
      · exact absurd ⟨by omega, rfl⟩ hne
section SND
variable {x : CX} {pc : Nat} {k : Kn}
theorem WD.nw {ad ps : Nat → Nat → Nat} {ws ws' : va_W} {h : PH} {H H' : Heap} {locs locs' : List Loc} {kd len sl q : Nat} {ps' : Nat → Nat → Nat} (hW : WD x ad ps ws h H locs) (hS : Sm (xcA x) (adN ad h kd q) ps' ws' (nw h kd len sl)) (hP : va_P (xD x) vwCl ws' H') (hD : va_D (xA x) ws') (hV : va_S (xA x) (xS x).heap H' locs') : WD x (adN ad h kd q) ps' ws' (nw h kd len sl) H' locs' :=
  ⟨hS, hP, hD, hV, fun k i hi => (adN_old (Nat.lt_of_lt_of_le hi (hW.2.2.2.2.2 k))).trans (hW.2.2.2.2.1 k i hi), fun k => Nat.le_trans (hW.2.2.2.2.2 k) (hN_le_nw _ _ _ _ _)⟩
theorem xA_new (hx : OKx x) : ∀ q, (xS x).heap.size ≤ q → xA x q := fun _ hq => Nat.le_trans hx.2.2.2.2.2.2.1 hq
theorem s_new {kd idx : Nat} {C : String} {T : u_T} {ty : Nat → FieldType} {n : Nat} (ho : KO kd C T ty) (hn : n = nf kd) (hdf : ∀ j, j < nf kd → defaultValue (ty j) = match fk kd j with | none => .int 0 | some _ => .null) (hcl : Cond.classLink (xown x) idx C ∈ lw_tbl) (hins : Cond.instantiable C (nf kd) ∈ lw_tbl) (hini : Cond.initialized C ∈ lw_tbl) (hd : decode (xcc x) pc = .ok (.new idx, 3)) (hk : SK x (pc + 3) k) : SK x pc (a_new kd n k) := by
  subst hn
  intro ls st h r e
  obtain ⟨⟨q1, q2⟩, q3⟩ := hk _ _ _ _ e
  rw [hC_nw] at q1
  rw [hS_nw] at q2
  have h12 := ho.1
  refine ⟨⟨by omega, by omega⟩, fun hx g1 g2 o ad ps ws H locs lR hW hl hn hv1 hs => ?_⟩
  have hc1 : hC h - hC (xh x) + 1 ≤ (xRm x r).cells := by have := o.1; omega
  have hs1 : hS h - hS (xh x) + nf kd ≤ (xRm x r).slots := by have := o.2.1; omega
  refine va_new hx.1 hx.2.1 hx.2.2.2.2.1 ho.2.2.1 ty ho.2.2.2.1 hx.2.2.2.1 (hx.2.2.2.2.1 _ (TBg_in hcl rfl)) (hx.2.2.2.2.1 _ (TBg_in hins rfl)) (hx.2.2.2.2.1 _ (TBg_in hini rfl)) hx.2.2.2.2.2.1.1 hW.2.1 hW.2.2.1 hW.2.2.2.1 (xA_new hx) ho.2.1 (fs := fvs ad (nw h kd 0 (nf kd)) kd (hN h kd)) (fun j hj => ?_) hc1 hs1 hd (fun q H1 hP hD hS => ?_)
  · rw [hdf j hj]
    show _ = (fvs ad (nw h kd 0 (nf kd)) kd (hN h kd)).getD j .null
    rw [List.getD_eq_getElem?_getD, fvs_at hj]
    have hq : (64 * kd + j) / 64 = kd ∧ hN h kd = hN h kd := ⟨div64 kd j (Nat.lt_of_lt_of_le hj (Nat.le_trans (nf_le kd) (by decide))), rfl⟩
    simp only [fv, Option.getD_some, hI_nw, hR_nw, hq.1, and_self, if_true]
    cases fk kd j <;> rfl
  · have hext : ∀ k i, i < hN h k → adN ad h kd q k i = ad k i := fun k i hi => adN_old hi
    have hfe : fvs (adN ad h kd q) (nw h kd 0 (nf kd)) kd (hN h kd) = fvs ad (nw h kd 0 (nf kd)) kd (hN h kd) := by
      refine fvs_ext (by rw [fvs_len]) (fun j hj => ?_)
      rw [fvs_at hj]
      congr 1
      simp only [fv]
      split
      · rfl
      · rename_i kt e0
        have hq : (64 * kd + j) / 64 = kd ∧ hN h kd = hN h kd := ⟨div64 kd j (Nat.lt_of_lt_of_le hj (Nat.le_trans (nf_le kd) (by decide))), rfl⟩
        rw [hR_nw, if_pos hq]
        rfl
    have h3 := q3 hx (by rw [hC_nw]; omega) (by rw [hS_nw]; omega) o (adN ad h kd q) (adN ps h kd ws.length) _ H1 locs lR (hW.nw (Sm_nw (q := q) (len := 0) (sl := nf kd) hW.1 (by omega) (by rw [cel, if_pos ho.1, hfe])) hP hD hS) (by rw [ls_ext hext hv1]; exact hl) hn (vl_le (fun _ => hN_le_nw _ _ _ _ _) hv1) (vv_cons (by show hN h kd + 1 ≤ hN (nw h kd 0 (nf kd)) kd; rw [hN_nw, if_pos rfl]; exact Nat.le_refl _) (vv_le (fun _ => hN_le_nw _ _ _ _ _) hs))
    rw [List.map_cons, st_ext hext hs] at h3
    have e2 : rv (adN ad h kd q) (.inr (kd, hN h kd + 1)) = .ref q := by
      show va_rf (some (adN ad h kd q kd (hN h kd))) = .ref q
      have : adN ad h kd q kd (hN h kd) = q := if_pos ⟨rfl, rfl⟩
      rw [this]
      rfl
    rw [e2] at h3
    exact W.cs (by rw [hC_nw]; omega) (by rw [hS_nw]; omega) h3
theorem nl_of {y : Int32} {f : Nat → Option Rs} {z : Rs} (e : nl y f = some z) : ¬ y < 0 ∧ y.toNatClampNeg < 65536 ∧ f y.toNatClampNeg = some z := by
  unfold nl at e
  split at e
  · cases e
  · rename_i h
    exact ⟨fun q => h (Or.inl q), Nat.not_le.mp fun q => h (Or.inr q), e⟩
theorem ra_cls {s : State} {c : ClassId} {ty : FieldType} (h : va_RA s c ty) : s.vm.findClass ("[" ++ ty.toString) = some c := by
  cases ty <;> first | exact h | (obtain ⟨_, _, _, _, _, h4⟩ := h; exact h4)
theorem K_last {D : va_G} {cl : List vw_C} {tys : List (ClassId × FieldType)} {s : State} {c : ClassId} {ty : FieldType} (h : va_K D cl (tys ++ [(c, ty)]) s) : va_RA s c ty := (h.2 tys.length (c, ty) (by simp)).2
theorem cA_eq (hx : OKx x) {kd : Nat} {c : ClassId} (h1 : 12 ≤ kd) (h2 : kd < 71) (h : va_RA (xS x) c (aty kd)) : c = xcA x kd := by
  have hb := (hx.2.2.2.2.2.1.1.2 (kd - 12) _ (tys_at (xcA x) h1 h2)).2
  exact Option.some.inj ((ra_cls h).symm.trans (ra_cls hb))
theorem s_nwa {kd : Nat} {at0 : ArrayType} (h1 : 12 ≤ kd) (h2 : kd < 71) (ha : akt kd = none) (hty : newarray.typeOf at0 = aty kd) (hdv : defaultValue (aty kd) = .int 0) (hcb : componentBytes (aty kd) ≤ 8) (hac : Cond.arrayClass (newarray.typeOf at0) ∈ lw_tbl) (hd : decode (xcc x) pc = .ok (.newarray at0, 2)) (hk : SK x (pc + 2) k) : SK x pc (a_nwa kd k) := by
  intro ls st h r e
  unfold a_nwa at e
  split at e
  · rename_i y st'
    obtain ⟨hy0, hyb, e1⟩ := nl_of e
    generalize hn0 : y.toNatClampNeg = n at hyb e1
    obtain ⟨⟨q1, q2⟩, q3⟩ := hk _ _ _ _ e1
    rw [hC_nw] at q1
    rw [hS_nw] at q2
    refine ⟨⟨by omega, by omega⟩, fun hx g1 g2 o ad ps ws H locs lR hW hl hn hv1 hs => ?_⟩
    have hc1 : hC h - hC (xh x) + 1 ≤ (xRm x r).cells := by have := o.1; omega
    have hs1 : hS h - hS (xh x) + n ≤ (xRm x r).slots := by have := o.2.1; omega
    have hs' : ∀ w ∈ st', vv h w := fun w hw => hs w (List.mem_cons_of_mem _ hw)
    refine va_newa (atype := at0) hx.1 hx.2.1 (hx.2.2.2.2.1 _ (TBg_in hac rfl)) hty hx.2.2.2.2.2.1.1 hW.2.1 hW.2.2.1 hW.2.2.2.1 (xA_new hx) (N' := n) (a0 := (n, .inl (fun _ => 0))) (fun c => by rw [hdv]; rfl) hy0 hn0 (Nat.le_trans (Nat.mul_le_mul (Nat.le_of_lt hyb) hcb) (by decide)) hc1 hs1 hd (fun q cN H1 hK1 hP hD hS => ?_)
    have hcN := cA_eq hx h1 h2 (K_last hK1)
    subst hcN
    have hext : ∀ k i, i < hN h k → adN ad h kd q k i = ad k i := fun k i hi => adN_old hi
    have h3 := q3 hx (by rw [hC_nw]; omega) (by rw [hS_nw]; omega) o (adN ad h kd q) (adN ps h kd ws.length) _ H1 locs lR (hW.nw (Sm_nw (q := q) (len := n) (sl := n) hW.1 h2 (e' := .inl (xcA x kd, n, .inl (fun _ => 0))) (by
      rw [cel, if_neg (by omega), ca, ha]
      simp only [hL_nw, and_self, if_true]
      congr 4
      funext j
      rw [hI_nw, if_pos ⟨by have := div64 kd 0 (by decide); simpa using this, rfl⟩])) hP hD hS) (by rw [ls_ext hext hv1]; exact hl) hn (vl_le (fun _ => hN_le_nw _ _ _ _ _) hv1) (vv_cons (by show hN h kd + 1 ≤ hN (nw h kd n n) kd; rw [hN_nw, if_pos rfl]; exact Nat.le_refl _) (vv_le (fun _ => hN_le_nw _ _ _ _ _) hs'))
    rw [List.map_cons, st_ext hext hs'] at h3
    have e2 : rv (adN ad h kd q) (.inr (kd, hN h kd + 1)) = .ref q := by
      show va_rf (some (adN ad h kd q kd (hN h kd))) = .ref q
      have : adN ad h kd q kd (hN h kd) = q := if_pos ⟨rfl, rfl⟩
      rw [this]
      rfl
    rw [e2] at h3
    exact W.cs (by rw [hC_nw]; omega) (by rw [hS_nw]; omega) h3
  · cases e
theorem s_nwq {kd kt idx : Nat} {C : String} (h1 : 12 ≤ kd) (h2 : kd < 71) (ha : akt kd = some kt) (hty : aty kd = .object C) (hao : C ∈ AOl) (hcl : Cond.classLink (xown x) idx C ∈ lw_tbl) (hd : decode (xcc x) pc = .ok (.anewarray idx, 3)) (hk : SK x (pc + 3) k) : SK x pc (a_nwa kd k) := by
  intro ls st h r e
  unfold a_nwa at e
  split at e
  · rename_i y st'
    obtain ⟨hy0, hyb, e1⟩ := nl_of e
    generalize hn0 : y.toNatClampNeg = n at hyb e1
    obtain ⟨⟨q1, q2⟩, q3⟩ := hk _ _ _ _ e1
    rw [hC_nw] at q1
    rw [hS_nw] at q2
    refine ⟨⟨by omega, by omega⟩, fun hx g1 g2 o ad ps ws H locs lR hW hl hn hv1 hs => ?_⟩
    have hc1 : hC h - hC (xh x) + 1 ≤ (xRm x r).cells := by have := o.1; omega
    have hs1 : hS h - hS (xh x) + n ≤ (xRm x r).slots := by have := o.2.1; omega
    have hs' : ∀ w ∈ st', vv h w := fun w hw => hs w (List.mem_cons_of_mem _ hw)
    refine va_newq hx.1 hx.2.1 hx.2.2.2.1 (hx.2.2.2.2.1 _ (TBg_in hcl rfl)) (hx.2.2.2.2.2.1.2.2.1 C hao) hx.2.2.2.2.2.1.1 hW.2.1 hW.2.2.1 hW.2.2.2.1 (xA_new hx) (N' := n) hy0 hn0 (Nat.le_trans (Nat.mul_le_mul_right 4 (Nat.le_of_lt hyb)) (by decide)) hc1 hs1 hd (fun q cN H1 hK1 hP hD hS => ?_)
    have hcN := cA_eq hx h1 h2 (by rw [hty]; exact K_last hK1)
    subst hcN
    have hext : ∀ k i, i < hN h k → adN ad h kd q k i = ad k i := fun k i hi => adN_old hi
    have h3 := q3 hx (by rw [hC_nw]; omega) (by rw [hS_nw]; omega) o (adN ad h kd q) (adN ps h kd ws.length) _ H1 locs lR (hW.nw (Sm_nw (q := q) (len := n) (sl := n) hW.1 h2 (e' := .inl (xcA x kd, n, .inr (.inr (.inr (.inr (fun _ => none)))))) (by
      rw [cel, if_neg (by omega), ca, ha]
      simp only [hL_nw, and_self, if_true]
      congr 7
      funext j
      rw [hR_nw, if_pos ⟨by have := div64 kd 0 (by decide); simpa using this, rfl⟩]
      rfl)) hP hD hS) (by rw [ls_ext hext hv1]; exact hl) hn (vl_le (fun _ => hN_le_nw _ _ _ _ _) hv1) (vv_cons (by show hN h kd + 1 ≤ hN (nw h kd n n) kd; rw [hN_nw, if_pos rfl]; exact Nat.le_refl _) (vv_le (fun _ => hN_le_nw _ _ _ _ _) hs'))
    rw [List.map_cons, st_ext hext hs'] at h3
    have e2 : rv (adN ad h kd q) (.inr (kd, hN h kd + 1)) = .ref q := by
      show va_rf (some (adN ad h kd q kd (hN h kd))) = .ref q
      have : adN ad h kd q kd (hN h kd) = q := if_pos ⟨rfl, rfl⟩
      rw [this]
      rfl
    rw [e2] at h3
    exact W.cs (by rw [hC_nw]; omega) (by rw [hS_nw]; omega) h3
  · cases e
end SND
