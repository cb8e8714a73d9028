/-! references in fields; fields that are final; arrays -/
section SND
variable {x : CX} {pc : Nat} {k : Kn}
theorem rv_nar {ad : Nat → Nat → Nat} {t : FieldType} (ht : refKind t = true) (q : Nat × Nat) : narrow t (rv ad (.inr q)) = rv ad (.inr q) ∧ fits t (rv ad (.inr q)) = true := by
  rcases rv_ref ad q with ⟨-, z⟩ | ⟨j, -, z⟩ <;> rw [z] <;> cases t <;> first | exact ⟨rfl, rfl⟩ | cases ht
theorem beq_lit2 {q k q' k' : Nat} {A B : Option Rs} {r : Rs} (hB : B = none) (e : (bif Nat.beq q k && Nat.beq q' k' then A else B) = some r) : q = k ∧ q' = k' ∧ A = some r := by
  cases hq : Nat.beq q k with
  | true =>
    cases hq' : Nat.beq q' k' with
    | true => rw [hq, hq'] at e; exact ⟨Nat.eq_of_beq_eq_true hq, Nat.eq_of_beq_eq_true hq', e⟩
    | false => rw [hq, hq', hB] at e; cases e
  | false => rw [hq, hB] at e; cases e
theorem s_pR {kd f c kt idx : Nat} {C : String} {T : u_T} {ty : Nat → FieldType} {t : FieldType} (ho : KO kd C T ty) (hf : f < nf kd) (hfk : fk kd f = some kt) (hc : c = 64 * kd + f) (hfin : (T f).2.2.2 = false) (hint : parseFieldDescriptor (T f).2.2.1 = some t) (hrk : refKind t = true) (hw : Cond.fieldLink (xown x) idx (T f).1 (T f).2.1 (T f).2.2.1 ∈ lw_tbl) (hd : decode (xcc x) pc = .ok (.putfield idx, 3)) (hk : SK x (pc + 3) k) : SK x pc (a_pR kd c kt k) := by
  subst hc
  intro ls st h r e
  unfold a_pR at e
  split at e
  · rename_i q' v q rr st'
    obtain ⟨rfl, rfl, e1⟩ := beq_lit2 rfl e
    obtain ⟨i, rfl, e2⟩ := nn_of e1
    obtain ⟨⟨q1, q2⟩, q3⟩ := hk _ _ _ _ e2
    refine ⟨⟨q1, q2⟩, fun hx g1 g2 o ad ps ws H locs lR hW hl hn hv1 hs => ?_⟩
    have hi : i < hN h q := hs _ (List.mem_cons_of_mem _ List.mem_cons_self)
    have hvv : v ≤ hN h q' := hs _ List.mem_cons_self
    have h12 := ho.1
    refine va_put hx.1 hx.2.1 hx.2.2.2.2.1 ho.2.2.1 ty ho.2.2.2.1 ho.2.2.2.2 hx.2.2.2.1 hx.2.2.2.2.2.1.1 hW.2.1 hW.2.2.1 hW.2.2.2.1 (ps q i) (hW.1.obj ho.1 hi) ho.2.1 f hf (hx.2.2.2.2.1 _ (TBg_in hw rfl)) (fun _ z => z) hfin hint (rv_nar hrk (q', v)).1 (rv_nar hrk (q', v)).2 (by rw [fvs_len]; exact hf) hd (fun H1 locs1 hP hD hS => ?_)
    refine q3 hx g1 g2 o ad ps _ H1 locs1 lR (hW.put (Sm_pR hW.1 (by omega) hi rfl (Nat.lt_of_lt_of_le hf (Nat.le_trans (nf_le q) (by decide))) ⟨fun _ => hfk, by omega⟩ hvv ?_) hP hD hS rfl) hl hn (vl_eq rfl hv1) (vv_eq (h := h) rfl (fun w hw => hs w (List.mem_cons_of_mem _ (List.mem_cons_of_mem _ hw))))
    rw [cel, if_pos ho.1, fvs_pR hf hfk]
    rfl
  · cases e
theorem s_pRF {kd f c kt idx : Nat} {C : String} {T : u_T} {ty : Nat → FieldType} {t : FieldType} (ho : KO kd C T ty) (hf : f < nf kd) (hfk : fk kd f = some kt) (hc : c = 64 * kd + f) (hin : xnm x = "<init>") (hdc : (T f).1 = xown x) (hfin : (T f).2.2.2 = true) (hint : parseFieldDescriptor (T f).2.2.1 = some t) (hrk : refKind t = true) (hw : Cond.fieldLink (xown x) idx (T f).1 (T f).2.1 (T f).2.2.1 ∈ lw_tbl) (hd : decode (xcc x) pc = .ok (.putfield idx, 3)) (hk : SK x (pc + 3) k) : SK x pc (a_pR kd c kt k) := by
  subst hc
  intro ls st h r e
  unfold a_pR at e
  split at e
  · rename_i q' v q rr st'
    obtain ⟨rfl, rfl, e1⟩ := beq_lit2 rfl e
    obtain ⟨i, rfl, e2⟩ := nn_of e1
    obtain ⟨⟨q1, q2⟩, q3⟩ := hk _ _ _ _ e2
    refine ⟨⟨q1, q2⟩, fun hx g1 g2 o ad ps ws H locs lR hW hl hn hv1 hs => ?_⟩
    have hi : i < hN h q := hs _ (List.mem_cons_of_mem _ List.mem_cons_self)
    have hvv : v ≤ hN h q' := hs _ List.mem_cons_self
    have h12 := ho.1
    refine va_putF hx.1 hx.2.1 hx.2.2.2.2.1 ho.2.2.1 ty ho.2.2.2.1 ho.2.2.2.2 hx.2.2.2.1 hx.2.2.2.2.2.1.1 hW.2.1 hW.2.2.1 hW.2.2.2.1 (ps q i) (hW.1.obj ho.1 hi) ho.2.1 f hf (hx.2.2.2.2.1 _ (TBg_in hw rfl)) (fun _ z => z) hfin (hx.2.2.2.2.2.2.2.2.2.2.trans hin) hdc hint (rv_nar hrk (q', v)).1 (rv_nar hrk (q', v)).2 (by rw [fvs_len]; exact hf) hd (fun H1 locs1 hP hD hS => ?_)
    refine q3 hx g1 g2 o ad ps _ H1 locs1 lR (hW.put (Sm_pR hW.1 (by omega) hi rfl (Nat.lt_of_lt_of_le hf (Nat.le_trans (nf_le q) (by decide))) ⟨fun _ => hfk, by omega⟩ hvv ?_) hP hD hS rfl) hl hn (vl_eq rfl hv1) (vv_eq (h := h) rfl (fun w hw => hs w (List.mem_cons_of_mem _ (List.mem_cons_of_mem _ hw))))
    rw [cel, if_pos ho.1, fvs_pR hf hfk]
    rfl
  · cases e
theorem s_pIF {kd f c idx : Nat} {C : String} {T : u_T} {ty : Nat → FieldType} (ho : KO kd C T ty) (hf : f < nf kd) (hfk : fk kd f = none) (hc : c = 64 * kd + f) (hin : xnm x = "<init>") (hdc : (T f).1 = xown x) (hfin : (T f).2.2.2 = true) (hint : parseFieldDescriptor (T f).2.2.1 = some .int) (hw : Cond.fieldLink (xown x) idx (T f).1 (T f).2.1 (T f).2.2.1 ∈ lw_tbl) (hd : decode (xcc x) pc = .ok (.putfield idx, 3)) (hk : SK x (pc + 3) k) : SK x pc (a_pI kd c k) := by
  subst hc
  intro ls st h r e
  unfold a_pI at e
  split at e
  · rename_i v q rr st'
    obtain ⟨rfl, e1⟩ := beq_lit rfl e
    obtain ⟨i, rfl, e2⟩ := nn_of e1
    obtain ⟨⟨q1, q2⟩, q3⟩ := hk _ _ _ _ e2
    refine ⟨⟨q1, q2⟩, fun hx g1 g2 o ad ps ws H locs lR hW hl hn hv1 hs => ?_⟩
    have hi : i < hN h q := hs _ (List.mem_cons_of_mem _ List.mem_cons_self)
    have h12 := ho.1
    refine va_putF hx.1 hx.2.1 hx.2.2.2.2.1 ho.2.2.1 ty ho.2.2.2.1 ho.2.2.2.2 hx.2.2.2.1 hx.2.2.2.2.2.1.1 hW.2.1 hW.2.2.1 hW.2.2.2.1 (ps q i) (hW.1.obj ho.1 hi) ho.2.1 f hf (hx.2.2.2.2.1 _ (TBg_in hw rfl)) (fun _ z => z) hfin (hx.2.2.2.2.2.2.2.2.2.2.trans hin) hdc hint rfl rfl (by rw [fvs_len]; exact hf) hd (fun H1 locs1 hP hD hS => ?_)
    refine q3 hx g1 g2 o ad ps _ H1 locs1 lR (hW.put (Sm_pI hW.1 (by omega) hi rfl (Nat.lt_of_lt_of_le hf (Nat.le_trans (nf_le q) (by decide))) (by omega) ?_) hP hD hS rfl) hl hn (vl_eq rfl hv1) (vv_eq (h := h) rfl (fun w hw => hs w (List.mem_cons_of_mem _ (List.mem_cons_of_mem _ hw))))
    rw [cel, if_pos ho.1, fvs_pI hf hfk]
    rfl
  · cases e
theorem s_iald {kd c : Nat} (h1 : 12 ≤ kd) (h2 : kd < 71) (ha : akt kd = none) (hty : aty kd = .int) (hc : c = 64 * kd) (hd : decode (xcc x) pc = .ok (.iaload, 1)) (hk : SK x (pc + 1) k) : SK x pc (a_ald kd c k) := by
  subst hc
  intro ls st h r e
  unfold a_ald at e
  split at e
  · rename_i y q rr st'
    obtain ⟨rfl, e1⟩ := beq_lit rfl e
    obtain ⟨i, rfl, e2⟩ := nn_of e1
    obtain ⟨hin, e3⟩ := ix_of e2
    obtain ⟨⟨q1, q2⟩, q3⟩ := hk _ _ _ _ e3
    refine ⟨⟨q1, q2⟩, fun hx g1 g2 o ad ps ws H locs lR hW hl hn hv1 hs => ?_⟩
    have hi : i < hN h q := hs _ (List.mem_cons_of_mem _ List.mem_cons_self)
    have h3 := q3 hx g1 g2 o ad ps ws H locs lR hW hl hn hv1 (vv_cons trivial (fun w hw => hs w (List.mem_cons_of_mem _ (List.mem_cons_of_mem _ hw))))
    exact va_iald hx.1 hx.2.1 hx.2.2.2.2.2.1.1 hW.2.1 (ps q i) (q - 12) (hW.1.iarr h1 h2 hi ha) (by rw [tys_at _ h1 h2, hty]) hin hd h3
  · cases e
theorem s_bald {kd c : Nat} (h1 : 12 ≤ kd) (h2 : kd < 71) (ha : akt kd = none) (hty : aty kd = .byte) (hc : c = 64 * kd) (hd : decode (xcc x) pc = .ok (.baload, 1)) (hk : SK x (pc + 1) k) : SK x pc (a_ald kd c k) := by
  subst hc
  intro ls st h r e
  unfold a_ald at e
  split at e
  · rename_i y q rr st'
    obtain ⟨rfl, e1⟩ := beq_lit rfl e
    obtain ⟨i, rfl, e2⟩ := nn_of e1
    obtain ⟨hin, e3⟩ := ix_of e2
    obtain ⟨⟨q1, q2⟩, q3⟩ := hk _ _ _ _ e3
    refine ⟨⟨q1, q2⟩, fun hx g1 g2 o ad ps ws H locs lR hW hl hn hv1 hs => ?_⟩
    have hi : i < hN h q := hs _ (List.mem_cons_of_mem _ List.mem_cons_self)
    have h3 := q3 hx g1 g2 o ad ps ws H locs lR hW hl hn hv1 (vv_cons trivial (fun w hw => hs w (List.mem_cons_of_mem _ (List.mem_cons_of_mem _ hw))))
    exact va_bald hx.1 hx.2.1 hx.2.2.2.2.2.1.1 hW.2.1 (ps q i) (q - 12) (hW.1.iarr h1 h2 hi ha) (by rw [tys_at _ h1 h2, hty]) hin hd h3
  · cases e
theorem s_zald {kd c : Nat} (h1 : 12 ≤ kd) (h2 : kd < 71) (ha : akt kd = none) (hty : aty kd = .boolean) (hc : c = 64 * kd) (hd : decode (xcc x) pc = .ok (.baload, 1)) (hk : SK x (pc + 1) k) : SK x pc (a_ald kd c k) := by
  subst hc
  intro ls st h r e
  unfold a_ald at e
  split at e
  · rename_i y q rr st'
    obtain ⟨rfl, e1⟩ := beq_lit rfl e
    obtain ⟨i, rfl, e2⟩ := nn_of e1
    obtain ⟨hin, e3⟩ := ix_of e2
    obtain ⟨⟨q1, q2⟩, q3⟩ := hk _ _ _ _ e3
    refine ⟨⟨q1, q2⟩, fun hx g1 g2 o ad ps ws H locs lR hW hl hn hv1 hs => ?_⟩
    have hi : i < hN h q := hs _ (List.mem_cons_of_mem _ List.mem_cons_self)
    have h3 := q3 hx g1 g2 o ad ps ws H locs lR hW hl hn hv1 (vv_cons trivial (fun w hw => hs w (List.mem_cons_of_mem _ (List.mem_cons_of_mem _ hw))))
    exact va_zald hx.1 hx.2.1 hx.2.2.2.2.2.1.1 hW.2.1 (ps q i) (q - 12) (hW.1.iarr h1 h2 hi ha) (by rw [tys_at _ h1 h2, hty]) hin hd h3
  · cases e
theorem s_cald {kd c : Nat} (h1 : 12 ≤ kd) (h2 : kd < 71) (ha : akt kd = none) (hty : aty kd = .char) (hc : c = 64 * kd) (hd : decode (xcc x) pc = .ok (.caload, 1)) (hk : SK x (pc + 1) k) : SK x pc (a_ald kd c k) := by
  subst hc
  intro ls st h r e
  unfold a_ald at e
  split at e
  · rename_i y q rr st'
    obtain ⟨rfl, e1⟩ := beq_lit rfl e
    obtain ⟨i, rfl, e2⟩ := nn_of e1
    obtain ⟨hin, e3⟩ := ix_of e2
    obtain ⟨⟨q1, q2⟩, q3⟩ := hk _ _ _ _ e3
    refine ⟨⟨q1, q2⟩, fun hx g1 g2 o ad ps ws H locs lR hW hl hn hv1 hs => ?_⟩
    have hi : i < hN h q := hs _ (List.mem_cons_of_mem _ List.mem_cons_self)
    have h3 := q3 hx g1 g2 o ad ps ws H locs lR hW hl hn hv1 (vv_cons trivial (fun w hw => hs w (List.mem_cons_of_mem _ (List.mem_cons_of_mem _ hw))))
    exact va_cald hx.1 hx.2.1 hx.2.2.2.2.2.1.1 hW.2.1 (ps q i) (q - 12) (hW.1.iarr h1 h2 hi ha) (by rw [tys_at _ h1 h2, hty]) hin hd h3
  · cases e
theorem s_sald {kd c : Nat} (h1 : 12 ≤ kd) (h2 : kd < 71) (ha : akt kd = none) (hty : aty kd = .short) (hc : c = 64 * kd) (hd : decode (xcc x) pc = .ok (.saload, 1)) (hk : SK x (pc + 1) k) : SK x pc (a_ald kd c k) := by
  subst hc
  intro ls st h r e
  unfold a_ald at e
  split at e
  · rename_i y q rr st'
    obtain ⟨rfl, e1⟩ := beq_lit rfl e
    obtain ⟨i, rfl, e2⟩ := nn_of e1
    obtain ⟨hin, e3⟩ := ix_of e2
    obtain ⟨⟨q1, q2⟩, q3⟩ := hk _ _ _ _ e3
    refine ⟨⟨q1, q2⟩, fun hx g1 g2 o ad ps ws H locs lR hW hl hn hv1 hs => ?_⟩
    have hi : i < hN h q := hs _ (List.mem_cons_of_mem _ List.mem_cons_self)
    have h3 := q3 hx g1 g2 o ad ps ws H locs lR hW hl hn hv1 (vv_cons trivial (fun w hw => hs w (List.mem_cons_of_mem _ (List.mem_cons_of_mem _ hw))))
    exact va_sald hx.1 hx.2.1 hx.2.2.2.2.2.1.1 hW.2.1 (ps q i) (q - 12) (hW.1.iarr h1 h2 hi ha) (by rw [tys_at _ h1 h2, hty]) hin hd h3
  · cases e
theorem s_iast {kd c : Nat} (h1 : 12 ≤ kd) (h2 : kd < 71) (ha : akt kd = none) (hty : aty kd = .int) (hc : c = 64 * kd) (hd : decode (xcc x) pc = .ok (.iastore, 1)) (hk : SK x (pc + 1) k) : SK x pc (a_ast kd c (fun a => a) k) := by
  subst hc
  intro ls st h r e
  unfold a_ast at e
  split at e
  · rename_i y z q rr st'
    obtain ⟨rfl, e1⟩ := beq_lit rfl e
    obtain ⟨i, rfl, e2⟩ := nn_of e1
    obtain ⟨hin, e3⟩ := ix_of e2
    obtain ⟨⟨q1, q2⟩, q3⟩ := hk _ _ _ _ e3
    refine ⟨⟨q1, q2⟩, fun hx g1 g2 o ad ps ws H locs lR hW hl hn hv1 hs => ?_⟩
    have hi : i < hN h q := hs _ (List.mem_cons_of_mem _ (List.mem_cons_of_mem _ List.mem_cons_self))
    refine va_iast hx.1 hx.2.1 hx.2.2.2.2.2.1.1 hW.2.1 hW.2.2.1 hW.2.2.2.1 (ps q i) (q - 12) (hW.1.iarr h1 h2 hi ha) (by rw [tys_at _ h1 h2, hty]) hin hd (fun H1 locs1 hP hD hS => ?_)
    refine q3 hx g1 g2 o ad ps _ H1 locs1 lR (hW.put (Sm_pI (f := 0) hW.1 h2 hi rfl (by decide) (fun q26 => by subst q26; cases hty) ?_) hP hD hS rfl) hl hn (vl_eq rfl hv1) (vv_eq (h := h) rfl (fun w hw => hs w (List.mem_cons_of_mem _ (List.mem_cons_of_mem _ (List.mem_cons_of_mem _ hw)))))
    rw [cel, if_neg (by omega), ca, ha]
    simp only [hL_pI]
    congr 4
    funext j
    rw [hI_pI]
    simp [upd]
  · cases e
theorem s_bast {kd c : Nat} (h1 : 12 ≤ kd) (h2 : kd < 71) (ha : akt kd = none) (hty : aty kd = .byte) (hc : c = 64 * kd) (hd : decode (xcc x) pc = .ok (.bastore, 1)) (hk : SK x (pc + 1) k) : SK x pc (a_ast kd c (vp_nar .byte) k) := by
  subst hc
  intro ls st h r e
  unfold a_ast at e
  split at e
  · rename_i y z q rr st'
    obtain ⟨rfl, e1⟩ := beq_lit rfl e
    obtain ⟨i, rfl, e2⟩ := nn_of e1
    obtain ⟨hin, e3⟩ := ix_of e2
    obtain ⟨⟨q1, q2⟩, q3⟩ := hk _ _ _ _ e3
    refine ⟨⟨q1, q2⟩, fun hx g1 g2 o ad ps ws H locs lR hW hl hn hv1 hs => ?_⟩
    have hi : i < hN h q := hs _ (List.mem_cons_of_mem _ (List.mem_cons_of_mem _ List.mem_cons_self))
    refine va_bast hx.1 hx.2.1 hx.2.2.2.2.2.1.1 hW.2.1 hW.2.2.1 hW.2.2.2.1 (ps q i) (q - 12) (hW.1.iarr h1 h2 hi ha) (by rw [tys_at _ h1 h2, hty]) hin hd (fun H1 locs1 hP hD hS => ?_)
    refine q3 hx g1 g2 o ad ps _ H1 locs1 lR (hW.put (Sm_pI (f := 0) hW.1 h2 hi rfl (by decide) (fun q26 => by subst q26; cases hty) ?_) hP hD hS rfl) hl hn (vl_eq rfl hv1) (vv_eq (h := h) rfl (fun w hw => hs w (List.mem_cons_of_mem _ (List.mem_cons_of_mem _ (List.mem_cons_of_mem _ hw)))))
    rw [cel, if_neg (by omega), ca, ha]
    simp only [hL_pI]
    congr 4
    funext j
    rw [hI_pI]
    simp [upd]
  · cases e
theorem s_zast {kd c : Nat} (h1 : 12 ≤ kd) (h2 : kd < 71) (ha : akt kd = none) (hty : aty kd = .boolean) (hc : c = 64 * kd) (hd : decode (xcc x) pc = .ok (.bastore, 1)) (hk : SK x (pc + 1) k) : SK x pc (a_ast kd c (vp_nar .boolean) k) := by
  subst hc
  intro ls st h r e
  unfold a_ast at e
  split at e
  · rename_i y z q rr st'
    obtain ⟨rfl, e1⟩ := beq_lit rfl e
    obtain ⟨i, rfl, e2⟩ := nn_of e1
    obtain ⟨hin, e3⟩ := ix_of e2
    obtain ⟨⟨q1, q2⟩, q3⟩ := hk _ _ _ _ e3
    refine ⟨⟨q1, q2⟩, fun hx g1 g2 o ad ps ws H locs lR hW hl hn hv1 hs => ?_⟩
    have hi : i < hN h q := hs _ (List.mem_cons_of_mem _ (List.mem_cons_of_mem _ List.mem_cons_self))
    refine va_zast hx.1 hx.2.1 hx.2.2.2.2.2.1.1 hW.2.1 hW.2.2.1 hW.2.2.2.1 (ps q i) (q - 12) (hW.1.iarr h1 h2 hi ha) (by rw [tys_at _ h1 h2, hty]) hin hd (fun H1 locs1 hP hD hS => ?_)
    refine q3 hx g1 g2 o ad ps _ H1 locs1 lR (hW.put (Sm_pI (f := 0) hW.1 h2 hi rfl (by decide) (fun q26 => by subst q26; cases hty) ?_) hP hD hS rfl) hl hn (vl_eq rfl hv1) (vv_eq (h := h) rfl (fun w hw => hs w (List.mem_cons_of_mem _ (List.mem_cons_of_mem _ (List.mem_cons_of_mem _ hw)))))
    rw [cel, if_neg (by omega), ca, ha]
    simp only [hL_pI]
    congr 4
    funext j
    rw [hI_pI]
    simp [upd]
  · cases e
theorem s_cast {kd c : Nat} (h1 : 12 ≤ kd) (h2 : kd < 71) (ha : akt kd = none) (hty : aty kd = .char) (hc : c = 64 * kd) (hd : decode (xcc x) pc = .ok (.castore, 1)) (hk : SK x (pc + 1) k) : SK x pc (a_ast kd c (vp_nar .char) k) := by
  subst hc
  intro ls st h r e
  unfold a_ast at e
  split at e
  · rename_i y z q rr st'
    obtain ⟨rfl, e1⟩ := beq_lit rfl e
    obtain ⟨i, rfl, e2⟩ := nn_of e1
    obtain ⟨hin, e3⟩ := ix_of e2
    obtain ⟨⟨q1, q2⟩, q3⟩ := hk _ _ _ _ e3
    refine ⟨⟨q1, q2⟩, fun hx g1 g2 o ad ps ws H locs lR hW hl hn hv1 hs => ?_⟩
    have hi : i < hN h q := hs _ (List.mem_cons_of_mem _ (List.mem_cons_of_mem _ List.mem_cons_self))
    refine va_cast hx.1 hx.2.1 hx.2.2.2.2.2.1.1 hW.2.1 hW.2.2.1 hW.2.2.2.1 (ps q i) (q - 12) (hW.1.iarr h1 h2 hi ha) (by rw [tys_at _ h1 h2, hty]) hin hd (fun H1 locs1 hP hD hS => ?_)
    refine q3 hx g1 g2 o ad ps _ H1 locs1 lR (hW.put (Sm_pI (f := 0) hW.1 h2 hi rfl (by decide) (fun q26 => by subst q26; cases hty) ?_) hP hD hS rfl) hl hn (vl_eq rfl hv1) (vv_eq (h := h) rfl (fun w hw => hs w (List.mem_cons_of_mem _ (List.mem_cons_of_mem _ (List.mem_cons_of_mem _ hw)))))
    rw [cel, if_neg (by omega), ca, ha]
    simp only [hL_pI]
    congr 4
    funext j
    rw [hI_pI]
    simp [upd]
  · cases e
theorem s_sast {kd c : Nat} (h1 : 12 ≤ kd) (h2 : kd < 71) (ha : akt kd = none) (hty : aty kd = .short) (hc : c = 64 * kd) (hd : decode (xcc x) pc = .ok (.sastore, 1)) (hk : SK x (pc + 1) k) : SK x pc (a_ast kd c (vp_nar .short) k) := by
  subst hc
  intro ls st h r e
  unfold a_ast at e
  split at e
  · rename_i y z q rr st'
    obtain ⟨rfl, e1⟩ := beq_lit rfl e
    obtain ⟨i, rfl, e2⟩ := nn_of e1
    obtain ⟨hin, e3⟩ := ix_of e2
    obtain ⟨⟨q1, q2⟩, q3⟩ := hk _ _ _ _ e3
    refine ⟨⟨q1, q2⟩, fun hx g1 g2 o ad ps ws H locs lR hW hl hn hv1 hs => ?_⟩
    have hi : i < hN h q := hs _ (List.mem_cons_of_mem _ (List.mem_cons_of_mem _ List.mem_cons_self))
    refine va_sast hx.1 hx.2.1 hx.2.2.2.2.2.1.1 hW.2.1 hW.2.2.1 hW.2.2.2.1 (ps q i) (q - 12) (hW.1.iarr h1 h2 hi ha) (by rw [tys_at _ h1 h2, hty]) hin hd (fun H1 locs1 hP hD hS => ?_)
    refine q3 hx g1 g2 o ad ps _ H1 locs1 lR (hW.put (Sm_pI (f := 0) hW.1 h2 hi rfl (by decide) (fun _ => by rw [vp_nar_short]; exact pk_fs y) ?_) hP hD hS rfl) hl hn (vl_eq rfl hv1) (vv_eq (h := h) rfl (fun w hw => hs w (List.mem_cons_of_mem _ (List.mem_cons_of_mem _ (List.mem_cons_of_mem _ hw)))))
    rw [cel, if_neg (by omega), ca, ha]
    simp only [hL_pI]
    congr 4
    funext j
    rw [hI_pI]
    simp [upd]
  · cases e
theorem s_rald {kd c kt : Nat} {C : String} (h1 : 12 ≤ kd) (h2 : kd < 71) (ha : akt kd = some kt) (hty : aty kd = .object C) (hc : c = 64 * kd) (hd : decode (xcc x) pc = .ok (.aaload, 1)) (hk : SK x (pc + 1) k) : SK x pc (a_rald kd c kt k) := by
  subst hc
  intro ls st h r e
  unfold a_rald at e
  split at e
  · rename_i y q rr st'
    obtain ⟨rfl, e1⟩ := beq_lit rfl e
    obtain ⟨i, rfl, e2⟩ := nn_of e1
    obtain ⟨hin, e3⟩ := ix_of e2
    obtain ⟨⟨q1, q2⟩, q3⟩ := hk _ _ _ _ e3
    refine ⟨⟨q1, q2⟩, fun hx g1 g2 o ad ps ws H locs lR hW hl hn hv1 hs => ?_⟩
    have hi : i < hN h q := hs _ (List.mem_cons_of_mem _ List.mem_cons_self)
    have h3 := q3 hx g1 g2 o ad ps ws H locs lR hW hl hn hv1 (vv_cons (hW.1.2.2.2.1 q i _ kt h1 h2 hi ha) (fun w hw => hs w (List.mem_cons_of_mem _ (List.mem_cons_of_mem _ hw))))
    exact va_aldq hx.1 hx.2.1 hx.2.2.2.2.2.1.1 hW.2.1 (ps q i) (q - 12) (hW.1.rarr h1 h2 hi ha) (by rw [tys_at _ h1 h2, hty]) hin hd h3
  · cases e
/-- an array of arrays of ints -/
theorem s_raldA {kd c kt : Nat} (h1 : 12 ≤ kd) (h2 : kd < 71) (ha : akt kd = some kt) (hty : aty kd = .array .int) (hc : c = 64 * kd) (hd : decode (xcc x) pc = .ok (.aaload, 1)) (hk : SK x (pc + 1) k) : SK x pc (a_rald kd c kt k) := by
  subst hc
  intro ls st h r e
  unfold a_rald at e
  split at e
  · rename_i y q rr st'
    obtain ⟨rfl, e1⟩ := beq_lit rfl e
    obtain ⟨i, rfl, e2⟩ := nn_of e1
    obtain ⟨hin, e3⟩ := ix_of e2
    obtain ⟨⟨q1, q2⟩, q3⟩ := hk _ _ _ _ e3
    refine ⟨⟨q1, q2⟩, fun hx g1 g2 o ad ps ws H locs lR hW hl hn hv1 hs => ?_⟩
    have hi : i < hN h q := hs _ (List.mem_cons_of_mem _ List.mem_cons_self)
    have h3 := q3 hx g1 g2 o ad ps ws H locs lR hW hl hn hv1 (vv_cons (hW.1.2.2.2.1 q i _ kt h1 h2 hi ha) (fun w hw => hs w (List.mem_cons_of_mem _ (List.mem_cons_of_mem _ hw))))
    have ht : (tysL (xcA x))[q - 12]? = some (xcA x q, .array .int) := by rw [tys_at _ h1 h2, hty]
    have hlt : y.toNatClampNeg < hL h q i := Nat.not_le.mp fun z => hin (Or.inr z)
    exact W.aald (v := va_rf (ro ad kt (hR h (64 * q) i y.toNatClampNeg))) (ty := .array .int) hx.1 hx.2.1 (hW.2.1 (ps q i) _ (hW.1.rarr h1 h2 hi ha)) ((hx.2.2.2.2.2.1.1.2 (q - 12) _ ht).1 _ (fun j => va_rf (ro ad kt (hR h (64 * q) i j)))) rfl (fun z => by cases z) (by show ¬ (y < 0 ∨ (arrV _ _ _).slots.size ≤ _); rw [arrV_size]; exact hin) (by show (arrV _ _ _).slots[_]? = _; rw [arrV_read _ _ hlt]) rfl rfl hd h3
  · cases e
theorem s_rast {kd c kt : Nat} {C : String} {T : u_T} (h1 : 12 ≤ kd) (h2 : kd < 71) (ha : akt kd = some kt) (hkt : kt < 12) (hcl : vwCl[kt]? = some (C, T, nf kt)) (hty : aty kd = .object C) (hc : c = 64 * kd) (hd : decode (xcc x) pc = .ok (.aastore, 1)) (hk : SK x (pc + 1) k) : SK x pc (a_rast kd c kt k) := by
  subst hc
  intro ls st h r e
  unfold a_rast at e
  split at e
  · rename_i q' v z q rr st'
    obtain ⟨rfl, rfl, e1⟩ := beq_lit2 rfl e
    obtain ⟨i, rfl, e2⟩ := nn_of e1
    obtain ⟨hin, e3⟩ := ix_of e2
    obtain ⟨⟨q1, q2⟩, q3⟩ := hk _ _ _ _ e3
    refine ⟨⟨q1, q2⟩, fun hx g1 g2 o ad ps ws H locs lR hW hl hn hv1 hs => ?_⟩
    have hi : i < hN h q := hs _ (List.mem_cons_of_mem _ (List.mem_cons_of_mem _ List.mem_cons_self))
    have hvv : v ≤ hN h q' := hs _ List.mem_cons_self
    have go : ∀ (H1 : Heap) (locs1 : List Loc), va_P (xD x) vwCl (ws.set (ps q i) (ad q i, .inl (xcA x q, hL h q i, .inr (.inr (.inr (.inr (va_up (fun j => ro ad q' (hR h (64 * q) i j)) z.toNatClampNeg (ro ad q' v)))))))) H1 → va_D (xA x) (ws.set (ps q i) (ad q i, .inl (xcA x q, hL h q i, .inr (.inr (.inr (.inr (va_up (fun j => ro ad q' (hR h (64 * q) i j)) z.toNatClampNeg (ro ad q' v)))))))) → va_S (xA x) (xS x).heap H1 locs1 → W (xP x) (xL x) (xE x) (xRm x r) (xS x) (xM x) (xa x) (xbl x) (xmt x) (xC x) H1 locs1 (hC h - hC (xh x)) (hS h - hS (xh x)) (xQ x r) (F0 (xM x) (pc + 1) lR (st'.map (rv ad))) := by
      intro H1 locs1 hP hD hS
      refine q3 hx g1 g2 o ad ps _ H1 locs1 lR (hW.put (Sm_pR (f := 0) hW.1 h2 hi rfl (by decide) ⟨by omega, fun _ => ha⟩ hvv ?_) hP hD hS rfl) hl hn (vl_eq rfl hv1) (vv_eq (h := h) rfl (fun w hw => hs w (List.mem_cons_of_mem _ (List.mem_cons_of_mem _ (List.mem_cons_of_mem _ hw)))))
      rw [cel, if_neg (by omega), ca, ha]
      simp only [hL_pR]
      congr 7
      funext j
      rw [hR_pR]
      simp only [va_up, true_and]
      split <;> rfl
    cases v with
    | zero => exact va_astqN hx.1 hx.2.1 hx.2.2.2.2.2.1.1 hW.2.1 hW.2.2.1 hW.2.2.2.1 (ps q i) (q - 12) (hW.1.rarr h1 h2 hi ha) (by rw [tys_at _ h1 h2, hty]) hin hd go
    | succ j => exact va_astq hx.1 hx.2.1 hx.2.2.2.2.2.1.1 hW.2.1 hW.2.2.1 hW.2.2.2.1 (ps q i) (q - 12) (ps q' j) q' (r := (C, T, nf q')) (hW.1.rarr h1 h2 hi ha) (by rw [tys_at _ h1 h2, hty]) (hW.1.obj hkt hvv) hcl hin hd go
  · cases e
theorem s_len {kd : Nat} (h1 : 12 ≤ kd) (h2 : kd < 71) (ha : akt kd = none) (hd : decode (xcc x) pc = .ok (.arraylength, 1)) (hk : SK x (pc + 1) k) : SK x pc (a_len kd k) := by
  intro ls st h r e
  unfold a_len at e
  split at e
  · rename_i q rr st'
    obtain ⟨rfl, e1⟩ := beq_lit rfl e
    obtain ⟨i, rfl, e2⟩ := nn_of e1
    obtain ⟨⟨q1, q2⟩, q3⟩ := hk _ _ _ _ e2
    refine ⟨⟨q1, q2⟩, fun hx g1 g2 o ad ps ws H locs lR hW hl hn hv1 hs => ?_⟩
    have hi : i < hN h q := hs _ List.mem_cons_self
    have h3 := q3 hx g1 g2 o ad ps ws H locs lR hW hl hn hv1 (vv_cons trivial (fun w hw => hs w (List.mem_cons_of_mem _ hw)))
    exact va_alen hx.1 hx.2.1 hx.2.2.2.2.2.1.1 hW.2.1 (ps q i) (q - 12) (hW.1.iarr h1 h2 hi ha) (by rw [tys_at _ h1 h2]) rfl hd h3
  · cases e
end SND
