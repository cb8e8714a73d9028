/-! copies, arrays of arrays, statics, String constants -/
def wr (h : PH) (f : PH → Option Rs) : Option Rs := f h
def wi (v : Int32) (f : Int32 → Option Rs) : Option Rs := f v
theorem mo_wr {h : PH} {f g : PH → Option Rs} (q : ∀ z, Mo (f z) (g z)) : Mo (wr h f) (wr h g) := q h
theorem mo_wi {v : Int32} {f g : Int32 → Option Rs} (q : ∀ z, Mo (f z) (g z)) : Mo (wi v f) (wi v g) := q v
theorem hI_pCp (h : PH) (c0 i0 sp c i dp n c' i' j' : Nat) : hI (pCp h c0 i0 sp c i dp n) c' i' j' = if c' = c ∧ i' = i ∧ dp ≤ j' ∧ j' < dp + n then hI h c0 i0 (sp + (j' - dp)) else hI h c' i' j' := rfl
theorem cpk_of {n0 n1 : Nat} {sp dp n : Int32} {f : Option Rs} {r : Rs} (e : cpk n0 n1 sp dp n f = some r) : ¬ sp < 0 ∧ ¬ dp < 0 ∧ ¬ n < 0 ∧ sp.toNatClampNeg + n.toNatClampNeg ≤ n0 ∧ dp.toNatClampNeg + n.toNatClampNeg ≤ n1 ∧ f = some r := by
  unfold cpk at e
  split at e
  · cases e
  · rename_i h
    refine ⟨fun q => h (Or.inl q), fun q => h (Or.inr (Or.inl q)), fun q => h (Or.inr (Or.inr (Or.inl q))), Nat.not_lt.mp fun q => h (Or.inr (Or.inr (Or.inr (Or.inl q)))), Nat.not_lt.mp fun q => h (Or.inr (Or.inr (Or.inr (Or.inr q)))), e⟩
theorem nfw_copy : nativeFrameWords "java/lang/System" "arraycopy" 5 + 11 ≤ 50 := by decide +kernel
section SND
variable {x : CX} {pc : Nat} {k : Kn}
theorem s_cp0 {kd0 c0 kd c idx : Nat} {t : FieldType} (h1 : 12 ≤ kd0) (h2 : kd0 < 71) (h3 : 12 ≤ kd) (h4 : kd < 71) (ha0 : akt kd0 = none) (ha : akt kd = none) (ht0 : aty kd0 = t) (ht : aty kd = t) (hprim : refKind t = false) (hc0 : c0 = 64 * kd0) (hc : c = 64 * kd) (hfit : ∀ (cA : Nat → ClassId) (ad ps : Nat → Nat → Nat) (ws : va_W) (h : PH) (i0 j : Nat), Sm cA ad ps ws h → i0 < hN h kd0 → fits t (.int (hI h c0 i0 j)) = true) (hf26 : kd = 26 → kd0 = 26) (hlk : Cond.methodLink (xown x) idx arraycopyName ∈ lw_tbl) (hnt : Cond.native arraycopyName ∈ lw_tbl) (hst : Cond.static arraycopyName ∈ lw_tbl) (hini : Cond.initialized "java/lang/System" ∈ lw_tbl) (hd : decode (xcc x) pc = .ok (.invokestatic idx, 3)) (hk : SK x (pc + 3) k) : SK x pc (a_cp kd0 c0 kd c k) := by
  subst hc0; subst hc
  intro ls st h r e
  obtain ⟨g1, g2, e1⟩ := ok8_of e
  split at e1
  · rename_i n dp q rr sp q0 rr0 st'
    obtain ⟨rfl, rfl, e2⟩ := beq_lit2 rfl e1
    obtain ⟨i0, rfl, e3⟩ := nn_of e2
    obtain ⟨i, rfl, e4⟩ := nn_of e3
    obtain ⟨b1, b2, b3, b4, b5, e5⟩ := cpk_of e4
    obtain ⟨⟨q1, q2⟩, q3⟩ := hk _ _ _ _ e5
    refine ⟨⟨q1, q2⟩, fun hx g1' g2' o ad ps ws H locs lR hW hl hn hv1 hs => ?_⟩
    have hi : i < hN h q := hs (.inr (q, i + 1)) (by simp)
    have hi0 : i0 < hN h q0 := hs (.inr (q0, i0 + 1)) (by simp)
    have h3' := o.2.2.1
    have h4' := o.2.2.2.1
    have hsz : st'.length ≤ 8 := by simpa using g2
    have hnf := nfw_copy
    refine va_copyi hx.1 hx.2.1 (by rw [hx.2.2.1, hl.1]) hx.2.2.2.1 (hx.2.2.2.2.1 _ (TBg_in hlk rfl)) (hx.2.2.2.2.1 _ (TBg_in hnt rfl)) (hx.2.2.2.2.1 _ (TBg_in hst rfl)) (hx.2.2.2.2.1 _ (TBg_in hini rfl)) hx.2.2.2.2.2.1.1 hW.2.1 hW.2.2.1 hW.2.2.2.1 (ps q0 i0) (ps q i) (q0 - 12) (q - 12) (hW.1.iarr h1 h2 hi0 ha0) (hW.1.iarr h3 h4 hi ha) (by rw [tys_at _ h1 h2, ht0]) (by rw [tys_at _ h3 h4, ht]) hprim b1 b2 b3 b4 b5 (fun j _ => hfit _ _ _ _ h i0 _ hW.1 hi0) (by omega) (by rw [cat_sum]; omega) hd (fun H1 locs1 hP hD hS' => ?_)
    refine q3 hx g1' g2' o ad ps _ H1 locs1 lR (hW.put (Sm_set hW.1 h4 hi rfl (fun k' i' hne a1 a2 => ?_) ?_ hW.1.2.2.1 hW.1.2.2.2.1 (fun a b ha' => ?_)) hP hD hS' rfl) hl hn (vl_eq rfl hv1) (vv_eq (h := h) rfl (fun w hw => hs w (by simp [hw])))
    · refine cel_congr (fun f hf z => ?_) (fun _ _ _ => rfl) rfl (fun _ _ _ _ _ => rfl) (fun _ _ _ _ => rfl)
      rw [hI_pCp, if_neg]
      rintro ⟨z1, z2, -⟩
      have := ne_col (f := 0) hf (by decide) (z1.trans (Nat.add_zero _).symm)
      exact hne ⟨this.1, z2⟩
    · rw [cel, if_neg (by omega), ca, ha]
      refine congrArg Sum.inl (congrArg (Prod.mk _) (congrArg (Prod.mk _) (congrArg Sum.inl (funext fun j => ?_))))
      rw [hI_pCp]
      simp [va_cpy]
    · rw [hI_pCp]
      split
      · rename_i z
        have e26 : q = 26 := by omega
        have := hf26 e26
        subst this
        exact hW.1.2.2.2.2.1 _ _ hi0
      · exact hW.1.2.2.2.2.1 a b ha'
  · cases e1
theorem s_cp {kd0 c0 kd c idx : Nat} (h1 : 12 ≤ kd0) (h2 : kd0 < 71) (h3 : 12 ≤ kd) (h4 : kd < 71) (ha0 : akt kd0 = none) (ha : akt kd = none) (ht0 : aty kd0 = .int) (ht : aty kd = .int) (hc0 : c0 = 64 * kd0) (hc : c = 64 * kd) (hlk : Cond.methodLink (xown x) idx arraycopyName ∈ lw_tbl) (hnt : Cond.native arraycopyName ∈ lw_tbl) (hst : Cond.static arraycopyName ∈ lw_tbl) (hini : Cond.initialized "java/lang/System" ∈ lw_tbl) (hd : decode (xcc x) pc = .ok (.invokestatic idx, 3)) (hk : SK x (pc + 3) k) : SK x pc (a_cp kd0 c0 kd c k) :=
  s_cp0 h1 h2 h3 h4 ha0 ha ht0 ht rfl hc0 hc (fun _ _ _ _ _ _ _ _ _ => rfl) (fun q => by subst q; cases ht) hlk hnt hst hini hd hk
theorem s_cpS {idx : Nat} (hlk : Cond.methodLink (xown x) idx arraycopyName ∈ lw_tbl) (hnt : Cond.native arraycopyName ∈ lw_tbl) (hst : Cond.static arraycopyName ∈ lw_tbl) (hini : Cond.initialized "java/lang/System" ∈ lw_tbl) (hd : decode (xcc x) pc = .ok (.invokestatic idx, 3)) (hk : SK x (pc + 3) k) : SK x pc (a_cp 26 1664 26 1664 k) :=
  s_cp0 (by decide) (by decide) (by decide) (by decide) rfl rfl rfl rfl rfl rfl rfl (fun _ _ _ _ _ i0 j hS hi => hS.2.2.2.2.1 i0 j hi) (fun _ => rfl) hlk hnt hst hini hd hk
/-- the static array ABOVE -/
def a_gst (k : Kn) : Kn := fun ls st h => k ls (.inr (71, 1) :: st) h
def a_tab (k : Kn) : Kn := fun ls st h => match st with
  | .inl y :: .inr (q, r) :: s => bif Nat.beq q 71 then nn r (fun _ => ix y 6 (fun j => k ls (.inl (abv j) :: s) h)) else none
  | _ => none
theorem WD.n71 {ad ps : Nat → Nat → Nat} {ws : va_W} {h : PH} {H : Heap} {locs : List Loc} (hW : WD x ad ps ws h H locs) : hN h 71 = 1 ∧ hN h 73 = 6 ∧ hN h 74 = 6 ∧ hN h 75 = 1 := hW.1.2.2.2.2.2
theorem WD.sf (hx : OKx x) {ad ps : Nat → Nat → Nat} {ws : va_W} {h : PH} {H : Heap} {locs : List Loc} (hW : WD x ad ps ws h H locs) : ad 71 0 = xad x 71 0 ∧ (∀ i, i < 6 → ad 73 i = xad x 73 i) ∧ (∀ i, i < 6 → ad 74 i = xad x 74 i) ∧ ad 75 0 = xad x 75 0 := by
  obtain ⟨h1, h2, h3, h4⟩ := hx.2.2.2.2.2.2.2.2.1
  exact ⟨hW.2.2.2.2.1 71 0 (by omega), fun i hi => hW.2.2.2.2.1 73 i (by omega), fun i hi => hW.2.2.2.2.1 74 i (by omega), hW.2.2.2.2.1 75 0 (by omega)⟩
theorem s_gst {idx : Nat} (hw : Cond.fieldLink (xown x) idx "StrangerSigns$Sign" "ABOVE" "[I" ∈ lw_tbl) (hd : decode (xcc x) pc = .ok (.getstatic idx, 3)) (hk : SK x (pc + 3) k) : SK x pc (a_gst k) := by
  intro ls st h r e
  obtain ⟨⟨q1, q2⟩, q3⟩ := hk _ _ _ _ e
  refine ⟨⟨q1, q2⟩, fun hx g1 g2 o ad ps ws H locs lR hW hl hn hv1 hs => ?_⟩
  have h3 := q3 hx g1 g2 o ad ps ws H locs lR hW hl hn hv1 (vv_cons (by show 1 ≤ hN h 71; have := hW.n71.1; omega) hs)
  have e71 := (hW.sf hx).1
  refine va_gets (v := .ref (ad 71 0)) hx.1 hx.2.1 (by rw [e71]; exact hx.2.2.2.2.2.2.2.1.1) hW.2.2.2.1 hx.2.2.2.1 (hx.2.2.2.2.1 _ (TBg_in hw rfl)) (fun _ z => z) hd h3
theorem s_tab (hd : decode (xcc x) pc = .ok (.iaload, 1)) (hk : SK x (pc + 1) k) : SK x pc (a_tab k) := by
  intro ls st h r e
  unfold a_tab at e
  split at e
  · rename_i y q rr st'
    obtain ⟨rfl, e1⟩ := beq_lit rfl e
    obtain ⟨i, rfl, e2⟩ := nn_of e1
    obtain ⟨hin, e3⟩ := ix_of e2
    obtain ⟨⟨q1, q2⟩, q3⟩ := hk _ _ _ _ e3
    refine ⟨⟨q1, q2⟩, fun hx g1 g2 o ad ps ws H locs lR hW hl hn hv1 hs => ?_⟩
    have hi : i < hN h 71 := hs (.inr (71, i + 1)) (by simp)
    have hi0 : i = 0 := by have := hW.n71.1; omega
    subst hi0
    have h3 := q3 hx g1 g2 o ad ps ws H locs lR hW hl hn hv1 (vv_cons trivial (fun w hw => hs w (by simp [hw])))
    exact va_ti (t := ad 71 0) (v := .int (abv y.toNatClampNeg)) hx.1 hx.2.1 (by rw [(hW.sf hx).1]; exact hx.2.2.2.2.2.2.2.1.2.1) hW.2.2.2.1 hin rfl hd h3
  · cases e
/-- answers that are bytes, chars -/
def nr (ty : FieldType) (y : Int32) (f : Option Rs) : Option Rs := if vp_nar ty y = y then f else none
theorem mo_nr {ty : FieldType} {y : Int32} {f g : Option Rs} (h : Mo f g) : Mo (nr ty y f) (nr ty y g) := by
  unfold nr
  split
  · exact h
  · exact mo_rf
def a_nr (ty : FieldType) : Kn := fun _ st h => match st with
  | [.inl y] => nr ty y (some (some (.inl y), h))
  | _ => none
theorem nr_of {ty : FieldType} {y : Int32} {f : Option Rs} {z : Rs} (e : nr ty y f = some z) : vp_nar ty y = y ∧ f = some z := by
  unfold nr at e
  split at e
  · rename_i h
    exact ⟨h, e⟩
  · cases e
theorem s_nrchar (ht : xret x = some .char) (hd : decode (xcc x) pc = .ok (.ireturn, 1)) : SK x pc (a_nr .char) := by
  intro ls st h r e
  unfold a_nr at e
  split at e
  · rename_i v
    obtain ⟨hz, e1⟩ := nr_of e
    cases e1
    exact ⟨⟨Nat.le_refl _, Nat.le_refl _⟩, fun hx g1 g2 o ad ps ws H locs lR hW hl hn hv1 hs => hx.2.2.2.2.2.2.2.2.2.1 (some (.inl v), h) pc ad ps ws H locs lR hW o ⟨.char, ht, congrArg Value.int hz⟩ hd⟩
  · cases e
theorem s_nrbyte (ht : xret x = some .byte) (hd : decode (xcc x) pc = .ok (.ireturn, 1)) : SK x pc (a_nr .byte) := by
  intro ls st h r e
  unfold a_nr at e
  split at e
  · rename_i v
    obtain ⟨hz, e1⟩ := nr_of e
    cases e1
    exact ⟨⟨Nat.le_refl _, Nat.le_refl _⟩, fun hx g1 g2 o ad ps ws H locs lR hW hl hn hv1 hs => hx.2.2.2.2.2.2.2.2.2.1 (some (.inl v), h) pc ad ps ws H locs lR hW o ⟨.byte, ht, congrArg Value.int hz⟩ hd⟩
  · cases e
/-! String constants: the i-th of them; its byte array -/
def a_str (i : Nat) (k : Kn) : Kn := fun ls st h => k ls (.inr (73, i + 1) :: st) h
def a_strV (k : Kn) : Kn := fun ls st h => match st with
  | .inr (q, r) :: s => bif Nat.beq q 73 then nn r (fun i => k ls (.inr (74, i + 1) :: s) h) else none
  | _ => none
def a_strC (k : Kn) : Kn := fun ls st h => match st with
  | .inr (q, r) :: s => bif Nat.beq q 73 then nn r (fun _ => k ls (.inl 0 :: s) h) else none
  | _ => none
def a_strL (k : Kn) : Kn := fun ls st h => match st with
  | .inr (q, r) :: s => bif Nat.beq q 74 then nn r (fun i => k ls (.inl (Int32.ofNat (slen.getD i 0)) :: s) h) else none
  | _ => none
def a_strB (k : Kn) : Kn := fun ls st h => match st with
  | .inl y :: .inr (q, r) :: s => bif Nat.beq q 74 then nn r (fun i => ix y (slen.getD i 0) (fun j => k ls (.inl ((sbyt.getD i []).getD j 0) :: s) h)) else none
  | _ => none
theorem s_str {i idx : Nat} (hi : i < 6) (hown : xown x = "StrangerSigns$Reader") (hix : sidx i = idx) (hd : decode (xcc x) pc = .ok (.ldc idx, 2)) (hk : SK x (pc + 2) k) : SK x pc (a_str i k) := by
  intro ls st h r e
  obtain ⟨⟨q1, q2⟩, q3⟩ := hk _ _ _ _ e
  refine ⟨⟨q1, q2⟩, fun hx g1 g2 o ad ps ws H locs lR hW hl hn hv1 hs => ?_⟩
  have h3 := q3 hx g1 g2 o ad ps ws H locs lR hW hl hn hv1 (vv_cons (by show i + 1 ≤ hN h 73; have := hW.n71.2.1; omega) hs)
  refine va_ldcS (own := "StrangerSigns$Reader") (tx := stx i) (q := ad 73 i) hx.1 hx.2.1 (by rw [← hown]; exact hx.2.2.2.1) ?_ hd h3
  rw [(hW.sf hx).2.1 i hi, ← hix]
  exact hx.2.2.2.2.2.2.2.1.2.2.2.2.1 i hi
theorem s_strV {idx : Nat} (hw : Cond.fieldLink (xown x) idx "java/lang/String" "value" "[B" ∈ lw_tbl) (hd : decode (xcc x) pc = .ok (.getfield idx, 3)) (hk : SK x (pc + 3) k) : SK x pc (a_strV k) := by
  intro ls st h r e
  unfold a_strV at e
  split at e
  · rename_i q rr st'
    obtain ⟨rfl, e1⟩ := beq_lit rfl e
    obtain ⟨i, rfl, e2⟩ := nn_of e1
    obtain ⟨⟨q1, q2⟩, q3⟩ := hk _ _ _ _ e2
    refine ⟨⟨q1, q2⟩, fun hx g1 g2 o ad ps ws H locs lR hW hl hn hv1 hs => ?_⟩
    have hi : i < hN h 73 := hs (.inr (73, i + 1)) (by simp)
    have hi6 : i < 6 := by have := hW.n71.2.1; omega
    have h3 := q3 hx g1 g2 o ad ps ws H locs lR hW hl hn hv1 (vv_cons (by show i + 1 ≤ hN h 74; have := hW.n71.2.2.1; omega) (fun w hw => hs w (by simp [hw])))
    have hE := (hx.2.2.2.2.2.2.2.1.2.2.2.1.1 i hi6).2.2.1
    rw [← (hW.sf hx).2.1 i hi6, ← (hW.sf hx).2.2.1 i hi6] at hE
    exact vk_getf hx.1 hx.2.1 hE hW.2.2.2.1 hx.2.2.2.1 (hx.2.2.2.2.1 _ (TBg_in hw rfl)) (fun _ z => z) hd h3
  · cases e
theorem s_strC {idx : Nat} (hw : Cond.fieldLink (xown x) idx "java/lang/String" "coder" "B" ∈ lw_tbl) (hd : decode (xcc x) pc = .ok (.getfield idx, 3)) (hk : SK x (pc + 3) k) : SK x pc (a_strC k) := by
  intro ls st h r e
  unfold a_strC at e
  split at e
  · rename_i q rr st'
    obtain ⟨rfl, e1⟩ := beq_lit rfl e
    obtain ⟨i, rfl, e2⟩ := nn_of e1
    obtain ⟨⟨q1, q2⟩, q3⟩ := hk _ _ _ _ e2
    refine ⟨⟨q1, q2⟩, fun hx g1 g2 o ad ps ws H locs lR hW hl hn hv1 hs => ?_⟩
    have hi : i < hN h 73 := hs (.inr (73, i + 1)) (by simp)
    have hi6 : i < 6 := by have := hW.n71.2.1; omega
    have h3 := q3 hx g1 g2 o ad ps ws H locs lR hW hl hn hv1 (vv_cons trivial (fun w hw => hs w (by simp [hw])))
    have hE := (hx.2.2.2.2.2.2.2.1.2.2.2.1.1 i hi6).2.1
    rw [← (hW.sf hx).2.1 i hi6] at hE
    exact vk_getf hx.1 hx.2.1 hE hW.2.2.2.1 hx.2.2.2.1 (hx.2.2.2.2.1 _ (TBg_in hw rfl)) (fun _ z => z) hd h3
  · cases e
theorem s_strL (hd : decode (xcc x) pc = .ok (.arraylength, 1)) (hk : SK x (pc + 1) k) : SK x pc (a_strL k) := by
  intro ls st h r e
  unfold a_strL at e
  split at e
  · rename_i q rr st'
    obtain ⟨rfl, e1⟩ := beq_lit rfl e
    obtain ⟨i, rfl, e2⟩ := nn_of e1
    obtain ⟨⟨q1, q2⟩, q3⟩ := hk _ _ _ _ e2
    refine ⟨⟨q1, q2⟩, fun hx g1 g2 o ad ps ws H locs lR hW hl hn hv1 hs => ?_⟩
    have hi : i < hN h 74 := hs (.inr (74, i + 1)) (by simp)
    have hi6 : i < 6 := by have := hW.n71.2.2.1; omega
    have h3 := q3 hx g1 g2 o ad ps ws H locs lR hW hl hn hv1 (vv_cons trivial (fun w hw => hs w (by simp [hw])))
    have hE := (hx.2.2.2.2.2.2.2.1.2.2.2.1.1 i hi6).2.2.2
    rw [← (hW.sf hx).2.2.1 i hi6] at hE
    exact va_tlen hx.1 hx.2.1 hE hW.2.2.2.1 rfl hd h3
  · cases e
theorem s_strB (hd : decode (xcc x) pc = .ok (.baload, 1)) (hk : SK x (pc + 1) k) : SK x pc (a_strB k) := by
  intro ls st h r e
  unfold a_strB at e
  split at e
  · rename_i y q rr st'
    obtain ⟨rfl, e1⟩ := beq_lit rfl e
    obtain ⟨i, rfl, e2⟩ := nn_of e1
    obtain ⟨hin, e3⟩ := ix_of e2
    obtain ⟨⟨q1, q2⟩, q3⟩ := hk _ _ _ _ e3
    refine ⟨⟨q1, q2⟩, fun hx g1 g2 o ad ps ws H locs lR hW hl hn hv1 hs => ?_⟩
    have hi : i < hN h 74 := hs (.inr (74, i + 1)) (by simp)
    have hi6 : i < 6 := by have := hW.n71.2.2.1; omega
    have h3 := q3 hx g1 g2 o ad ps ws H locs lR hW hl hn hv1 (vv_cons trivial (fun w hw => hs w (by simp [hw])))
    have hE := (hx.2.2.2.2.2.2.2.1.2.2.2.1.1 i hi6).2.2.2
    rw [← (hW.sf hx).2.2.1 i hi6] at hE
    exact va_tb (v := .int ((sbyt.getD i []).getD y.toNatClampNeg 0)) hx.1 hx.2.1 hE hW.2.2.2.1 hin rfl hd h3
  · cases e
theorem s_cst {idx : Nat} (hw : Cond.fieldLink (xown x) idx "java/lang/String" "COMPACT_STRINGS" "Z" ∈ lw_tbl) (hd : decode (xcc x) pc = .ok (.getstatic idx, 3)) (hk : SK x (pc + 3) k) : SK x pc (a_ic 1 k) := by
  intro ls st h r e
  obtain ⟨⟨q1, q2⟩, q3⟩ := hk _ _ _ _ e
  refine ⟨⟨q1, q2⟩, fun hx g1 g2 o ad ps ws H locs lR hW hl hn hv1 hs => ?_⟩
  have h3 := q3 hx g1 g2 o ad ps ws H locs lR hW hl hn hv1 (vv_cons trivial hs)
  exact va_gets (v := .int 1) hx.1 hx.2.1 hx.2.2.2.2.2.2.2.1.2.2.1 hW.2.2.2.1 hx.2.2.2.1 (hx.2.2.2.2.1 _ (TBg_in hw rfl)) (fun _ z => z) hd h3
theorem run_str {y : MethodName} {cc : ByteArray} {mL n idx d : Nat} {ret : Option FieldType} {F : List PV → PH → Option Rs} (hG : Gd (xL x) d y cc mL ret F) (hdp : d < xd x) (hy : CY y cc mL ret n) (hcl : y.cls = "java/lang/String") (hin : Cond.instanceMethod y ∈ lw_tbl) (hse : Cond.selects y.cls y y ∈ lw_tbl) (hl : Cond.methodLink (xown x) idx y ∈ lw_tbl) (hd : decode (xcc x) pc = .ok (.invokevirtual idx, 3)) : RunV x pc 73 n F := by
  refine ⟨fun as h r' e => (hG (xb x) (xD x) (xcA x) (xad x) as h r' e).1 ⟨x⟩, fun i as h r r' e hn hx o g1 g2 m1 m2 ad ps ws H locs lR rest hW hsz hi hv hrest => ?_⟩
  obtain ⟨cc, hM⟩ := hG (xb x) (xD x) (xcA x) ad _ h r' e
  obtain ⟨c1, c2⟩ := cc ⟨x⟩
  have h1 := o.1
  have h2 := o.2.1
  have h3 := o.2.2.1
  have h4 := o.2.2.2.1
  have hi6 : i < 6 := by have := hW.n71.2.1; omega
  have hv' : ∀ v ∈ (Sum.inr (73, i + 1) :: as : List PV), vv h v := vv_cons hi hv
  have hrc : ∃ cell : Cell, H[ad 73 i]? = some cell ∧ cell.vm.isStatics = false ∧ (xS x).vm.findClass y.cls = some cell.cls := by
    rw [hcl, (hW.sf hx).2.1 i hi6]
    exact vk_recv hx.2.2.2.2.2.2.2.1.2.2.2.1 hi6 hW.2.2.2.1
  exact va_runV (As := as.map (rv ad)) (rest := rest) ⟨hx.1, hx.2.1, hx.2.2.1, hx.2.2.2.1, hx.2.2.2.2.1⟩ hM ⟨callB_x hx hy hl ⟨by omega, by omega⟩, hx.2.2.2.2.1 _ (TBg_in hin rfl), hx.2.2.2.2.1 _ (TBg_in hse rfl)⟩ ⟨Pcx_blind _ _ _ _ _ _, hrc, pre_x hx hx.sx hW hv'⟩ rfl (by rw [List.length_map]; exact hn) hsz rfl (lv_room hrest) hd ⟨by omega, by omega⟩
end SND
