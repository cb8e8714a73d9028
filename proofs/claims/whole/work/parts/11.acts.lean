/-! calls as instructions; what a method owes at its end -/
section SND
variable {x : CX} {pc : Nat} {k : Kn}
theorem take_vv {h : PH} {st : List PV} {n : Nat} (hs : ∀ v ∈ st, vv h v) : ∀ v ∈ (st.take n).reverse, vv h v := fun v hv => hs v (List.mem_of_mem_take (List.mem_reverse.mp hv))
theorem drop_vv {h : PH} {st : List PV} {n : Nat} (hs : ∀ v ∈ st, vv h v) : ∀ v ∈ st.drop n, vv h v := fun v hv => hs v (List.mem_of_mem_drop hv)
theorem st_split (ad : Nat → Nat → Nat) (st : List PV) (n : Nat) : st.map (rv ad) = (((st.take n).reverse.map (rv ad)).reverse) ++ (st.drop n).map (rv ad) := by
  rw [← List.map_reverse, List.reverse_reverse, ← List.map_append, List.take_append_drop]
/-- behind a static call -/
theorem s_S {n : Nat} {F : List PV → PH → Option Rs} (hr : RunS x pc n F) (hk : SK x (pc + 3) k) {ls : PL} {st : List PV} {h h' : PH} {r : Rs} {v : Option PV} (h1 : n ≤ st.length) (h2 : (st.drop n).length ≤ 8) (e2 : F (st.take n).reverse h = some (v, h')) (e3 : k ls (v.toList ++ st.drop n) h' = some r) : WK x r pc ls st h := by
  obtain ⟨m1, m2⟩ := hr.1 _ _ _ e2
  obtain ⟨⟨q1, q2⟩, q3⟩ := hk _ _ _ _ e3
  refine ⟨⟨Nat.le_trans m1 q1, Nat.le_trans m2 q2⟩, fun hx g1 g2 o ad ps ws H locs lR hW hl hn hv1 hs => ?_⟩
  have m1' : hC h ≤ hC h' := m1
  have m2' : hS h ≤ hS h' := m2
  rw [st_split ad st n]
  refine call_on (hr.2 _ h r _ e2 (by simp; omega) hx o g1 g2 q1 q2 ad ps ws H locs lR ((st.drop n).map (rv ad)) hW hl.1 (take_vv hs) (by rw [cat_sum]; exact h2)) hW (fun ad' ps' ws' H1 locs1 a1 a2 a3 hW' => ?_)
  have h3 := q3 hx (Nat.le_trans g1 m1) (Nat.le_trans g2 m2) o ad' ps' ws' H1 locs1 lR hW' (by rw [ls_ext a1 hv1]; exact hl) hn (vl_le a2 hv1) (fun w hw => by
    rcases List.mem_append.mp hw with hw | hw
    · cases v with
      | none => simp at hw
      | some z => simp at hw; subst hw; exact a3 _ rfl
    · exact vv_le a2 (drop_vv hs) w hw)
  rw [List.map_append, st_ext a1 (drop_vv (n := n) hs)] at h3
  have ev : (v.toList).map (rv ad') = (v.map (rv ad')).toList := by cases v <;> rfl
  rw [ev] at h3
  exact W.cs (by show _ + (hC h' - hC h) = _; omega) (by show _ + (hS h' - hS h) = _; omega) h3
/-- behind a call with a receiver -/
theorem s_V {kd n : Nat} {F : List PV → PH → Option Rs} (hr : RunV x pc kd n F) (hk : SK x (pc + 3) k) {ls : PL} {st rest as : List PV} {h h' : PH} {r : Rs} {v : Option PV} {i : Nat} (hst : st = as.reverse ++ .inr (kd, i + 1) :: rest) (hn0 : as.length = n) (h2 : rest.length ≤ 8) (e2 : F (.inr (kd, i + 1) :: as) h = some (v, h')) (e3 : k ls (v.toList ++ rest) h' = some r) : WK x r pc ls st h := by
  obtain ⟨m1, m2⟩ := hr.1 _ _ _ e2
  obtain ⟨⟨q1, q2⟩, q3⟩ := hk _ _ _ _ e3
  refine ⟨⟨Nat.le_trans m1 q1, Nat.le_trans m2 q2⟩, fun hx g1 g2 o ad ps ws H locs lR hW hl hn hv1 hs => ?_⟩
  have m1' : hC h ≤ hC h' := m1
  have m2' : hS h ≤ hS h' := m2
  subst hst
  have hva : ∀ w ∈ as, vv h w := fun w hw => hs w (List.mem_append_left _ (List.mem_reverse.mpr hw))
  have hi : i < hN h kd := hs _ (List.mem_append_right _ List.mem_cons_self)
  have hvr : ∀ w ∈ rest, vv h w := fun w hw => hs w (List.mem_append_right _ (List.mem_cons_of_mem _ hw))
  have es : (as.reverse ++ (.inr (kd, i + 1) :: rest : List PV)).map (rv ad) = (as.map (rv ad)).reverse ++ .ref (ad kd i) :: rest.map (rv ad) := by
    rw [List.map_append, List.map_reverse]
    rfl
  rw [es]
  refine call_on (hr.2 i as h r _ e2 hn0 hx o g1 g2 q1 q2 ad ps ws H locs lR (rest.map (rv ad)) hW hl.1 hi hva (by rw [cat_sum]; exact h2)) hW (fun ad' ps' ws' H1 locs1 a1 a2 a3 hW' => ?_)
  have h3 := q3 hx (Nat.le_trans g1 m1) (Nat.le_trans g2 m2) o ad' ps' ws' H1 locs1 lR hW' (by rw [ls_ext a1 hv1]; exact hl) hn (vl_le a2 hv1) (fun w hw => by
    rcases List.mem_append.mp hw with hw | hw
    · cases v with
      | none => simp at hw
      | some z => simp at hw; subst hw; exact a3 _ rfl
    · exact vv_le a2 hvr w hw)
  rw [List.map_append, st_ext a1 hvr] at h3
  have ev : (v.toList).map (rv ad') = (v.map (rv ad')).toList := by cases v <;> rfl
  rw [ev] at h3
  exact W.cs (by show _ + (hC h' - hC h) = _; omega) (by show _ + (hS h' - hS h) = _; omega) h3
theorem rcv_of {kd n : Nat} {st : List PV} {f : List PV → Option Rs} {z : Rs} (h1 : n + 1 ≤ st.length) (e : rcv kd (popn (n + 1) [] st) f = some z) : ∃ (i : Nat) (as : List PV), st = as.reverse ++ .inr (kd, i + 1) :: st.drop (n + 1) ∧ as.length = n ∧ f (.inr (kd, i + 1) :: as) = some z := by
  rw [popn_eq _ [] st h1, List.append_nil] at e
  unfold rcv at e
  split at e
  · rename_i q rr t ht
    obtain ⟨rfl, e1⟩ := beq_lit rfl e
    obtain ⟨i, rfl, e2⟩ := nn_of e1
    have h3 : st.take (n + 1) = t.reverse ++ [.inr (q, i + 1)] := by
      have := congrArg List.reverse ht
      simpa using this
    refine ⟨i, t, ?_, ?_, e2⟩
    · have := (List.take_append_drop (n + 1) st).symm
      rw [h3] at this
      simpa using this
    · have := congrArg List.length h3
      simp at this
      omega
  · cases e
theorem s_sI {n : Nat} {F : List PV → PH → Option Rs} (hr : RunS x pc n F) (hk : SK x (pc + 3) k) : SK x pc (a_sI n F k) := by
  intro ls st h r e
  obtain ⟨h1, h2, e1⟩ := ok8_of e
  rw [popn_eq n [] st h1, List.append_nil] at e1
  obtain ⟨v, h', e2, e3⟩ := cI_of e1
  exact s_S hr hk h1 h2 e2 e3
theorem s_vI {kd n : Nat} {F : List PV → PH → Option Rs} (hr : RunV x pc kd n F) (hk : SK x (pc + 3) k) : SK x pc (a_vI kd n F k) := by
  intro ls st h r e
  obtain ⟨h1, h2, e1⟩ := ok8_of e
  obtain ⟨i, as, hst, hn0, e4⟩ := rcv_of h1 e1
  obtain ⟨v, h', e2, e3⟩ := cI_of e4
  exact s_V hr hk hst hn0 h2 e2 e3
theorem s_sV {n : Nat} {F : List PV → PH → Option Rs} (hr : RunS x pc n F) (hk : SK x (pc + 3) k) : SK x pc (a_sV n F k) := by
  intro ls st h r e
  obtain ⟨h1, h2, e1⟩ := ok8_of e
  rw [popn_eq n [] st h1, List.append_nil] at e1
  obtain ⟨h', e2, e3⟩ := cV_of e1
  exact s_S hr hk h1 h2 e2 e3
theorem s_vV {kd n : Nat} {F : List PV → PH → Option Rs} (hr : RunV x pc kd n F) (hk : SK x (pc + 3) k) : SK x pc (a_vV kd n F k) := by
  intro ls st h r e
  obtain ⟨h1, h2, e1⟩ := ok8_of e
  obtain ⟨i, as, hst, hn0, e4⟩ := rcv_of h1 e1
  obtain ⟨h', e2, e3⟩ := cV_of e4
  exact s_V hr hk hst hn0 h2 e2 e3
theorem s_sR {kt n : Nat} {F : List PV → PH → Option Rs} (hr : RunS x pc n F) (hk : SK x (pc + 3) k) : SK x pc (a_sR kt n F k) := by
  intro ls st h r e
  obtain ⟨h1, h2, e1⟩ := ok8_of e
  rw [popn_eq n [] st h1, List.append_nil] at e1
  obtain ⟨v, h', e2, e3⟩ := cR_of e1
  exact s_S hr hk h1 h2 e2 e3
theorem s_vR {kd kt n : Nat} {F : List PV → PH → Option Rs} (hr : RunV x pc kd n F) (hk : SK x (pc + 3) k) : SK x pc (a_vR kd kt n F k) := by
  intro ls st h r e
  obtain ⟨h1, h2, e1⟩ := ok8_of e
  obtain ⟨i, as, hst, hn0, e4⟩ := rcv_of h1 e1
  obtain ⟨v, h', e2, e3⟩ := cR_of e4
  exact s_V hr hk hst hn0 h2 e2 e3
theorem s_ir (ht : xret x = some .int) (hd : decode (xcc x) pc = .ok (.ireturn, 1)) : SK x pc a_ir := by
  intro ls st h r e
  unfold a_ir at e
  split at e
  · rename_i v
    cases e
    exact ⟨⟨Nat.le_refl _, Nat.le_refl _⟩, fun hx g1 g2 o ad ps ws H locs lR hW hl hn hv1 hs => hx.2.2.2.2.2.2.2.2.2.1 (some (.inl v), h) pc ad ps ws H locs lR hW o ⟨.int, ht, rfl⟩ hd⟩
  · cases e
theorem s_zr (ht : xret x = some .boolean) (hd : decode (xcc x) pc = .ok (.ireturn, 1)) : SK x pc a_zr := by
  intro ls st h r e
  unfold a_zr at e
  split at e
  · rename_i v
    obtain ⟨hz, e1⟩ := bz_of e
    cases e1
    exact ⟨⟨Nat.le_refl _, Nat.le_refl _⟩, fun hx g1 g2 o ad ps ws H locs lR hW hl hn hv1 hs => hx.2.2.2.2.2.2.2.2.2.1 (some (.inl v), h) pc ad ps ws H locs lR hW o ⟨.boolean, ht, (nar_z hz).1⟩ hd⟩
  · cases e
theorem s_ar (ht : (∃ n, xret x = some (.object n)) ∨ ∃ u, xret x = some (.array u)) (hd : decode (xcc x) pc = .ok (.areturn, 1)) : SK x pc a_ar := by
  intro ls st h r e
  unfold a_ar at e
  split at e
  · rename_i v
    cases e
    exact ⟨⟨Nat.le_refl _, Nat.le_refl _⟩, fun hx g1 g2 o ad ps ws H locs lR hW hl hn hv1 hs => hx.2.2.2.2.2.2.2.2.2.1 (some (.inr v), h) pc ad ps ws H locs lR hW o ⟨ht, hs _ List.mem_cons_self⟩ hd⟩
  · cases e
theorem s_vr (ht : xret x = none) (hd : decode (xcc x) pc = .ok (.return_, 1)) : SK x pc a_vr := by
  intro ls st h r e
  unfold a_vr at e
  split at e
  · cases e
    exact ⟨⟨Nat.le_refl _, Nat.le_refl _⟩, fun hx g1 g2 o ad ps ws H locs lR hW hl hn hv1 hs => hx.2.2.2.2.2.2.2.2.2.1 (none, h) pc ad ps ws H locs lR hW o ht hd⟩
  · cases e
/-- the end of a method that owes a contract -/
def RTx (x : CX) (ret : Option FieldType) : Prop := (xmt x).sig.returnType = ret ∧ (xmt x).locks = false ∧ ∀ r, xQ x r = MQ (xbl x) (Qcx (xb x) (xD x) (xcA x) (xad x) (xh x) r) (xa x) (xS x) (hC r.2 - hC (xh x)) (hS r.2 - hS (xh x)) (fun q => xb x ≤ q)
theorem ret_q {ad ps : Nat → Nat → Nat} {ws : va_W} {h : PH} {H : Heap} {locs : List Loc} {v : Option PV} (hW : WD x ad ps ws h H locs) (hv : ∀ w, v = some w → vv h w) : ∀ t : State, t.heap = H → (xS x).WarmedH t.vm → Qcx (xb x) (xD x) (xcA x) (xad x) (xh x) (v, h) (xa x) (xS x) (.returned (v.map (rv ad))) t := fun t ht _ =>
  ⟨⟨ad, ps, ws, rfl, hW.2.2.2.2.1, hW.2.2.2.2.2, hW.1, by rw [ht]; exact hW.2.1, hW.2.2.1, hv⟩, hW.2.2.2.1.F ht⟩
theorem RTx.rp (hx : (xP x).tables.exec = Jvm.exec) (hb : (xC x).code = xcc x) (hr : RTx x (xret x)) : RP x := by
  intro r pc ad ps ws H locs lR hW o ht hd
  obtain ⟨v, h⟩ := r
  rw [hr.2.2]
  match v, ht, hd with
  | none, ht, hd => exact W.vret hx hb (hr.1.trans ht) (ret_q (v := none) hW (fun w hw => by cases hw)) hW.2.2.2.1.2.2 hd hr.2.1
  | some (.inl v), ht, hd =>
    obtain ⟨ty, ht, hz⟩ := ht
    exact W.zret hx hb (hr.1.trans ht) hz (ret_q (v := some (.inl v)) hW (fun w hw => by cases hw; trivial)) hW.2.2.2.1.2.2 hd hr.2.1
  | some (.inr q), ⟨ht, hq⟩, hd =>
    have hvq : rv ad (.inr q) = .null ∨ ∃ a, rv ad (.inr q) = .ref a := by
      rcases rv_ref ad q with ⟨-, z⟩ | ⟨j, -, z⟩
      · exact Or.inl z
      · exact Or.inr ⟨_, z⟩
    rcases ht with ⟨n, ht⟩ | ⟨u, ht⟩
    · exact W.aret hx hb (hr.1.trans ht) (Or.inl ⟨n, rfl⟩) hvq (ret_q (v := some (.inr q)) hW (fun w hw => by cases hw; exact hq)) hW.2.2.2.1.2.2 hd hr.2.1
    · exact W.aret hx hb (hr.1.trans ht) (Or.inr ⟨u, rfl⟩) hvq (ret_q (v := some (.inr q)) hW (fun w hw => by cases hw; exact hq)) hW.2.2.2.1.2.2 hd hr.2.1
theorem s_oi {idx : Nat} (hl : Cond.methodLink (xown x) idx Lib.objectInit ∈ lw_tbl) (hin : Cond.instanceMethod Lib.objectInit ∈ lw_tbl) (hco : Cond.code Lib.objectInit ⟨#[0xb1]⟩ 1 none ∈ lw_tbl) (hd : decode (xcc x) pc = .ok (.invokespecial idx, 3)) (hk : SK x (pc + 3) k) : SK x pc (a_oi k) := by
  intro ls st h r e
  obtain ⟨h1, h2, e1⟩ := ok8_of e
  split at e1
  · rename_i q rr st'
    obtain ⟨i, rfl, e2⟩ := nn_of e1
    obtain ⟨⟨q1, q2⟩, q3⟩ := hk _ _ _ _ e2
    refine ⟨⟨q1, q2⟩, fun hx g1 g2 o ad ps ws H locs lR hW hlv hn hv1 hs => ?_⟩
    have h3 := o.2.2.1
    have h4 := o.2.2.2.1
    refine W.objInit hx.1 hx.2.1 hx.2.2.2.1 (hx.2.2.2.2.1 _ (TBg_in hl rfl)) (hx.2.2.2.2.1 _ (TBg_in hin rfl)) (hx.2.2.2.2.1 _ (TBg_in hco rfl)) rfl (hlv.1.trans hx.2.2.1.symm) (rest := st'.map (rv ad)) rfl hd (by omega) ?_ (q3 hx g1 g2 o ad ps ws H locs lR hW hlv hn hv1 (fun w hw => hs w (List.mem_cons_of_mem _ hw)))
    show 2 * 0 + _ + 12 ≤ _
    rw [cat_sum]
    simp only [List.drop_succ_cons, List.drop_zero] at h2
    omega
  · cases e1
theorem s_min {idx : Nat} (hl : Cond.methodLink (xown x) idx Lib.Math.min.name ∈ lw_tbl) (hst : Cond.static Lib.Math.min.name ∈ lw_tbl) (hini : Cond.initialized "java/lang/Math" ∈ lw_tbl) (hco : Cond.code Lib.Math.min.name Lib.Math.min.code 2 (some .int) ∈ lw_tbl) (hd : decode (xcc x) pc = .ok (.invokestatic idx, 3)) (hk : SK x (pc + 3) k) : SK x pc (a_min k) := by
  intro ls st h r e
  obtain ⟨h1, h2, e1⟩ := ok8_of e
  split at e1
  · rename_i z y st'
    obtain ⟨⟨q1, q2⟩, q3⟩ := hk _ _ _ _ e1
    refine ⟨⟨q1, q2⟩, fun hx g1 g2 o ad ps ws H locs lR hW hlv hn hv1 hs => ?_⟩
    have h0 := o.1
    have h0' := o.2.1
    have h3 := o.2.2.1
    have h4 := o.2.2.2.1
    refine va_mmin hx.1 hx.2.1 (by rw [hx.2.2.1, hlv.1]) hx.2.2.2.1 (hx.2.2.2.2.1 _ (TBg_in hl rfl)) (hx.2.2.2.2.1 _ (TBg_in hst rfl)) (hx.2.2.2.2.1 _ (TBg_in hini rfl)) (hx.2.2.2.2.1 _ (TBg_in hco rfl)) (by omega) ?_ (by omega) (by omega) hd (q3 hx g1 g2 o ad ps ws H locs lR hW hlv hn hv1 (vv_cons trivial (fun w hw => hs w (List.mem_cons_of_mem _ (List.mem_cons_of_mem _ hw)))))
    rw [cat_sum]
    simp only [List.drop_succ_cons, List.drop_zero] at h2
    omega
  · cases e1
end SND
/-! from a body to a contract -/
abbrev CZ : Type := (Program × Launch × Env × State × MethodId × Array Value × List Frame × Method × Code) × ((Rs → Room) × (Rs → State → Prop) × (Rs → Prop)) × (Nat × va_G × (Nat → ClassId)) × ((Nat → Nat → Nat) × PH)
def mx (own : String) (cc : ByteArray) (nL d : Nat) (ret : Option FieldType) (nm : String) (z : CZ) : CX := (z.1, z.2.1, (own, cc, nL, d, ret, nm), z.2.2.1, z.2.2.2)
def ent (nL : Nat) (as : List PV) : PL := as.map some ++ List.replicate (nL - as.length) none
theorem lvs_ent {ad : Nat → Nat → Nat} : ∀ (as : List PV) (i n : Nat), lvs ad i (as.map some ++ List.replicate n none) = lv_args i (as.map (rv ad))
  | [], i, 0 => rfl
  | [], i, n + 1 => by
    have := lvs_ent (ad := ad) [] (i + 1) n
    simp only [List.map_nil, List.nil_append] at this ⊢
    rw [List.replicate_succ]
    simp only [lvs]
    rw [this]
    rfl
  | v :: as, i, n => by
    simp only [List.map_cons, List.cons_append, lvs, lv_args]
    rw [rv_cat, lvs_ent as (i + 1) n]
    rfl
theorem lg_len {ad : Nat → Nat → Nat} (as : List PV) : (lg_sl (as.map (rv ad))).length = as.length := by
  induction as with
  | nil => rfl
  | cons v as ih =>
    unfold lg_sl at ih ⊢
    rw [List.map_cons, List.flatMap_cons, List.length_append, ih, rv_cat]
    simp
    omega
theorem Gd_of {l : Launch} {d : Nat} {y : MethodName} {cc : ByteArray} {mL : Nat} {ret : Option FieldType} {F : List PV → PH → Option Rs} (hp : plainName y.cls = true)
    (hB : ∀ z : CZ, xL (mx y.cls cc mL d ret y.name z) = l → ∀ as h r, F as h = some r → as.length ≤ mL ∧ WK (mx y.cls cc mL d ret y.name z) r 0 (ent mL as) [] h) : Gd l d y cc mL ret F := by
  intro b D cA ad as h r e
  have key : ∀ z : CZ, xL (mx y.cls cc mL d ret y.name z) = l → as.length ≤ mL ∧ WK (mx y.cls cc mL d ret y.name z) r 0 (ent mL as) [] h := fun z hz => hB z hz as h r e
  refine ⟨fun ⟨x⟩ => (key ((x.1.1, l, x.1.2.2), x.2.1, x.2.2.2.1, x.2.2.2.2) rfl).2.1, ?_⟩
  refine Met.ofW (cc := cc) (maxL := mL) (ret := ret) hp rfl ?_
  intro p e' s m args below meth c s₁ B hml hv
  obtain ⟨rfl, hva, hVF, hSF, hbs, ps, ws, hSm, hP, hD⟩ := hv
  have hts := atoms_spec (ws := .code y cc mL ret :: TBg) B.pre
  have hown : s.vm.findClass y.cls = some m.cls := findClass_of_methodNamed B.named
  have hnm : meth.name = y.name := (name_of_methodNamed B.named B.method).1
  let z : CZ := ((p, l, e', s, m, (as.map (rv ad)).toArray, below, meth, c), (fun r => rmx d (hC r.2 - hC h) (hS r.2 - hS h), fun r => MQ below (Qcx b D cA ad h r) (as.map (rv ad)).toArray s (hC r.2 - hC h) (hS r.2 - hS h) (fun q => b ≤ q), fun _ => True), (b, D, cA), (ad, h))
  obtain ⟨hlen, -, q3⟩ := key z rfl
  have hx : OKx (mx y.cls cc mL d ret y.name z) := ⟨B.exec, B.bytes, hml, hown, fun w hw => hts w (List.mem_cons_of_mem _ hw), hVF, hbs, hSF, hSm.2.2.2.2.2, RTx.rp B.exec B.bytes ⟨B.returns, B.notSynchronized, fun _ => rfl⟩, hnm⟩
  have hl := lv_entry (as.map (rv ad)) (n := mL) (by rw [lg_len]; exact hlen)
  have h3 := q3 hx (Nat.le_refl _) (Nat.le_refl _) ⟨Nat.le_refl _, Nat.le_refl _, Nat.le_refl _, Nat.le_refl _, trivial⟩ ad ps ws s.heap [] _ ⟨hSm, hP, hD, va_S.rf, fun _ _ _ => rfl, fun _ => Nat.le_refl _⟩ (by
    show lv_has _ mL (lvs ad 0 (ent mL as))
    rw [ent, lvs_ent]
    exact hl) (by show (ent mL as).length = mL; simp [ent]; omega) (fun v hv w hw => by
      rcases List.mem_append.mp hv with hv | hv
      · obtain ⟨u, hu, rfl⟩ := List.mem_map.mp hv
        rw [← Option.some.inj hw]
        exact hva u hu
      · have := (List.mem_replicate.mp hv).2
        subst this
        cases hw) (fun v hv => by cases hv)
  rw [lg_entry_eq]
  exact W.cs (by show (0 : Nat) = hC h - hC h; omega) (by show (0 : Nat) = hS h - hS h; omega) h3
