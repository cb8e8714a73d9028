theorem SF.ad {b : Nat} {ad ad' : Nat → Nat → Nat} {U : State} (h : SF b ad U) (e1 : ad' 71 0 = ad 71 0) (e2 : ∀ i, i < 6 → ad' 73 i = ad 73 i) (e3 : ∀ i, i < 6 → ad' 74 i = ad 74 i) (e4 : ad' 75 0 = ad 75 0) : SF b ad' U := by
  obtain ⟨h1, h2, h3, h4, h5, h6⟩ := h
  refine ⟨by rw [e1]; exact h1, by rw [e1]; exact h2, h3, ⟨fun i hi => ?_, fun i j hi hj => ?_⟩, fun i hi => ?_, by rw [e4]; exact h6⟩
  · rw [e2 i hi, e3 i hi]; exact h4.1 i hi
  · rw [e2 i hi, e2 j hj]; exact h4.2 i j hi hj
  · rw [e2 i hi]; exact h5 i hi
theorem SF.on {b : Nat} {ad : Nat → Nat → Nat} {s U : State} {H : Heap} {locs : List Loc} (h : SF b ad s) (hS : va_S (fun q => b ≤ q) s.heap H locs) (hH : U.heap = H) (hW : s.WarmedH U.vm) : SF b ad U := by
  obtain ⟨h1, h2, h3, h4, h5, h6⟩ := h
  subst hH
  exact ⟨(h1.kept hS.2.1).moved hW.alike, (h2.kept hS.2.1).moved hW.alike, (h3.kept hS.2.1).moved hW.alike, (h4.kept hS.2.1).moved hW.alike, fun i hi => (h5 i hi).warm hW, h6.imp (fun z => (z.kept hS.2.1).moved hW.alike) (fun z => (z.kept hS.2.1).moved hW.alike)⟩
theorem SF.same {b : Nat} {ad : Nat → Nat → Nat} {u U : State} (h : SF b ad u) (hH : U.heap = u.heap) (hv : U.vm = u.vm) : SF b ad U := by
  obtain ⟨h1, h2, h3, h4, h5, h6⟩ := h
  have al : u.vm.Alike U.vm := by rw [hv]; exact Vm.Alike.refl _
  refine ⟨by rw [hH]; exact h1.moved al, by rw [hH]; exact h2.moved al, by rw [hH]; exact h3.moved al, by rw [hH]; exact h4.moved al, fun i hi => (h5 i hi).same hv, by rw [hH]; exact h6.imp (fun z => z.moved al) (fun z => z.moved al)⟩
theorem NW_warm {s U : State} (hW : s.WarmedH U.vm) (h : ∀ w ∈ NWl, va_Nw w s) : ∀ w ∈ NWl, va_Nw w U := by
  intro w hw
  have h1 := h w hw
  have h2 := (List.mem_filter.mp hw).2
  cases w <;> first | exact va_Nw.warmF hW h1 | exact va_Nw.warmM hW h1 | cases h2
theorem NW_same {u U : State} (hv : u.vm = U.vm) (h : ∀ w ∈ NWl, va_Nw w u) : ∀ w ∈ NWl, va_Nw w U := by
  intro w hw
  have h1 := h w hw
  have h2 := (List.mem_filter.mp hw).2
  cases w <;> first | exact va_Nw.same rfl hv h1 | cases h2
theorem AOA_spec {s : State} (h : AOA s) :
    ∃ comp c k, s.vm.findClass (FieldType.array .int).toString = some comp ∧ (s.vm.classes.findIdx? fun (x : Class) => match x.kind with | .array component _ => component == comp | _ => false) = some c ∧ s.vm.classes[c]? = some k ∧ k.kind = .array comp (.array .int) ∧ s.vm.findClass ("[" ++ (FieldType.array .int).toString) = some c := by
  unfold AOA Cond.before at h
  simp only [Cond.holds, Cond.value, beq_iff_eq] at h
  cases hc : s.vm.findClass (FieldType.array .int).toString with
  | none => simp [hc] at h
  | some comp =>
    simp only [hc, Option.bind_some, Option.bind_eq_some_iff, Option.map_eq_some_iff] at h
    obtain ⟨c, hi, k, hk, hb⟩ := h
    obtain ⟨hlt, hp, -⟩ := Array.findIdx?_eq_some_iff_getElem.mp hi
    have hkk : s.vm.classes[c] = k := (Array.getElem?_eq_some_iff.mp hk).2
    rw [hkk] at hp
    cases hkind : k.kind with
    | array component ty =>
      rw [hkind] at hb hp
      simp at hb hp
      exact ⟨comp, c, k, rfl, hi, hk, by rw [hkind, hp, hb.1], hb.2⟩
    | _ => rw [hkind] at hb; simp at hb
theorem AOA_moved {u U : State} (hvm : u.vm.Alike U.vm) (h : AOA u) : AOA U := by
  obtain ⟨comp, c, k, h1, h2, h3, h4, h5⟩ := AOA_spec h
  obtain ⟨k', hk', he⟩ := hvm.2.2 _ _ h3
  have hi : (U.vm.classes.findIdx? fun (x : Class) => match x.kind with | .array component _ => component == comp | _ => false) = some c := by
    have hb : U.vm.bare = u.vm.bare := by first | exact hvm.bare_eq | exact hvm.bare_eq.symm
    exact (va_idx_bare U.vm comp).symm.trans ((congrArg (fun z : Vm => z.classes.findIdx? fun (x : Class) => match x.kind with | .array component _ => component == comp | _ => false) hb).trans ((va_idx_bare u.vm comp).trans h2))
  have hkind : k'.kind = .array comp (.array .int) := by rw [he]; exact h4
  have f1 : U.vm.findClass (FieldType.array .int).toString = some comp := by rw [hvm.findClass]; exact h1
  have f2 : U.vm.findClass ("[" ++ (FieldType.array .int).toString) = some c := by rw [hvm.findClass]; exact h5
  unfold AOA Cond.before Cond.holds
  simp only [Cond.value]
  rw [f1, Option.bind_some]
  refine (congrArg (fun o : Option Nat => (o.bind (fun c => (U.vm.classes[c]?).map fun (k : Class) => match k.kind with | .array _ ty => decide (ty = FieldType.array .int) && decide (U.vm.findClass ("[" ++ (FieldType.array .int).toString) = some c) | _ => false) == some true)) hi).trans ?_
  simp [hk', hkind, f2]
theorem VF.warm {D : va_G} {cA : Nat → ClassId} {s U : State} (hW : s.WarmedH U.vm) (h : VF D cA s) : VF D cA U :=
  ⟨va_K.moved hW.alike h.1, NW_warm hW h.2.1, fun C hC => va_AO.moved hW.alike (h.2.2.1 C hC), AOA_moved hW.alike h.2.2.2⟩
theorem VF.same {D : va_G} {cA : Nat → ClassId} {u U : State} (hv : u.vm = U.vm) (h : VF D cA u) : VF D cA U := by
  have al : u.vm.Alike U.vm := by rw [hv]; exact Vm.Alike.refl _
  exact ⟨va_K.moved al h.1, NW_same hv h.2.1, fun C hC => va_AO.moved al (h.2.2.1 C hC), AOA_moved al h.2.2.2⟩
/-! what a method owes -/
def Pcx (b : Nat) (D : va_G) (cA : Nat → ClassId) (ad : Nat → Nat → Nat) (as : List PV) (h : PH) : Array Value → State → Prop := fun args U =>
  args = (as.map (rv ad)).toArray ∧ (∀ v ∈ as, vv h v) ∧ VF D cA U ∧ SF b ad U ∧ b ≤ U.heap.size ∧ ∃ (ps : Nat → Nat → Nat) (ws : va_W), Sm cA ad ps ws h ∧ va_P D vwCl ws U.heap ∧ va_D (fun q => b ≤ q) ws
def Qcx (b : Nat) (D : va_G) (cA : Nat → ClassId) (ad : Nat → Nat → Nat) (h : PH) (r : Rs) : Array Value → State → Outcome → State → Prop := fun _ st oc t =>
  (∃ (ad' ps : Nat → Nat → Nat) (ws : va_W), oc = .returned (r.1.map (rv ad')) ∧ (∀ k i, i < hN h k → ad' k i = ad k i) ∧ (∀ k, hN h k ≤ hN r.2 k) ∧ Sm cA ad' ps ws r.2 ∧ va_P D vwCl ws t.heap ∧ va_D (fun q => b ≤ q) ws ∧ (∀ v, r.1 = some v → vv r.2 v)) ∧ va_F (fun q => b ≤ q) st t
def rmx (d c s : Nat) : Room := { frames := d + 1, cells := c, slots := s, locals := 64 * (d + 1) }
/-- a method keeps to F, if it may call d deep -/
def Gd (l : Launch) (d : Nat) (y : MethodName) (cc : ByteArray) (mL : Nat) (ret : Option FieldType) (F : List PV → PH → Option Rs) : Prop :=
  ∀ (b : Nat) (D : va_G) (cA : Nat → ClassId) (ad : Nat → Nat → Nat) (as : List PV) (h : PH) (r : Rs), F as h = some r → (Nonempty CX → hC h ≤ hC r.2 ∧ hS h ≤ hS r.2) ∧
    Met l y (.code y cc mL ret :: TBg) (rmx d (hC r.2 - hC h) (hS r.2 - hS h)) (Pcx b D cA ad as h) (Qcx b D cA ad h r) (hC r.2 - hC h) (hS r.2 - hS h) (fun q => b ≤ q)
theorem Pcx_blind (b : Nat) (D : va_G) (cA : Nat → ClassId) (ad : Nat → Nat → Nat) (as : List PV) (h : PH) : FrameBlind (Pcx b D cA ad as h) := by
  intro a U g mk hp
  obtain ⟨h1, h2, h3, h4, h5, h6⟩ := hp
  exact ⟨h1, h2, VF.same (u := U) (U := U.calling g mk a) rfl h3, SF.same (u := U) (U := U.calling g mk a) h4 rfl rfl, h5, h6⟩
/-- what is asked of a callee's names -/
def CY (y : MethodName) (cc : ByteArray) (mL : Nat) (ret : Option FieldType) (n : Nat) : Prop := Cond.code y cc mL ret ∈ lw_tbl ∧ Cond.initialized y.cls ∈ lw_tbl ∧ (y.cls ≠ "java/lang/invoke/MethodHandle" ∧ y.cls ≠ "java/lang/invoke/VarHandle" ∧ (parseMethodDescriptor y.desc).map (fun d => d.parameters.length) = some n) ∧ mL ≤ 45
theorem TB_good {y : MethodName} {cc : ByteArray} {mL : Nat} {ret : Option FieldType} (h : Cond.code y cc mL ret ∈ lw_tbl) : GoodIn TBg (.code y cc mL ret :: TBg) := by
  intro w hw
  rcases List.mem_cons.mp hw with rfl | hw
  · exact ⟨TBg_in h rfl, Or.inl rfl⟩
  · exact ⟨hw, good_of_word (List.mem_filter.mp hw).2⟩
section SND
variable {x : CX} {pc : Nat} {k : Kn}
/-- the static facts at a method's start -/
def SX (x : CX) : Prop := SF (xb x) (xad x) (xS x) ∧ (hN (xh x) 71 = 1 ∧ hN (xh x) 73 = 6 ∧ hN (xh x) 74 = 6 ∧ hN (xh x) 75 = 1)
theorem OKx.sx (hx : OKx x) : SX x := ⟨hx.2.2.2.2.2.2.2.1, hx.2.2.2.2.2.2.2.2.1⟩
theorem callB_x (hx : OKx x) {R : Room} {y : MethodName} {cc : ByteArray} {mL n idx d c s : Nat} {ret : Option FieldType} (hy : CY y cc mL ret n) (hl : Cond.methodLink (xown x) idx y ∈ lw_tbl) (hR : d + 1 + 1 ≤ R.frames ∧ 64 * (d + 1) + 64 ≤ R.locals) : CallB R (xS x) (xa x) (xown x) idx y cc mL ret (.code y cc mL ret :: TBg) (rmx d c s) c s n := by
  have hm := hy.2.2.2
  exact callB_of n hx.2.2.2.2.1 (TB_good hy.1) rfl rfl rfl (hx.2.2.2.2.1 _ (TBg_in hy.2.1 rfl)) (hx.2.2.2.2.1 _ (TBg_in hl rfl)) hy.2.2.1 ⟨hR.1, by show 8 + (mL + 11) + 64 * (d + 1) ≤ _; omega⟩
theorem callN_x (hx : OKx x) {R : Room} {y : MethodName} {cc : ByteArray} {mL n idx d c s : Nat} {ret : Option FieldType} {host : String} (hy : CY y cc mL ret n) (hl : Cond.methodLinkNest (xown x) idx y host ∈ NWl) (hR : d + 1 + 1 ≤ R.frames ∧ 64 * (d + 1) + 64 ≤ R.locals) : va_CN R (xS x) (xa x) (xown x) idx y host cc mL ret (.code y cc mL ret :: TBg) (rmx d c s) c s n := by
  have hm := hy.2.2.2
  exact va_cnB n hx.2.2.2.2.1 (TB_good hy.1) rfl rfl rfl (hx.2.2.2.2.2.1.2.1 _ hl) (hx.2.2.2.2.1 _ (TBg_in hy.2.1 rfl)) hy.2.2.1 ⟨hR.1, by show 8 + (mL + 11) + 64 * (d + 1) ≤ _; omega⟩
/-- behind a call -/
theorem call_on {r r' : Rs} {ad ps : Nat → Nat → Nat} {ws : va_W} {h : PH} {H : Heap} {locs : List Loc} {lR : Array Slot} {st0 rest : List Value} {mc ms : Nat} {av : Array Value}
    (hr : va_Run (xP x) (xL x) (xE x) (xRm x r) (xS x) (xM x) (xa x) (xbl x) (xmt x) (xC x) H locs (hC h - hC (xh x)) (hS h - hS (xh x)) mc ms (F0 (xM x) pc lR st0) rest (Qcx (xb x) (xD x) (xcA x) ad h r' av) (fun q => xb x ≤ q)) (hW : WD x ad ps ws h H locs)
    (kk : ∀ (ad' ps' : Nat → Nat → Nat) (ws' : va_W) (H1 : Heap) (locs1 : List Loc), (∀ k i, i < hN h k → ad' k i = ad k i) → (∀ k, hN h k ≤ hN r'.2 k) → (∀ v, r'.1 = some v → vv r'.2 v) → WD x ad' ps' ws' r'.2 H1 locs1 → W (xP x) (xL x) (xE x) (xRm x r) (xS x) (xM x) (xa x) (xbl x) (xmt x) (xC x) H1 locs1 (hC h - hC (xh x) + mc) (hS h - hS (xh x) + ms) (xQ x r) (F0 (xM x) (pc + 3) lR ((r'.1.map (rv ad')).toList ++ rest))) :
    W (xP x) (xL x) (xE x) (xRm x r) (xS x) (xM x) (xa x) (xbl x) (xmt x) (xC x) H locs (hC h - hC (xh x)) (hS h - hS (xh x)) (xQ x r) (F0 (xM x) pc lR st0) := by
  intro T hT X
  obtain ⟨v, st₀, t, T', L, h0, X', hL, e1, e2, ⟨⟨ad', ps', ws', hv, a1, a2, a3, a4, a5, a6⟩, hz, hk⟩, st⟩ := hr T hT X
  cases hv
  rw [h0] at hz hk
  have hS := hW.2.2.2.1
  have hS' : va_S (xA x) (xS x).heap T'.heap (locs ++ L) := ⟨Nat.le_trans hS.1 (by rw [e1]; exact hz), fun q b1 b2 => by rw [e1, hk q (Nat.lt_of_lt_of_le b1 hS.1) b2]; exact hS.2.1 q b1 b2, fun q hq => by
    rcases List.mem_append.mp hq with h | h
    · exact hS.2.2 q h
    · exact hL q h⟩
  obtain ⟨t2, b1, b2⟩ := kk ad' ps' ws' T'.heap (locs ++ L) a1 a2 a6 ⟨a3, by rw [e1]; exact a4, a5, hS', fun k i hi => (a1 k i (Nat.lt_of_lt_of_le hi (hW.2.2.2.2.2 k))).trans (hW.2.2.2.2.1 k i hi), fun k => Nat.le_trans (hW.2.2.2.2.2 k) (a2 k)⟩ T' rfl X'
  exact ⟨t2, st t2 b1, b2⟩
theorem pre_x (hx : OKx x) (hX : SX x) {ad ps : Nat → Nat → Nat} {ws : va_W} {h : PH} {H : Heap} {locs : List Loc} (hW : WD x ad ps ws h H locs) {as : List PV} (hv : ∀ v ∈ as, vv h v) : ∀ U : State, U.heap = H → (xS x).WarmedH U.vm → Pcx (xb x) (xD x) (xcA x) ad as h (as.map (rv ad)).toArray U := by
  intro U hU hw
  refine ⟨rfl, hv, hx.2.2.2.2.2.1.warm hw, (hX.1.on hW.2.2.2.1 hU hw).ad (hW.2.2.2.2.1 71 0 (by have := hX.2.1; omega)) (fun i hi => hW.2.2.2.2.1 73 i (by have := hX.2.2.1; omega)) (fun i hi => hW.2.2.2.2.1 74 i (by have := hX.2.2.2.1; omega)) (hW.2.2.2.2.1 75 0 (by have := hX.2.2.2.2; omega)), ?_, ps, ws, hW.1, by rw [hU]; exact hW.2.1, hW.2.2.1⟩
  rw [hU]
  exact Nat.le_trans hx.2.2.2.2.2.2.1 hW.2.2.2.1.1
theorem popn_eq : ∀ (n : Nat) (acc st : List PV), n ≤ st.length → popn n acc st = (st.take n).reverse ++ acc
  | 0, acc, st, _ => by simp [popn]
  | n + 1, acc, [], h => by simp at h
  | n + 1, acc, v :: st, h => by
    simp only [popn, List.take_succ_cons, List.reverse_cons, List.append_assoc, List.singleton_append]
    exact popn_eq n (v :: acc) st (by simpa using h)
theorem ok8_of {n : Nat} {st : List PV} {A : Option Rs} {r : Rs} (e : (bif ok8 n st then A else none) = some r) : n ≤ st.length ∧ (st.drop n).length ≤ 8 ∧ A = some r := by
  cases hq : ok8 n st with
  | true =>
    rw [hq] at e
    have hq' := hq
    unfold ok8 at hq'
    rw [Bool.and_eq_true] at hq'
    have h1 := Nat.le_of_ble_eq_true hq'.1
    have h2 := Nat.le_of_ble_eq_true hq'.2
    exact ⟨h1, by rw [List.length_drop]; omega, e⟩
  | false => rw [hq] at e; cases e
theorem cat_sum (ad : Nat → Nat → Nat) : ∀ st : List PV, ((st.map (rv ad)).map fun v => v.category).sum = st.length
  | [] => rfl
  | v :: st => by
    simp only [List.map_cons, List.sum_cons, List.length_cons]
    rw [cat_sum ad st, rv_cat]
    omega
theorem cI_of {o : Option Rs} {f : Int32 → PH → Option Rs} {r : Rs} (e : cI o f = some r) : ∃ v h, o = some (some (.inl v), h) ∧ f v h = some r := by
  unfold cI at e
  split at e
  · exact ⟨_, _, rfl, e⟩
  · cases e
theorem cR_of {kt : Nat} {o : Option Rs} {f : Nat → PH → Option Rs} {r : Rs} (e : cR kt o f = some r) : ∃ v h, o = some (some (.inr (kt, v)), h) ∧ f v h = some r := by
  unfold cR at e
  split at e
  · obtain ⟨rfl, e1⟩ := beq_lit rfl e
    exact ⟨_, _, rfl, e1⟩
  · cases e
theorem cV_of {o : Option Rs} {f : PH → Option Rs} {r : Rs} (e : cV o f = some r) : ∃ h, o = some (none, h) ∧ f h = some r := by
  unfold cV at e
  split at e
  · exact ⟨_, rfl, e⟩
  · cases e
/-- how a call of F is run: n arguments are taken, d deep, from the operand stack -/
def RunS (x : CX) (pc n : Nat) (F : List PV → PH → Option Rs) : Prop := (∀ (as : List PV) (h : PH) (r' : Rs), F as h = some r' → hC h ≤ hC r'.2 ∧ hS h ≤ hS r'.2) ∧ ∀ (as : List PV) (h : PH) (r r' : Rs), F as h = some r' → as.length = n → OKx x → OKr x r → hC (xh x) ≤ hC h → hS (xh x) ≤ hS h → hC r'.2 ≤ hC r.2 → hS r'.2 ≤ hS r.2 → ∀ (ad ps : Nat → Nat → Nat) (ws : va_W) (H : Heap) (locs : List Loc) (lR : Array Slot) (rest : List Value), WD x ad ps ws h H locs → lR.size = xnL x → (∀ v ∈ as, vv h v) → (rest.map fun v => v.category).sum ≤ 8 →
  va_Run (xP x) (xL x) (xE x) (xRm x r) (xS x) (xM x) (xa x) (xbl x) (xmt x) (xC x) H locs (hC h - hC (xh x)) (hS h - hS (xh x)) (hC r'.2 - hC h) (hS r'.2 - hS h) (F0 (xM x) pc lR ((as.map (rv ad)).reverse ++ rest)) rest (Qcx (xb x) (xD x) (xcA x) ad h r' (as.map (rv ad)).toArray) (fun q => xb x ≤ q)
theorem run_static {y : MethodName} {cc : ByteArray} {mL n idx d : Nat} {ret : Option FieldType} {F : List PV → PH → Option Rs} (hG : Gd (xL x) d y cc mL ret F) (hdp : d < xd x) (hy : CY y cc mL ret n) (hst : Cond.static y ∈ lw_tbl) (hl : Cond.methodLink (xown x) idx y ∈ lw_tbl) (hd : decode (xcc x) pc = .ok (.invokestatic idx, 3)) : RunS x pc n F := by
  refine ⟨fun as h r' e => (hG (xb x) (xD x) (xcA x) (xad x) as h r' e).1 ⟨x⟩, fun as h r r' e hn hx o g1 g2 m1 m2 ad ps ws H locs lR rest hW hsz hv hrest => ?_⟩
  obtain ⟨cc, hM⟩ := hG (xb x) (xD x) (xcA x) ad as h r' e
  obtain ⟨c1, c2⟩ := cc ⟨x⟩
  have h1 := o.1
  have h2 := o.2.1
  have h3 := o.2.2.1
  have h4 := o.2.2.2.1
  exact va_runS (As := as.map (rv ad)) (rest := rest) ⟨hx.1, hx.2.1, hx.2.2.1, hx.2.2.2.1, hx.2.2.2.2.1⟩ hM ⟨callB_x hx hy hl ⟨by omega, by omega⟩, hx.2.2.2.2.1 _ (TBg_in hst rfl)⟩ ⟨Pcx_blind _ _ _ _ _ _, pre_x hx hx.sx hW hv⟩ rfl (by rw [List.length_map]; exact hn) hsz rfl (lv_room hrest) hd ⟨by omega, by omega⟩
theorem run_staticN {y : MethodName} {cc : ByteArray} {mL n idx d : Nat} {host : String} {ret : Option FieldType} {F : List PV → PH → Option Rs} (hG : Gd (xL x) d y cc mL ret F) (hdp : d < xd x) (hy : CY y cc mL ret n) (hst : Cond.static y ∈ lw_tbl) (hl : Cond.methodLinkNest (xown x) idx y host ∈ NWl) (hd : decode (xcc x) pc = .ok (.invokestatic idx, 3)) : RunS x pc n F := by
  refine ⟨fun as h r' e => (hG (xb x) (xD x) (xcA x) (xad x) as h r' e).1 ⟨x⟩, fun as h r r' e hn hx o g1 g2 m1 m2 ad ps ws H locs lR rest hW hsz hv hrest => ?_⟩
  obtain ⟨cc, hM⟩ := hG (xb x) (xD x) (xcA x) ad as h r' e
  obtain ⟨c1, c2⟩ := cc ⟨x⟩
  have h1 := o.1
  have h2 := o.2.1
  have h3 := o.2.2.1
  have h4 := o.2.2.2.1
  exact va_runSN (As := as.map (rv ad)) (rest := rest) ⟨hx.1, hx.2.1, hx.2.2.1, hx.2.2.2.1, hx.2.2.2.2.1⟩ hM ⟨callN_x hx hy hl ⟨by omega, by omega⟩, hx.2.2.2.2.1 _ (TBg_in hst rfl), trivial⟩ ⟨Pcx_blind _ _ _ _ _ _, pre_x hx hx.sx hW hv⟩ rfl (by rw [List.length_map]; exact hn) hsz rfl (lv_room hrest) hd ⟨by omega, by omega⟩
/-- with a receiver of kind kd -/
def RunV (x : CX) (pc kd n : Nat) (F : List PV → PH → Option Rs) : Prop := (∀ (as : List PV) (h : PH) (r' : Rs), F as h = some r' → hC h ≤ hC r'.2 ∧ hS h ≤ hS r'.2) ∧ ∀ (i : Nat) (as : List PV) (h : PH) (r r' : Rs), F (.inr (kd, i + 1) :: as) h = some r' → as.length = n → OKx x → OKr x r → hC (xh x) ≤ hC h → hS (xh x) ≤ hS h → hC r'.2 ≤ hC r.2 → hS r'.2 ≤ hS r.2 → ∀ (ad ps : Nat → Nat → Nat) (ws : va_W) (H : Heap) (locs : List Loc) (lR : Array Slot) (rest : List Value), WD x ad ps ws h H locs → lR.size = xnL x → i < hN h kd → (∀ v ∈ as, vv h v) → (rest.map fun v => v.category).sum ≤ 8 →
  va_Run (xP x) (xL x) (xE x) (xRm x r) (xS x) (xM x) (xa x) (xbl x) (xmt x) (xC x) H locs (hC h - hC (xh x)) (hS h - hS (xh x)) (hC r'.2 - hC h) (hS r'.2 - hS h) (F0 (xM x) pc lR ((as.map (rv ad)).reverse ++ .ref (ad kd i) :: rest)) rest (Qcx (xb x) (xD x) (xcA x) ad h r' (.ref (ad kd i) :: as.map (rv ad)).toArray) (fun q => xb x ≤ q)
theorem run_virtual {y : MethodName} {cc : ByteArray} {mL n idx d kd : Nat} {T : u_T} {ret : Option FieldType} {F : List PV → PH → Option Rs} (hG : Gd (xL x) d y cc mL ret F) (hdp : d < xd x) (hy : CY y cc mL ret n) (hkd : kd < 12) (hcl : vwCl[kd]? = some (y.cls, T, nf kd)) (hin : Cond.instanceMethod y ∈ lw_tbl) (hse : Cond.selects y.cls y y ∈ lw_tbl) (hl : Cond.methodLink (xown x) idx y ∈ lw_tbl) (hd : decode (xcc x) pc = .ok (.invokevirtual idx, 3)) : RunV x pc kd n F := by
  refine ⟨fun as h r' e => (hG (xb x) (xD x) (xcA x) (xad x) as h r' e).1 ⟨x⟩, fun i as h r r' e hn hx o g1 g2 m1 m2 ad ps ws H locs lR rest hW hsz hi hv hrest => ?_⟩
  obtain ⟨cc, hM⟩ := hG (xb x) (xD x) (xcA x) ad _ h r' e
  obtain ⟨c1, c2⟩ := cc ⟨x⟩
  have h1 := o.1
  have h2 := o.2.1
  have h3 := o.2.2.1
  have h4 := o.2.2.2.1
  have hv' : ∀ v ∈ (Sum.inr (kd, i + 1) :: as : List PV), vv h v := vv_cons hi hv
  exact va_runV (As := as.map (rv ad)) (rest := rest) ⟨hx.1, hx.2.1, hx.2.2.1, hx.2.2.2.1, hx.2.2.2.2.1⟩ hM ⟨callB_x hx hy hl ⟨by omega, by omega⟩, hx.2.2.2.2.1 _ (TBg_in hin rfl), hx.2.2.2.2.1 _ (TBg_in hse rfl)⟩ ⟨Pcx_blind _ _ _ _ _ _, va_recv hx.2.2.2.2.2.1.1 hW.2.1 hcl (hW.1.obj hkd hi), pre_x hx hx.sx hW hv'⟩ rfl (by rw [List.length_map]; exact hn) hsz rfl (lv_room hrest) hd ⟨by omega, by omega⟩
theorem run_init {y : MethodName} {cc : ByteArray} {mL n idx d kd : Nat} {F : List PV → PH → Option Rs} (hG : Gd (xL x) d y cc mL none F) (hdp : d < xd x) (hy : CY y cc mL none n) (hin : Cond.instanceMethod y ∈ lw_tbl) (hnm : y.name = "<init>") (hl : Cond.methodLink (xown x) idx y ∈ lw_tbl) (hd : decode (xcc x) pc = .ok (.invokespecial idx, 3)) : RunV x pc kd n F := by
  refine ⟨fun as h r' e => (hG (xb x) (xD x) (xcA x) (xad x) as h r' e).1 ⟨x⟩, fun i as h r r' e hn hx o g1 g2 m1 m2 ad ps ws H locs lR rest hW hsz hi hv hrest => ?_⟩
  obtain ⟨cc, hM⟩ := hG (xb x) (xD x) (xcA x) ad _ h r' e
  obtain ⟨c1, c2⟩ := cc ⟨x⟩
  have h1 := o.1
  have h2 := o.2.1
  have h3 := o.2.2.1
  have h4 := o.2.2.2.1
  have hv' : ∀ v ∈ (Sum.inr (kd, i + 1) :: as : List PV), vv h v := vv_cons hi hv
  exact va_runI (As := as.map (rv ad)) (rest := rest) ⟨hx.1, hx.2.1, hx.2.2.1, hx.2.2.2.1, hx.2.2.2.2.1⟩ hM ⟨callB_x hx hy hl ⟨by omega, by omega⟩, hnm, hx.2.2.2.2.1 _ (TBg_in hin rfl)⟩ ⟨Pcx_blind _ _ _ _ _ _, pre_x hx hx.sx hW hv'⟩ rfl (by rw [List.length_map]; exact hn) hsz rfl (lv_room hrest) hd ⟨by omega, by omega⟩
theorem run_initN {y : MethodName} {cc : ByteArray} {mL n idx d kd : Nat} {host : String} {F : List PV → PH → Option Rs} (hG : Gd (xL x) d y cc mL none F) (hdp : d < xd x) (hy : CY y cc mL none n) (hin : Cond.instanceMethod y ∈ lw_tbl) (hnm : y.name = "<init>") (hl : Cond.methodLinkNest (xown x) idx y host ∈ NWl) (hd : decode (xcc x) pc = .ok (.invokespecial idx, 3)) : RunV x pc kd n F := by
  refine ⟨fun as h r' e => (hG (xb x) (xD x) (xcA x) (xad x) as h r' e).1 ⟨x⟩, fun i as h r r' e hn hx o g1 g2 m1 m2 ad ps ws H locs lR rest hW hsz hi hv hrest => ?_⟩
  obtain ⟨cc, hM⟩ := hG (xb x) (xD x) (xcA x) ad _ h r' e
  obtain ⟨c1, c2⟩ := cc ⟨x⟩
  have h1 := o.1
  have h2 := o.2.1
  have h3 := o.2.2.1
  have h4 := o.2.2.2.1
  have hv' : ∀ v ∈ (Sum.inr (kd, i + 1) :: as : List PV), vv h v := vv_cons hi hv
  exact va_runIN (As := as.map (rv ad)) (rest := rest) ⟨hx.1, hx.2.1, hx.2.2.1, hx.2.2.2.1, hx.2.2.2.2.1⟩ hM ⟨callN_x hx hy hl ⟨by omega, by omega⟩, hnm, hx.2.2.2.2.1 _ (TBg_in hin rfl)⟩ ⟨Pcx_blind _ _ _ _ _ _, pre_x hx hx.sx hW hv'⟩ rfl (by rw [List.length_map]; exact hn) hsz rfl (lv_room hrest) hd ⟨by omega, by omega⟩
end SND
