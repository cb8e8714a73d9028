def R_law : String := "StrangerSignsLaw"
def lw_P (b : Addr) (xs : List Int32) (args : Array Value) (s : State) : Prop := args = #[.ref b] ∧ s.IntsAt b xs ∧ xs.length ≤ 384 ∧ (Jvm.Cond.and given_1 narrow_1).before args s = true
def lw_Q (_ : Array Value) (s : State) (o : Outcome) (t : State) : Prop := o = .returned (some (.int 1)) ∧ Framed s o t [] 600000 7302250
def lw_Z (below : List Frame) (a : Array Value) (s : State) : State → Prop := fun t => ∃ o, t.status = .running ∧ Ended t below o ∧ lw_Q a s o t
/-- the law's own end, with 1 on the stack, nothing written that was there before, its room as the claim has it -/
theorem lw_ret {p : Program} {l : Launch} {e : Env} {s : State} {m : MethodId} {below : List Frame} {meth : Method} {c : Code} {b : Nat} (hx : p.tables.exec = Jvm.exec) (hb : c.code = code) (hr : meth.sig.returnType = ret) (hlocks : meth.locks = false) {pc : Nat} {H : Heap} {ls : Array Slot} (hdg : decode code pc = .ok (.ireturn, 1)) : W p l e room_1 s m #[Value.ref b] below meth c H [] 600000 7302250 (lw_Z below #[Value.ref b] s) (F0 m pc ls [.int 1]) := by
  intro T hT X
  obtain ⟨fs, hret, hrun, hended, hW, hframe⟩ := X.leave (v := some (.int 1)) (hlocks := hlocks) (fun h => by rw [hr] at h; cases h)
  have hmeth' : T.vm.method? m = some meth := X.method'
  refine ⟨T.setFrames fs, ?_, .returned (some (.int 1)), hrun, hended, rfl, ⟨_, rfl⟩, hW, hframe⟩
  jvm_step X.here [X.here.top, hx, hb, hdg, hmeth', hr, ret, narrow_b1]
  (try refine ⟨rfl, ?_⟩); (try refine ⟨rfl, ?_⟩)
  first | (intro acts; rw [hret _ acts rfl rfl rfl]) | rw [hret _ _ rfl rfl rfl]
  exact Steps.refl _
/-- what holds at the law's entry: the machine, the code, the tables' words (any of lw_tbl by 'hts w (by decide +kernel)'), the script of L ints xs at the cell b, what the Statement gives of the start (any of its parts by flat_of_before) -/
def lw_At (p : Program) (s : State) (m : MethodId) (meth : Method) (c : Code) (b L : Nat) (xs : Nat → Int32) : Prop :=
  p.tables.exec = Jvm.exec ∧ c.code = code ∧ meth.sig.returnType = ret ∧ c.maxLocals = 4 ∧ s.vm.findClass R_law = some m.cls ∧ (∀ w ∈ lw_tbl, w.before #[Value.ref b] s = true) ∧ va_X b L xs s s.heap ∧ b < s.heap.size ∧ meth.locks = false ∧ (Jvm.Cond.and given_1 narrow_1).before #[Value.ref b] s = true
/-! from what the pure machine answers to the law's end -/
def h00 : PH := (fun _ _ _ => 0, fun _ _ _ => 0, fun _ _ => 0, fun k => if k = 71 ∨ k = 72 ∨ k = 75 then 1 else if k = 73 ∨ k = 74 then 6 else 0, 0, 0)
theorem hN_h00 {k : Nat} (h : k < 71) : hN h00 k = 0 := by
  show (if k = 71 ∨ k = 72 ∨ k = 75 then 1 else if k = 73 ∨ k = 74 then 6 else 0) = 0
  rw [if_neg (by omega), if_neg (by omega)]
theorem law_of_pure {p : Program} {e : Env} {s : State} {m : MethodId} {below : List Frame} {meth : Method} {c : Code} (l : Launch) {b L : Nat} {xs : Nat → Int32} (C0 : lw_At p s m meth c b L xs) {h : PH} (hp : L_law_72 L xs 1 h00 = some (some (.inl 1), h)) (h1 : hC h ≤ 600000) (h2 : hS h ≤ 7302250) :
    W p l e room_1 s m #[Value.ref b] below meth c s.heap [] 0 0 (lw_Z below #[Value.ref b] s) (entryFrame m ([Value.ref b] : List Value).toArray 4) := by
  obtain ⟨hx, hb, hr, hml, hown, hts, hX, hbl, hlocks, hgv⟩ := C0
  obtain ⟨D, cA, hVF⟩ := vf_start hts
  obtain ⟨ad, rfl, hSF⟩ := sf_start hts hgv b
  let z : CZ := ((p, l, e, s, m, #[Value.ref (ad 72 0)], below, meth, c), (fun _ => room_1, fun _ => lw_Z below #[Value.ref (ad 72 0)] s, fun r => r.1 = some (.inl 1)), (s.heap.size, D, cA), (ad, h00))
  have hRP : RP (L_law_72_x z) := by
    intro r pc ad' ps ws H locs lR hW hO hk hd
    obtain ⟨r1, r2⟩ := r
    have hr1 : r1 = some (.inl 1) := hO.2.2.2.2
    subst hr1
    refine va_forget (fun q hq => hW.2.2.2.1.2.2 q hq) ?_
    exact W.widen hO.1 hO.2.1 (lw_ret hx hb hr hlocks hd)
  have hOx : OKx (L_law_72_x z) := ⟨hx, hb, hml, hown, fun w hw => hts w (List.mem_filter.mp hw).1, hVF, Nat.le_refl _, hSF, ⟨rfl, rfl, rfl, rfl⟩, hRP, rfl⟩
  have hXS : XS (L_law_72_x z) L xs := ⟨hX, hbl, hbl, rfl⟩
  have hwk := (L_law_wk hXS hp).2 hOx (Nat.le_refl _) (Nat.le_refl _) ⟨h1, h2, show 804 ≤ 2048 by decide, show 64 * 804 ≤ 84000 by decide, rfl⟩ ad (fun _ _ => 0) [] s.heap [] (entryFrame m ([Value.ref (ad 72 0)] : List Value).toArray 4).locals
  have hl := lv_entry ([Value.ref (ad 72 0)] : List Value) (n := 4) (Nat.le_of_ble_eq_true rfl)
  rw [lg_entry_eq]
  refine hwk ⟨⟨fun k i hk hi => ?_, fun k i k' i' hk _ hi _ _ => ?_, fun k i j kt hk hi _ _ => ?_, fun k i j kt _ hk hi _ => ?_, fun i j hi => ?_, rfl, rfl, rfl, rfl⟩, fun k q hq => (by cases hq), ⟨fun i j p' q hq => (by cases hq), fun k q hq => (by cases hq)⟩, va_S.rf, fun _ _ _ => rfl, fun _ => Nat.le_refl _⟩ hl rfl (fun v hv w hw => ?_) (fun v hv => by cases hv)
  · rw [hN_h00 hk] at hi; omega
  · rw [hN_h00 hk] at hi; omega
  · rw [hN_h00 (by omega)] at hi; omega
  · rw [hN_h00 hk] at hi; omega
  · rw [hN_h00 (by decide)] at hi; omega
  · simp only [List.mem_cons, List.not_mem_nil, or_false] at hv
    rcases hv with rfl | rfl | rfl | rfl <;> cases hw
    show 1 ≤ hN h00 72
    decide
