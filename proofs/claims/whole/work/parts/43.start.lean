/-! the world at the law's start: no object of the program's; the classes, the statics, the String constants -/
theorem wi_0 : Cond.instantiable "StrangerSigns$Changes" 3 ∈ lw_tbl := List.mem_of_getElem? (i := 388) (by decide +kernel)
theorem wi_1 : Cond.instantiable "StrangerSigns$House" 17 ∈ lw_tbl := List.mem_of_getElem? (i := 110) (by decide +kernel)
theorem wi_2 : Cond.instantiable "StrangerSigns$Reader" 12 ∈ lw_tbl := List.mem_of_getElem? (i := 407) (by decide +kernel)
theorem wi_3 : Cond.instantiable "StrangerSigns$Roads" 4 ∈ lw_tbl := List.mem_of_getElem? (i := 306) (by decide +kernel)
theorem wi_4 : Cond.instantiable "StrangerSigns$Sheet" 3 ∈ lw_tbl := List.mem_of_getElem? (i := 455) (by decide +kernel)
theorem wi_5 : Cond.instantiable "StrangerSigns$Sign" 7 ∈ lw_tbl := List.mem_of_getElem? (i := 162) (by decide +kernel)
theorem wi_6 : Cond.instantiable "StrangerSigns$Slot" 5 ∈ lw_tbl := List.mem_of_getElem? (i := 476) (by decide +kernel)
theorem wi_7 : Cond.instantiable "StrangerSigns$Text" 4 ∈ lw_tbl := List.mem_of_getElem? (i := 905) (by decide +kernel)
theorem wi_8 : Cond.instantiable "StrangerSigns$Walker" 16 ∈ lw_tbl := List.mem_of_getElem? (i := 304) (by decide +kernel)
theorem wi_9 : Cond.instantiable "StrangerSigns$Way" 6 ∈ lw_tbl := List.mem_of_getElem? (i := 121) (by decide +kernel)
theorem wi_10 : Cond.instantiable "StrangerSigns" 10 ∈ lw_tbl := List.mem_of_getElem? (i := 102) (by decide +kernel)
theorem wi_11 : Cond.instantiable "StrangerSignsModel" 51 ∈ lw_tbl := List.mem_of_getElem? (i := 1290) (by decide +kernel)
theorem wo_116 : Cond.arrayOver (.object "StrangerSigns$Way") ∈ lw_tbl := List.mem_of_getElem? (i := 116) (by decide +kernel)
theorem wo_118 : Cond.arrayOver (.object "StrangerSigns$Sign") ∈ lw_tbl := List.mem_of_getElem? (i := 118) (by decide +kernel)
theorem wo_120 : Cond.arrayOver (.object "StrangerSigns$Text") ∈ lw_tbl := List.mem_of_getElem? (i := 120) (by decide +kernel)
theorem wo_303 : Cond.arrayOver (.object "StrangerSigns$Walker") ∈ lw_tbl := List.mem_of_getElem? (i := 303) (by decide +kernel)
theorem wo_452 : Cond.arrayOver (.object "StrangerSigns$Sheet") ∈ lw_tbl := List.mem_of_getElem? (i := 452) (by decide +kernel)
theorem wo_454 : Cond.arrayOver (.object "StrangerSigns$Slot") ∈ lw_tbl := List.mem_of_getElem? (i := 454) (by decide +kernel)
theorem wo_394 : Cond.arrayOver (.array .int) ∈ lw_tbl := List.mem_of_getElem? (i := 394) (by decide +kernel)
theorem wa_161 : Cond.arrayClass .int ∈ lw_tbl := List.mem_of_getElem? (i := 161) (by decide +kernel)
theorem wa_326 : Cond.arrayClass .boolean ∈ lw_tbl := List.mem_of_getElem? (i := 326) (by decide +kernel)
theorem wa_450 : Cond.arrayClass .byte ∈ lw_tbl := List.mem_of_getElem? (i := 450) (by decide +kernel)
theorem wa_475 : Cond.arrayClass .short ∈ lw_tbl := List.mem_of_getElem? (i := 475) (by decide +kernel)
theorem wa_1449 : Cond.arrayClass .char ∈ lw_tbl := List.mem_of_getElem? (i := 1449) (by decide +kernel)
theorem wz_82 : Cond.initialized "StrangerSigns$Sign" ∈ lw_tbl := List.mem_of_getElem? (i := 82) (by decide +kernel)
theorem wz_93 : Cond.initialized "java/lang/String" ∈ lw_tbl := List.mem_of_getElem? (i := 93) (by decide +kernel)
theorem wz_95 : Cond.initialized "jdk/internal/util/Preconditions" ∈ lw_tbl := List.mem_of_getElem? (i := 95) (by decide +kernel)
theorem wz_666 : Cond.laysStatic "StrangerSigns$Sign" "ABOVE" "[I" ∈ lw_tbl := List.mem_of_getElem? (i := 666) (by decide +kernel)
theorem wz_771 : Cond.laysStatic "java/lang/String" "COMPACT_STRINGS" "Z" ∈ lw_tbl := List.mem_of_getElem? (i := 771) (by decide +kernel)
theorem wz_787 : Cond.laysStatic "jdk/internal/util/Preconditions" "SIOOBE_FORMATTER" "Ljava/util/function/BiFunction;" ∈ lw_tbl := List.mem_of_getElem? (i := 787) (by decide +kernel)
theorem wz_757 : Cond.stringRef "StrangerSigns$Reader" 81 "light" ∈ lw_tbl := List.mem_of_getElem? (i := 757) (by decide +kernel)
theorem wz_810 : Cond.stringRef "StrangerSigns$Reader" 87 "gate" ∈ lw_tbl := List.mem_of_getElem? (i := 810) (by decide +kernel)
theorem wz_811 : Cond.stringRef "StrangerSigns$Reader" 89 "obey" ∈ lw_tbl := List.mem_of_getElem? (i := 811) (by decide +kernel)
theorem wz_824 : Cond.stringRef "StrangerSigns$Reader" 118 "hdr" ∈ lw_tbl := List.mem_of_getElem? (i := 824) (by decide +kernel)
theorem wz_825 : Cond.stringRef "StrangerSigns$Reader" 120 "hdm" ∈ lw_tbl := List.mem_of_getElem? (i := 825) (by decide +kernel)
theorem wz_826 : Cond.stringRef "StrangerSigns$Reader" 122 "kswh" ∈ lw_tbl := List.mem_of_getElem? (i := 826) (by decide +kernel)
theorem NWl_tab : ∀ w ∈ NWl, w.onTables = true := by decide +kernel
def PA (s : State) (ty : FieldType) : Prop := ∃ c : ClassId, ArrOfT s c ty ∧ va_RA s c ty
theorem pa_of {s : State} {args : Array Value} {ty : FieldType} (hra : ∀ c, s.vm.findClass ("[" ++ ty.toString) = some c → va_RA s c ty) (h : (Cond.arrayClass ty).before args s = true) : PA s ty := by
  obtain ⟨c, k, comp, f1, f2, f3⟩ := Cond.arrayClass_spec (args := args) (first := s) (o := none) (s := s) (idx := []) h
  exact ⟨c, fun N z => ⟨(fun k h => by cases h), k, f2, comp, f3⟩, hra c f1⟩
theorem pa_ofO {s : State} {args : Array Value} {n : String} (h : (Cond.arrayOver (.object n)).before args s = true) : PA s (.object n) := by
  obtain ⟨comp, c, k, f1, -, f2, f3, f4⟩ := Cond.arrayOver_spec (args := args) (first := s) (o := none) (s := s) (idx := []) h
  exact ⟨c, fun N z => ⟨(fun k h => by cases h), k, f2, comp, f3⟩, k, comp, f2, f3, f1, f4⟩
theorem pa_ofA {s : State} {args : Array Value} {t : FieldType} (h : (Cond.arrayOver (.array t)).before args s = true) : PA s (.array t) := by
  obtain ⟨comp, c, k, f1, f2, f3, f4⟩ := Cond.arrayOver_specA (args := args) (first := s) (o := none) (s := s) (idx := []) h
  exact ⟨c, fun N z => ⟨(fun k h => by cases h), k, f2, comp, f3⟩, f4⟩
theorem pa_all {s : State} {args : Array Value} (hts : ∀ w ∈ lw_tbl, w.before args s = true) (k : Nat) : PA s (aty k) := by
  have a1 : PA s .int := pa_of (fun c h => h) (hts _ wa_161)
  have a2 : PA s .boolean := pa_of (fun c h => h) (hts _ wa_326)
  have a3 : PA s .byte := pa_of (fun c h => h) (hts _ wa_450)
  have a4 : PA s .short := pa_of (fun c h => h) (hts _ wa_475)
  have a5 : PA s .char := pa_of (fun c h => h) (hts _ wa_1449)
  have b1 := pa_ofO (hts _ wo_116)
  have b2 := pa_ofO (hts _ wo_118)
  have b3 := pa_ofO (hts _ wo_120)
  have b4 := pa_ofO (hts _ wo_303)
  have b5 := pa_ofO (hts _ wo_452)
  have b6 := pa_ofO (hts _ wo_454)
  have c1 := pa_ofA (hts _ wo_394)
  unfold aty
  split <;> assumption
theorem kn_all {s : State} {args : Array Value} (hts : ∀ w ∈ lw_tbl, w.before args s = true) : ∀ c : Nat, ∃ q : ClassId × (Nat → Nat), ∀ r, vwCl[c]? = some r → u_Kn s r.1 r.2.1 r.2.2 q.1 q.2 := by
  have htb : ∀ w ∈ TBg, w.before args s = true := fun w hw => hts w (List.mem_filter.mp hw).1
  intro c
  match c with
  | 0 =>
    obtain ⟨a, i, h⟩ := u_known htb kin_0 (hts _ wi_0)
    exact ⟨(a, i), fun r hr => by cases hr; exact h⟩
  | 1 =>
    obtain ⟨a, i, h⟩ := u_known htb kin_1 (hts _ wi_1)
    exact ⟨(a, i), fun r hr => by cases hr; exact h⟩
  | 2 =>
    obtain ⟨a, i, h⟩ := u_known htb kin_2 (hts _ wi_2)
    exact ⟨(a, i), fun r hr => by cases hr; exact h⟩
  | 3 =>
    obtain ⟨a, i, h⟩ := u_known htb kin_3 (hts _ wi_3)
    exact ⟨(a, i), fun r hr => by cases hr; exact h⟩
  | 4 =>
    obtain ⟨a, i, h⟩ := u_known htb kin_4 (hts _ wi_4)
    exact ⟨(a, i), fun r hr => by cases hr; exact h⟩
  | 5 =>
    obtain ⟨a, i, h⟩ := u_known htb kin_5 (hts _ wi_5)
    exact ⟨(a, i), fun r hr => by cases hr; exact h⟩
  | 6 =>
    obtain ⟨a, i, h⟩ := u_known htb kin_6 (hts _ wi_6)
    exact ⟨(a, i), fun r hr => by cases hr; exact h⟩
  | 7 =>
    obtain ⟨a, i, h⟩ := u_known htb kin_7 (hts _ wi_7)
    exact ⟨(a, i), fun r hr => by cases hr; exact h⟩
  | 8 =>
    obtain ⟨a, i, h⟩ := u_known htb kin_8 (hts _ wi_8)
    exact ⟨(a, i), fun r hr => by cases hr; exact h⟩
  | 9 =>
    obtain ⟨a, i, h⟩ := u_known htb kin_9 (hts _ wi_9)
    exact ⟨(a, i), fun r hr => by cases hr; exact h⟩
  | 10 =>
    obtain ⟨a, i, h⟩ := u_known htb kin_10 (hts _ wi_10)
    exact ⟨(a, i), fun r hr => by cases hr; exact h⟩
  | 11 =>
    obtain ⟨a, i, h⟩ := u_known htb kin_11 (hts _ wi_11)
    exact ⟨(a, i), fun r hr => by cases hr; exact h⟩
  | n + 12 => exact ⟨(0, fun _ => 0), fun r hr => by cases hr⟩
theorem vf_start {s : State} {args : Array Value} (hts : ∀ w ∈ lw_tbl, w.before args s = true) : ∃ (D : va_G) (cA : Nat → ClassId), VF D cA s := by
  obtain ⟨d, hd⟩ := Classical.axiomOfChoice (kn_all hts)
  obtain ⟨cA, hc⟩ := Classical.axiomOfChoice (pa_all hts)
  refine ⟨(fun c => (d c).1, fun c => (d c).2), cA, ⟨fun c q hq => hd c q hq, fun k q hq => ?_⟩, fun w hw => ?_, fun C hC => ?_, ?_⟩
  · unfold tysL at hq
    obtain ⟨j, -, rfl⟩ := List.mem_map.mp (List.mem_of_getElem? hq)
    exact hc (12 + j)
  · exact va_tabs (NWl_tab w hw) rfl (hts w (List.mem_filter.mp hw).1)
  · simp only [AOl, List.mem_cons, List.not_mem_nil, or_false] at hC
    rcases hC with rfl | rfl | rfl | rfl | rfl | rfl
    · exact va_AO.of (hts _ wo_116)
    · exact va_AO.of (hts _ wo_118)
    · exact va_AO.of (hts _ wo_120)
    · exact va_AO.of (hts _ wo_303)
    · exact va_AO.of (hts _ wo_452)
    · exact va_AO.of (hts _ wo_454)
  · exact hts _ wo_394
def lw_fl : List Cond := flatC (Jvm.Cond.and given_1 narrow_1)
abbrev tmS (i : Nat) : Term := Term.string "StrangerSigns$Reader" (sidx i)
theorem fl_ex : ∀ i, i < 6 → Cond.exactly (tmS i) "java/lang/String" ∈ lw_fl := by decide +kernel
theorem fl_co : ∀ i, i < 6 → Cond.eq (.field (tmS i) "java/lang/String" "coder" "B") (.int 0) ∈ lw_fl := by decide +kernel
theorem fl_ar : ∀ i, i < 6 → Cond.arrayOf (.field (tmS i) "java/lang/String" "value" "[B") .byte ∈ lw_fl := by decide +kernel
theorem fl_le : ∀ i, i < 6 → Cond.eq (.length (.field (tmS i) "java/lang/String" "value" "[B")) (.int (Int32.ofNat (slen.getD i 0))) ∈ lw_fl := by decide +kernel
theorem fl_el : ∀ i, i < 6 → ∀ j, j < slen.getD i 0 → Cond.eq (.elem (.field (tmS i) "java/lang/String" "value" "[B") (.int (Int32.ofNat j))) (.int ((sbyt.getD i []).getD j 0)) ∈ lw_fl := by decide +kernel
theorem fl_ne : ∀ i, i < 6 → ∀ j, j < 6 → i ≠ j → (Cond.not (Cond.eq (tmS i) (tmS j)) ∈ lw_fl ∨ Cond.not (Cond.eq (tmS j) (tmS i)) ∈ lw_fl) := by decide +kernel
theorem fl_ab : ∀ j, j < 6 → Cond.eq (.elem (.static "StrangerSigns$Sign" "ABOVE" "[I") (.int (Int32.ofNat j))) (.int (abv j)) ∈ lw_fl := by decide +kernel
theorem sf_start {s : State} {args : Array Value} (hts : ∀ w ∈ lw_tbl, w.before args s = true) (hg : (Jvm.Cond.and given_1 narrow_1).before args s = true) (b : Nat) : ∃ ad : Nat → Nat → Nat, ad 72 0 = b ∧ SF s.heap.size ad s := by
  have hs : ∀ w ∈ lw_fl, w.before args s = true := flat_of_before _ hg
  have hA : ∀ a : Nat, a < s.heap.size → ¬ (fun q => s.heap.size ≤ q) a := fun a h => Nat.not_le.mpr h
  obtain ⟨t, ht, hT⟩ := va_Tof (args := args) (s := s) (tm := .static "StrangerSigns$Sign" "ABOVE" "[I") (ty := .int) (N := 6) (f := fun j => .int (abv j)) (A := fun q => s.heap.size ≤ q) (by decide) (hs _ (by decide +kernel)) (va_eqt (hs _ (by decide +kernel))) (fun j hj => va_eqt (hs _ (fl_ab j hj))) hA
  have hZ := va_Zof (A := fun q => s.heap.size ≤ q) (hts _ wz_666) (hts _ wz_82) ht hA
  have hZ2 := va_Zof (A := fun q => s.heap.size ≤ q) (hts _ wz_771) (hts _ wz_93) (va_eqi (z := 1) (hs _ (by decide +kernel))) hA
  obtain ⟨aK, aV, hS, hE⟩ := vk_Sof (args := args) (s := s) (N := 6) (tm := tmS) (len := slen) (byt := sbyt) (A := fun q => s.heap.size ≤ q) (by decide +kernel) (fun i hi => hs _ (fl_ex i hi)) (fun i hi => hs _ (fl_co i hi)) (fun i hi => hs _ (fl_ar i hi)) (fun i hi => hs _ (fl_le i hi)) (fun i hi j hj => hs _ (fl_el i hi j hj)) (fun i j hi hj hne => (fl_ne i hi j hj hne).imp (hs _) (hs _)) hA
  have hR : ∀ i, i < 6 → vk_R "StrangerSigns$Reader" (sidx i) (stx i) (aK i) s := by
    intro i hi
    have e := hE i hi
    match i, hi with
    | 0, _ => exact vk_R.of (hts _ wz_757) e
    | 1, _ => exact vk_R.of (hts _ wz_810) e
    | 2, _ => exact vk_R.of (hts _ wz_811) e
    | 3, _ => exact vk_R.of (hts _ wz_824) e
    | 4, _ => exact vk_R.of (hts _ wz_825) e
    | 5, _ => exact vk_R.of (hts _ wz_826) e
  rcases va_Zqof (A := fun q => s.heap.size ≤ q) (hts _ wz_787) (hts _ wz_95) (hs _ (by decide +kernel)) hA with q | ⟨t2, q⟩
  · exact ⟨fun k i => if k = 71 then t else if k = 72 then b else if k = 73 then aK i else aV i, rfl, hZ, hT, hZ2, hS, hR, Or.inl q⟩
  · exact ⟨fun k i => if k = 71 then t else if k = 72 then b else if k = 73 then aK i else if k = 74 then aV i else t2, rfl, hZ, hT, hZ2, hS, hR, Or.inr q⟩
