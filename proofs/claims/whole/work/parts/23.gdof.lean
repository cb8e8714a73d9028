theorem Gd_ofF {l : Launch} {d : Nat} {y : MethodName} {cc : ByteArray} {mL : Nat} {ret : Option FieldType} {F : List PV → PH → Option Rs} (hp : plainFor y = true)
    (hB : ∀ z : CZ, xL (mx y.cls cc mL d ret y.name z) = l → ∀ as h r, F as h = some r → as.length ≤ mL ∧ WK (mx y.cls cc mL d ret y.name z) r 0 (ent mL as) [] h) : Gd l d y cc mL ret F := by
  intro b D cA ad as h r e
  have key : ∀ z : CZ, xL (mx y.cls cc mL d ret y.name z) = l → as.length ≤ mL ∧ WK (mx y.cls cc mL d ret y.name z) r 0 (ent mL as) [] h := fun z hz => hB z hz as h r e
  refine ⟨fun ⟨x⟩ => (key ((x.1.1, l, x.1.2.2), x.2.1, x.2.2.2.1, x.2.2.2.2) rfl).2.1, ?_⟩
  refine va_MetF (cc := cc) (maxL := mL) (ret := ret) hp rfl ?_
  intro p e' s m args below meth c s₁ B hml hv
  obtain ⟨rfl, hva, hVF, hSF, hbs, ps, ws, hSm, hP, hD⟩ := hv
  have hts := atoms_spec (ws := .code y cc mL ret :: TBg) B.pre
  have hown : s.vm.findClass y.cls = some m.cls := findClass_of_methodNamed B.named
  have hnm : meth.name = y.name := (name_of_methodNamed B.named B.method).1
  let z : CZ := ((p, l, e', s, m, (as.map (rv ad)).toArray, below, meth, c), (fun r => rmx d (hC r.2 - hC h) (hS r.2 - hS h), fun r => MQ below (Qcx b D cA ad h r) (as.map (rv ad)).toArray s (hC r.2 - hC h) (hS r.2 - hS h) (fun q => b ≤ q), fun _ => True), (b, D, cA), (ad, h))
  obtain ⟨hlen, -, q3⟩ := key z rfl
  have hx : OKx (mx y.cls cc mL d ret y.name z) := ⟨B.exec, B.bytes, hml, hown, fun w hw => hts w (List.mem_cons_of_mem _ hw), hVF, hbs, hSF, hSm.2.2.2.2.2, RTx.rp B.exec B.bytes ⟨B.returns, B.notSynchronized, fun _ => rfl⟩, hnm⟩
  have hl := lv_entry (as.map (rv ad)) (n := mL) (by rw [lg_len]; exact hlen)
  have h3 := q3 hx (Nat.le_refl _) (Nat.le_refl _) ⟨Nat.le_refl _, Nat.le_refl _, Nat.le_refl _, Nat.le_refl _, trivial⟩ ad ps ws s.heap [] _ ⟨hSm, hP, hD, va_S.rf, fun _ _ _ => rfl, fun _ => Nat.le_refl _⟩ (by
    show lv_has _ mL (lvs ad 0 (ent mL as))
    rw [ent, lvs_ent]
    exact hl) (by show (ent mL as).length = mL; simp [ent]; omega) (fun v hv w hw => by
      rcases List.mem_append.mp hv with hv | hv
      · obtain ⟨u, hu, rfl⟩ := List.mem_map.mp hv
        rw [← Option.some.inj hw]
        exact hva u hu
      · have := (List.mem_replicate.mp hv).2
        subst this
        cases hw) (fun v hv => by cases hv)
  rw [lg_entry_eq]
  exact W.cs (by show (0 : Nat) = hC h - hC h; omega) (by show (0 : Nat) = hS h - hS h; omega) h3

