/-! new int[n][m]: kind 12 over kind 13 -/
theorem hN_nwM (h : PH) (n m q : Nat) : hN (nwM h 12 13 n m) q = if q = 12 then hN h 12 + 1 else if q = 13 then hN h 13 + n else hN h q := rfl
theorem hI_nwM (h : PH) (n m c i j : Nat) : hI (nwM h 12 13 n m) c i j = if (c / 64 = 12 ∧ i = hN h 12) ∨ (c / 64 = 13 ∧ hN h 13 ≤ i ∧ i < hN h 13 + n) then 0 else hI h c i j := rfl
theorem hR_nwM (h : PH) (n m c i j : Nat) : hR (nwM h 12 13 n m) c i j = if c / 64 = 12 ∧ i = hN h 12 then (if j < n then hN h 13 + j + 1 else 0) else if c / 64 = 13 ∧ hN h 13 ≤ i ∧ i < hN h 13 + n then 0 else hR h c i j := rfl
theorem hL_nwM (h : PH) (n m q i : Nat) : hL (nwM h 12 13 n m) q i = if q = 12 ∧ i = hN h 12 then n else if q = 13 ∧ hN h 13 ≤ i ∧ i < hN h 13 + n then m else hL h q i := rfl
theorem hC_nwM (h : PH) (n m : Nat) : hC (nwM h 12 13 n m) = hC h + 1 + n := rfl
theorem hS_nwM (h : PH) (n m : Nat) : hS (nwM h 12 13 n m) = hS h + n + n * m := rfl
def adM (ad : Nat → Nat → Nat) (h : PH) (n q : Nat) (r : Nat → Nat) : Nat → Nat → Nat := fun k i => if k = 12 ∧ i = hN h 12 then q else if k = 13 ∧ hN h 13 ≤ i ∧ i < hN h 13 + n then r (i - hN h 13) else ad k i
theorem adM_old {ad : Nat → Nat → Nat} {h : PH} {n q : Nat} {r : Nat → Nat} {k i : Nat} (hi : i < hN h k) : adM ad h n q r k i = ad k i := by
  unfold adM
  rw [if_neg, if_neg]
  · rintro ⟨rfl, h1, -⟩
    omega
  · rintro ⟨rfl, rfl⟩
    omega
theorem adM_12 {ad : Nat → Nat → Nat} {h : PH} {n q : Nat} {r : Nat → Nat} : adM ad h n q r 12 (hN h 12) = q := if_pos ⟨rfl, rfl⟩
theorem adM_13 {ad : Nat → Nat → Nat} {h : PH} {n q : Nat} {r : Nat → Nat} {j : Nat} (hj : j < n) : adM ad h n q r 13 (hN h 13 + j) = r j := by
  unfold adM
  rw [if_neg (by omega), if_pos (by omega)]
  congr 1
  omega
theorem hN_le_nwM (h : PH) (n m k : Nat) : hN h k ≤ hN (nwM h 12 13 n m) k := by
  rw [hN_nwM]
  split
  · rename_i e; subst e; omega
  · split
    · rename_i e; subst e; omega
    · exact Nat.le_refl _
theorem nwM_old {h : PH} {n m k i : Nat} (hi : i < hN (nwM h 12 13 n m) k) : i < hN h k ∨ (k = 12 ∧ i = hN h 12) ∨ ∃ j, j < n ∧ k = 13 ∧ i = hN h 13 + j := by
  rw [hN_nwM] at hi
  split at hi
  · rename_i e; subst e; omega
  · split at hi
    · rename_i e
      subst e
      by_cases h1 : i < hN h 13
      · exact Or.inl h1
      · exact Or.inr (Or.inr ⟨i - hN h 13, by omega, rfl, by omega⟩)
    · exact Or.inl hi
theorem Sm_nwM {cA : Nat → ClassId} {ad ps : Nat → Nat → Nat} {ws ws' : va_W} {h : PH} {n m q : Nat} {r : Nat → Nat} (hS : Sm cA ad ps ws h) (hold : ∀ j, j < ws.length → ws'[j]? = ws[j]?)
    (h12 : ws'[ws.length]? = some (q, .inl (cA 12, n, .inr (.inr (.inr (.inr (fun i => if i < n then some (r i) else none))))))) (h13 : ∀ j, j < n → ws'[ws.length + 1 + j]? = some (r j, .inl (cA 13, m, .inl (fun _ => 0)))) : Sm cA (adM ad h n q r) (adM ps h n ws.length (fun j => ws.length + 1 + j)) ws' (nwM h 12 13 n m) := by
  obtain ⟨s1, s2, s3, s4, s5, s6⟩ := hS
  have lt : ∀ k i, k < 71 → i < hN h k → ps k i < ws.length := fun k i a b => (List.getElem?_eq_some_iff.mp (s1 k i a b)).1
  have ne1 : ∀ k i j, j < 64 → i < hN h k → ¬ ((64 * k + j) / 64 = 12 ∧ i = hN h 12) := by
    rintro k i j hj hi ⟨e1, e2⟩
    rw [div64 k j hj] at e1
    subst e1
    omega
  have ne2 : ∀ k i j, j < 64 → i < hN h k → ¬ ((64 * k + j) / 64 = 13 ∧ hN h 13 ≤ i ∧ i < hN h 13 + n) := by
    rintro k i j hj hi ⟨e1, e2, -⟩
    rw [div64 k j hj] at e1
    subst e1
    omega
  refine ⟨fun k i a1 a2 => ?_, fun k i k' i' a1 a2 a3 a4 a5 => ?_, fun k i j kt a1 a2 a3 a4 => ?_, fun k i j kt a0 a1 a2 a4 => ?_, fun i j a => ?_, ⟨by rw [hN_nwM, if_neg (by decide), if_neg (by decide)]; exact s6.1, by rw [hN_nwM, if_neg (by decide), if_neg (by decide)]; exact s6.2.1, by rw [hN_nwM, if_neg (by decide), if_neg (by decide)]; exact s6.2.2.1, by rw [hN_nwM, if_neg (by decide), if_neg (by decide)]; exact s6.2.2.2⟩⟩
  · rcases nwM_old a2 with hi | ⟨rfl, rfl⟩ | ⟨j, hj, rfl, rfl⟩
    · rw [adM_old hi, adM_old hi, hold _ (lt k i a1 hi), s1 k i a1 hi]
      congr 2
      symm
      refine cel_congr (fun j hj z => ?_) (fun j hj z => ?_) ?_ (fun j b1 b2 kt b3 => ?_) (fun b1 kt b2 z => ?_)
      · rw [hI_nwM, if_neg]
        rintro (z | z)
        · exact ne1 k i j hj hi z
        · exact ne2 k i j hj hi z
      · rw [hR_nwM, if_neg (ne1 k i j hj hi), if_neg (ne2 k i j hj hi)]
      · rw [hL_nwM, if_neg, if_neg]
        · rintro ⟨rfl, z, -⟩
          omega
        · rintro ⟨rfl, rfl⟩
          omega
      · exact ro_ext (fun i' hi' => adM_old hi') (s3 k i j kt b1 hi b2 b3)
      · exact ro_ext (fun i' hi' => adM_old hi') (s4 k i z kt b1 a1 hi b2)
    · rw [adM_12, adM_12, h12]
      congr 2
      rw [cel, if_neg (by decide)]
      refine congrArg Sum.inl (congrArg (Prod.mk _) (congr (congrArg Prod.mk ?_) (congrArg Sum.inr (congrArg Sum.inr (congrArg Sum.inr (congrArg Sum.inr (funext fun i => ?_)))))))
      · rw [hL_nwM, if_pos ⟨rfl, rfl⟩]
      have eR : hR (nwM h 12 13 n m) (64 * 12) (hN h 12) i = if i < n then hN h 13 + i + 1 else 0 := by rw [hR_nwM, if_pos ⟨by decide, rfl⟩]
      rw [eR]
      split
      · rename_i hi
        show some (r i) = some (adM ad h n q r 13 (hN h 13 + i))
        rw [adM_13 hi]
      · rfl
    · rw [adM_13 hj, adM_13 hj, h13 j hj]
      congr 2
      rw [cel, if_neg (by decide)]
      refine congrArg Sum.inl (congrArg (Prod.mk _) (congr (congrArg Prod.mk ?_) (congrArg Sum.inl (funext fun i => ?_))))
      · rw [hL_nwM, if_neg (by omega), if_pos (by omega)]
      rw [hI_nwM, if_pos (Or.inr ⟨by decide, by omega, by omega⟩)]
  · rcases nwM_old a3 with hi | ⟨rfl, rfl⟩ | ⟨j, hj, rfl, rfl⟩ <;> rcases nwM_old a4 with hi' | ⟨rfl, rfl⟩ | ⟨j', hj', rfl, rfl⟩
    · rw [adM_old hi, adM_old hi'] at a5
      exact s2 k i k' i' a1 a2 hi hi' a5
    · rw [adM_old hi, adM_12] at a5
      have := lt k i a1 hi
      omega
    · rw [adM_old hi, adM_13 hj'] at a5
      have := lt k i a1 hi
      omega
    · rw [adM_old hi', adM_12] at a5
      have := lt k' i' a2 hi'
      omega
    · exact ⟨rfl, rfl⟩
    · rw [adM_12, adM_13 hj'] at a5
      omega
    · rw [adM_old hi', adM_13 hj] at a5
      have := lt k' i' a2 hi'
      omega
    · rw [adM_12, adM_13 hj] at a5
      omega
    · rw [adM_13 hj, adM_13 hj'] at a5
      exact ⟨rfl, by omega⟩
  · have hj64 : j < 64 := Nat.lt_of_lt_of_le a3 (Nat.le_trans (nf_le k) (by decide))
    rcases nwM_old a2 with hi | ⟨rfl, rfl⟩ | ⟨j', hj', rfl, rfl⟩
    · rw [hR_nwM, if_neg (ne1 k i j hj64 hi), if_neg (ne2 k i j hj64 hi)]
      exact Nat.le_trans (s3 k i j kt a1 hi a3 a4) (hN_le_nwM _ _ _ _)
    · omega
    · omega
  · rcases nwM_old a2 with hi | ⟨rfl, rfl⟩ | ⟨j', hj', rfl, rfl⟩
    · have e1 := ne1 k i 0 (by decide) hi
      have e2 := ne2 k i 0 (by decide) hi
      rw [Nat.add_zero] at e1 e2
      rw [hR_nwM, if_neg e1, if_neg e2]
      exact Nat.le_trans (s4 k i j kt a0 a1 hi a4) (hN_le_nwM _ _ _ _)
    · rw [hR_nwM, if_pos ⟨by decide, rfl⟩]
      have hkt : kt = 13 := by
        have : (some 13 : Option Nat) = some kt := a4
        exact (Option.some.inj this).symm
      subst hkt
      have e13 : hN (nwM h 12 13 n m) 13 = hN h 13 + n := by rw [hN_nwM, if_neg (by decide), if_pos rfl]
      rw [e13]
      split <;> omega
    · have : (none : Option Nat) = some kt := a4
      cases this
  · rcases nwM_old a with hi | ⟨e, -⟩ | ⟨j', -, e, -⟩
    · rw [hI_nwM, if_neg]
      · exact s5 i j hi
      · rintro (⟨z, -⟩ | ⟨z, -⟩) <;> omega
    · omega
    · omega
section SND
variable {x : CX} {pc : Nat} {k : Kn}
theorem s_mna {idx : Nat} (hcl : Cond.classLink (xown x) idx "[[I" ∈ lw_tbl) (hac : Cond.arrayClass .int ∈ lw_tbl) (hd : decode (xcc x) pc = .ok (.multianewarray idx 2, 4)) (hk : SK x (pc + 4) k) : SK x pc (a_mna 12 13 k) := by
  intro ls st h r e
  unfold a_mna at e
  split at e
  · rename_i y z st'
    obtain ⟨hz0, hzb, e1⟩ := nl_of e
    obtain ⟨hy0, hyb, e2⟩ := nl_of e1
    generalize hn0 : z.toNatClampNeg = n at hzb e2
    generalize hm0 : y.toNatClampNeg = m at hyb e2
    obtain ⟨⟨q1, q2⟩, q3⟩ := hk _ _ _ _ e2
    rw [hC_nwM] at q1
    rw [hS_nwM] at q2
    refine ⟨⟨by omega, by omega⟩, fun hx g1 g2 o ad ps ws H locs lR hW hl hn hv1 hs => ?_⟩
    have hc1 : hC h - hC (xh x) + (1 + n) ≤ (xRm x r).cells := by have := o.1; omega
    have hs1 : hS h - hS (xh x) + (n + n * m) ≤ (xRm x r).slots := by have := o.2.1; omega
    have hs' : ∀ w ∈ st', vv h w := fun w hw => hs w (by simp [hw])
    have hK := hx.2.2.2.2.2.1.1
    have hcy : (xS x).vm.findClass (FieldType.array .int).toString = some (xcA x 13) := ra_cls (hK.2 1 _ (tys_at (xcA x) (k := 13) (by decide) (by decide))).2
    refine va_mna (X := ws) (L := []) (f := fun _ => .inl (xcA x 13, 0, .inl (fun _ => 0))) (ty := .int) (cy := xcA x 13) hx.1 hx.2.1 hx.2.2.2.1 (hx.2.2.2.2.1 _ (TBg_in hcl rfl)) (hx.2.2.2.2.2.1.2.2.2) (hx.2.2.2.2.1 _ (TBg_in hac rfl)) hcy hK (by simpa [va_pl] using hW.2.1) (by simpa [va_pl] using hW.2.2.1) hW.2.2.2.1 (xA_new hx) (N' := n) (K' := m) (z := (m, .inl (fun _ => 0))) hz0 hy0 hn0 hm0 (Nat.le_trans (Nat.mul_le_mul_right 4 (Nat.le_of_lt hzb)) (by decide)) (Nat.le_trans (Nat.mul_le_mul (Nat.le_of_lt hyb) (show componentBytes .int ≤ 8 by decide)) (by decide)) (by omega) rfl rfl hc1 hs1 (fun c => ?_) hd (fun q rr cN H1 hinj hnin hK1 hP hD hSv => ?_)
    · show ({ cls := c, slots := Array.replicate m (.int 0), vm := .none } : Cell) = _
      rw [arrV_new]
      rfl
    · have hcN := cA_eq hx (kd := 12) (by decide) (by decide) (K_last hK1)
      subst hcN
      have hext : ∀ k i, i < hN h k → adM ad h n q rr k i = ad k i := fun k i hi => adM_old hi
      have h3 := q3 hx (by rw [hC_nwM]; omega) (by rw [hS_nwM]; omega) o (adM ad h n q rr) (adM ps h n ws.length (fun j => ws.length + 1 + j)) _ H1 locs lR ⟨Sm_nwM (q := q) (r := rr) hW.1 (fun j hj => by rw [List.getElem?_append_left (by simp; omega), List.getElem?_append_left hj]) (by rw [List.getElem?_append_left (by simp), List.getElem?_append_right (Nat.le_refl _)]; simp) (fun j hj => ?_), hP, hD, hSv, fun k i hi => (hext k i (Nat.lt_of_lt_of_le hi (hW.2.2.2.2.2 k))).trans (hW.2.2.2.2.1 k i hi), fun k => Nat.le_trans (hW.2.2.2.2.2 k) (hN_le_nwM _ _ _ _)⟩ (by rw [ls_ext hext hv1]; exact hl) hn (vl_le (fun _ => hN_le_nwM _ _ _ _) hv1) (vv_cons (by show hN h 12 + 1 ≤ hN (nwM h 12 13 n m) 12; rw [hN_nwM, if_pos rfl]; exact Nat.le_refl _) (vv_le (fun _ => hN_le_nwM _ _ _ _) hs'))
      · rw [List.map_cons, st_ext hext hs'] at h3
        have e2 : rv (adM ad h n q rr) (.inr (12, hN h 12 + 1)) = .ref q := by
          show va_rf (some (adM ad h n q rr 12 (hN h 12))) = .ref q
          rw [adM_12]
          rfl
        rw [e2] at h3
        exact W.cs (by rw [hC_nwM]; omega) (by rw [hS_nwM]; omega) h3
      · rw [List.getElem?_append_right (by simp)]
        simp only [List.length_append, List.length_singleton, List.nil_append, va_pl, List.map_map]
        rw [show ws.length + 1 + j - (ws.length + 1) = j by omega, List.getElem?_map, List.getElem?_range hj]
        simp only [Option.map_some, Function.comp]
        rw [vr_up_in (List.mem_map.mpr ⟨j, List.mem_range.mpr hj, rfl⟩)]
  · cases e
end SND
