/-! the script: an array of ints that nobody writes -/
def XS (x : CX) (L : Nat) (xs : Nat → Int32) : Prop := va_X (xad x 72 0) L xs (xS x) (xS x).heap ∧ xad x 72 0 < (xS x).heap.size ∧ xad x 72 0 < xb x ∧ hN (xh x) 72 = 1
def sc0 (i : Nat) (f : Option Rs) : Option Rs := bif Nat.beq i 0 then f else none
theorem mo_sc0 {i : Nat} {f g : Option Rs} (h : Mo f g) : Mo (sc0 i f) (sc0 i g) := by
  unfold sc0
  cases Nat.beq i 0
  · exact mo_rf
  · exact h
theorem sc0_of {i : Nat} {f : Option Rs} {r : Rs} (e : sc0 i f = some r) : i = 0 ∧ f = some r := by
  unfold sc0 at e
  cases i with
  | zero => exact ⟨rfl, e⟩
  | succ n => cases e
section LA
variable {x : CX} {pc : Nat} {k : Kn}
def a_scL (L : Nat) (k : Kn) : Kn := fun ls st h => match st with
  | .inr (q, r) :: s => bif Nat.beq q 72 then nn r (fun i => sc0 i (k ls (.inl (Int32.ofNat L) :: s) h)) else none
  | _ => none
def a_scB (L : Nat) (xs : Nat → Int32) (k : Kn) : Kn := fun ls st h => match st with
  | .inl y :: .inr (q, r) :: s => bif Nat.beq q 72 then nn r (fun i => sc0 i (ix y L (fun j => k ls (.inl (xs j) :: s) h))) else none
  | _ => none
theorem s_scL {L : Nat} {xs : Nat → Int32} (hX : XS x L xs) (hd : decode (xcc x) pc = .ok (.arraylength, 1)) (hk : SK x (pc + 1) k) : SK x pc (a_scL L k) := by
  intro ls st h r e
  unfold a_scL at e
  split at e
  · rename_i q rr st'
    obtain ⟨rfl, e1⟩ := beq_lit rfl e
    obtain ⟨i, rfl, e2⟩ := nn_of e1
    obtain ⟨rfl, e3⟩ := sc0_of e2
    obtain ⟨⟨q1, q2⟩, q3⟩ := hk _ _ _ _ e3
    refine ⟨⟨q1, q2⟩, fun hx g1 g2 o ad ps ws H locs lR hW hl hn hv1 hs => ?_⟩
    have h3 := q3 hx g1 g2 o ad ps ws H locs lR hW hl hn hv1 (vv_cons trivial (fun w hw => hs w (by simp [hw])))
    have e72 : ad 72 0 = xad x 72 0 := hW.2.2.2.2.1 72 0 (by rw [hX.2.2.2]; decide)
    exact va_slen (b := ad 72 0) (xs := xs) hx.1 hx.2.1 (by rw [e72]; exact hX.1) (by rw [e72]; exact hX.2.1) (by rw [e72]; exact Nat.not_le.mpr hX.2.2.1) hW.2.2.2.1 hd h3
  · cases e
theorem s_scB {L : Nat} {xs : Nat → Int32} (hX : XS x L xs) (hd : decode (xcc x) pc = .ok (.iaload, 1)) (hk : SK x (pc + 1) k) : SK x pc (a_scB L xs k) := by
  intro ls st h r e
  unfold a_scB at e
  split at e
  · rename_i y q rr st'
    obtain ⟨rfl, e1⟩ := beq_lit rfl e
    obtain ⟨i, rfl, e2⟩ := nn_of e1
    obtain ⟨rfl, e3⟩ := sc0_of e2
    obtain ⟨hin, e4⟩ := ix_of e3
    obtain ⟨⟨q1, q2⟩, q3⟩ := hk _ _ _ _ e4
    refine ⟨⟨q1, q2⟩, fun hx g1 g2 o ad ps ws H locs lR hW hl hn hv1 hs => ?_⟩
    have h3 := q3 hx g1 g2 o ad ps ws H locs lR hW hl hn hv1 (vv_cons trivial (fun w hw => hs w (by simp [hw])))
    have e72 : ad 72 0 = xad x 72 0 := hW.2.2.2.2.1 72 0 (by rw [hX.2.2.2]; decide)
    exact va_sld (b := ad 72 0) hx.1 hx.2.1 (by rw [e72]; exact hX.1) (by rw [e72]; exact hX.2.1) (by rw [e72]; exact Nat.not_le.mpr hX.2.2.1) hW.2.2.2.1 hin hd h3
  · cases e
end LA
