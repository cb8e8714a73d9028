/-! the instructions are sound: what needs no heap -/
section SND
variable {x : CX} {pc n : Nat} {k kt kf : Kn}
theorem vv_cons {h : PH} {v : PV} {st : List PV} (hv : vv h v) (hs : ∀ w ∈ st, vv h w) : ∀ w ∈ v :: st, vv h w := fun w hw => by
  rcases List.mem_cons.mp hw with rfl | hw
  · exact hv
  · exact hs w hw
theorem s_iconst {i : Int} {v : Int32} (hd : decode (xcc x) pc = .ok (.iconst i, 1)) (hv : Int32.ofInt i = v) (hk : SK x (pc + 1) k) : SK x pc (a_ic v k) := by
  intro ls st h r e
  obtain ⟨⟨q1, q2⟩, q3⟩ := hk _ _ _ _ e
  exact ⟨⟨q1, q2⟩, fun hx g1 g2 o ad ps ws H locs lR hw hl hn hv1 hs => lv_iconst hx.1 hx.2.1 hd hv (q3 hx g1 g2 o ad ps ws H locs lR hw hl hn hv1 (vv_cons trivial hs))⟩
theorem s_bipush {i : Int} {v : Int32} (hd : decode (xcc x) pc = .ok (.bipush i, 2)) (hv : (Int8.ofInt i).toInt32 = v) (hk : SK x (pc + 2) k) : SK x pc (a_ic v k) := by
  intro ls st h r e
  obtain ⟨⟨q1, q2⟩, q3⟩ := hk _ _ _ _ e
  exact ⟨⟨q1, q2⟩, fun hx g1 g2 o ad ps ws H locs lR hw hl hn hv1 hs => lv_bipush hx.1 hx.2.1 hd hv (q3 hx g1 g2 o ad ps ws H locs lR hw hl hn hv1 (vv_cons trivial hs))⟩
theorem s_sipush {i : Int} {v : Int32} (hd : decode (xcc x) pc = .ok (.sipush i, 3)) (hv : (Int16.ofInt i).toInt32 = v) (hk : SK x (pc + 3) k) : SK x pc (a_ic v k) := by
  intro ls st h r e
  obtain ⟨⟨q1, q2⟩, q3⟩ := hk _ _ _ _ e
  exact ⟨⟨q1, q2⟩, fun hx g1 g2 o ad ps ws H locs lR hw hl hn hv1 hs => lv_sipush hx.1 hx.2.1 hd hv (q3 hx g1 g2 o ad ps ws H locs lR hw hl hn hv1 (vv_cons trivial hs))⟩
theorem s_ldc {i : Nat} {v : Int32} (hc : Cond.constant (xown x) i v ∈ lw_tbl) (hd : decode (xcc x) pc = .ok (.ldc i, 2)) (hk : SK x (pc + 2) k) : SK x pc (a_ic v k) := by
  intro ls st h r e
  obtain ⟨⟨q1, q2⟩, q3⟩ := hk _ _ _ _ e
  exact ⟨⟨q1, q2⟩, fun hx g1 g2 o ad ps ws H locs lR hw hl hn hv1 hs => lv_ldc hx.1 hx.2.1 hx.2.2.2.1 (hx.2.2.2.2.1 _ (TBg_in hc rfl)) hd (q3 hx g1 g2 o ad ps ws H locs lR hw hl hn hv1 (vv_cons trivial hs))⟩
theorem s_ldcw {i : Nat} {v : Int32} (hc : Cond.constant (xown x) i v ∈ lw_tbl) (hd : decode (xcc x) pc = .ok (.ldc_w i, 3)) (hk : SK x (pc + 3) k) : SK x pc (a_ic v k) := by
  intro ls st h r e
  obtain ⟨⟨q1, q2⟩, q3⟩ := hk _ _ _ _ e
  exact ⟨⟨q1, q2⟩, fun hx g1 g2 o ad ps ws H locs lR hw hl hn hv1 hs => lv_ldcw hx.1 hx.2.1 hx.2.2.2.1 (hx.2.2.2.2.1 _ (TBg_in hc rfl)) hd (q3 hx g1 g2 o ad ps ws H locs lR hw hl hn hv1 (vv_cons trivial hs))⟩
theorem s_nul {kd : Nat} (hd : decode (xcc x) pc = .ok (.aconst_null, 1)) (hk : SK x (pc + 1) k) : SK x pc (a_nul kd k) := by
  intro ls st h r e
  obtain ⟨⟨q1, q2⟩, q3⟩ := hk _ _ _ _ e
  exact ⟨⟨q1, q2⟩, fun hx g1 g2 o ad ps ws H locs lR hw hl hn hv1 hs => lv_null hx.1 hx.2.1 hd (q3 hx g1 g2 o ad ps ws H locs lR hw hl hn hv1 (vv_cons (Nat.zero_le _) hs))⟩
theorem lvs_get {ad : Nat → Nat → Nat} {ls : PL} {lR : Array Slot} {nL n : Nat} {v : PV} (hl : lv_has lR nL (lvs ad 0 ls)) (e : lk ls n = some v) : lR[n]? = some (.val (rv ad v)) := by
  have := hl.2.2 _ (lvs_in (i := 0) e)
  rwa [Nat.zero_add] at this
theorem s_iloadn {i : Fin 4} (hd : decode (xcc x) pc = .ok (.iload_n i, 1)) (hi : (i : Nat) = n) (hk : SK x (pc + 1) k) : SK x pc (a_il n k) := by
  intro ls st h r e
  unfold a_il at e
  split at e
  · rename_i v hv
    obtain ⟨⟨q1, q2⟩, q3⟩ := hk _ _ _ _ e
    exact ⟨⟨q1, q2⟩, fun hx g1 g2 o ad ps ws H locs lR hw hl hn hv1 hs => lv_iload_n hx.1 hx.2.1 hd hi (lvs_get hl hv) (q3 hx g1 g2 o ad ps ws H locs lR hw hl hn hv1 (vv_cons trivial hs))⟩
  · cases e
theorem s_iload (hd : decode (xcc x) pc = .ok (.iload n, 2)) (hk : SK x (pc + 2) k) : SK x pc (a_il n k) := by
  intro ls st h r e
  unfold a_il at e
  split at e
  · rename_i v hv
    obtain ⟨⟨q1, q2⟩, q3⟩ := hk _ _ _ _ e
    exact ⟨⟨q1, q2⟩, fun hx g1 g2 o ad ps ws H locs lR hw hl hn hv1 hs => lv_iload hx.1 hx.2.1 hd (lvs_get hl hv) (q3 hx g1 g2 o ad ps ws H locs lR hw hl hn hv1 (vv_cons trivial hs))⟩
  · cases e
theorem rv_ref (ad : Nat → Nat → Nat) (q : Nat × Nat) : (q.2 = 0 ∧ rv ad (.inr q) = .null) ∨ ∃ i, q.2 = i + 1 ∧ rv ad (.inr q) = .ref (ad q.1 i) := by
  obtain ⟨a, b⟩ := q
  cases b with
  | zero => exact Or.inl ⟨rfl, rfl⟩
  | succ i => exact Or.inr ⟨i, rfl, rfl⟩
theorem s_aloadn {i : Fin 4} (hd : decode (xcc x) pc = .ok (.aload_n i, 1)) (hi : (i : Nat) = n) (hk : SK x (pc + 1) k) : SK x pc (a_al n k) := by
  intro ls st h r e
  unfold a_al at e
  split at e
  · rename_i v hv
    obtain ⟨⟨q1, q2⟩, q3⟩ := hk _ _ _ _ e
    refine ⟨⟨q1, q2⟩, fun hx g1 g2 o ad ps ws H locs lR hw hl hn hv1 hs => ?_⟩
    have h3 := q3 hx g1 g2 o ad ps ws H locs lR hw hl hn hv1 (vv_cons (lk_vl hv1 hv) hs)
    have hg := lvs_get hl hv
    rw [List.map_cons] at h3
    rcases rv_ref ad v with ⟨-, z⟩ | ⟨j, -, z⟩
    · rw [z] at hg h3
      exact lv_aload_nN hx.1 hx.2.1 hd hi hg h3
    · rw [z] at hg h3
      exact lv_aload_n hx.1 hx.2.1 hd hi hg h3
  · cases e
theorem s_aload (hd : decode (xcc x) pc = .ok (.aload n, 2)) (hk : SK x (pc + 2) k) : SK x pc (a_al n k) := by
  intro ls st h r e
  unfold a_al at e
  split at e
  · rename_i v hv
    obtain ⟨⟨q1, q2⟩, q3⟩ := hk _ _ _ _ e
    refine ⟨⟨q1, q2⟩, fun hx g1 g2 o ad ps ws H locs lR hw hl hn hv1 hs => ?_⟩
    have h3 := q3 hx g1 g2 o ad ps ws H locs lR hw hl hn hv1 (vv_cons (lk_vl hv1 hv) hs)
    have hg := lvs_get hl hv
    rw [List.map_cons] at h3
    rcases rv_ref ad v with ⟨-, z⟩ | ⟨j, -, z⟩
    · rw [z] at hg h3
      exact lv_aloadN hx.1 hx.2.1 hd hg h3
    · rw [z] at hg h3
      exact lv_aload hx.1 hx.2.1 hd hg h3
  · cases e
theorem s_istoren {i : Fin 4} (hd : decode (xcc x) pc = .ok (.istore_n i, 1)) (hi : (i : Nat) = n) (hn : n < xnL x) (hk : SK x (pc + 1) k) : SK x pc (a_is n k) := by
  intro ls st h r e
  unfold a_is at e
  split at e
  · rename_i v st'
    obtain ⟨⟨q1, q2⟩, q3⟩ := hk _ _ _ _ e
    exact ⟨⟨q1, q2⟩, fun hx g1 g2 o ad ps ws H locs lR hw hl hn' hv1 hs => lv_istore_n hx.1 hx.2.1 hd hi hl hn rfl fun lR' hl' => q3 hx g1 g2 o ad ps ws H locs lR' hw (lv_stl (v := .inl v) hl') (by rw [stl_len]; exact hn') (stl_vl (v := .inl v) trivial hv1) (fun w hw => hs w (List.mem_cons_of_mem _ hw))⟩
  · cases e
theorem s_istore (hd : decode (xcc x) pc = .ok (.istore n, 2)) (hn : n < xnL x) (hk : SK x (pc + 2) k) : SK x pc (a_is n k) := by
  intro ls st h r e
  unfold a_is at e
  split at e
  · rename_i v st'
    obtain ⟨⟨q1, q2⟩, q3⟩ := hk _ _ _ _ e
    exact ⟨⟨q1, q2⟩, fun hx g1 g2 o ad ps ws H locs lR hw hl hn' hv1 hs => lv_istore hx.1 hx.2.1 hd hl hn rfl fun lR' hl' => q3 hx g1 g2 o ad ps ws H locs lR' hw (lv_stl (v := .inl v) hl') (by rw [stl_len]; exact hn') (stl_vl (v := .inl v) trivial hv1) (fun w hw => hs w (List.mem_cons_of_mem _ hw))⟩
  · cases e
theorem s_astoren {i : Fin 4} (hd : decode (xcc x) pc = .ok (.astore_n i, 1)) (hi : (i : Nat) = n) (hn : n < xnL x) (hk : SK x (pc + 1) k) : SK x pc (a_as n k) := by
  intro ls st h r e
  unfold a_as at e
  split at e
  · rename_i v st'
    obtain ⟨⟨q1, q2⟩, q3⟩ := hk _ _ _ _ e
    refine ⟨⟨q1, q2⟩, fun hx g1 g2 o ad ps ws H locs lR hw hl hn' hv1 hs => ?_⟩
    have hvv : vv h (.inr v) := hs _ List.mem_cons_self
    have hs' : ∀ w ∈ st', vv h w := fun w hw => hs w (List.mem_cons_of_mem _ hw)
    rw [List.map_cons]
    have go : ∀ lR' : Array Slot, lv_has lR' (xnL x) ((n, rv ad (.inr v)) :: (lvs ad 0 ls).filter (fun q => !(q.1 == n) && !(q.1 + 1 == n && q.2.category == 2))) → W (xP x) (xL x) (xE x) (xRm x r) (xS x) (xM x) (xa x) (xbl x) (xmt x) (xC x) H locs (hC h - hC (xh x)) (hS h - hS (xh x)) (xQ x r) (F0 (xM x) (pc + 1) lR' (st'.map (rv ad))) := fun lR' hl' => q3 hx g1 g2 o ad ps ws H locs lR' hw (lv_stl hl') (by rw [stl_len]; exact hn') (stl_vl hvv hv1) hs'
    rcases rv_ref ad v with ⟨-, z⟩ | ⟨j, -, z⟩
    · rw [z] at go ⊢
      exact lv_astore_nN hx.1 hx.2.1 hd hi hl hn rfl go
    · rw [z] at go ⊢
      exact lv_astore_n hx.1 hx.2.1 hd hi hl hn rfl go
  · cases e
theorem s_astore (hd : decode (xcc x) pc = .ok (.astore n, 2)) (hn : n < xnL x) (hk : SK x (pc + 2) k) : SK x pc (a_as n k) := by
  intro ls st h r e
  unfold a_as at e
  split at e
  · rename_i v st'
    obtain ⟨⟨q1, q2⟩, q3⟩ := hk _ _ _ _ e
    refine ⟨⟨q1, q2⟩, fun hx g1 g2 o ad ps ws H locs lR hw hl hn' hv1 hs => ?_⟩
    have hvv : vv h (.inr v) := hs _ List.mem_cons_self
    have hs' : ∀ w ∈ st', vv h w := fun w hw => hs w (List.mem_cons_of_mem _ hw)
    rw [List.map_cons]
    have go : ∀ lR' : Array Slot, lv_has lR' (xnL x) ((n, rv ad (.inr v)) :: (lvs ad 0 ls).filter (fun q => !(q.1 == n) && !(q.1 + 1 == n && q.2.category == 2))) → W (xP x) (xL x) (xE x) (xRm x r) (xS x) (xM x) (xa x) (xbl x) (xmt x) (xC x) H locs (hC h - hC (xh x)) (hS h - hS (xh x)) (xQ x r) (F0 (xM x) (pc + 2) lR' (st'.map (rv ad))) := fun lR' hl' => q3 hx g1 g2 o ad ps ws H locs lR' hw (lv_stl hl') (by rw [stl_len]; exact hn') (stl_vl hvv hv1) hs'
    rcases rv_ref ad v with ⟨-, z⟩ | ⟨j, -, z⟩
    · rw [z] at go ⊢
      exact lv_astoreN hx.1 hx.2.1 hd hl hn rfl go
    · rw [z] at go ⊢
      exact lv_astore hx.1 hx.2.1 hd hl hn rfl go
  · cases e
theorem s_iinc {i : Int} {d : Int32} (hd : decode (xcc x) pc = .ok (.iinc n i, 3)) (hi : Int32.ofInt i = d) (hn : n < xnL x) (hk : SK x (pc + 3) k) : SK x pc (a_inc n d k) := by
  subst hi
  intro ls st h r e
  unfold a_inc at e
  split at e
  · rename_i v hv
    obtain ⟨⟨q1, q2⟩, q3⟩ := hk _ _ _ _ e
    refine ⟨⟨q1, q2⟩, fun hx g1 g2 o ad ps ws H locs lR hw hl hn' hv1 hs => ?_⟩
    have hm := lvs_in (ad := ad) (i := 0) hv
    rw [Nat.zero_add] at hm
    obtain ⟨j, hj⟩ := List.getElem?_of_mem hm
    exact lv_iinc hx.1 hx.2.1 hd hl hj rfl hn rfl fun lR' hl' => q3 hx g1 g2 o ad ps ws H locs lR' hw (lv_stl (v := .inl (v + Int32.ofInt i)) hl') (by rw [stl_len]; exact hn') (stl_vl (v := .inl (v + Int32.ofInt i)) trivial hv1) hs
  · cases e
end SND
