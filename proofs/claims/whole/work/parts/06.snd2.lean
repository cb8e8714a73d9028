/-! the instructions are sound: arithmetic, stack, branches -/
section SND
variable {x : CX} {pc n : Nat} {k kt kf : Kn}
theorem s_iadd (hd : decode (xcc x) pc = .ok (.iadd, 1)) (hk : SK x (pc + 1) k) : SK x pc (a_b (fun a b => a + b) k) := by
  intro ls st h r e
  unfold a_b at e
  split at e
  · rename_i z y st'
    obtain ⟨⟨q1, q2⟩, q3⟩ := hk _ _ _ _ e
    exact ⟨⟨q1, q2⟩, fun hx g1 g2 o ad ps ws H locs lR hw hl hn hv1 hs => lv_iadd hx.1 hx.2.1 hd (q3 hx g1 g2 o ad ps ws H locs lR hw hl hn hv1 (vv_cons trivial (fun w hw => hs w (List.mem_cons_of_mem _ (List.mem_cons_of_mem _ hw)))))⟩
  · cases e
theorem s_isub (hd : decode (xcc x) pc = .ok (.isub, 1)) (hk : SK x (pc + 1) k) : SK x pc (a_b (fun a b => a - b) k) := by
  intro ls st h r e
  unfold a_b at e
  split at e
  · rename_i z y st'
    obtain ⟨⟨q1, q2⟩, q3⟩ := hk _ _ _ _ e
    exact ⟨⟨q1, q2⟩, fun hx g1 g2 o ad ps ws H locs lR hw hl hn hv1 hs => lv_isub hx.1 hx.2.1 hd (q3 hx g1 g2 o ad ps ws H locs lR hw hl hn hv1 (vv_cons trivial (fun w hw => hs w (List.mem_cons_of_mem _ (List.mem_cons_of_mem _ hw)))))⟩
  · cases e
theorem s_imul (hd : decode (xcc x) pc = .ok (.imul, 1)) (hk : SK x (pc + 1) k) : SK x pc (a_b (fun a b => a * b) k) := by
  intro ls st h r e
  unfold a_b at e
  split at e
  · rename_i z y st'
    obtain ⟨⟨q1, q2⟩, q3⟩ := hk _ _ _ _ e
    exact ⟨⟨q1, q2⟩, fun hx g1 g2 o ad ps ws H locs lR hw hl hn hv1 hs => lv_imul hx.1 hx.2.1 hd (q3 hx g1 g2 o ad ps ws H locs lR hw hl hn hv1 (vv_cons trivial (fun w hw => hs w (List.mem_cons_of_mem _ (List.mem_cons_of_mem _ hw)))))⟩
  · cases e
theorem s_iand (hd : decode (xcc x) pc = .ok (.iand, 1)) (hk : SK x (pc + 1) k) : SK x pc (a_b (fun a b => a &&& b) k) := by
  intro ls st h r e
  unfold a_b at e
  split at e
  · rename_i z y st'
    obtain ⟨⟨q1, q2⟩, q3⟩ := hk _ _ _ _ e
    exact ⟨⟨q1, q2⟩, fun hx g1 g2 o ad ps ws H locs lR hw hl hn hv1 hs => lv_iand hx.1 hx.2.1 hd (q3 hx g1 g2 o ad ps ws H locs lR hw hl hn hv1 (vv_cons trivial (fun w hw => hs w (List.mem_cons_of_mem _ (List.mem_cons_of_mem _ hw)))))⟩
  · cases e
theorem s_ior (hd : decode (xcc x) pc = .ok (.ior, 1)) (hk : SK x (pc + 1) k) : SK x pc (a_b (fun a b => a ||| b) k) := by
  intro ls st h r e
  unfold a_b at e
  split at e
  · rename_i z y st'
    obtain ⟨⟨q1, q2⟩, q3⟩ := hk _ _ _ _ e
    exact ⟨⟨q1, q2⟩, fun hx g1 g2 o ad ps ws H locs lR hw hl hn hv1 hs => lv_ior hx.1 hx.2.1 hd (q3 hx g1 g2 o ad ps ws H locs lR hw hl hn hv1 (vv_cons trivial (fun w hw => hs w (List.mem_cons_of_mem _ (List.mem_cons_of_mem _ hw)))))⟩
  · cases e
theorem s_ishl (hd : decode (xcc x) pc = .ok (.ishl, 1)) (hk : SK x (pc + 1) k) : SK x pc (a_b jshl k) := by
  intro ls st h r e
  unfold a_b at e
  split at e
  · rename_i z y st'
    obtain ⟨⟨q1, q2⟩, q3⟩ := hk _ _ _ _ e
    exact ⟨⟨q1, q2⟩, fun hx g1 g2 o ad ps ws H locs lR hw hl hn hv1 hs => lv_ishl hx.1 hx.2.1 hd (q3 hx g1 g2 o ad ps ws H locs lR hw hl hn hv1 (vv_cons trivial (fun w hw => hs w (List.mem_cons_of_mem _ (List.mem_cons_of_mem _ hw)))))⟩
  · cases e
theorem s_ishr (hd : decode (xcc x) pc = .ok (.ishr, 1)) (hk : SK x (pc + 1) k) : SK x pc (a_b jshr k) := by
  intro ls st h r e
  unfold a_b at e
  split at e
  · rename_i z y st'
    obtain ⟨⟨q1, q2⟩, q3⟩ := hk _ _ _ _ e
    exact ⟨⟨q1, q2⟩, fun hx g1 g2 o ad ps ws H locs lR hw hl hn hv1 hs => lv_ishr hx.1 hx.2.1 hd (q3 hx g1 g2 o ad ps ws H locs lR hw hl hn hv1 (vv_cons trivial (fun w hw => hs w (List.mem_cons_of_mem _ (List.mem_cons_of_mem _ hw)))))⟩
  · cases e
theorem s_iushr (hd : decode (xcc x) pc = .ok (.iushr, 1)) (hk : SK x (pc + 1) k) : SK x pc (a_b jushr k) := by
  intro ls st h r e
  unfold a_b at e
  split at e
  · rename_i z y st'
    obtain ⟨⟨q1, q2⟩, q3⟩ := hk _ _ _ _ e
    exact ⟨⟨q1, q2⟩, fun hx g1 g2 o ad ps ws H locs lR hw hl hn hv1 hs => lv_iushr hx.1 hx.2.1 hd rfl (q3 hx g1 g2 o ad ps ws H locs lR hw hl hn hv1 (vv_cons trivial (fun w hw => hs w (List.mem_cons_of_mem _ (List.mem_cons_of_mem _ hw)))))⟩
  · cases e
theorem s_ineg (hd : decode (xcc x) pc = .ok (.ineg, 1)) (hk : SK x (pc + 1) k) : SK x pc (a_u (fun a => -a) k) := by
  intro ls st h r e
  unfold a_u at e
  split at e
  · rename_i z st'
    obtain ⟨⟨q1, q2⟩, q3⟩ := hk _ _ _ _ e
    exact ⟨⟨q1, q2⟩, fun hx g1 g2 o ad ps ws H locs lR hw hl hn hv1 hs => lv_ineg hx.1 hx.2.1 hd (q3 hx g1 g2 o ad ps ws H locs lR hw hl hn hv1 (vv_cons trivial (fun w hw => hs w (List.mem_cons_of_mem _ hw))))⟩
  · cases e
theorem s_i2b (hd : decode (xcc x) pc = .ok (.i2b, 1)) (hk : SK x (pc + 1) k) : SK x pc (a_u jb k) := by
  intro ls st h r e
  unfold a_u at e
  split at e
  · rename_i z st'
    obtain ⟨⟨q1, q2⟩, q3⟩ := hk _ _ _ _ e
    exact ⟨⟨q1, q2⟩, fun hx g1 g2 o ad ps ws H locs lR hw hl hn hv1 hs => lv_i2b hx.1 hx.2.1 hd rfl (q3 hx g1 g2 o ad ps ws H locs lR hw hl hn hv1 (vv_cons trivial (fun w hw => hs w (List.mem_cons_of_mem _ hw))))⟩
  · cases e
theorem s_i2s (hd : decode (xcc x) pc = .ok (.i2s, 1)) (hk : SK x (pc + 1) k) : SK x pc (a_u js k) := by
  intro ls st h r e
  unfold a_u at e
  split at e
  · rename_i z st'
    obtain ⟨⟨q1, q2⟩, q3⟩ := hk _ _ _ _ e
    exact ⟨⟨q1, q2⟩, fun hx g1 g2 o ad ps ws H locs lR hw hl hn hv1 hs => lv_i2s hx.1 hx.2.1 hd rfl (q3 hx g1 g2 o ad ps ws H locs lR hw hl hn hv1 (vv_cons trivial (fun w hw => hs w (List.mem_cons_of_mem _ hw))))⟩
  · cases e
theorem s_i2c (hd : decode (xcc x) pc = .ok (.i2c, 1)) (hk : SK x (pc + 1) k) : SK x pc (a_u jc k) := by
  intro ls st h r e
  unfold a_u at e
  split at e
  · rename_i z st'
    obtain ⟨⟨q1, q2⟩, q3⟩ := hk _ _ _ _ e
    exact ⟨⟨q1, q2⟩, fun hx g1 g2 o ad ps ws H locs lR hw hl hn hv1 hs => lv_i2c hx.1 hx.2.1 hd rfl (q3 hx g1 g2 o ad ps ws H locs lR hw hl hn hv1 (vv_cons trivial (fun w hw => hs w (List.mem_cons_of_mem _ hw))))⟩
  · cases e
theorem s_idiv (hd : decode (xcc x) pc = .ok (.idiv, 1)) (hk : SK x (pc + 1) k) : SK x pc (a_div k) := by
  intro ls st h r e
  unfold a_div at e
  split at e
  · rename_i z y st'
    unfold dv at e
    split at e
    · cases e
    · rename_i hz
      obtain ⟨⟨q1, q2⟩, q3⟩ := hk _ _ _ _ e
      exact ⟨⟨q1, q2⟩, fun hx g1 g2 o ad ps ws H locs lR hw hl hn hv1 hs => lv_idiv hx.1 hx.2.1 hd hz (q3 hx g1 g2 o ad ps ws H locs lR hw hl hn hv1 (vv_cons trivial (fun w hw => hs w (List.mem_cons_of_mem _ (List.mem_cons_of_mem _ hw)))))⟩
  · cases e
theorem s_irem (hd : decode (xcc x) pc = .ok (.irem, 1)) (hk : SK x (pc + 1) k) : SK x pc (a_rem k) := by
  intro ls st h r e
  unfold a_rem at e
  split at e
  · rename_i z y st'
    unfold dv at e
    split at e
    · cases e
    · rename_i hz
      obtain ⟨⟨q1, q2⟩, q3⟩ := hk _ _ _ _ e
      exact ⟨⟨q1, q2⟩, fun hx g1 g2 o ad ps ws H locs lR hw hl hn hv1 hs => lv_irem hx.1 hx.2.1 hd hz (q3 hx g1 g2 o ad ps ws H locs lR hw hl hn hv1 (vv_cons trivial (fun w hw => hs w (List.mem_cons_of_mem _ (List.mem_cons_of_mem _ hw)))))⟩
  · cases e
theorem s_dup (hd : decode (xcc x) pc = .ok (.dup, 1)) (hk : SK x (pc + 1) k) : SK x pc (a_dup k) := by
  intro ls st h r e
  unfold a_dup at e
  split at e
  · rename_i v st'
    obtain ⟨⟨q1, q2⟩, q3⟩ := hk _ _ _ _ e
    exact ⟨⟨q1, q2⟩, fun hx g1 g2 o ad ps ws H locs lR hw hl hn hv1 hs => lv_dup hx.1 hx.2.1 hd (rv_cat ad v) (q3 hx g1 g2 o ad ps ws H locs lR hw hl hn hv1 (vv_cons (hs v List.mem_cons_self) hs))⟩
  · cases e
theorem s_pop (hd : decode (xcc x) pc = .ok (.pop, 1)) (hk : SK x (pc + 1) k) : SK x pc (a_pop k) := by
  intro ls st h r e
  unfold a_pop at e
  split at e
  · rename_i v st'
    obtain ⟨⟨q1, q2⟩, q3⟩ := hk _ _ _ _ e
    exact ⟨⟨q1, q2⟩, fun hx g1 g2 o ad ps ws H locs lR hw hl hn hv1 hs => lv_pop hx.1 hx.2.1 hd (rv_cat ad v) (q3 hx g1 g2 o ad ps ws H locs lR hw hl hn hv1 (fun w hw => hs w (List.mem_cons_of_mem _ hw)))⟩
  · cases e
theorem s_dup2 (hd : decode (xcc x) pc = .ok (.dup2, 1)) (hk : SK x (pc + 1) k) : SK x pc (a_dup2 k) := by
  intro ls st h r e
  unfold a_dup2 at e
  split at e
  · rename_i v w st'
    obtain ⟨⟨q1, q2⟩, q3⟩ := hk _ _ _ _ e
    exact ⟨⟨q1, q2⟩, fun hx g1 g2 o ad ps ws H locs lR hw hl hn hv1 hs => lv_dup2_11 hx.1 hx.2.1 hd (rv_cat ad v) (rv_cat ad w) (q3 hx g1 g2 o ad ps ws H locs lR hw hl hn hv1 (vv_cons (hs v List.mem_cons_self) (vv_cons (hs w (List.mem_cons_of_mem _ List.mem_cons_self)) hs)))⟩
  · cases e
theorem s_dupx1 (hd : decode (xcc x) pc = .ok (.dup_x1, 1)) (hk : SK x (pc + 1) k) : SK x pc (a_dupx1 k) := by
  intro ls st h r e
  unfold a_dupx1 at e
  split at e
  · rename_i v w st'
    obtain ⟨⟨q1, q2⟩, q3⟩ := hk _ _ _ _ e
    refine ⟨⟨q1, q2⟩, fun hx g1 g2 o ad ps ws H locs lR hw hl hn hv1 hs => lv_dup_x1 hx.1 hx.2.1 hd (rv_cat ad v) (rv_cat ad w) (q3 hx g1 g2 o ad ps ws H locs lR hw hl hn hv1 (vv_cons (hs v List.mem_cons_self) (vv_cons (hs w (List.mem_cons_of_mem _ List.mem_cons_self)) (vv_cons (hs v List.mem_cons_self) (fun z hz => hs z (List.mem_cons_of_mem _ (List.mem_cons_of_mem _ hz)))))))⟩
  · cases e
theorem s_goto {off : Int} {tg : Nat} (hd : decode (xcc x) pc = .ok (.goto off, 3)) (ht : (pc : Int) + off = (tg : Int)) (hk : SK x tg k) : SK x pc k := by
  intro ls st h r e
  obtain ⟨⟨q1, q2⟩, q3⟩ := hk _ _ _ _ e
  exact ⟨⟨q1, q2⟩, fun hx g1 g2 o ad ps ws H locs lR hw hl hn hv1 hs => lv_goto hx.1 hx.2.1 hd ht (q3 hx g1 g2 o ad ps ws H locs lR hw hl hn hv1 hs)⟩
theorem s_ifeq {off : Int} {tg : Nat} (hd : decode (xcc x) pc = .ok (.ifCond .eq off, 3)) (ht : (pc : Int) + off = (tg : Int)) (h1 : SK x tg kt) (h2 : SK x (pc + 3) kf) : SK x pc (a_z kt kf) := by
  intro ls st h r e
  unfold a_z at e
  split at e
  · rename_i z st'
    split at e
    · rename_i c1
      obtain ⟨⟨q1, q2⟩, q3⟩ := h1 _ _ _ _ e
      refine ⟨⟨q1, q2⟩, fun hx g1 g2 o ad ps ws H locs lR hw hl hn hv1 hs => lv_if_eq hx.1 hx.2.1 hd ht (fun c2 => ?_) (fun c2 => ?_)⟩
      · exact q3 hx g1 g2 o ad ps ws H locs lR hw hl hn hv1 (fun w hw => hs w (List.mem_cons_of_mem _ hw))
      · exact absurd c1 c2
    · rename_i c1
      obtain ⟨⟨q1, q2⟩, q3⟩ := h2 _ _ _ _ e
      refine ⟨⟨q1, q2⟩, fun hx g1 g2 o ad ps ws H locs lR hw hl hn hv1 hs => lv_if_eq hx.1 hx.2.1 hd ht (fun c2 => ?_) (fun c2 => ?_)⟩
      · exact absurd c2 c1
      · exact q3 hx g1 g2 o ad ps ws H locs lR hw hl hn hv1 (fun w hw => hs w (List.mem_cons_of_mem _ hw))
  · cases e
theorem s_ifne {off : Int} {tg : Nat} (hd : decode (xcc x) pc = .ok (.ifCond .ne off, 3)) (ht : (pc : Int) + off = (tg : Int)) (h1 : SK x tg kf) (h2 : SK x (pc + 3) kt) : SK x pc (a_z kt kf) := by
  intro ls st h r e
  unfold a_z at e
  split at e
  · rename_i z st'
    split at e
    · rename_i c1
      obtain ⟨⟨q1, q2⟩, q3⟩ := h2 _ _ _ _ e
      refine ⟨⟨q1, q2⟩, fun hx g1 g2 o ad ps ws H locs lR hw hl hn hv1 hs => lv_if_ne hx.1 hx.2.1 hd ht (fun c2 => ?_) (fun c2 => ?_)⟩
      · exact absurd c1 c2
      · exact q3 hx g1 g2 o ad ps ws H locs lR hw hl hn hv1 (fun w hw => hs w (List.mem_cons_of_mem _ hw))
    · rename_i c1
      obtain ⟨⟨q1, q2⟩, q3⟩ := h1 _ _ _ _ e
      refine ⟨⟨q1, q2⟩, fun hx g1 g2 o ad ps ws H locs lR hw hl hn hv1 hs => lv_if_ne hx.1 hx.2.1 hd ht (fun c2 => ?_) (fun c2 => ?_)⟩
      · exact q3 hx g1 g2 o ad ps ws H locs lR hw hl hn hv1 (fun w hw => hs w (List.mem_cons_of_mem _ hw))
      · exact absurd c2 c1
  · cases e
theorem s_iflt {off : Int} {tg : Nat} (hd : decode (xcc x) pc = .ok (.ifCond .lt off, 3)) (ht : (pc : Int) + off = (tg : Int)) (h1 : SK x tg kt) (h2 : SK x (pc + 3) kf) : SK x pc (a_n kt kf) := by
  intro ls st h r e
  unfold a_n at e
  split at e
  · rename_i z st'
    split at e
    · rename_i c1
      obtain ⟨⟨q1, q2⟩, q3⟩ := h1 _ _ _ _ e
      refine ⟨⟨q1, q2⟩, fun hx g1 g2 o ad ps ws H locs lR hw hl hn hv1 hs => lv_if_lt hx.1 hx.2.1 hd ht (fun c2 => ?_) (fun c2 => ?_)⟩
      · exact q3 hx g1 g2 o ad ps ws H locs lR hw hl hn hv1 (fun w hw => hs w (List.mem_cons_of_mem _ hw))
      · exact absurd c1 c2
    · rename_i c1
      obtain ⟨⟨q1, q2⟩, q3⟩ := h2 _ _ _ _ e
      refine ⟨⟨q1, q2⟩, fun hx g1 g2 o ad ps ws H locs lR hw hl hn hv1 hs => lv_if_lt hx.1 hx.2.1 hd ht (fun c2 => ?_) (fun c2 => ?_)⟩
      · exact absurd c2 c1
      · exact q3 hx g1 g2 o ad ps ws H locs lR hw hl hn hv1 (fun w hw => hs w (List.mem_cons_of_mem _ hw))
  · cases e
theorem s_ifge {off : Int} {tg : Nat} (hd : decode (xcc x) pc = .ok (.ifCond .ge off, 3)) (ht : (pc : Int) + off = (tg : Int)) (h1 : SK x tg kf) (h2 : SK x (pc + 3) kt) : SK x pc (a_n kt kf) := by
  intro ls st h r e
  unfold a_n at e
  split at e
  · rename_i z st'
    split at e
    · rename_i c1
      obtain ⟨⟨q1, q2⟩, q3⟩ := h2 _ _ _ _ e
      refine ⟨⟨q1, q2⟩, fun hx g1 g2 o ad ps ws H locs lR hw hl hn hv1 hs => lv_if_ge hx.1 hx.2.1 hd ht (fun c2 => ?_) (fun c2 => ?_)⟩
      · exact absurd c1 (Int32.not_lt.mpr c2)
      · exact q3 hx g1 g2 o ad ps ws H locs lR hw hl hn hv1 (fun w hw => hs w (List.mem_cons_of_mem _ hw))
    · rename_i c1
      obtain ⟨⟨q1, q2⟩, q3⟩ := h1 _ _ _ _ e
      refine ⟨⟨q1, q2⟩, fun hx g1 g2 o ad ps ws H locs lR hw hl hn hv1 hs => lv_if_ge hx.1 hx.2.1 hd ht (fun c2 => ?_) (fun c2 => ?_)⟩
      · exact q3 hx g1 g2 o ad ps ws H locs lR hw hl hn hv1 (fun w hw => hs w (List.mem_cons_of_mem _ hw))
      · exact absurd (Int32.not_le.mp c2) c1
  · cases e
theorem s_ifgt {off : Int} {tg : Nat} (hd : decode (xcc x) pc = .ok (.ifCond .gt off, 3)) (ht : (pc : Int) + off = (tg : Int)) (h1 : SK x tg kt) (h2 : SK x (pc + 3) kf) : SK x pc (a_p kt kf) := by
  intro ls st h r e
  unfold a_p at e
  split at e
  · rename_i z st'
    split at e
    · rename_i c1
      obtain ⟨⟨q1, q2⟩, q3⟩ := h1 _ _ _ _ e
      refine ⟨⟨q1, q2⟩, fun hx g1 g2 o ad ps ws H locs lR hw hl hn hv1 hs => lv_if_gt hx.1 hx.2.1 hd ht (fun c2 => ?_) (fun c2 => ?_)⟩
      · exact q3 hx g1 g2 o ad ps ws H locs lR hw hl hn hv1 (fun w hw => hs w (List.mem_cons_of_mem _ hw))
      · exact absurd c1 c2
    · rename_i c1
      obtain ⟨⟨q1, q2⟩, q3⟩ := h2 _ _ _ _ e
      refine ⟨⟨q1, q2⟩, fun hx g1 g2 o ad ps ws H locs lR hw hl hn hv1 hs => lv_if_gt hx.1 hx.2.1 hd ht (fun c2 => ?_) (fun c2 => ?_)⟩
      · exact absurd c2 c1
      · exact q3 hx g1 g2 o ad ps ws H locs lR hw hl hn hv1 (fun w hw => hs w (List.mem_cons_of_mem _ hw))
  · cases e
theorem s_ifle {off : Int} {tg : Nat} (hd : decode (xcc x) pc = .ok (.ifCond .le off, 3)) (ht : (pc : Int) + off = (tg : Int)) (h1 : SK x tg kf) (h2 : SK x (pc + 3) kt) : SK x pc (a_p kt kf) := by
  intro ls st h r e
  unfold a_p at e
  split at e
  · rename_i z st'
    split at e
    · rename_i c1
      obtain ⟨⟨q1, q2⟩, q3⟩ := h2 _ _ _ _ e
      refine ⟨⟨q1, q2⟩, fun hx g1 g2 o ad ps ws H locs lR hw hl hn hv1 hs => lv_if_le hx.1 hx.2.1 hd ht (fun c2 => ?_) (fun c2 => ?_)⟩
      · exact absurd c1 (Int32.not_lt.mpr c2)
      · exact q3 hx g1 g2 o ad ps ws H locs lR hw hl hn hv1 (fun w hw => hs w (List.mem_cons_of_mem _ hw))
    · rename_i c1
      obtain ⟨⟨q1, q2⟩, q3⟩ := h1 _ _ _ _ e
      refine ⟨⟨q1, q2⟩, fun hx g1 g2 o ad ps ws H locs lR hw hl hn hv1 hs => lv_if_le hx.1 hx.2.1 hd ht (fun c2 => ?_) (fun c2 => ?_)⟩
      · exact q3 hx g1 g2 o ad ps ws H locs lR hw hl hn hv1 (fun w hw => hs w (List.mem_cons_of_mem _ hw))
      · exact absurd (Int32.not_le.mp c2) c1
  · cases e
theorem s_cmpeq {off : Int} {tg : Nat} (hd : decode (xcc x) pc = .ok (.if_icmp .eq off, 3)) (ht : (pc : Int) + off = (tg : Int)) (h1 : SK x tg kt) (h2 : SK x (pc + 3) kf) : SK x pc (a_eq kt kf) := by
  intro ls st h r e
  unfold a_eq at e
  split at e
  · rename_i z y st'
    split at e
    · rename_i c1
      obtain ⟨⟨q1, q2⟩, q3⟩ := h1 _ _ _ _ e
      refine ⟨⟨q1, q2⟩, fun hx g1 g2 o ad ps ws H locs lR hw hl hn hv1 hs => lv_icmp_eq hx.1 hx.2.1 hd ht (fun c2 => ?_) (fun c2 => ?_)⟩
      · exact q3 hx g1 g2 o ad ps ws H locs lR hw hl hn hv1 (fun w hw => hs w (List.mem_cons_of_mem _ (List.mem_cons_of_mem _ hw)))
      · exact absurd c1 c2
    · rename_i c1
      obtain ⟨⟨q1, q2⟩, q3⟩ := h2 _ _ _ _ e
      refine ⟨⟨q1, q2⟩, fun hx g1 g2 o ad ps ws H locs lR hw hl hn hv1 hs => lv_icmp_eq hx.1 hx.2.1 hd ht (fun c2 => ?_) (fun c2 => ?_)⟩
      · exact absurd c2 c1
      · exact q3 hx g1 g2 o ad ps ws H locs lR hw hl hn hv1 (fun w hw => hs w (List.mem_cons_of_mem _ (List.mem_cons_of_mem _ hw)))
  · cases e
theorem s_cmpne {off : Int} {tg : Nat} (hd : decode (xcc x) pc = .ok (.if_icmp .ne off, 3)) (ht : (pc : Int) + off = (tg : Int)) (h1 : SK x tg kf) (h2 : SK x (pc + 3) kt) : SK x pc (a_eq kt kf) := by
  intro ls st h r e
  unfold a_eq at e
  split at e
  · rename_i z y st'
    split at e
    · rename_i c1
      obtain ⟨⟨q1, q2⟩, q3⟩ := h2 _ _ _ _ e
      refine ⟨⟨q1, q2⟩, fun hx g1 g2 o ad ps ws H locs lR hw hl hn hv1 hs => lv_icmp_ne hx.1 hx.2.1 hd ht (fun c2 => ?_) (fun c2 => ?_)⟩
      · exact absurd c1 c2
      · exact q3 hx g1 g2 o ad ps ws H locs lR hw hl hn hv1 (fun w hw => hs w (List.mem_cons_of_mem _ (List.mem_cons_of_mem _ hw)))
    · rename_i c1
      obtain ⟨⟨q1, q2⟩, q3⟩ := h1 _ _ _ _ e
      refine ⟨⟨q1, q2⟩, fun hx g1 g2 o ad ps ws H locs lR hw hl hn hv1 hs => lv_icmp_ne hx.1 hx.2.1 hd ht (fun c2 => ?_) (fun c2 => ?_)⟩
      · exact q3 hx g1 g2 o ad ps ws H locs lR hw hl hn hv1 (fun w hw => hs w (List.mem_cons_of_mem _ (List.mem_cons_of_mem _ hw)))
      · exact absurd c2 c1
  · cases e
theorem s_cmplt {off : Int} {tg : Nat} (hd : decode (xcc x) pc = .ok (.if_icmp .lt off, 3)) (ht : (pc : Int) + off = (tg : Int)) (h1 : SK x tg kt) (h2 : SK x (pc + 3) kf) : SK x pc (a_lt kt kf) := by
  intro ls st h r e
  unfold a_lt at e
  split at e
  · rename_i z y st'
    split at e
    · rename_i c1
      obtain ⟨⟨q1, q2⟩, q3⟩ := h1 _ _ _ _ e
      refine ⟨⟨q1, q2⟩, fun hx g1 g2 o ad ps ws H locs lR hw hl hn hv1 hs => lv_icmp_lt hx.1 hx.2.1 hd ht (fun c2 => ?_) (fun c2 => ?_)⟩
      · exact q3 hx g1 g2 o ad ps ws H locs lR hw hl hn hv1 (fun w hw => hs w (List.mem_cons_of_mem _ (List.mem_cons_of_mem _ hw)))
      · exact absurd c1 c2
    · rename_i c1
      obtain ⟨⟨q1, q2⟩, q3⟩ := h2 _ _ _ _ e
      refine ⟨⟨q1, q2⟩, fun hx g1 g2 o ad ps ws H locs lR hw hl hn hv1 hs => lv_icmp_lt hx.1 hx.2.1 hd ht (fun c2 => ?_) (fun c2 => ?_)⟩
      · exact absurd c2 c1
      · exact q3 hx g1 g2 o ad ps ws H locs lR hw hl hn hv1 (fun w hw => hs w (List.mem_cons_of_mem _ (List.mem_cons_of_mem _ hw)))
  · cases e
theorem s_cmpge {off : Int} {tg : Nat} (hd : decode (xcc x) pc = .ok (.if_icmp .ge off, 3)) (ht : (pc : Int) + off = (tg : Int)) (h1 : SK x tg kf) (h2 : SK x (pc + 3) kt) : SK x pc (a_lt kt kf) := by
  intro ls st h r e
  unfold a_lt at e
  split at e
  · rename_i z y st'
    split at e
    · rename_i c1
      obtain ⟨⟨q1, q2⟩, q3⟩ := h2 _ _ _ _ e
      refine ⟨⟨q1, q2⟩, fun hx g1 g2 o ad ps ws H locs lR hw hl hn hv1 hs => lv_icmp_ge hx.1 hx.2.1 hd ht (fun c2 => ?_) (fun c2 => ?_)⟩
      · exact absurd c1 (Int32.not_lt.mpr c2)
      · exact q3 hx g1 g2 o ad ps ws H locs lR hw hl hn hv1 (fun w hw => hs w (List.mem_cons_of_mem _ (List.mem_cons_of_mem _ hw)))
    · rename_i c1
      obtain ⟨⟨q1, q2⟩, q3⟩ := h1 _ _ _ _ e
      refine ⟨⟨q1, q2⟩, fun hx g1 g2 o ad ps ws H locs lR hw hl hn hv1 hs => lv_icmp_ge hx.1 hx.2.1 hd ht (fun c2 => ?_) (fun c2 => ?_)⟩
      · exact q3 hx g1 g2 o ad ps ws H locs lR hw hl hn hv1 (fun w hw => hs w (List.mem_cons_of_mem _ (List.mem_cons_of_mem _ hw)))
      · exact absurd (Int32.not_le.mp c2) c1
  · cases e
theorem s_cmpgt {off : Int} {tg : Nat} (hd : decode (xcc x) pc = .ok (.if_icmp .gt off, 3)) (ht : (pc : Int) + off = (tg : Int)) (h1 : SK x tg kt) (h2 : SK x (pc + 3) kf) : SK x pc (a_gt kt kf) := by
  intro ls st h r e
  unfold a_gt at e
  split at e
  · rename_i z y st'
    split at e
    · rename_i c1
      obtain ⟨⟨q1, q2⟩, q3⟩ := h1 _ _ _ _ e
      refine ⟨⟨q1, q2⟩, fun hx g1 g2 o ad ps ws H locs lR hw hl hn hv1 hs => lv_icmp_gt hx.1 hx.2.1 hd ht (fun c2 => ?_) (fun c2 => ?_)⟩
      · exact q3 hx g1 g2 o ad ps ws H locs lR hw hl hn hv1 (fun w hw => hs w (List.mem_cons_of_mem _ (List.mem_cons_of_mem _ hw)))
      · exact absurd c1 c2
    · rename_i c1
      obtain ⟨⟨q1, q2⟩, q3⟩ := h2 _ _ _ _ e
      refine ⟨⟨q1, q2⟩, fun hx g1 g2 o ad ps ws H locs lR hw hl hn hv1 hs => lv_icmp_gt hx.1 hx.2.1 hd ht (fun c2 => ?_) (fun c2 => ?_)⟩
      · exact absurd c2 c1
      · exact q3 hx g1 g2 o ad ps ws H locs lR hw hl hn hv1 (fun w hw => hs w (List.mem_cons_of_mem _ (List.mem_cons_of_mem _ hw)))
  · cases e
theorem s_cmple {off : Int} {tg : Nat} (hd : decode (xcc x) pc = .ok (.if_icmp .le off, 3)) (ht : (pc : Int) + off = (tg : Int)) (h1 : SK x tg kf) (h2 : SK x (pc + 3) kt) : SK x pc (a_gt kt kf) := by
  intro ls st h r e
  unfold a_gt at e
  split at e
  · rename_i z y st'
    split at e
    · rename_i c1
      obtain ⟨⟨q1, q2⟩, q3⟩ := h2 _ _ _ _ e
      refine ⟨⟨q1, q2⟩, fun hx g1 g2 o ad ps ws H locs lR hw hl hn hv1 hs => lv_icmp_le hx.1 hx.2.1 hd ht (fun c2 => ?_) (fun c2 => ?_)⟩
      · exact absurd c1 (Int32.not_lt.mpr c2)
      · exact q3 hx g1 g2 o ad ps ws H locs lR hw hl hn hv1 (fun w hw => hs w (List.mem_cons_of_mem _ (List.mem_cons_of_mem _ hw)))
    · rename_i c1
      obtain ⟨⟨q1, q2⟩, q3⟩ := h1 _ _ _ _ e
      refine ⟨⟨q1, q2⟩, fun hx g1 g2 o ad ps ws H locs lR hw hl hn hv1 hs => lv_icmp_le hx.1 hx.2.1 hd ht (fun c2 => ?_) (fun c2 => ?_)⟩
      · exact q3 hx g1 g2 o ad ps ws H locs lR hw hl hn hv1 (fun w hw => hs w (List.mem_cons_of_mem _ (List.mem_cons_of_mem _ hw)))
      · exact absurd (Int32.not_le.mp c2) c1
  · cases e
theorem s_ifnull {off : Int} {tg : Nat} (hd : decode (xcc x) pc = .ok (.ifnull off, 3)) (ht : (pc : Int) + off = (tg : Int)) (h1 : SK x tg kt) (h2 : SK x (pc + 3) kf) : SK x pc (a_nu kt kf) := by
  intro ls st h r e
  unfold a_nu at e
  split at e
  · rename_i kd q st'
    split at e
    · rename_i c1
      subst c1
      obtain ⟨⟨q1, q2⟩, q3⟩ := h1 _ _ _ _ e
      exact ⟨⟨q1, q2⟩, fun hx g1 g2 o ad ps ws H locs lR hw hl hn hv1 hs => lv_ifnullN hx.1 hx.2.1 hd ht (q3 hx g1 g2 o ad ps ws H locs lR hw hl hn hv1 (fun w hw => hs w (List.mem_cons_of_mem _ hw)))⟩
    · rename_i c1
      obtain ⟨⟨q1, q2⟩, q3⟩ := h2 _ _ _ _ e
      obtain ⟨j, rfl⟩ : ∃ j, q = j + 1 := ⟨q - 1, by omega⟩
      exact ⟨⟨q1, q2⟩, fun hx g1 g2 o ad ps ws H locs lR hw hl hn hv1 hs => lv_ifnull hx.1 hx.2.1 hd (q3 hx g1 g2 o ad ps ws H locs lR hw hl hn hv1 (fun w hw => hs w (List.mem_cons_of_mem _ hw)))⟩
  · cases e
theorem s_ifnn {off : Int} {tg : Nat} (hd : decode (xcc x) pc = .ok (.ifnonnull off, 3)) (ht : (pc : Int) + off = (tg : Int)) (h1 : SK x tg kf) (h2 : SK x (pc + 3) kt) : SK x pc (a_nu kt kf) := by
  intro ls st h r e
  unfold a_nu at e
  split at e
  · rename_i kd q st'
    split at e
    · rename_i c1
      subst c1
      obtain ⟨⟨q1, q2⟩, q3⟩ := h2 _ _ _ _ e
      exact ⟨⟨q1, q2⟩, fun hx g1 g2 o ad ps ws H locs lR hw hl hn hv1 hs => lv_ifnonnullN hx.1 hx.2.1 hd (q3 hx g1 g2 o ad ps ws H locs lR hw hl hn hv1 (fun w hw => hs w (List.mem_cons_of_mem _ hw)))⟩
    · rename_i c1
      obtain ⟨⟨q1, q2⟩, q3⟩ := h1 _ _ _ _ e
      obtain ⟨j, rfl⟩ : ∃ j, q = j + 1 := ⟨q - 1, by omega⟩
      exact ⟨⟨q1, q2⟩, fun hx g1 g2 o ad ps ws H locs lR hw hl hn hv1 hs => lv_ifnonnull hx.1 hx.2.1 hd ht (q3 hx g1 g2 o ad ps ws H locs lR hw hl hn hv1 (fun w hw => hs w (List.mem_cons_of_mem _ hw)))⟩
  · cases e
/-- a switch over the values lo, lo + 1 ..: each case's code stands where its offset says -/
def swT (x : CX) (pc : Nat) (lo : Int) : List Int → List (Int32 × Kn) → Prop
  | [], [] => True
  | o :: os, (v, k) :: cs => v.toInt = lo ∧ (∃ tg : Nat, (pc : Int) + o = (tg : Int) ∧ SK x tg k) ∧ swT x pc (lo + 1) os cs
  | _, _ => False
theorem swT_run {x : CX} {pc : Nat} {kd : Kn} {ls : PL} {st : List PV} {h : PH} {r : Rs} {z : Int32} : ∀ (os : List Int) (cs : List (Int32 × Kn)) (lo : Int), swT x pc lo os cs → swc cs kd z ls st h = some r →
    (∃ (j : Nat) (o : Int) (tg : Nat) (k : Kn), os[j]? = some o ∧ z.toInt = lo + j ∧ (pc : Int) + o = (tg : Int) ∧ SK x tg k ∧ k ls st h = some r) ∨ ((z.toInt < lo ∨ lo + os.length ≤ z.toInt) ∧ kd ls st h = some r)
  | [], [], lo, _, e => by
    refine Or.inr ⟨?_, e⟩
    simp
    omega
  | o :: os, (v, k) :: cs, lo, ⟨hv, ⟨tg, ht, hk⟩, hr⟩, e => by
    simp only [swc] at e
    split at e
    · rename_i c
      subst c
      exact Or.inl ⟨0, o, tg, k, rfl, by simp [hv], ht, hk, e⟩
    · rename_i c
      rcases swT_run os cs (lo + 1) hr e with ⟨j, o', tg', k', e1, e2, e3, e4, e5⟩ | ⟨e1, e2⟩
      · exact Or.inl ⟨j + 1, o', tg', k', e1, by rw [e2]; push_cast; omega, e3, e4, e5⟩
      · refine Or.inr ⟨?_, e2⟩
        have : ¬ z.toInt = lo := fun q => c (Int32.toInt_inj.mp (by rw [hv]; exact q))
        simp only [List.length_cons]
        push_cast
        omega
theorem s_table {dflt lo hi : Int} {offs : Array Int} {len tg : Nat} {cs : List (Int32 × Kn)} (hd : decode (xcc x) pc = .ok (.tableswitch dflt lo hi offs, len)) (hh : lo + offs.toList.length = hi + 1) (ht : (pc : Int) + dflt = (tg : Int)) (hc : swT x pc lo offs.toList cs) (hk : SK x tg kf) : SK x pc (a_sw cs kf) := by
  intro ls st h r e
  unfold a_sw at e
  split at e
  · rename_i z st'
    rcases swT_run _ _ _ hc e with ⟨j, o', tg', k', e1, e2, e3, e4, e5⟩ | ⟨e1, e2⟩
    · obtain ⟨⟨q1, q2⟩, q3⟩ := e4 _ _ _ _ e5
      have hj : j < offs.toList.length := (List.getElem?_eq_some_iff.mp e1).1
      refine ⟨⟨q1, q2⟩, fun hx g1 g2 o ad ps ws H locs lR hw hl hn hv1 hs => lv_tableIn hx.1 hx.2.1 hd (by omega) (by omega) (off := o') ?_ e3 (q3 hx g1 g2 o ad ps ws H locs lR hw hl hn hv1 (fun w hw => hs w (List.mem_cons_of_mem _ hw)))⟩
      rw [show (z.toInt - lo).toNat = j by omega, ← Array.getElem?_toList]
      exact e1
    · obtain ⟨⟨q1, q2⟩, q3⟩ := hk _ _ _ _ e2
      exact ⟨⟨q1, q2⟩, fun hx g1 g2 o ad ps ws H locs lR hw hl hn hv1 hs => lv_tableOut hx.1 hx.2.1 hd (by omega) ht (q3 hx g1 g2 o ad ps ws H locs lR hw hl hn hv1 (fun w hw => hs w (List.mem_cons_of_mem _ hw)))⟩
  · cases e
def swL (x : CX) (pc : Nat) : List (Int × Int) → List (Int32 × Kn) → Prop
  | [], [] => True
  | (a, o) :: os, (v, k) :: cs => v.toInt = a ∧ (∃ tg : Nat, (pc : Int) + o = (tg : Int) ∧ SK x tg k) ∧ swL x pc os cs
  | _, _ => False
theorem swL_run {x : CX} {pc : Nat} {kd : Kn} {ls : PL} {st : List PV} {h : PH} {r : Rs} {z : Int32} {d : Int} {tgd : Nat} (hd : (pc : Int) + d = (tgd : Int)) (hkd : SK x tgd kd) : ∀ (os : List (Int × Int)) (cs : List (Int32 × Kn)), swL x pc os cs → swc cs kd z ls st h = some r →
    ∃ (tg : Nat) (k : Kn), (pc : Int) + Op.lookupswitch.offset os d z.toInt = (tg : Int) ∧ SK x tg k ∧ k ls st h = some r
  | [], [], _, e => ⟨tgd, kd, hd, hkd, e⟩
  | (a, o) :: os, (v, k) :: cs, ⟨hv, ⟨tg, ht, hk⟩, hr⟩, e => by
    simp only [swc] at e
    split at e
    · rename_i c
      subst c
      refine ⟨tg, k, ?_, hk, e⟩
      rw [Op.lookupswitch.offset_cons, if_pos (by rw [hv])]
      exact ht
    · rename_i c
      rw [lv_osw c hv]
      exact swL_run hd hkd os cs hr e
theorem s_lookup {dflt : Int} {prs : Array (Int × Int)} {len tg : Nat} {cs : List (Int32 × Kn)} (hd : decode (xcc x) pc = .ok (.lookupswitch dflt prs, len)) (hp : (prs.toList.zip (prs.toList.drop 1)).all (fun (a, next) => a.1 < next.1) = true) (ht : (pc : Int) + dflt = (tg : Int)) (hc : swL x pc prs.toList cs) (hk : SK x tg kf) : SK x pc (a_sw cs kf) := by
  intro ls st h r e
  unfold a_sw at e
  split at e
  · rename_i z st'
    obtain ⟨tg', k', e3, e4, e5⟩ := swL_run ht hk _ _ hc e
    obtain ⟨⟨q1, q2⟩, q3⟩ := e4 _ _ _ _ e5
    exact ⟨⟨q1, q2⟩, fun hx g1 g2 o ad ps ws H locs lR hw hl hn hv1 hs => lv_lookup hx.1 hx.2.1 hd hp rfl e3 (q3 hx g1 g2 o ad ps ws H locs lR hw hl hn hv1 (fun w hw => hs w (List.mem_cons_of_mem _ hw)))⟩
  · cases e
/-- a place where the walk is cut: the locals that are dead there are forgotten -/
theorem s_cut {m : List Bool} {K : PL → PH → Option Rs} (hm : m.length = xnL x) (hK : ∀ ls h r, K ls h = some r → WK x r pc ls [] h) : SK x pc (a_cut m K) := by
  intro ls st h r e
  unfold a_cut at e
  split at e
  · obtain ⟨⟨q1, q2⟩, q3⟩ := hK _ _ _ e
    exact ⟨⟨q1, q2⟩, fun hx g1 g2 o ad ps ws H locs lR hw hl hn hv1 hs => q3 hx g1 g2 o ad ps ws H locs lR hw ⟨hl.1, hl.2.1, fun q hq => hl.2.2 q (lvs_cln hq)⟩ (by rw [cln_len (by rw [hm, hn])]; exact hn) (cln_vl hv1) hs⟩
  · cases e
end SND
