/-! texts: the grammar -/
abbrev Tu : Type := Nat × Nat × Nat
abbrev Rz : Type := Bool × Tu × List Int32
/-- the level of a sign that joins; 9: it joins nothing -/
def lvK (k : Nat) : Nat := if k = 129 then 0 else if k = 43 then 1 else if k = 65 then 2 else if k = 66 then 2 else if k = 67 then 2 else if k = 48 then 3 else if k = 50 then 3 else if k = 47 then 4 else if k = 52 then 4 else 9
def scI (k : Nat) : Int32 := if k = 129 then -1 else if k = 43 then -2 else if k = 65 then -3 else if k = 66 then -4 else if k = 67 then -5 else if k = 48 then -6 else if k = 50 then -7 else if k = 47 then -8 else -9
def rkI (v : Int32) : Nat := if v = -1 then 1 else if v = -2 then 2 else if v < -5 then (if v < -7 then (if v < -9 then 6 else 5) else 4) else 3
theorem lvK_c {k : Nat} (h : lvK k ≤ 4) : k = 129 ∨ k = 43 ∨ k = 65 ∨ k = 66 ∨ k = 67 ∨ k = 48 ∨ k = 50 ∨ k = 47 ∨ k = 52 := by
  unfold lvK at h
  by_cases c1 : k = 129
  · omega
  by_cases c2 : k = 43
  · omega
  by_cases c3 : k = 65
  · omega
  by_cases c4 : k = 66
  · omega
  by_cases c5 : k = 67
  · omega
  by_cases c6 : k = 48
  · omega
  by_cases c7 : k = 50
  · omega
  by_cases c8 : k = 47
  · omega
  by_cases c9 : k = 52
  · omega
  rw [if_neg c1, if_neg c2, if_neg c3, if_neg c4, if_neg c5, if_neg c6, if_neg c7, if_neg c8, if_neg c9] at h
  omega
theorem sc_all {k : Nat} (h : lvK k ≤ 4) : isBin (scI k) ∧ rkI (scI k) = lvK k + 1 ∧ -(nI (k - 5)) = stepOf (scI k) ∧ ¬ (scI k = 0) ∧ (scI k).toInt < 0 := by
  rcases lvK_c h with rfl | rfl | rfl | rfl | rfl | rfl | rfl | rfl | rfl
  · exact ⟨Or.inl rfl, by decide⟩
  · exact ⟨Or.inr (Or.inl rfl), by decide⟩
  · exact ⟨Or.inr (Or.inr (Or.inl rfl)), by decide⟩
  · exact ⟨Or.inr (Or.inr (Or.inr (Or.inl rfl))), by decide⟩
  · exact ⟨Or.inr (Or.inr (Or.inr (Or.inr (Or.inl rfl)))), by decide⟩
  · exact ⟨Or.inr (Or.inr (Or.inr (Or.inr (Or.inr (Or.inl rfl))))), by decide⟩
  · exact ⟨Or.inr (Or.inr (Or.inr (Or.inr (Or.inr (Or.inr (Or.inl rfl)))))), by decide⟩
  · exact ⟨Or.inr (Or.inr (Or.inr (Or.inr (Or.inr (Or.inr (Or.inr (Or.inl rfl))))))), by decide⟩
  · exact ⟨Or.inr (Or.inr (Or.inr (Or.inr (Or.inr (Or.inr (Or.inr (Or.inr rfl))))))), by decide⟩
def lpF (nx : Tu → Tu) (sub : Tu → Rz) (l : Nat) : Nat → Tu → List Int32 → Rz
  | 0, u, E => (true, u, E)
  | k + 1, u, E => if lvK u.1 = l then (bif (sub (nx u)).1 then lpF nx sub l k (sub (nx u)).2.1 (scI u.1 :: ((sub (nx u)).2.2 ++ E)) else (false, (sub (nx u)).2.1, E)) else (true, u, E)
theorem lpF_s (nx : Tu → Tu) (sub : Tu → Rz) (l k : Nat) (u : Tu) (E : List Int32) : lpF nx sub l (k + 1) u E = if lvK u.1 = l then (bif (sub (nx u)).1 then lpF nx sub l k (sub (nx u)).2.1 (scI u.1 :: ((sub (nx u)).2.2 ++ E)) else (false, (sub (nx u)).2.1, E)) else (true, u, E) := rfl
def ctL (m : Nat) : Nat := if m = 2 then 1 else 96
def afN (r : Rz) : Rz := (r.1, r.2.1, (-10) :: r.2.2)
def afB (nx : Tu → Tu) (r : Rz) : Rz := if r.1 = true ∧ r.2.1.1 = 46 then (true, nx r.2.1, r.2.2) else (false, r.2.1, r.2.2)
def afL (nx : Tu → Tu) (sub : Tu → Rz) (m : Nat) (r : Rz) : Rz := bif r.1 then lpF nx sub m (ctL m) r.2.1 r.2.2 else r
/-- mode 0 to 5: the levels; 6: a piece -/
def psF (nx : Tu → Tu) (lf : Tu → Option Int32) : Nat → Nat → Tu → Nat → Nat → Rz
  | 0, _, u, _, _ => (false, u, [])
  | f + 1, m, u, o, n =>
    if m = 6 then
      match lf u with
      | some v => (true, nx u, [v])
      | none =>
        if u.1 = 38 ∧ n < 8 then afN (psF nx lf f 6 (nx u) o (n + 1))
        else if u.1 = 45 ∧ o < 8 then afB nx (psF nx lf f 0 (nx u) (o + 1) n)
        else (false, u, [])
    else if m = 5 then psF nx lf f 6 u o n
    else afL nx (fun w => psF nx lf f (m + 1) w o n) m (psF nx lf f (m + 1) u o n)
section
variable {nx : Tu → Tu} {lf : Tu → Option Int32}
theorem ps_six (f : Nat) (u : Tu) (o n : Nat) : psF nx lf (f + 1) 6 u o n = (match lf u with | some v => (true, nx u, [v]) | none => if u.1 = 38 ∧ n < 8 then afN (psF nx lf f 6 (nx u) o (n + 1)) else if u.1 = 45 ∧ o < 8 then afB nx (psF nx lf f 0 (nx u) (o + 1) n) else (false, u, [])) := rfl
theorem ps_leaf {f : Nat} {u : Tu} {o n : Nat} {v : Int32} (h : lf u = some v) : psF nx lf (f + 1) 6 u o n = (true, nx u, [v]) := by
  rw [ps_six, h]
theorem ps_none {f : Nat} {u : Tu} {o n : Nat} (h : lf u = none) : psF nx lf (f + 1) 6 u o n = if u.1 = 38 ∧ n < 8 then afN (psF nx lf f 6 (nx u) o (n + 1)) else if u.1 = 45 ∧ o < 8 then afB nx (psF nx lf f 0 (nx u) (o + 1) n) else (false, u, []) := by
  rw [ps_six, h]
theorem ps_five (f : Nat) (u : Tu) (o n : Nat) : psF nx lf (f + 1) 5 u o n = psF nx lf f 6 u o n := rfl
theorem ps_lev {f m : Nat} (hm : m < 5) (u : Tu) (o n : Nat) : psF nx lf (f + 1) m u o n = afL nx (fun w => psF nx lf f (m + 1) w o n) m (psF nx lf f (m + 1) u o n) := by
  show (if m = 6 then _ else if m = 5 then _ else _) = _
  rw [if_neg (by omega), if_neg (by omega)]
end
def ndF (m o n : Nat) : Nat := (if m = 6 then 1 else 7 - m) + (8 - n) + 8 * (8 - o)
theorem nd_6 (o n : Nat) : ndF 6 o n = 1 + (8 - n) + 8 * (8 - o) := rfl
theorem nd_l {m : Nat} (hm : m < 6) (o n : Nat) : ndF m o n = 7 - m + (8 - n) + 8 * (8 - o) := by
  unfold ndF
  rw [if_neg (by omega)]
def WfL : List Int32 → Nat → Prop
  | [], d => d = 0
  | v :: D, d => (0 ≤ v.toInt ∧ v.toInt < 10004 ∧ 1 ≤ d ∧ WfL D (d - 1)) ∨ (v = -10 ∧ 1 ≤ d ∧ WfL D d) ∨ (isBin v ∧ 1 ≤ d ∧ WfL D (d + 1))
theorem wf_leaf {v : Int32} {D : List Int32} {d : Nat} (h1 : 0 ≤ v.toInt) (h2 : v.toInt < 10004) (h : WfL D d) : WfL (v :: D) (d + 1) := Or.inl ⟨h1, h2, by omega, h⟩
theorem wf_not {D : List Int32} {d : Nat} (h : WfL D (d + 1)) : WfL (-10 :: D) (d + 1) := Or.inr (Or.inl ⟨rfl, by omega, h⟩)
theorem wf_bin {v : Int32} {D : List Int32} {d : Nat} (hv : isBin v) (h : WfL D (d + 1 + 1)) : WfL (v :: D) (d + 1) := Or.inr (Or.inr ⟨hv, by omega, h⟩)
/-- what a reading has given so far, from byte s on -/
def AcE (B : Int) (s : Nat) (u : Tu) (E : List Int32) : Prop := s < u.2.1 ∧ s + E.length ≤ u.2.1 ∧ (∀ v ∈ E, v.toInt < B) ∧ ∀ D d, WfL D d → WfL (E ++ D) (d + 1)
def exT (m : Nat) (u : Tu) : Prop := ∀ l, m ≤ l → l ≤ 4 → l ≠ 2 → ¬ lvK u.1 = l
theorem lp_ok {nx : Tu → Tu} {sub : Tu → Rz} {V : Tu → Prop} {L l s : Nat} {B : Int} (hB : 0 ≤ B) (hL : L ≤ 96) (hV : ∀ u, V u → okU L u) (hnx : ∀ u, V u → V (nx u) ∧ u.2.2 ≤ (nx u).2.1) (hl : l ≤ 4) (hs : ∀ w, V w → V (sub w).2.1 ∧ ((sub w).1 = true → AcE B w.2.1 (sub w).2.1 (sub w).2.2 ∧ exT (l + 1) (sub w).2.1)) : ∀ k u E, V u → (l ≠ 2 → 96 ≤ k + u.2.1) → AcE B s u E → exT (l + 1) u → V (lpF nx sub l k u E).2.1 ∧ ((lpF nx sub l k u E).1 = true → AcE B s (lpF nx sub l k u E).2.1 (lpF nx sub l k u E).2.2 ∧ exT l (lpF nx sub l k u E).2.1) := by
  intro k
  induction k with
  | zero =>
    intro u E v hk ac ex
    refine ⟨v, fun _ => ⟨ac, fun l' h1 h2 h3 h4 => ?_⟩⟩
    have h5 : lvK u.1 = l' := h4
    by_cases c : l' = l
    · subst c
      obtain ⟨-, o2, o3, o4, o5⟩ := hV u v
      have := hk h3
      have k0 : u.1 = 0 := by
        by_cases z : u.1 = 0
        · exact z
        · have := o5 z
          omega
      rw [k0] at h5
      have : lvK 0 = 9 := by decide
      omega
    · exact ex l' (by omega) h2 h3 h5
  | succ k ih =>
    intro u E v hk ac ex
    rw [lpF_s]
    by_cases c : lvK u.1 = l
    · rw [if_pos c]
      obtain ⟨v1, p1⟩ := hnx u v
      obtain ⟨v2, p2⟩ := hs (nx u) v1
      obtain ⟨-, o2, o3, o4, o5⟩ := hV u v
      have n0 : u.1 ≠ 0 := fun z => by
        rw [z] at c
        have : lvK 0 = 9 := by decide
        omega
      have := o5 n0
      cases d : (sub (nx u)).1 with
      | false => exact ⟨v2, fun z => by cases z⟩
      | true =>
        obtain ⟨⟨q1, q2, q3, q4⟩, q5⟩ := p2 d
        obtain ⟨r1, r2, r3, r4⟩ := ac
        obtain ⟨b1, -, -, -, b5⟩ := sc_all (k := u.1) (by omega)
        refine ih (sub (nx u)).2.1 (scI u.1 :: ((sub (nx u)).2.2 ++ E)) v2 (fun z => by have := hk z; omega) ⟨by omega, ?_, ?_, ?_⟩ q5
        · rw [List.length_cons, List.length_append]
          omega
        · intro w hw
          rcases List.mem_cons.mp hw with z | z
          · rw [z]
            omega
          · rcases List.mem_append.mp z with z | z
            · exact q3 w z
            · exact r3 w z
        · intro D d' hD
          show WfL (scI u.1 :: (((sub (nx u)).2.2 ++ E) ++ D)) (d' + 1)
          rw [List.append_assoc]
          exact wf_bin b1 (q4 _ _ (r4 D d' hD))
    · rw [if_neg c]
      refine ⟨v, fun _ => ⟨ac, fun l' h1 h2 h3 h4 => ?_⟩⟩
      by_cases c2 : l' = l
      · exact c (c2 ▸ h4)
      · exact ex l' (by omega) h2 h3 h4
theorem ps_ok {nx : Tu → Tu} {lf : Tu → Option Int32} {V : Tu → Prop} {L : Nat} {B : Int} (hB : 0 ≤ B) (hB4 : B ≤ 10004) (hL : L ≤ 96) (hV : ∀ u, V u → okU L u) (hnx : ∀ u, V u → V (nx u) ∧ u.2.2 ≤ (nx u).2.1) (hlf : ∀ u v, V u → lf u = some v → u.1 ≠ 0 ∧ 0 ≤ v.toInt ∧ v.toInt < B) : ∀ f m u o n, m ≤ 6 → V u → V (psF nx lf f m u o n).2.1 ∧ ((psF nx lf f m u o n).1 = true → AcE B u.2.1 (psF nx lf f m u o n).2.1 (psF nx lf f m u o n).2.2 ∧ exT m (psF nx lf f m u o n).2.1) := by
  intro f
  induction f with
  | zero => intro m u o n _ v; exact ⟨v, fun z => by cases z⟩
  | succ f ih =>
    intro m u o n hm v
    obtain ⟨v1, p1⟩ := hnx u v
    obtain ⟨-, o2, o3, o4, o5⟩ := hV u v
    have ex6 : ∀ w, exT 6 w := fun w l h1 h2 => by omega
    by_cases c6 : m = 6
    · subst c6
      cases e : lf u with
      | some x =>
        rw [ps_leaf e]
        obtain ⟨x0, x1, x2⟩ := hlf u x v e
        have := o5 x0
        refine ⟨v1, fun _ => ⟨⟨by show u.2.1 < (nx u).2.1; omega, by show u.2.1 + 1 ≤ (nx u).2.1; omega, fun w hw => ?_, fun D d hD => wf_leaf x1 (by omega) hD⟩, ex6 _⟩⟩
        rw [List.mem_singleton.mp hw]
        exact x2
      | none =>
        rw [ps_none e]
        by_cases c1 : u.1 = 38 ∧ n < 8
        · rw [if_pos c1]
          have := o5 (by omega)
          obtain ⟨w1, w2⟩ := ih 6 (nx u) o (n + 1) (by omega) v1
          refine ⟨w1, fun z => ?_⟩
          obtain ⟨⟨q1, q2, q3, q4⟩, q5⟩ := w2 z
          refine ⟨⟨?_, ?_, ?_, ?_⟩, ex6 _⟩
          · show u.2.1 < (psF nx lf f 6 (nx u) o (n + 1)).2.1.2.1
            omega
          · show u.2.1 + ((-10 : Int32) :: (psF nx lf f 6 (nx u) o (n + 1)).2.2).length ≤ (psF nx lf f 6 (nx u) o (n + 1)).2.1.2.1
            rw [List.length_cons]
            omega
          · intro w hw
            rcases List.mem_cons.mp hw with z | z
            · rw [z]
              have : (-10 : Int32).toInt = -10 := by decide
              omega
            · exact q3 w z
          · intro D d hD
            exact wf_not (q4 D d hD)
        · rw [if_neg c1]
          by_cases c2 : u.1 = 45 ∧ o < 8
          · rw [if_pos c2]
            have := o5 (by omega)
            obtain ⟨w1, w2⟩ := ih 0 (nx u) (o + 1) n (by omega) v1
            unfold afB
            by_cases c3 : (psF nx lf f 0 (nx u) (o + 1) n).1 = true ∧ (psF nx lf f 0 (nx u) (o + 1) n).2.1.1 = 46
            · rw [if_pos c3]
              obtain ⟨v3, p3⟩ := hnx _ w1
              obtain ⟨-, o2', o3', o4', o5'⟩ := hV _ w1
              obtain ⟨⟨q1, q2, q3, q4⟩, q5⟩ := w2 c3.1
              refine ⟨v3, fun _ => ⟨⟨?_, ?_, q3, q4⟩, ex6 _⟩⟩
              · show u.2.1 < (nx (psF nx lf f 0 (nx u) (o + 1) n).2.1).2.1
                omega
              · show u.2.1 + (psF nx lf f 0 (nx u) (o + 1) n).2.2.length ≤ (nx (psF nx lf f 0 (nx u) (o + 1) n).2.1).2.1
                omega
            · rw [if_neg c3]
              exact ⟨w1, fun z => by cases z⟩
          · rw [if_neg c2]
            exact ⟨v, fun z => by cases z⟩
    · by_cases c5 : m = 5
      · subst c5
        rw [ps_five]
        obtain ⟨w1, w2⟩ := ih 6 u o n (by omega) v
        exact ⟨w1, fun z => ⟨(w2 z).1, fun l h1 h2 => by omega⟩⟩
      · rw [ps_lev (by omega)]
        obtain ⟨w1, w2⟩ := ih (m + 1) u o n (by omega) v
        unfold afL
        cases c : (psF nx lf f (m + 1) u o n).1 with
        | false =>
          rw [cond_false]
          exact ⟨w1, fun z => by rw [c] at z; cases z⟩
        | true =>
          obtain ⟨q1, q2⟩ := w2 c
          rw [cond_true]
          exact lp_ok hB hL hV hnx (by omega) (fun w hw => ih (m + 1) w o n (by omega) hw) (ctL m) _ _ w1 (fun z => by unfold ctL; rw [if_neg z]; omega) q1 q2
