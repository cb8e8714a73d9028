/-! the glue of generated blocks: values out of locals, frames of which less is known -/
def gI (ls : PL) (n : Nat) (f : Int32 → Option Rs) : Option Rs := match lk ls n with
  | some (.inl x) => f x
  | _ => none
def gR (kd : Nat) (ls : PL) (n : Nat) (f : Nat → Option Rs) : Option Rs := match lk ls n with
  | some (.inr (q, r)) => bif Nat.beq q kd then f r else none
  | _ => none
def gT (kd : Nat) (ls : PL) (n : Nat) (f : Nat → Option Rs) : Option Rs := gR kd ls n (fun r => nn r f)
def gL (m : Nat) (st : List PV) (f : Option Rs) : Option Rs := bif Nat.beq st.length m then f else none
def a_bad : Kn := fun _ _ _ => none
theorem s_bad {x : CX} {pc : Nat} : SK x pc a_bad := fun _ _ _ _ e => by cases e
theorem gI_of {ls : PL} {n : Nat} {f : Int32 → Option Rs} {r : Rs} (e : gI ls n f = some r) : ∃ y, lk ls n = some (.inl y) ∧ f y = some r := by
  unfold gI at e
  split at e
  · rename_i y hy
    exact ⟨y, hy, e⟩
  · cases e
theorem gR_of {kd : Nat} {ls : PL} {n : Nat} {f : Nat → Option Rs} {r : Rs} (e : gR kd ls n f = some r) : ∃ y, lk ls n = some (.inr (kd, y)) ∧ f y = some r := by
  unfold gR at e
  split at e
  · rename_i q y hy
    obtain ⟨rfl, e1⟩ := beq_lit rfl e
    exact ⟨y, hy, e1⟩
  · cases e
theorem gT_of {kd : Nat} {ls : PL} {n : Nat} {f : Nat → Option Rs} {r : Rs} (e : gT kd ls n f = some r) : ∃ y, lk ls n = some (.inr (kd, y + 1)) ∧ f y = some r := by
  obtain ⟨y, h1, h2⟩ := gR_of e
  obtain ⟨i, rfl, h3⟩ := nn_of h2
  exact ⟨i, h1, h3⟩
theorem gL_of {m : Nat} {st : List PV} {f : Option Rs} {r : Rs} (e : gL m st f = some r) : st.length = m ∧ f = some r := by
  unfold gL at e
  obtain ⟨h1, h2⟩ := beq_lit rfl e
  exact ⟨h1, h2⟩
/-- a frame of which the values of canon are known -/
def subF (ls : PL) : Nat → PL → Prop
  | _, [] => True
  | i, none :: t => subF ls (i + 1) t
  | i, some v :: t => lk ls i = some v ∧ subF ls (i + 1) t
theorem subF_lk {ls : PL} : ∀ {canon : PL} {i n : Nat} {v : PV}, subF ls i canon → lk canon n = some v → lk ls (i + n) = some v
  | [], _, _, _, _, h => by simp [lk] at h
  | none :: t, i, 0, v, _, h => by simp [lk] at h
  | some w :: t, i, 0, v, hs, h => by
    simp only [lk, Option.some.injEq] at h
    subst h
    exact hs.1
  | none :: t, i, n + 1, v, hs, h => by
    simp only [lk] at h
    have := subF_lk (i := i + 1) hs h
    rwa [show i + (n + 1) = i + 1 + n by omega]
  | some w :: t, i, n + 1, v, hs, h => by
    simp only [lk] at h
    have := subF_lk (i := i + 1) hs.2 h
    rwa [show i + (n + 1) = i + 1 + n by omega]
theorem lvs_lk {ad : Nat → Nat → Nat} : ∀ {ls : PL} {i : Nat} {q : Nat × Value}, q ∈ lvs ad i ls → ∃ (n : Nat) (v : PV), lk ls n = some v ∧ q = (i + n, rv ad v)
  | [], _, _, h => by simp [lvs] at h
  | none :: t, i, q, h => by
    simp only [lvs] at h
    obtain ⟨n, v, h1, h2⟩ := lvs_lk h
    exact ⟨n + 1, v, h1, by rw [h2]; congr 1; omega⟩
  | some w :: t, i, q, h => by
    simp only [lvs, List.mem_cons] at h
    rcases h with h | h
    · exact ⟨0, w, rfl, h⟩
    · obtain ⟨n, v, h1, h2⟩ := lvs_lk h
      exact ⟨n + 1, v, h1, by rw [h2]; congr 1; omega⟩
theorem vl_lk {h : PH} : ∀ {ls : PL}, (∀ n v, lk ls n = some v → vv h v) → ∀ v ∈ ls, vl h v
  | [], _, v, hv => by cases hv
  | a :: t, hl, v, hv => by
    rcases List.mem_cons.mp hv with rfl | hv
    · intro w hw
      exact hl 0 w hw
    · exact vl_lk (fun n w hw => hl (n + 1) w hw) v hv
theorem WK.sub {x : CX} {r : Rs} {pc : Nat} {ls canon : PL} {st : List PV} {h : PH} (hlen : canon.length = xnL x) (hs : subF ls 0 canon) (hw : WK x r pc canon st h) : WK x r pc ls st h := by
  have up : ∀ n v, lk canon n = some v → lk ls n = some v := fun n v hv => by
    have := subF_lk hs hv
    rwa [Nat.zero_add] at this
  refine ⟨hw.1, fun hx g1 g2 o ad ps ws H locs lR hW hl hn hv1 hs1 => hw.2 hx g1 g2 o ad ps ws H locs lR hW ⟨hl.1, hl.2.1, fun q hq => ?_⟩ hlen (vl_lk fun n v hv => lk_vl hv1 (up n v hv)) hs1⟩
  obtain ⟨n, v, h1, h2⟩ := lvs_lk hq
  have := lvs_in (ad := ad) (i := 0) (up n v h1)
  rw [h2]
  exact hl.2.2 _ this
theorem st_1 {st : List PV} {v : PV} (h : st.length = 1) (h0 : lk (st.map some) 0 = some v) : st = [v] := by
  match st, h with
  | [a], _ => simp [lk] at h0; rw [h0]
theorem st_0 {st : List PV} (h : st.length = 0) : st = [] := List.eq_nil_of_length_eq_zero h
theorem st_2 {st : List PV} {v w : PV} (h : st.length = 2) (h0 : lk (st.map some) 0 = some v) (h1 : lk (st.map some) 1 = some w) : st = [v, w] := by
  match st, h with
  | [a, b], _ => simp [lk] at h0 h1; rw [h0, h1]
theorem st_3 {st : List PV} {v w u : PV} (h : st.length = 3) (h0 : lk (st.map some) 0 = some v) (h1 : lk (st.map some) 1 = some w) (h2 : lk (st.map some) 2 = some u) : st = [v, w, u] := by
  match st, h with
  | [a, b, c], _ => simp [lk] at h0 h1 h2; rw [h0, h1, h2]
theorem st_4 {st : List PV} {v w u t : PV} (h : st.length = 4) (h0 : lk (st.map some) 0 = some v) (h1 : lk (st.map some) 1 = some w) (h2 : lk (st.map some) 2 = some u) (h3 : lk (st.map some) 3 = some t) : st = [v, w, u, t] := by
  match st, h with
  | [a, b, c, d], _ => simp [lk] at h0 h1 h2 h3; rw [h0, h1, h2, h3]
theorem st_5 {st : List PV} {v w u t s : PV} (h : st.length = 5) (h0 : lk (st.map some) 0 = some v) (h1 : lk (st.map some) 1 = some w) (h2 : lk (st.map some) 2 = some u) (h3 : lk (st.map some) 3 = some t) (h4 : lk (st.map some) 4 = some s) : st = [v, w, u, t, s] := by
  match st, h with
  | [a, b, c, d, e], _ => simp [lk] at h0 h1 h2 h3 h4; rw [h0, h1, h2, h3, h4]
theorem st_6 {st : List PV} {v w u t s z : PV} (h : st.length = 6) (h0 : lk (st.map some) 0 = some v) (h1 : lk (st.map some) 1 = some w) (h2 : lk (st.map some) 2 = some u) (h3 : lk (st.map some) 3 = some t) (h4 : lk (st.map some) 4 = some s) (h5 : lk (st.map some) 5 = some z) : st = [v, w, u, t, s, z] := by
  match st, h with
  | [a, b, c, d, e, f], _ => simp [lk] at h0 h1 h2 h3 h4 h5; rw [h0, h1, h2, h3, h4, h5]
/-! nothing is lost when what comes behind knows more -/
def Mo {α : Type} (A B : Option α) : Prop := ∀ r, A = some r → B = some r
theorem mo_rf {α : Type} {A : Option α} : Mo A A := fun _ h => h
theorem mo_no {α : Type} {B : Option α} : Mo none B := fun _ h => by cases h
theorem mo_nn {r : Nat} {f g : Nat → Option Rs} (h : ∀ i, Mo (f i) (g i)) : Mo (nn r f) (nn r g) := by cases r with
  | zero => exact mo_rf
  | succ i => exact h i
theorem mo_ix {y : Int32} {n : Nat} {f g : Nat → Option Rs} (h : ∀ i, Mo (f i) (g i)) : Mo (ix y n f) (ix y n g) := by
  unfold ix
  split
  · exact mo_rf
  · exact h _
theorem mo_dv {y : Int32} {f g : Option Rs} (h : Mo f g) : Mo (dv y f) (dv y g) := by
  unfold dv
  split
  · exact mo_rf
  · exact h
theorem mo_bz {y : Int32} {f g : Option Rs} (h : Mo f g) : Mo (bz y f) (bz y g) := by
  unfold bz
  split
  · exact h
  · exact mo_rf
theorem mo_nl {y : Int32} {f g : Nat → Option Rs} (h : ∀ i, Mo (f i) (g i)) : Mo (nl y f) (nl y g) := by
  unfold nl
  split
  · exact mo_rf
  · exact h _
theorem mo_if {c : Prop} [Decidable c] {a b a' b' : Option Rs} (h1 : Mo a a') (h2 : Mo b b') : Mo (if c then a else b) (if c then a' else b') := by
  split
  · exact h1
  · exact h2
theorem mo_cI {o : Option Rs} {f g : Int32 → PH → Option Rs} (h : ∀ v q, Mo (f v q) (g v q)) : Mo (cI o f) (cI o g) := by
  unfold cI
  split
  · exact h _ _
  · exact mo_rf
theorem mo_cR {kt : Nat} {o : Option Rs} {f g : Nat → PH → Option Rs} (h : ∀ v q, Mo (f v q) (g v q)) : Mo (cR kt o f) (cR kt o g) := by
  unfold cR
  split
  · cases Nat.beq _ kt
    · exact mo_rf
    · exact h _ _
  · exact mo_rf
theorem mo_cV {o : Option Rs} {f g : PH → Option Rs} (h : ∀ q, Mo (f q) (g q)) : Mo (cV o f) (cV o g) := by
  unfold cV
  split
  · exact h _
  · exact mo_rf
theorem mo_cpk {n0 n1 : Nat} {sp dp n : Int32} {f g : Option Rs} (h : Mo f g) : Mo (cpk n0 n1 sp dp n f) (cpk n0 n1 sp dp n g) := by
  unfold cpk
  split
  · exact mo_rf
  · exact h
theorem lim_iff {f : Nat → Option Rs} (hm : ∀ n, Mo (f n) (f (n + 1))) {r : Rs} : lim f = some r ↔ ∃ n, f n = some r := ⟨lim_of, fun ⟨_, h⟩ => lim_mono (fun n r => hm n r) h⟩
