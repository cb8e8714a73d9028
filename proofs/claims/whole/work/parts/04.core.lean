/-! the pure machine: values, heap, frames. A value: an int, or a reference (kind, r): r = 0 is null, r = i + 1 is the i-th cell of that kind -/
abbrev PV : Type := Int32 ⊕ (Nat × Nat)
/-- ints by column, cell, place; references likewise; lengths by kind, cell; how many cells of a kind; cells and slots made -/
abbrev PH : Type := (Nat → Nat → Nat → Int32) × (Nat → Nat → Nat → Nat) × (Nat → Nat → Nat) × (Nat → Nat) × Nat × Nat
def hI (h : PH) : Nat → Nat → Nat → Int32 := h.1
def hR (h : PH) : Nat → Nat → Nat → Nat := h.2.1
def hL (h : PH) : Nat → Nat → Nat := h.2.2.1
def hN (h : PH) : Nat → Nat := h.2.2.2.1
def hC (h : PH) : Nat := h.2.2.2.2.1
def hS (h : PH) : Nat := h.2.2.2.2.2
def pI (h : PH) (c i j : Nat) (v : Int32) : PH := (fun c' i' j' => if c' = c ∧ i' = i ∧ j' = j then v else hI h c' i' j', h.2)
def pR (h : PH) (c i j : Nat) (v : Nat) : PH := (h.1, fun c' i' j' => if c' = c ∧ i' = i ∧ j' = j then v else hR h c' i' j', h.2.2)
/-- a new cell of a kind, all its columns 0 -/
def nw (h : PH) (k len sl : Nat) : PH := (fun c i j => if c / 64 = k ∧ i = hN h k then 0 else hI h c i j, fun c i j => if c / 64 = k ∧ i = hN h k then 0 else hR h c i j, fun q i => if q = k ∧ i = hN h k then len else hL h q i, fun q => if q = k then hN h k + 1 else hN h q, hC h + 1, hS h + sl)
/-- places dp .. dp + n of cell i of column c become those of column c0, cell i0 from sp on -/
def pCp (h : PH) (c0 i0 sp c i dp n : Nat) : PH := (fun c' i' j' => if c' = c ∧ i' = i ∧ dp ≤ j' ∧ j' < dp + n then hI h c0 i0 (sp + (j' - dp)) else hI h c' i' j', h.2)
/-- new int[n][m]: kind k over kind k2 -/
def nwM (h : PH) (k k2 n m : Nat) : PH := (fun c i j => if (c / 64 = k ∧ i = hN h k) ∨ (c / 64 = k2 ∧ hN h k2 ≤ i ∧ i < hN h k2 + n) then 0 else hI h c i j, fun c i j => if c / 64 = k ∧ i = hN h k then (if j < n then hN h k2 + j + 1 else 0) else if c / 64 = k2 ∧ hN h k2 ≤ i ∧ i < hN h k2 + n then 0 else hR h c i j, fun q i => if q = k ∧ i = hN h k then n else if q = k2 ∧ hN h k2 ≤ i ∧ i < hN h k2 + n then m else hL h q i, fun q => if q = k then hN h k + 1 else if q = k2 then hN h k2 + n else hN h q, hC h + 1 + n, hS h + n + n * m)
abbrev Rs : Type := Option PV × PH
abbrev PL : Type := List (Option PV)
abbrev Kn : Type := PL → List PV → PH → Option Rs
def nn (r : Nat) (f : Nat → Option Rs) : Option Rs := match r with
  | 0 => none
  | i + 1 => f i
def ix (x : Int32) (n : Nat) (f : Nat → Option Rs) : Option Rs := if x < 0 ∨ n ≤ x.toNatClampNeg then none else f x.toNatClampNeg
def dv (y : Int32) (f : Option Rs) : Option Rs := if y = 0 then none else f
def bz (y : Int32) (f : Option Rs) : Option Rs := if y = 0 ∨ y = 1 then f else none
def nl (x : Int32) (f : Nat → Option Rs) : Option Rs := if x < 0 ∨ 65536 ≤ x.toNatClampNeg then none else f x.toNatClampNeg
def jrem (x y : Int32) : Int32 := x - x / y * y
def jshl (x y : Int32) : Int32 := x <<< (y &&& 31)
def jshr (x y : Int32) : Int32 := x >>> (y &&& 31)
def jushr (x y : Int32) : Int32 := (x.toUInt32 >>> (y.toUInt32 &&& Int32.toUInt32 31)).toInt32
def jb (x : Int32) : Int32 := x.toInt8.toInt32
def js (x : Int32) : Int32 := x.toInt16.toInt32
def jc (x : Int32) : Int32 := (x.toUInt32 % 65536).toInt32
def cI (o : Option Rs) (f : Int32 → PH → Option Rs) : Option Rs := match o with
  | some (some (.inl v), h) => f v h
  | _ => none
def cR (kt : Nat) (o : Option Rs) (f : Nat → PH → Option Rs) : Option Rs := match o with
  | some (some (.inr (q, r)), h) => bif Nat.beq q kt then f r h else none
  | _ => none
def cV (o : Option Rs) (f : PH → Option Rs) : Option Rs := match o with
  | some (none, h) => f h
  | _ => none
def lk : PL → Nat → Option PV
  | [], _ => none
  | a :: _, 0 => a
  | _ :: l, n + 1 => lk l n
def stl : PL → Nat → PV → PL
  | [], _, _ => []
  | _ :: l, 0, v => some v :: l
  | a :: l, n + 1, v => a :: stl l n v
def cln : List Bool → PL → PL
  | true :: m, a :: l => a :: cln m l
  | false :: m, _ :: l => none :: cln m l
  | _, _ => []
def popn : Nat → List PV → List PV → List PV
  | 0, acc, _ => acc
  | n + 1, acc, v :: st => popn n (v :: acc) st
  | _ + 1, _, [] => []
/-! the instructions, each with what comes behind it -/
def a_ic (v : Int32) (k : Kn) : Kn := fun ls st h => k ls (.inl v :: st) h
def a_nul (kd : Nat) (k : Kn) : Kn := fun ls st h => k ls (.inr (kd, 0) :: st) h
def a_il (n : Nat) (k : Kn) : Kn := fun ls st h => match lk ls n with
  | some (.inl x) => k ls (.inl x :: st) h
  | _ => none
def a_al (n : Nat) (k : Kn) : Kn := fun ls st h => match lk ls n with
  | some (.inr q) => k ls (.inr q :: st) h
  | _ => none
def a_is (n : Nat) (k : Kn) : Kn := fun ls st h => match st with
  | .inl x :: r => k (stl ls n (.inl x)) r h
  | _ => none
def a_as (n : Nat) (k : Kn) : Kn := fun ls st h => match st with
  | .inr q :: r => k (stl ls n (.inr q)) r h
  | _ => none
def a_inc (n : Nat) (d : Int32) (k : Kn) : Kn := fun ls st h => match lk ls n with
  | some (.inl x) => k (stl ls n (.inl (x + d))) st h
  | _ => none
def a_b (f : Int32 → Int32 → Int32) (k : Kn) : Kn := fun ls st h => match st with
  | .inl y :: .inl x :: r => k ls (.inl (f x y) :: r) h
  | _ => none
def a_u (f : Int32 → Int32) (k : Kn) : Kn := fun ls st h => match st with
  | .inl x :: r => k ls (.inl (f x) :: r) h
  | _ => none
def a_div (k : Kn) : Kn := fun ls st h => match st with
  | .inl y :: .inl x :: r => dv y (k ls (.inl (x / y) :: r) h)
  | _ => none
def a_rem (k : Kn) : Kn := fun ls st h => match st with
  | .inl y :: .inl x :: r => dv y (k ls (.inl (jrem x y) :: r) h)
  | _ => none
def a_dup (k : Kn) : Kn := fun ls st h => match st with
  | v :: r => k ls (v :: v :: r) h
  | _ => none
def a_dup2 (k : Kn) : Kn := fun ls st h => match st with
  | v :: w :: r => k ls (v :: w :: v :: w :: r) h
  | _ => none
def a_dupx1 (k : Kn) : Kn := fun ls st h => match st with
  | v :: w :: r => k ls (v :: w :: v :: r) h
  | _ => none
def a_pop (k : Kn) : Kn := fun ls st h => match st with
  | _ :: r => k ls r h
  | _ => none
/-- x = 0: kt, else kf -/
def a_z (kt kf : Kn) : Kn := fun ls st h => match st with
  | .inl x :: r => if x = 0 then kt ls r h else kf ls r h
  | _ => none
/-- x < 0 -/
def a_n (kt kf : Kn) : Kn := fun ls st h => match st with
  | .inl x :: r => if x < 0 then kt ls r h else kf ls r h
  | _ => none
/-- 0 < x -/
def a_p (kt kf : Kn) : Kn := fun ls st h => match st with
  | .inl x :: r => if 0 < x then kt ls r h else kf ls r h
  | _ => none
def a_eq (kt kf : Kn) : Kn := fun ls st h => match st with
  | .inl y :: .inl x :: r => if x = y then kt ls r h else kf ls r h
  | _ => none
def a_lt (kt kf : Kn) : Kn := fun ls st h => match st with
  | .inl y :: .inl x :: r => if x < y then kt ls r h else kf ls r h
  | _ => none
def a_gt (kt kf : Kn) : Kn := fun ls st h => match st with
  | .inl y :: .inl x :: r => if y < x then kt ls r h else kf ls r h
  | _ => none
def a_nu (kt kf : Kn) : Kn := fun ls st h => match st with
  | .inr (_, q) :: r => if q = 0 then kt ls r h else kf ls r h
  | _ => none
def swc (cs : List (Int32 × Kn)) (kd : Kn) (x : Int32) (ls : PL) (st : List PV) (h : PH) : Option Rs := match cs with
  | [] => kd ls st h
  | (v, k) :: t => if x = v then k ls st h else swc t kd x ls st h
def a_sw (cs : List (Int32 × Kn)) (kd : Kn) : Kn := fun ls st h => match st with
  | .inl x :: r => swc cs kd x ls r h
  | _ => none
def a_gI (kd c : Nat) (k : Kn) : Kn := fun ls st h => match st with
  | .inr (q, r) :: s => bif Nat.beq q kd then nn r (fun i => k ls (.inl (hI h c i 0) :: s) h) else none
  | _ => none
def a_gR (kd c kt : Nat) (k : Kn) : Kn := fun ls st h => match st with
  | .inr (q, r) :: s => bif Nat.beq q kd then nn r (fun i => k ls (.inr (kt, hR h c i 0) :: s) h) else none
  | _ => none
def a_pI (kd c : Nat) (k : Kn) : Kn := fun ls st h => match st with
  | .inl v :: .inr (q, r) :: s => bif Nat.beq q kd then nn r (fun i => k ls s (pI h c i 0 v)) else none
  | _ => none
def a_pZ (kd c : Nat) (k : Kn) : Kn := fun ls st h => match st with
  | .inl v :: .inr (q, r) :: s => bif Nat.beq q kd then nn r (fun i => bz v (k ls s (pI h c i 0 v))) else none
  | _ => none
def a_pR (kd c kt : Nat) (k : Kn) : Kn := fun ls st h => match st with
  | .inr (q', v) :: .inr (q, r) :: s => bif Nat.beq q kd && Nat.beq q' kt then nn r (fun i => k ls s (pR h c i 0 v)) else none
  | _ => none
def a_ald (kd c : Nat) (k : Kn) : Kn := fun ls st h => match st with
  | .inl x :: .inr (q, r) :: s => bif Nat.beq q kd then nn r (fun i => ix x (hL h kd i) (fun j => k ls (.inl (hI h c i j) :: s) h)) else none
  | _ => none
def a_rald (kd c kt : Nat) (k : Kn) : Kn := fun ls st h => match st with
  | .inl x :: .inr (q, r) :: s => bif Nat.beq q kd then nn r (fun i => ix x (hL h kd i) (fun j => k ls (.inr (kt, hR h c i j) :: s) h)) else none
  | _ => none
def a_ast (kd c : Nat) (nar : Int32 → Int32) (k : Kn) : Kn := fun ls st h => match st with
  | .inl v :: .inl x :: .inr (q, r) :: s => bif Nat.beq q kd then nn r (fun i => ix x (hL h kd i) (fun j => k ls s (pI h c i j (nar v)))) else none
  | _ => none
def a_rast (kd c kt : Nat) (k : Kn) : Kn := fun ls st h => match st with
  | .inr (q', v) :: .inl x :: .inr (q, r) :: s => bif Nat.beq q kd && Nat.beq q' kt then nn r (fun i => ix x (hL h kd i) (fun j => k ls s (pR h c i j v))) else none
  | _ => none
def a_len (kd : Nat) (k : Kn) : Kn := fun ls st h => match st with
  | .inr (q, r) :: s => bif Nat.beq q kd then nn r (fun i => k ls (.inl (Int32.ofNat (hL h kd i)) :: s) h) else none
  | _ => none
def a_new (kd nf : Nat) (k : Kn) : Kn := fun ls st h => k ls (.inr (kd, hN h kd + 1) :: st) (nw h kd 0 nf)
def a_nwa (kd : Nat) (k : Kn) : Kn := fun ls st h => match st with
  | .inl x :: s => nl x (fun n => k ls (.inr (kd, hN h kd + 1) :: s) (nw h kd n n))
  | _ => none
def a_mna (kd k2 : Nat) (k : Kn) : Kn := fun ls st h => match st with
  | .inl y :: .inl x :: s => nl x (fun n => nl y (fun m => k ls (.inr (kd, hN h kd + 1) :: s) (nwM h kd k2 n m)))
  | _ => none
def ok8 (n : Nat) (st : List PV) : Bool := Nat.ble n st.length && Nat.ble st.length (n + 8)
def a_oi (k : Kn) : Kn := fun ls st h => bif ok8 1 st then (match st with
  | .inr (_, r) :: s => nn r (fun _ => k ls s h)
  | _ => none) else none
/-- System.arraycopy of ints (kinds kd0, kd with columns c0, c) -/
def cpk (n0 n1 : Nat) (sp dp n : Int32) (f : Option Rs) : Option Rs := if sp < 0 ∨ dp < 0 ∨ n < 0 ∨ n0 < sp.toNatClampNeg + n.toNatClampNeg ∨ n1 < dp.toNatClampNeg + n.toNatClampNeg then none else f
def a_cp (kd0 c0 kd c : Nat) (k : Kn) : Kn := fun ls st h => bif ok8 5 st then (match st with
  | .inl n :: .inl dp :: .inr (q, r) :: .inl sp :: .inr (q0, r0) :: s => bif Nat.beq q0 kd0 && Nat.beq q kd then nn r0 (fun i0 => nn r (fun i => cpk (hL h kd0 i0) (hL h kd i) sp dp n (k ls s (pCp h c0 i0 sp.toNatClampNeg c i dp.toNatClampNeg n.toNatClampNeg)))) else none
  | _ => none) else none
def a_min (k : Kn) : Kn := fun ls st h => bif ok8 2 st then (match st with
  | .inl y :: .inl x :: s => k ls (.inl (if y < x then y else x) :: s) h
  | _ => none) else none
/-- calls: F the callee, n arguments (behind the receiver, where one is) -/
def a_sI (n : Nat) (F : List PV → PH → Option Rs) (k : Kn) : Kn := fun ls st h => bif ok8 n st then cI (F (popn n [] st) h) (fun v h' => k ls (.inl v :: st.drop n) h') else none
def a_sR (kt n : Nat) (F : List PV → PH → Option Rs) (k : Kn) : Kn := fun ls st h => bif ok8 n st then cR kt (F (popn n [] st) h) (fun v h' => k ls (.inr (kt, v) :: st.drop n) h') else none
def a_sV (n : Nat) (F : List PV → PH → Option Rs) (k : Kn) : Kn := fun ls st h => bif ok8 n st then cV (F (popn n [] st) h) (fun h' => k ls (st.drop n) h') else none
def rcv (kd : Nat) (as : List PV) (f : List PV → Option Rs) : Option Rs := match as with
  | .inr (q, r) :: t => bif Nat.beq q kd then nn r (fun i => f (.inr (kd, i + 1) :: t)) else none
  | _ => none
def a_vI (kd n : Nat) (F : List PV → PH → Option Rs) (k : Kn) : Kn := fun ls st h => bif ok8 (n + 1) st then rcv kd (popn (n + 1) [] st) (fun as => cI (F as h) (fun v h' => k ls (.inl v :: st.drop (n + 1)) h')) else none
def a_vR (kd kt n : Nat) (F : List PV → PH → Option Rs) (k : Kn) : Kn := fun ls st h => bif ok8 (n + 1) st then rcv kd (popn (n + 1) [] st) (fun as => cR kt (F as h) (fun v h' => k ls (.inr (kt, v) :: st.drop (n + 1)) h')) else none
def a_vV (kd n : Nat) (F : List PV → PH → Option Rs) (k : Kn) : Kn := fun ls st h => bif ok8 (n + 1) st then rcv kd (popn (n + 1) [] st) (fun as => cV (F as h) (fun h' => k ls (st.drop (n + 1)) h')) else none
def a_ir : Kn := fun _ st h => match st with
  | [.inl x] => some (some (.inl x), h)
  | _ => none
def a_zr : Kn := fun _ st h => match st with
  | [.inl x] => bz x (some (some (.inl x), h))
  | _ => none
def a_ar : Kn := fun _ st h => match st with
  | [.inr q] => some (some (.inr q), h)
  | _ => none
def a_vr : Kn := fun _ st h => match st with
  | [] => some (none, h)
  | _ => none
def a_cut (m : List Bool) (K : PL → PH → Option Rs) : Kn := fun ls st h => match st with
  | [] => K (cln m ls) h
  | _ => none
/-- what a row of more and more steps comes to, if it comes to something -/
noncomputable def lim (f : Nat → Option Rs) : Option Rs := by
  classical exact if h : ∃ n r, f n = some r then f h.choose else none
theorem lim_of {f : Nat → Option Rs} {r : Rs} (h : lim f = some r) : ∃ n, f n = some r := by
  unfold lim at h
  split at h
  · rename_i q
    exact ⟨_, h⟩
  · cases h
theorem lim_mono {f : Nat → Option Rs} (hm : ∀ n r, f n = some r → f (n + 1) = some r) {n : Nat} {r : Rs} (h : f n = some r) : lim f = some r := by
  have up : ∀ (d a : Nat) (z : Rs), f a = some z → f (a + d) = some z := by
    intro d
    induction d with
    | zero => exact fun a z q => q
    | succ d ih => exact fun a z q => hm _ _ (ih a z q)
  unfold lim
  have hex : ∃ n r, f n = some r := ⟨n, r, h⟩
  rw [dif_pos hex]
  obtain ⟨r', hr'⟩ := hex.choose_spec
  rw [hr']
  have e1 := up n hex.choose r' hr'
  have e2 := up hex.choose n r h
  rw [Nat.add_comm] at e1
  rw [e1] at e2
  exact e2

/-! the layout: of each kind -/
def nf (k : Nat) : Nat := match k with
  | 0 => 3
  | 1 => 17
  | 2 => 12
  | 3 => 4
  | 4 => 3
  | 5 => 7
  | 6 => 5
  | 7 => 4
  | 8 => 16
  | 9 => 6
  | 10 => 10
  | 11 => 51
  | _ => 0
def fk (k j : Nat) : Option Nat := match k, j with
  | 0, 0 => some 12
  | 1, 0 => some 14
  | 1, 1 => some 15
  | 1, 2 => some 16
  | 1, 3 => some 17
  | 1, 4 => some 18
  | 1, 5 => some 19
  | 1, 6 => some 20
  | 1, 7 => some 21
  | 2, 0 => some 22
  | 2, 7 => some 23
  | 3, 1 => some 1
  | 3, 2 => some 24
  | 3, 3 => some 25
  | 4, 2 => some 26
  | 5, 5 => some 27
  | 5, 6 => some 28
  | 6, 4 => some 4
  | 7, 2 => some 29
  | 7, 3 => some 30
  | 8, 0 => some 3
  | 8, 1 => some 1
  | 8, 2 => some 31
  | 8, 5 => some 32
  | 8, 6 => some 33
  | 8, 7 => some 34
  | 8, 8 => some 35
  | 8, 10 => some 36
  | 10, 0 => some 1
  | 10, 1 => some 1
  | 10, 3 => some 37
  | 10, 4 => some 0
  | 10, 5 => some 2
  | 10, 6 => some 38
  | 10, 7 => some 39
  | 10, 8 => some 40
  | 11, 0 => some 41
  | 11, 1 => some 42
  | 11, 2 => some 43
  | 11, 4 => some 44
  | 11, 6 => some 45
  | 11, 14 => some 46
  | 11, 15 => some 47
  | 11, 16 => some 48
  | 11, 19 => some 49
  | 11, 21 => some 50
  | 11, 22 => some 51
  | 11, 23 => some 52
  | 11, 24 => some 53
  | 11, 25 => some 54
  | 11, 26 => some 55
  | 11, 31 => some 56
  | 11, 32 => some 57
  | 11, 34 => some 58
  | 11, 38 => some 59
  | 11, 39 => some 60
  | 11, 40 => some 61
  | 11, 41 => some 62
  | 11, 42 => some 63
  | 11, 43 => some 64
  | 11, 44 => some 65
  | 11, 45 => some 66
  | 11, 46 => some 67
  | 11, 47 => some 68
  | 11, 48 => some 69
  | 11, 49 => some 70
  | _, _ => none
def aty (k : Nat) : FieldType := match k with
  | 12 => .array .int
  | 14 => .object "StrangerSigns$Way"
  | 18 => .object "StrangerSigns$Sign"
  | 19 => .object "StrangerSigns$Text"
  | 22 => .byte
  | 24 => .boolean
  | 26 => .short
  | 37 => .object "StrangerSigns$Walker"
  | 38 => .object "StrangerSigns$Sheet"
  | 39 => .object "StrangerSigns$Slot"
  | 46 => .char
  | 50 => .boolean
  | 53 => .boolean
  | 54 => .boolean
  | 57 => .boolean
  | _ => .int
def akt (k : Nat) : Option Nat := match k with
  | 12 => some 13
  | 14 => some 9
  | 18 => some 5
  | 19 => some 7
  | 37 => some 8
  | 38 => some 4
  | 39 => some 6
  | _ => none
