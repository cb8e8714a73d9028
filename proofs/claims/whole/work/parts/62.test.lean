noncomputable def J15e (a : Nat) (v : Int32) (h : PH) : Option Rs := J7_fill_53178_15_g0 (J7_fill_53178_15_fam 98) a v h
noncomputable def J20e (a : Nat) (v : Int32) (h : PH) : Option Rs := J7_fill_53178_20_g0 (J7_fill_53178_20_fam 5) a v h
noncomputable def E1 : Nat → (Nat → Int32 → PH → Option Rs) × (Nat → Int32 → PH → Option Rs)
  | 0 => (fun _ _ _ => none, fun _ _ _ => none)
  | n + 1 => (X1_init_f118 X10_init (E1 n).1 (E1 n).2, X1_init_f145 J15e J20e X6_init (E1 n).2)
noncomputable def X1e (t : Nat) (h : PH) : Option Rs := X1_init_f0 (X1_init_f29 (X1_init_f55 (X1_init_f75 (X1_init_f100 (E1 40).1)))) t h
noncomputable def E11 : Nat → (Nat → Int32 → PH → Option Rs) × (Nat → Int32 → PH → Option Rs)
  | 0 => (fun _ _ _ => none, fun _ _ _ => none)
  | n + 1 => (X11_init_f136 X5_init (E11 n).1 (E11 n).2, X11_init_f162 X7_init (E11 n).2)
noncomputable def X11e (t : Nat) (h : PH) : Option Rs := X11_init_f0 X1e X4_init X9_init X0_init X3_init (X11_init_f121 (E11 12).1) t h
noncomputable def chk (o : Option Rs) (f : PH → Bool) : Bool := match o with
  | some r => f r.2
  | none => false
set_option maxRecDepth 100000 in
theorem tE : chk (X1e 0 (nw (nw h00 10 0 10) 1 0 17)) (fun h => Nat.beq (hR h 64 0 0) 1 && Nat.beq (hN h 9) 20) = true := by decide +kernel
