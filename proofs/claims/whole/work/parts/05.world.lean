/-! the pure heap beside the real one -/
def ro (ad : Nat → Nat → Nat) (k r : Nat) : Option Nat := match r with
  | 0 => none
  | i + 1 => some (ad k i)
def rv (ad : Nat → Nat → Nat) (v : PV) : Value := match v with
  | .inl x => .int x
  | .inr (k, r) => va_rf (ro ad k r)
def fv (ad : Nat → Nat → Nat) (h : PH) (k i j : Nat) : Value := match fk k j with
  | none => .int (hI h (64 * k + j) i 0)
  | some kt => va_rf (ro ad kt (hR h (64 * k + j) i 0))
def fvs (ad : Nat → Nat → Nat) (h : PH) (k i : Nat) : List Value := (List.range (nf k)).map (fv ad h k i)
def ca (cA : Nat → ClassId) (ad : Nat → Nat → Nat) (h : PH) (k i : Nat) : va_E := match akt k with
  | none => .inl (cA k, hL h k i, .inl (fun j => hI h (64 * k) i j))
  | some kt => .inl (cA k, hL h k i, .inr (.inr (.inr (.inr (fun j => ro ad kt (hR h (64 * k) i j))))))
def cel (cA : Nat → ClassId) (ad : Nat → Nat → Nat) (h : PH) (k i : Nat) : va_E := if k < 12 then .inr (k, fvs ad h k i) else ca cA ad h k i
def vv (h : PH) (v : PV) : Prop := match v with
  | .inl _ => True
  | .inr (k, r) => r ≤ hN h k
def vl (h : PH) (v : Option PV) : Prop := ∀ w, v = some w → vv h w
def Sm (cA : Nat → ClassId) (ad ps : Nat → Nat → Nat) (ws : va_W) (h : PH) : Prop :=
  (∀ k i, k < 71 → i < hN h k → ws[ps k i]? = some (ad k i, cel cA ad h k i)) ∧
  (∀ k i k' i', k < 71 → k' < 71 → i < hN h k → i' < hN h k' → ps k i = ps k' i' → k = k' ∧ i = i') ∧
  (∀ k i j kt, k < 12 → i < hN h k → j < nf k → fk k j = some kt → hR h (64 * k + j) i 0 ≤ hN h kt) ∧
  (∀ k i j kt, 12 ≤ k → k < 71 → i < hN h k → akt k = some kt → hR h (64 * k) i j ≤ hN h kt) ∧
  (∀ i j, i < hN h 26 → fits .short (.int (hI h 1664 i j)) = true) ∧ (hN h 71 = 1 ∧ hN h 73 = 6 ∧ hN h 74 = 6 ∧ hN h 75 = 1)
/-- the machine, the method, its heap at the start; then its room, what it owes, which answers it owes it for; its class, bytes, locals, how deep it may call, its type; the base, the classes; the heap at the start -/
abbrev CX : Type := (Program × Launch × Env × State × MethodId × Array Value × List Frame × Method × Code) × ((Rs → Room) × (Rs → State → Prop) × (Rs → Prop)) × (String × ByteArray × Nat × Nat × Option FieldType × String) × (Nat × va_G × (Nat → ClassId)) × ((Nat → Nat → Nat) × PH)
def xP (x : CX) : Program := x.1.1
def xL (x : CX) : Launch := x.1.2.1
def xE (x : CX) : Env := x.1.2.2.1
def xS (x : CX) : State := x.1.2.2.2.1
def xM (x : CX) : MethodId := x.1.2.2.2.2.1
def xa (x : CX) : Array Value := x.1.2.2.2.2.2.1
def xbl (x : CX) : List Frame := x.1.2.2.2.2.2.2.1
def xmt (x : CX) : Method := x.1.2.2.2.2.2.2.2.1
def xC (x : CX) : Code := x.1.2.2.2.2.2.2.2.2
def xRm (x : CX) : Rs → Room := x.2.1.1
def xQ (x : CX) : Rs → State → Prop := x.2.1.2.1
def xok (x : CX) : Rs → Prop := x.2.1.2.2
def xown (x : CX) : String := x.2.2.1.1
def xcc (x : CX) : ByteArray := x.2.2.1.2.1
def xnL (x : CX) : Nat := x.2.2.1.2.2.1
def xd (x : CX) : Nat := x.2.2.1.2.2.2.1
def xret (x : CX) : Option FieldType := x.2.2.1.2.2.2.2.1
def xnm (x : CX) : String := x.2.2.1.2.2.2.2.2
def xb (x : CX) : Nat := x.2.2.2.1.1
def xD (x : CX) : va_G := x.2.2.2.1.2.1
def xcA (x : CX) : Nat → ClassId := x.2.2.2.1.2.2
def xad (x : CX) : Nat → Nat → Nat := x.2.2.2.2.1
def xh (x : CX) : PH := x.2.2.2.2.2
/-- the cells that may be written: those from the base on -/
def xA (x : CX) : Nat → Prop := fun q => xb x ≤ q
/-- the array classes -/
def tysL (cA : Nat → ClassId) : List (ClassId × FieldType) := (List.range 59).map (fun j => (cA (12 + j), aty (12 + j)))
theorem tys_at (cA : Nat → ClassId) {k : Nat} (h1 : 12 ≤ k) (h2 : k < 71) : (tysL cA)[k - 12]? = some (cA k, aty k) := by
  unfold tysL
  rw [List.getElem?_map, List.getElem?_range (by omega)]
  simp only [Option.map_some]
  rw [show 12 + (k - 12) = k by omega]
/-- words that the tables keep, whoever asks -/
def TBg : List Cond := lw_tbl.filter goodWord
theorem TBg_in {w : Cond} (h : w ∈ lw_tbl) (hg : goodWord w = true) : w ∈ TBg := List.mem_filter.mpr ⟨h, hg⟩
/-- the nest's words, and the arrays over classes: facts of the machine, as they stand in a state -/
def NWl : List Cond := lw_tbl.filter (fun w => match w with | .fieldLinkNest .. => true | .methodLinkNest .. => true | _ => false)
def AOl : List String := ["StrangerSigns$Way", "StrangerSigns$Sign", "StrangerSigns$Text", "StrangerSigns$Walker", "StrangerSigns$Sheet", "StrangerSigns$Slot"]
def AOA (U : State) : Prop := (Cond.arrayOver (.array .int)).before #[] U = true
def VF (D : va_G) (cA : Nat → ClassId) (U : State) : Prop :=
  va_K D vwCl (tysL cA) U ∧ (∀ w ∈ NWl, va_Nw w U) ∧ (∀ C ∈ AOl, va_AO C U) ∧ AOA U
/-! what is never written: the array ABOVE, the String constants -/
def abv (j : Nat) : Int32 := [(-1 : Int32), 0, 0, 1, 2, 0].getD j 0
def slen : List Nat := [5, 4, 4, 3, 3, 4]
def sbyt : List (List Int32) := [[108, 105, 103, 104, 116], [103, 97, 116, 101], [111, 98, 101, 121], [104, 100, 114], [104, 100, 109], [107, 115, 119, 104]]
def sidx (i : Nat) : Nat := [81, 87, 89, 118, 120, 122].getD i 0
def stx (i : Nat) : String := ["light", "gate", "obey", "hdr", "hdm", "kswh"].getD i ""
def SF (b : Nat) (ad : Nat → Nat → Nat) (U : State) : Prop :=
  va_Z "StrangerSigns$Sign" "ABOVE" "[I" (.ref (ad 71 0)) (fun q => b ≤ q) U U.heap ∧ va_T .int (ad 71 0) 6 (fun j => .int (abv j)) (fun q => b ≤ q) U U.heap ∧
  va_Z "java/lang/String" "COMPACT_STRINGS" "Z" (.int 1) (fun q => b ≤ q) U U.heap ∧ vk_S 6 slen sbyt (ad 73) (ad 74) (fun q => b ≤ q) U U.heap ∧ (∀ i, i < 6 → vk_R "StrangerSigns$Reader" (sidx i) (stx i) (ad 73 i) U) ∧
  (va_Z "jdk/internal/util/Preconditions" "SIOOBE_FORMATTER" "Ljava/util/function/BiFunction;" .null (fun q => b ≤ q) U U.heap ∨ va_Z "jdk/internal/util/Preconditions" "SIOOBE_FORMATTER" "Ljava/util/function/BiFunction;" (.ref (ad 75 0)) (fun q => b ≤ q) U U.heap)
/-- where the world stands in a method -/
def WD (x : CX) (ad ps : Nat → Nat → Nat) (ws : va_W) (h : PH) (H : Heap) (locs : List Loc) : Prop :=
  Sm (xcA x) ad ps ws h ∧ va_P (xD x) vwCl ws H ∧ va_D (xA x) ws ∧ va_S (xA x) (xS x).heap H locs ∧ (∀ k i, i < hN (xh x) k → ad k i = xad x k i) ∧ (∀ k, hN (xh x) k ≤ hN h k)
def lvs (ad : Nat → Nat → Nat) : Nat → PL → List (Nat × Value)
  | _, [] => []
  | i, none :: t => lvs ad (i + 1) t
  | i, some v :: t => (i, rv ad v) :: lvs ad (i + 1) t
def OKr (x : CX) (r : Rs) : Prop := hC r.2 - hC (xh x) ≤ (xRm x r).cells ∧ hS r.2 - hS (xh x) ≤ (xRm x r).slots ∧ xd x + 1 ≤ (xRm x r).frames ∧ 64 * (xd x + 1) ≤ (xRm x r).locals ∧ xok x r
/-- which instruction gives an answer; that an answer is of the method's type -/
def rins (v : Option PV) : Instr := match v with
  | none => .return_
  | some (.inl _) => .ireturn
  | some (.inr _) => .areturn
def rok (t : Option FieldType) (r : Rs) : Prop := match r.1 with
  | none => t = none
  | some (.inl v) => ∃ ty, t = some ty ∧ narrow ty (.int v) = .int v
  | some (.inr q) => ((∃ n, t = some (.object n)) ∨ ∃ u, t = some (.array u)) ∧ q.2 ≤ hN r.2 q.1
/-- the method's end -/
def RP (x : CX) : Prop := ∀ (r : Rs) (pc : Nat) (ad ps : Nat → Nat → Nat) (ws : va_W) (H : Heap) (locs : List Loc) (lR : Array Slot), WD x ad ps ws r.2 H locs → OKr x r → rok (xret x) r → decode (xcc x) pc = .ok (rins r.1, 1) →
  W (xP x) (xL x) (xE x) (xRm x r) (xS x) (xM x) (xa x) (xbl x) (xmt x) (xC x) H locs (hC r.2 - hC (xh x)) (hS r.2 - hS (xh x)) (xQ x r) (F0 (xM x) pc lR ((r.1.map (rv ad)).toList))
def OKx (x : CX) : Prop := (xP x).tables.exec = Jvm.exec ∧ (xC x).code = xcc x ∧ (xC x).maxLocals = xnL x ∧ (xS x).vm.findClass (xown x) = some (xM x).cls ∧ (∀ w ∈ TBg, w.before (xa x) (xS x) = true) ∧ VF (xD x) (xcA x) (xS x) ∧ xb x ≤ (xS x).heap.size ∧ SF (xb x) (xad x) (xS x) ∧ (hN (xh x) 71 = 1 ∧ hN (xh x) 73 = 6 ∧ hN (xh x) 74 = 6 ∧ hN (xh x) 75 = 1) ∧ RP x ∧ (xmt x).name = xnm x
/-- from here the machine comes to r -/
def WK (x : CX) (r : Rs) (pc : Nat) (ls : PL) (st : List PV) (h : PH) : Prop :=
  (hC h ≤ hC r.2 ∧ hS h ≤ hS r.2) ∧ (OKx x → hC (xh x) ≤ hC h → hS (xh x) ≤ hS h → OKr x r → ∀ (ad ps : Nat → Nat → Nat) (ws : va_W) (H : Heap) (locs : List Loc) (lR : Array Slot), WD x ad ps ws h H locs → lv_has lR (xnL x) (lvs ad 0 ls) → ls.length = xnL x → (∀ v ∈ ls, vl h v) → (∀ v ∈ st, vv h v) →
    W (xP x) (xL x) (xE x) (xRm x r) (xS x) (xM x) (xa x) (xbl x) (xmt x) (xC x) H locs (hC h - hC (xh x)) (hS h - hS (xh x)) (xQ x r) (F0 (xM x) pc lR (st.map (rv ad))))
def SK (x : CX) (pc : Nat) (k : Kn) : Prop := ∀ ls st h r, k ls st h = some r → WK x r pc ls st h
/-! frames -/
theorem lvs_in {ad : Nat → Nat → Nat} : ∀ {ls : PL} {i n : Nat} {v : PV}, lk ls n = some v → (i + n, rv ad v) ∈ lvs ad i ls
  | [], _, _, _, h => by simp [lk] at h
  | none :: t, i, 0, v, h => by simp [lk] at h
  | some w :: t, i, 0, v, h => by
    simp only [lk, Option.some.injEq] at h
    subst h
    simp [lvs]
  | none :: t, i, n + 1, v, h => by
    simp only [lk] at h
    have := lvs_in (ad := ad) (i := i + 1) h
    simp only [lvs]
    rw [show i + (n + 1) = i + 1 + n by omega]
    exact this
  | some w :: t, i, n + 1, v, h => by
    simp only [lk] at h
    have := lvs_in (ad := ad) (i := i + 1) h
    simp only [lvs]
    rw [show i + (n + 1) = i + 1 + n by omega]
    exact List.mem_cons_of_mem _ this
theorem lvs_ge {ad : Nat → Nat → Nat} : ∀ {ls : PL} {i : Nat} {q : Nat × Value}, q ∈ lvs ad i ls → i ≤ q.1
  | [], _, _, h => by simp [lvs] at h
  | none :: t, i, q, h => by
    simp only [lvs] at h
    have := lvs_ge h
    omega
  | some w :: t, i, q, h => by
    simp only [lvs, List.mem_cons] at h
    rcases h with rfl | h
    · exact Nat.le_refl _
    · have := lvs_ge h
      omega
theorem lvs_st {ad : Nat → Nat → Nat} {v : PV} : ∀ {ls : PL} {i n : Nat} {q : Nat × Value}, q ∈ lvs ad i (stl ls n v) → q = (i + n, rv ad v) ∨ (q ∈ lvs ad i ls ∧ q.1 ≠ i + n)
  | [], _, _, _, h => by simp [stl, lvs] at h
  | a :: t, i, 0, q, h => by
    simp only [stl, lvs, List.mem_cons] at h
    rcases h with rfl | h
    · exact Or.inl rfl
    · refine Or.inr ⟨?_, ?_⟩
      · cases a with
        | none => simpa [lvs] using h
        | some w => simp only [lvs]; exact List.mem_cons_of_mem _ h
      · have := lvs_ge h
        omega
  | none :: t, i, n + 1, q, h => by
    simp only [stl, lvs] at h
    rcases lvs_st h with h | ⟨h1, h2⟩
    · exact Or.inl (by rw [h]; congr 1; omega)
    · exact Or.inr ⟨by simpa [lvs] using h1, by omega⟩
  | some w :: t, i, n + 1, q, h => by
    simp only [stl, lvs, List.mem_cons] at h
    rcases h with rfl | h
    · exact Or.inr ⟨by simp [lvs], by simp⟩
    · rcases lvs_st h with h | ⟨h1, h2⟩
      · exact Or.inl (by rw [h]; congr 1; omega)
      · exact Or.inr ⟨by simp only [lvs]; exact List.mem_cons_of_mem _ h1, by omega⟩
theorem rv_cat (ad : Nat → Nat → Nat) (v : PV) : (rv ad v).category = 1 := by
  rcases v with x | ⟨k, r⟩
  · rfl
  · cases r <;> rfl
theorem lvs_cat {ad : Nat → Nat → Nat} : ∀ {ls : PL} {i : Nat} {q : Nat × Value}, q ∈ lvs ad i ls → q.2.category = 1
  | [], _, _, h => by simp [lvs] at h
  | none :: t, i, q, h => by
    simp only [lvs] at h
    exact lvs_cat h
  | some w :: t, i, q, h => by
    simp only [lvs, List.mem_cons] at h
    rcases h with rfl | h
    · exact rv_cat ad w
    · exact lvs_cat h
theorem lv_stl {ad : Nat → Nat → Nat} {ls : PL} {n nL : Nat} {v : PV} {lR : Array Slot} (h : lv_has lR nL ((n, rv ad v) :: (lvs ad 0 ls).filter (fun q => !(q.1 == n) && !(q.1 + 1 == n && q.2.category == 2)))) : lv_has lR nL (lvs ad 0 (stl ls n v)) := by
  refine ⟨h.1, h.2.1, fun q hq => h.2.2 q ?_⟩
  rcases lvs_st hq with e | ⟨h1, h2⟩
  · rw [e, Nat.zero_add]; exact List.mem_cons_self
  · refine List.mem_cons_of_mem _ (List.mem_filter.mpr ⟨h1, ?_⟩)
    have hc := lvs_cat h1
    simp [hc]
    omega
theorem stl_len (v : PV) : ∀ (ls : PL) (n : Nat), (stl ls n v).length = ls.length
  | [], _ => rfl
  | _ :: _, 0 => rfl
  | _ :: l, n + 1 => by simp [stl, stl_len v l n]
theorem stl_vl {h : PH} {v : PV} (hv : vv h v) : ∀ {ls : PL} {n : Nat}, (∀ w ∈ ls, vl h w) → ∀ w ∈ stl ls n v, vl h w
  | [], _, _, w, hw => by simp [stl] at hw
  | a :: l, 0, hl, w, hw => by
    simp only [stl, List.mem_cons] at hw
    rcases hw with rfl | hw
    · intro z hz
      cases hz
      exact hv
    · exact hl w (List.mem_cons_of_mem _ hw)
  | a :: l, n + 1, hl, w, hw => by
    simp only [stl, List.mem_cons] at hw
    rcases hw with rfl | hw
    · exact hl _ List.mem_cons_self
    · exact stl_vl hv (fun z hz => hl z (List.mem_cons_of_mem _ hz)) w hw
theorem lk_vl {h : PH} : ∀ {ls : PL} {n : Nat} {v : PV}, (∀ w ∈ ls, vl h w) → lk ls n = some v → vv h v
  | [], _, _, _, e => by simp [lk] at e
  | a :: l, 0, v, hl, e => by
    simp only [lk] at e
    exact hl a List.mem_cons_self v e
  | a :: l, n + 1, v, hl, e => by
    simp only [lk] at e
    exact lk_vl (fun z hz => hl z (List.mem_cons_of_mem _ hz)) e
theorem lvs_cln {ad : Nat → Nat → Nat} : ∀ {m : List Bool} {ls : PL} {i : Nat} {q : Nat × Value}, q ∈ lvs ad i (cln m ls) → q ∈ lvs ad i ls
  | [], [], _, _, h => by simp [cln, lvs] at h
  | [], _ :: _, _, _, h => by simp [cln, lvs] at h
  | true :: _, [], _, _, h => by simp [cln, lvs] at h
  | false :: _, [], _, _, h => by simp [cln, lvs] at h
  | true :: m, none :: l, i, q, h => by
    simp only [cln, lvs] at h ⊢
    exact lvs_cln h
  | true :: m, some w :: l, i, q, h => by
    simp only [cln, lvs, List.mem_cons] at h ⊢
    rcases h with h | h
    · exact Or.inl h
    · exact Or.inr (lvs_cln h)
  | false :: m, none :: l, i, q, h => by
    simp only [cln, lvs] at h ⊢
    exact lvs_cln h
  | false :: m, some w :: l, i, q, h => by
    simp only [cln, lvs, List.mem_cons] at h ⊢
    exact Or.inr (lvs_cln h)
theorem cln_vl {h : PH} : ∀ {m : List Bool} {ls : PL}, (∀ w ∈ ls, vl h w) → ∀ w ∈ cln m ls, vl h w
  | [], [], _, w, hw => by simp [cln] at hw
  | [], _ :: _, _, w, hw => by simp [cln] at hw
  | true :: _, [], _, w, hw => by simp [cln] at hw
  | false :: _, [], _, w, hw => by simp [cln] at hw
  | true :: m, a :: l, hl, w, hw => by
    simp only [cln, List.mem_cons] at hw
    rcases hw with rfl | hw
    · exact hl _ List.mem_cons_self
    · exact cln_vl (fun z hz => hl z (List.mem_cons_of_mem _ hz)) w hw
  | false :: m, a :: l, hl, w, hw => by
    simp only [cln, List.mem_cons] at hw
    rcases hw with rfl | hw
    · intro z hz; cases hz
    · exact cln_vl (fun z hz => hl z (List.mem_cons_of_mem _ hz)) w hw
theorem cln_len : ∀ {m : List Bool} {ls : PL}, m.length = ls.length → (cln m ls).length = ls.length
  | [], [], _ => rfl
  | true :: m, _ :: l, h => by simp [cln, cln_len (m := m) (ls := l) (by simpa using h)]
  | false :: m, _ :: l, h => by simp [cln, cln_len (m := m) (ls := l) (by simpa using h)]
