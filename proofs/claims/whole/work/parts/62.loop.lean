/-- two calls, one on each, answer alike -/
def Pr (P : PH → Prop) (a b : PH → Option Rs) (h : PH) : Prop := ∃ v h1 h2, a h = some (some (.inl v), h1) ∧ b h1 = some (some (.inl v), h2) ∧ P h2
theorem nn_one (f : Nat → Option Rs) : nn 1 f = f 0 := rfl
theorem sc0_0 (f : Option Rs) : sc0 0 f = f := rfl
theorem bz_1 (f : Option Rs) : bz 1 f = f := rfl
theorem ixp0 {i L : Nat} {f : Nat → Option Rs} (h : i + 6 ≤ L ∧ L ≤ 384) : ix (nI i) L f = f i := ix_nI (by omega) (by omega) f
theorem ixp1 {i L : Nat} {f : Nat → Option Rs} (h : i + 6 ≤ L ∧ L ≤ 384) : ix (nI i + 1) L f = f (i + 1) := by
  rw [show nI i + 1 = nI (i + 1) from nI_add i 1]
  exact ix_nI (by omega) (by omega) f
theorem ixp2 {i L : Nat} {f : Nat → Option Rs} (h : i + 6 ≤ L ∧ L ≤ 384) : ix (nI i + 2) L f = f (i + 2) := by
  rw [show nI i + 2 = nI (i + 2) from nI_add i 2]
  exact ix_nI (by omega) (by omega) f
theorem ixp3 {i L : Nat} {f : Nat → Option Rs} (h : i + 6 ≤ L ∧ L ≤ 384) : ix (nI i + 3) L f = f (i + 3) := by
  rw [show nI i + 3 = nI (i + 3) from nI_add i 3]
  exact ix_nI (by omega) (by omega) f
theorem ixp4 {i L : Nat} {f : Nat → Option Rs} (h : i + 6 ≤ L ∧ L ≤ 384) : ix (nI i + 4) L f = f (i + 4) := by
  rw [show nI i + 4 = nI (i + 4) from nI_add i 4]
  exact ix_nI (by omega) (by omega) f
theorem ixp5 {i L : Nat} {f : Nat → Option Rs} (h : i + 6 ≤ L ∧ L ≤ 384) : ix (nI i + 5) L f = f (i + 5) := by
  rw [show nI i + 5 = nI (i + 5) from nI_add i 5]
  exact ix_nI (by omega) (by omega) f
theorem case_244 {R : Nat → PH → Prop} (s0 : ∀ m h, m < 64 → R m h → Pr (R (m + 1)) (X11_place 0) (X12_place 0) h) {L i m : Nat} {xs : Nat → Int32} {h : PH} (hi : i + 6 ≤ L ∧ L ≤ 384) (h64 : m < 64) (hr : R m h) : ∃ h2, R (m + 1) h2 ∧ ∀ G, L_law_72_g244 L xs G 1 1 1 (nI i) h = G 1 1 1 (nI i + 6) h2 := by
  obtain ⟨v, h1, h2, e1, e2, r⟩ := s0 m h h64 hr
  refine ⟨h2, r, fun G => ?_⟩
  simp only [L_law_72_g244, L_law_72_f244, nn_one, sc0_0, e1, e2, cI_some, if_true, L_law_72_g1807, L_law_72_f1807]
theorem case_257 {R : Nat → PH → Prop} (s1 : ∀ m h (a0 a1 a2 a3 : Int32), m < 64 → R m h → Pr (R (m + 1)) (X11_way 0 a0 a1 a2 a3) (X12_way 0 a0 a1 a2 a3) h) {L i m : Nat} {xs : Nat → Int32} {h : PH} (hi : i + 6 ≤ L ∧ L ≤ 384) (h64 : m < 64) (hr : R m h) : ∃ h2, R (m + 1) h2 ∧ ∀ G, L_law_72_g257 L xs G 1 1 1 (nI i) h = G 1 1 1 (nI i + 6) h2 := by
  obtain ⟨v, h1, h2, e1, e2, r⟩ := s1 m h (xs (i + 1)) (xs (i + 2)) (xs (i + 3)) (xs (i + 4)) h64 hr
  refine ⟨h2, r, fun G => ?_⟩
  simp only [L_law_72_g257, L_law_72_f257, nn_one, sc0_0, ixp1 hi, ixp2 hi, ixp3 hi, ixp4 hi, e1, e2, cI_some, if_true, L_law_72_g1807, L_law_72_f1807]
theorem case_310 {R : Nat → PH → Prop} (s2 : ∀ m h (a0 a1 : Int32), m < 64 → R m h → Pr (R (m + 1)) (X11_wayTold 0 a0 a1) (X12_wayTold 0 a0 a1) h) {L i m : Nat} {xs : Nat → Int32} {h : PH} (hi : i + 6 ≤ L ∧ L ≤ 384) (h64 : m < 64) (hr : R m h) : ∃ h2, R (m + 1) h2 ∧ ∀ G, L_law_72_g310 L xs G 1 1 1 (nI i) h = G 1 1 1 (nI i + 6) h2 := by
  obtain ⟨v, h1, h2, e1, e2, r⟩ := s2 m h (xs (i + 1)) (xs (i + 2)) h64 hr
  refine ⟨h2, r, fun G => ?_⟩
  simp only [L_law_72_g310, L_law_72_f310, nn_one, sc0_0, ixp1 hi, ixp2 hi, e1, e2, cI_some, if_true, L_law_72_g1807, L_law_72_f1807]
theorem case_343 {R : Nat → PH → Prop} (s3 : ∀ m h (a b : Int32), b = 0 ∨ b = 1 → m < 64 → R m h → Pr (R (m + 1)) (X11_shut 0 a b) (X12_shut 0 a b) h) {L i m : Nat} {xs : Nat → Int32} {h : PH} (hi : i + 6 ≤ L ∧ L ≤ 384) (h64 : m < 64) (hr : R m h) : ∃ h2, R (m + 1) h2 ∧ ∀ G, L_law_72_g343 L xs G 1 1 1 (nI i) h = G 1 1 1 (nI i + 6) h2 := by
  by_cases hz : xs (i + 2) = 0
  · obtain ⟨v, h1, h2, e1, e2, r⟩ := s3 m h (xs (i + 1)) 0 (Or.inl rfl) h64 hr
    refine ⟨h2, r, fun G => ?_⟩
    simp only [L_law_72_g343, L_law_72_f343, L_law_72_g362, L_law_72_f362, L_law_72_g384, L_law_72_f384, nn_one, sc0_0, ixp1 hi, ixp2 hi, hz, e1, e2, cI_some, if_true, if_false, L_law_72_g1807, L_law_72_f1807]
  · obtain ⟨v, h1, h2, e1, e2, r⟩ := s3 m h (xs (i + 1)) 1 (Or.inr rfl) h64 hr
    refine ⟨h2, r, fun G => ?_⟩
    simp only [L_law_72_g343, L_law_72_f343, L_law_72_g362, L_law_72_f362, L_law_72_g384, L_law_72_f384, nn_one, sc0_0, ixp1 hi, ixp2 hi, hz, e1, e2, cI_some, if_true, if_false, L_law_72_g1807, L_law_72_f1807]
theorem case_392 {R : Nat → PH → Prop} (s4 : ∀ m h (a0 a1 : Int32), m < 64 → R m h → Pr (R (m + 1)) (X11_goal 0 a0 a1) (X12_goal 0 a0 a1) h) {L i m : Nat} {xs : Nat → Int32} {h : PH} (hi : i + 6 ≤ L ∧ L ≤ 384) (h64 : m < 64) (hr : R m h) : ∃ h2, R (m + 1) h2 ∧ ∀ G, L_law_72_g392 L xs G 1 1 1 (nI i) h = G 1 1 1 (nI i + 6) h2 := by
  obtain ⟨v, h1, h2, e1, e2, r⟩ := s4 m h (xs (i + 1)) (xs (i + 2)) h64 hr
  refine ⟨h2, r, fun G => ?_⟩
  simp only [L_law_72_g392, L_law_72_f392, nn_one, sc0_0, ixp1 hi, ixp2 hi, e1, e2, cI_some, if_true, L_law_72_g1807, L_law_72_f1807]
theorem case_425 {R : Nat → PH → Prop} (s5 : ∀ m h (a0 a1 : Int32), m < 64 → R m h → Pr (R (m + 1)) (X11_goalTold 0 a0 a1) (X12_goalTold 0 a0 a1) h) {L i m : Nat} {xs : Nat → Int32} {h : PH} (hi : i + 6 ≤ L ∧ L ≤ 384) (h64 : m < 64) (hr : R m h) : ∃ h2, R (m + 1) h2 ∧ ∀ G, L_law_72_g425 L xs G 1 1 1 (nI i) h = G 1 1 1 (nI i + 6) h2 := by
  obtain ⟨v, h1, h2, e1, e2, r⟩ := s5 m h (xs (i + 1)) (xs (i + 2)) h64 hr
  refine ⟨h2, r, fun G => ?_⟩
  simp only [L_law_72_g425, L_law_72_f425, nn_one, sc0_0, ixp1 hi, ixp2 hi, e1, e2, cI_some, if_true, L_law_72_g1807, L_law_72_f1807]
theorem case_458 {R : Nat → PH → Prop} (s6 : ∀ m h (a0 : Int32), m < 64 → R m h → Pr (R (m + 1)) (X11_hours 0 a0) (X12_hours 0 a0) h) {L i m : Nat} {xs : Nat → Int32} {h : PH} (hi : i + 6 ≤ L ∧ L ≤ 384) (h64 : m < 64) (hr : R m h) : ∃ h2, R (m + 1) h2 ∧ ∀ G, L_law_72_g458 L xs G 1 1 1 (nI i) h = G 1 1 1 (nI i + 6) h2 := by
  obtain ⟨v, h1, h2, e1, e2, r⟩ := s6 m h (xs (i + 1)) h64 hr
  refine ⟨h2, r, fun G => ?_⟩
  simp only [L_law_72_g458, L_law_72_f458, nn_one, sc0_0, ixp1 hi, e1, e2, cI_some, if_true, L_law_72_g1807, L_law_72_f1807]
theorem case_481 {R : Nat → PH → Prop} (s7 : ∀ m h (a0 a1 a2 : Int32), m < 64 → R m h → Pr (R (m + 1)) (X11_sign 0 a0 a1 a2) (X12_sign 0 a0 a1 a2) h) {L i m : Nat} {xs : Nat → Int32} {h : PH} (hi : i + 6 ≤ L ∧ L ≤ 384) (h64 : m < 64) (hr : R m h) : ∃ h2, R (m + 1) h2 ∧ ∀ G, L_law_72_g481 L xs G 1 1 1 (nI i) h = G 1 1 1 (nI i + 6) h2 := by
  obtain ⟨v, h1, h2, e1, e2, r⟩ := s7 m h (xs (i + 1)) (xs (i + 2)) (xs (i + 3)) h64 hr
  refine ⟨h2, r, fun G => ?_⟩
  simp only [L_law_72_g481, L_law_72_f481, nn_one, sc0_0, ixp1 hi, ixp2 hi, ixp3 hi, e1, e2, cI_some, if_true, L_law_72_g1807, L_law_72_f1807]
theorem case_524 {R : Nat → PH → Prop} (s8 : ∀ m h (a0 a1 : Int32), m < 64 → R m h → Pr (R (m + 1)) (X11_told 0 a0 a1) (X12_told 0 a0 a1) h) {L i m : Nat} {xs : Nat → Int32} {h : PH} (hi : i + 6 ≤ L ∧ L ≤ 384) (h64 : m < 64) (hr : R m h) : ∃ h2, R (m + 1) h2 ∧ ∀ G, L_law_72_g524 L xs G 1 1 1 (nI i) h = G 1 1 1 (nI i + 6) h2 := by
  obtain ⟨v, h1, h2, e1, e2, r⟩ := s8 m h (xs (i + 1)) (xs (i + 2)) h64 hr
  refine ⟨h2, r, fun G => ?_⟩
  simp only [L_law_72_g524, L_law_72_f524, nn_one, sc0_0, ixp1 hi, ixp2 hi, e1, e2, cI_some, if_true, L_law_72_g1807, L_law_72_f1807]
theorem case_557 {R : Nat → PH → Prop} (s9 : ∀ m h (a0 a1 : Int32), m < 64 → R m h → Pr (R (m + 1)) (X11_as 0 a0 a1) (X12_as 0 a0 a1) h) {L i m : Nat} {xs : Nat → Int32} {h : PH} (hi : i + 6 ≤ L ∧ L ≤ 384) (h64 : m < 64) (hr : R m h) : ∃ h2, R (m + 1) h2 ∧ ∀ G, L_law_72_g557 L xs G 1 1 1 (nI i) h = G 1 1 1 (nI i + 6) h2 := by
  obtain ⟨v, h1, h2, e1, e2, r⟩ := s9 m h (xs (i + 1)) (xs (i + 2)) h64 hr
  refine ⟨h2, r, fun G => ?_⟩
  simp only [L_law_72_g557, L_law_72_f557, nn_one, sc0_0, ixp1 hi, ixp2 hi, e1, e2, cI_some, if_true, L_law_72_g1807, L_law_72_f1807]
theorem case_590 {R : Nat → PH → Prop} (s10 : ∀ m h (a0 a1 : Int32), m < 64 → R m h → Pr (R (m + 1)) (X11_turns 0 a0 a1) (X12_turns 0 a0 a1) h) {L i m : Nat} {xs : Nat → Int32} {h : PH} (hi : i + 6 ≤ L ∧ L ≤ 384) (h64 : m < 64) (hr : R m h) : ∃ h2, R (m + 1) h2 ∧ ∀ G, L_law_72_g590 L xs G 1 1 1 (nI i) h = G 1 1 1 (nI i + 6) h2 := by
  obtain ⟨v, h1, h2, e1, e2, r⟩ := s10 m h (xs (i + 1)) (xs (i + 2)) h64 hr
  refine ⟨h2, r, fun G => ?_⟩
  simp only [L_law_72_g590, L_law_72_f590, nn_one, sc0_0, ixp1 hi, ixp2 hi, e1, e2, cI_some, if_true, L_law_72_g1807, L_law_72_f1807]
theorem case_623 {R : Nat → PH → Prop} (s11 : ∀ m h (a0 a1 a2 : Int32), m < 64 → R m h → Pr (R (m + 1)) (X11_row 0 a0 a1 a2) (X12_row 0 a0 a1 a2) h) {L i m : Nat} {xs : Nat → Int32} {h : PH} (hi : i + 6 ≤ L ∧ L ≤ 384) (h64 : m < 64) (hr : R m h) : ∃ h2, R (m + 1) h2 ∧ ∀ G, L_law_72_g623 L xs G 1 1 1 (nI i) h = G 1 1 1 (nI i + 6) h2 := by
  obtain ⟨v, h1, h2, e1, e2, r⟩ := s11 m h (xs (i + 1)) (xs (i + 2)) (xs (i + 3)) h64 hr
  refine ⟨h2, r, fun G => ?_⟩
  simp only [L_law_72_g623, L_law_72_f623, nn_one, sc0_0, ixp1 hi, ixp2 hi, ixp3 hi, e1, e2, cI_some, if_true, L_law_72_g1807, L_law_72_f1807]
theorem case_666 {R : Nat → PH → Prop} (s12 : ∀ m h (a0 a1 a2 : Int32), m < 64 → R m h → Pr (R (m + 1)) (X11_rowTold 0 a0 a1 a2) (X12_rowTold 0 a0 a1 a2) h) {L i m : Nat} {xs : Nat → Int32} {h : PH} (hi : i + 6 ≤ L ∧ L ≤ 384) (h64 : m < 64) (hr : R m h) : ∃ h2, R (m + 1) h2 ∧ ∀ G, L_law_72_g666 L xs G 1 1 1 (nI i) h = G 1 1 1 (nI i + 6) h2 := by
  obtain ⟨v, h1, h2, e1, e2, r⟩ := s12 m h (xs (i + 1)) (xs (i + 2)) (xs (i + 3)) h64 hr
  refine ⟨h2, r, fun G => ?_⟩
  simp only [L_law_72_g666, L_law_72_f666, nn_one, sc0_0, ixp1 hi, ixp2 hi, ixp3 hi, e1, e2, cI_some, if_true, L_law_72_g1807, L_law_72_f1807]
theorem case_709 {R : Nat → PH → Prop} (s13 : ∀ m h (a0 a1 : Int32), m < 64 → R m h → Pr (R (m + 1)) (X11_drop 0 a0 a1) (X12_drop 0 a0 a1) h) {L i m : Nat} {xs : Nat → Int32} {h : PH} (hi : i + 6 ≤ L ∧ L ≤ 384) (h64 : m < 64) (hr : R m h) : ∃ h2, R (m + 1) h2 ∧ ∀ G, L_law_72_g709 L xs G 1 1 1 (nI i) h = G 1 1 1 (nI i + 6) h2 := by
  obtain ⟨v, h1, h2, e1, e2, r⟩ := s13 m h (xs (i + 1)) (xs (i + 2)) h64 hr
  refine ⟨h2, r, fun G => ?_⟩
  simp only [L_law_72_g709, L_law_72_f709, nn_one, sc0_0, ixp1 hi, ixp2 hi, e1, e2, cI_some, if_true, L_law_72_g1807, L_law_72_f1807]
theorem case_742 {R : Nat → PH → Prop} (s14 : ∀ m h (a0 a1 a2 : Int32), m < 64 → R m h → Pr (R (m + 1)) (X11_aim 0 a0 a1 a2) (X12_aim 0 a0 a1 a2) h) {L i m : Nat} {xs : Nat → Int32} {h : PH} (hi : i + 6 ≤ L ∧ L ≤ 384) (h64 : m < 64) (hr : R m h) : ∃ h2, R (m + 1) h2 ∧ ∀ G, L_law_72_g742 L xs G 1 1 1 (nI i) h = G 1 1 1 (nI i + 6) h2 := by
  obtain ⟨v, h1, h2, e1, e2, r⟩ := s14 m h (xs (i + 1)) (xs (i + 2)) (xs (i + 3)) h64 hr
  refine ⟨h2, r, fun G => ?_⟩
  simp only [L_law_72_g742, L_law_72_f742, nn_one, sc0_0, ixp1 hi, ixp2 hi, ixp3 hi, e1, e2, cI_some, if_true, L_law_72_g1807, L_law_72_f1807]
theorem case_785 {R : Nat → PH → Prop} (s15 : ∀ m h, m < 64 → R m h → Pr (R (m + 1)) (X11_undo 0) (X12_undo 0) h) {L i m : Nat} {xs : Nat → Int32} {h : PH} (hi : i + 6 ≤ L ∧ L ≤ 384) (h64 : m < 64) (hr : R m h) : ∃ h2, R (m + 1) h2 ∧ ∀ G, L_law_72_g785 L xs G 1 1 1 (nI i) h = G 1 1 1 (nI i + 6) h2 := by
  obtain ⟨v, h1, h2, e1, e2, r⟩ := s15 m h h64 hr
  refine ⟨h2, r, fun G => ?_⟩
  simp only [L_law_72_g785, L_law_72_f785, nn_one, sc0_0, e1, e2, cI_some, if_true, L_law_72_g1807, L_law_72_f1807]
theorem case_798 {R : Nat → PH → Prop} (s16 : ∀ m h (a0 a1 a2 : Int32), m < 64 → R m h → Pr (R (m + 1)) (X11_feed 0 a0 a1 a2) (X12_feed 0 a0 a1 a2) h) {L i m : Nat} {xs : Nat → Int32} {h : PH} (hi : i + 6 ≤ L ∧ L ≤ 384) (h64 : m < 64) (hr : R m h) : ∃ h2, R (m + 1) h2 ∧ ∀ G, L_law_72_g798 L xs G 1 1 1 (nI i) h = G 1 1 1 (nI i + 6) h2 := by
  obtain ⟨v, h1, h2, e1, e2, r⟩ := s16 m h (xs (i + 1)) (xs (i + 2)) (xs (i + 3)) h64 hr
  refine ⟨h2, r, fun G => ?_⟩
  simp only [L_law_72_g798, L_law_72_f798, nn_one, sc0_0, ixp1 hi, ixp2 hi, ixp3 hi, e1, e2, cI_some, if_true, L_law_72_g1807, L_law_72_f1807]
theorem case_841 {R : Nat → PH → Prop} (s17 : ∀ m h (a0 : Int32), m < 64 → R m h → Pr (R (m + 1)) (X11_trim 0 a0) (X12_trim 0 a0) h) {L i m : Nat} {xs : Nat → Int32} {h : PH} (hi : i + 6 ≤ L ∧ L ≤ 384) (h64 : m < 64) (hr : R m h) : ∃ h2, R (m + 1) h2 ∧ ∀ G, L_law_72_g841 L xs G 1 1 1 (nI i) h = G 1 1 1 (nI i + 6) h2 := by
  obtain ⟨v, h1, h2, e1, e2, r⟩ := s17 m h (xs (i + 1)) h64 hr
  refine ⟨h2, r, fun G => ?_⟩
  simp only [L_law_72_g841, L_law_72_f841, nn_one, sc0_0, ixp1 hi, e1, e2, cI_some, if_true, L_law_72_g1807, L_law_72_f1807]
theorem case_864 {R : Nat → PH → Prop} (s18 : ∀ m h, m < 64 → R m h → Pr (R (m + 1)) (X11_text 0) (X12_text 0) h) {L i m : Nat} {xs : Nat → Int32} {h : PH} (hi : i + 6 ≤ L ∧ L ≤ 384) (h64 : m < 64) (hr : R m h) : ∃ h2, R (m + 1) h2 ∧ ∀ G, L_law_72_g864 L xs G 1 1 1 (nI i) h = G 1 1 1 (nI i + 6) h2 := by
  obtain ⟨v, h1, h2, e1, e2, r⟩ := s18 m h h64 hr
  refine ⟨h2, r, fun G => ?_⟩
  simp only [L_law_72_g864, L_law_72_f864, nn_one, sc0_0, e1, e2, cI_some, if_true, L_law_72_g1807, L_law_72_f1807]
theorem case_877 {R : Nat → PH → Prop} (s19 : ∀ m h (a0 a1 : Int32), m < 64 → R m h → Pr (R (m + 1)) (X11_textTold 0 a0 a1) (X12_textTold 0 a0 a1) h) {L i m : Nat} {xs : Nat → Int32} {h : PH} (hi : i + 6 ≤ L ∧ L ≤ 384) (h64 : m < 64) (hr : R m h) : ∃ h2, R (m + 1) h2 ∧ ∀ G, L_law_72_g877 L xs G 1 1 1 (nI i) h = G 1 1 1 (nI i + 6) h2 := by
  obtain ⟨v, h1, h2, e1, e2, r⟩ := s19 m h (xs (i + 1)) (xs (i + 2)) h64 hr
  refine ⟨h2, r, fun G => ?_⟩
  simp only [L_law_72_g877, L_law_72_f877, nn_one, sc0_0, ixp1 hi, ixp2 hi, e1, e2, cI_some, if_true, L_law_72_g1807, L_law_72_f1807]
theorem case_910 {R : Nat → PH → Prop} (s20 : ∀ m h (a0 : Int32), m < 64 → R m h → Pr (R (m + 1)) (X11_why 0 a0) (X12_why 0 a0) h) {L i m : Nat} {xs : Nat → Int32} {h : PH} (hi : i + 6 ≤ L ∧ L ≤ 384) (h64 : m < 64) (hr : R m h) : ∃ h2, R (m + 1) h2 ∧ ∀ G, L_law_72_g910 L xs G 1 1 1 (nI i) h = G 1 1 1 (nI i + 6) h2 := by
  obtain ⟨v, h1, h2, e1, e2, r⟩ := s20 m h (xs (i + 1)) h64 hr
  refine ⟨h2, r, fun G => ?_⟩
  simp only [L_law_72_g910, L_law_72_f910, nn_one, sc0_0, ixp1 hi, e1, e2, cI_some, if_true, L_law_72_g1807, L_law_72_f1807]
theorem case_933 {R : Nat → PH → Prop} (s21 : ∀ m h (a0 a1 a2 a3 : Int32), m < 64 → R m h → Pr (R (m + 1)) (X11_walk 0 a0 a1 a2 a3) (X12_walk 0 a0 a1 a2 a3) h) {L i m : Nat} {xs : Nat → Int32} {h : PH} (hi : i + 6 ≤ L ∧ L ≤ 384) (h64 : m < 64) (hr : R m h) : ∃ h2, R (m + 1) h2 ∧ ∀ G, L_law_72_g933 L xs G 1 1 1 (nI i) h = G 1 1 1 (nI i + 6) h2 := by
  obtain ⟨v, h1, h2, e1, e2, r⟩ := s21 m h (xs (i + 1)) (xs (i + 2)) (xs (i + 3)) (xs (i + 4)) h64 hr
  refine ⟨h2, r, fun G => ?_⟩
  simp only [L_law_72_g933, L_law_72_f933, nn_one, sc0_0, ixp1 hi, ixp2 hi, ixp3 hi, ixp4 hi, e1, e2, cI_some, if_true, L_law_72_g1807, L_law_72_f1807]
theorem case_986 {R : Nat → PH → Prop} (s22 : ∀ m h (a0 a1 a2 a3 : Int32), m < 64 → R m h → Pr (R (m + 1)) (X11_via 0 a0 a1 a2 a3) (X12_via 0 a0 a1 a2 a3) h) {L i m : Nat} {xs : Nat → Int32} {h : PH} (hi : i + 6 ≤ L ∧ L ≤ 384) (h64 : m < 64) (hr : R m h) : ∃ h2, R (m + 1) h2 ∧ ∀ G, L_law_72_g986 L xs G 1 1 1 (nI i) h = G 1 1 1 (nI i + 6) h2 := by
  obtain ⟨v, h1, h2, e1, e2, r⟩ := s22 m h (xs (i + 1)) (xs (i + 2)) (xs (i + 3)) (xs (i + 4)) h64 hr
  refine ⟨h2, r, fun G => ?_⟩
  simp only [L_law_72_g986, L_law_72_f986, nn_one, sc0_0, ixp1 hi, ixp2 hi, ixp3 hi, ixp4 hi, e1, e2, cI_some, if_true, L_law_72_g1807, L_law_72_f1807]
theorem case_1039 {R : Nat → PH → Prop} (s23 : ∀ m h (a0 a1 a2 : Int32), m < 64 → R m h → Pr (R (m + 1)) (X11_far 0 a0 a1 a2) (X12_far 0 a0 a1 a2) h) {L i m : Nat} {xs : Nat → Int32} {h : PH} (hi : i + 6 ≤ L ∧ L ≤ 384) (h64 : m < 64) (hr : R m h) : ∃ h2, R (m + 1) h2 ∧ ∀ G, L_law_72_g1039 L xs G 1 1 1 (nI i) h = G 1 1 1 (nI i + 6) h2 := by
  obtain ⟨v, h1, h2, e1, e2, r⟩ := s23 m h (xs (i + 1)) (xs (i + 2)) (xs (i + 3)) h64 hr
  refine ⟨h2, r, fun G => ?_⟩
  simp only [L_law_72_g1039, L_law_72_f1039, nn_one, sc0_0, ixp1 hi, ixp2 hi, ixp3 hi, e1, e2, cI_some, if_true, L_law_72_g1807, L_law_72_f1807]
theorem case_1082 {R : Nat → PH → Prop} (s24 : ∀ m h (a0 a1 a2 : Int32), m < 64 → R m h → Pr (R (m + 1)) (X11_next 0 a0 a1 a2) (X12_next 0 a0 a1 a2) h) {L i m : Nat} {xs : Nat → Int32} {h : PH} (hi : i + 6 ≤ L ∧ L ≤ 384) (h64 : m < 64) (hr : R m h) : ∃ h2, R (m + 1) h2 ∧ ∀ G, L_law_72_g1082 L xs G 1 1 1 (nI i) h = G 1 1 1 (nI i + 6) h2 := by
  obtain ⟨v, h1, h2, e1, e2, r⟩ := s24 m h (xs (i + 1)) (xs (i + 2)) (xs (i + 3)) h64 hr
  refine ⟨h2, r, fun G => ?_⟩
  simp only [L_law_72_g1082, L_law_72_f1082, nn_one, sc0_0, ixp1 hi, ixp2 hi, ixp3 hi, e1, e2, cI_some, if_true, L_law_72_g1807, L_law_72_f1807]
theorem case_1125 {R : Nat → PH → Prop} (s25 : ∀ m h (a0 : Int32), m < 64 → R m h → Pr (R (m + 1)) (X11_breaches 0 a0) (X12_breaches 0 a0) h) {L i m : Nat} {xs : Nat → Int32} {h : PH} (hi : i + 6 ≤ L ∧ L ≤ 384) (h64 : m < 64) (hr : R m h) : ∃ h2, R (m + 1) h2 ∧ ∀ G, L_law_72_g1125 L xs G 1 1 1 (nI i) h = G 1 1 1 (nI i + 6) h2 := by
  obtain ⟨v, h1, h2, e1, e2, r⟩ := s25 m h (xs (i + 1)) h64 hr
  refine ⟨h2, r, fun G => ?_⟩
  simp only [L_law_72_g1125, L_law_72_f1125, nn_one, sc0_0, ixp1 hi, e1, e2, cI_some, if_true, L_law_72_g1807, L_law_72_f1807]
theorem case_1148 {R : Nat → PH → Prop} (s26 : ∀ m h (a0 a1 : Int32), m < 64 → R m h → Pr (R (m + 1)) (X11_breach 0 a0 a1) (X12_breach 0 a0 a1) h) {L i m : Nat} {xs : Nat → Int32} {h : PH} (hi : i + 6 ≤ L ∧ L ≤ 384) (h64 : m < 64) (hr : R m h) : ∃ h2, R (m + 1) h2 ∧ ∀ G, L_law_72_g1148 L xs G 1 1 1 (nI i) h = G 1 1 1 (nI i + 6) h2 := by
  obtain ⟨v, h1, h2, e1, e2, r⟩ := s26 m h (xs (i + 1)) (xs (i + 2)) h64 hr
  refine ⟨h2, r, fun G => ?_⟩
  simp only [L_law_72_g1148, L_law_72_f1148, nn_one, sc0_0, ixp1 hi, ixp2 hi, e1, e2, cI_some, if_true, L_law_72_g1807, L_law_72_f1807]
theorem case_1181 {R : Nat → PH → Prop} (s27 : ∀ m h (a0 a1 : Int32), m < 64 → R m h → Pr (R (m + 1)) (X11_needs 0 a0 a1) (X12_needs 0 a0 a1) h) {L i m : Nat} {xs : Nat → Int32} {h : PH} (hi : i + 6 ≤ L ∧ L ≤ 384) (h64 : m < 64) (hr : R m h) : ∃ h2, R (m + 1) h2 ∧ ∀ G, L_law_72_g1181 L xs G 1 1 1 (nI i) h = G 1 1 1 (nI i + 6) h2 := by
  obtain ⟨v, h1, h2, e1, e2, r⟩ := s27 m h (xs (i + 1)) (xs (i + 2)) h64 hr
  refine ⟨h2, r, fun G => ?_⟩
  simp only [L_law_72_g1181, L_law_72_f1181, nn_one, sc0_0, ixp1 hi, ixp2 hi, e1, e2, cI_some, if_true, L_law_72_g1807, L_law_72_f1807]
theorem case_1214 {R : Nat → PH → Prop} (s28 : ∀ m h (a0 : Int32), m < 64 → R m h → Pr (R (m + 1)) (X11_wrong 0 a0) (X12_wrong 0 a0) h) {L i m : Nat} {xs : Nat → Int32} {h : PH} (hi : i + 6 ≤ L ∧ L ≤ 384) (h64 : m < 64) (hr : R m h) : ∃ h2, R (m + 1) h2 ∧ ∀ G, L_law_72_g1214 L xs G 1 1 1 (nI i) h = G 1 1 1 (nI i + 6) h2 := by
  obtain ⟨v, h1, h2, e1, e2, r⟩ := s28 m h (xs (i + 1)) h64 hr
  refine ⟨h2, r, fun G => ?_⟩
  simp only [L_law_72_g1214, L_law_72_f1214, nn_one, sc0_0, ixp1 hi, e1, e2, cI_some, if_true, L_law_72_g1807, L_law_72_f1807]
theorem case_1237 {R : Nat → PH → Prop} (s29 : ∀ m h (a0 : Int32), m < 64 → R m h → Pr (R (m + 1)) (X11_mend 0 a0) (X12_mend 0 a0) h) {L i m : Nat} {xs : Nat → Int32} {h : PH} (hi : i + 6 ≤ L ∧ L ≤ 384) (h64 : m < 64) (hr : R m h) : ∃ h2, R (m + 1) h2 ∧ ∀ G, L_law_72_g1237 L xs G 1 1 1 (nI i) h = G 1 1 1 (nI i + 6) h2 := by
  obtain ⟨v, h1, h2, e1, e2, r⟩ := s29 m h (xs (i + 1)) h64 hr
  refine ⟨h2, r, fun G => ?_⟩
  simp only [L_law_72_g1237, L_law_72_f1237, nn_one, sc0_0, ixp1 hi, e1, e2, cI_some, if_true, L_law_72_g1807, L_law_72_f1807]
theorem case_1260 {R : Nat → PH → Prop} (s30 : ∀ m h (a0 : Int32), m < 64 → R m h → Pr (R (m + 1)) (X11_choose 0 a0) (X12_choose 0 a0) h) {L i m : Nat} {xs : Nat → Int32} {h : PH} (hi : i + 6 ≤ L ∧ L ≤ 384) (h64 : m < 64) (hr : R m h) : ∃ h2, R (m + 1) h2 ∧ ∀ G, L_law_72_g1260 L xs G 1 1 1 (nI i) h = G 1 1 1 (nI i + 6) h2 := by
  obtain ⟨v, h1, h2, e1, e2, r⟩ := s30 m h (xs (i + 1)) h64 hr
  refine ⟨h2, r, fun G => ?_⟩
  simp only [L_law_72_g1260, L_law_72_f1260, nn_one, sc0_0, ixp1 hi, e1, e2, cI_some, if_true, L_law_72_g1807, L_law_72_f1807]
theorem case_1283 {R : Nat → PH → Prop} (s31 : ∀ m h, m < 64 → R m h → Pr (R (m + 1)) (X11_clear 0) (X12_clear 0) h) {L i m : Nat} {xs : Nat → Int32} {h : PH} (hi : i + 6 ≤ L ∧ L ≤ 384) (h64 : m < 64) (hr : R m h) : ∃ h2, R (m + 1) h2 ∧ ∀ G, L_law_72_g1283 L xs G 1 1 1 (nI i) h = G 1 1 1 (nI i + 6) h2 := by
  obtain ⟨v, h1, h2, e1, e2, r⟩ := s31 m h h64 hr
  refine ⟨h2, r, fun G => ?_⟩
  simp only [L_law_72_g1283, L_law_72_f1283, nn_one, sc0_0, e1, e2, cI_some, if_true, L_law_72_g1807, L_law_72_f1807]
theorem case_1296 {R : Nat → PH → Prop} (s32 : ∀ m h (a0 a1 : Int32), m < 64 → R m h → Pr (R (m + 1)) (X11_fewest 0 a0 a1) (X12_fewest 0 a0 a1) h) {L i m : Nat} {xs : Nat → Int32} {h : PH} (hi : i + 6 ≤ L ∧ L ≤ 384) (h64 : m < 64) (hr : R m h) : ∃ h2, R (m + 1) h2 ∧ ∀ G, L_law_72_g1296 L xs G 1 1 1 (nI i) h = G 1 1 1 (nI i + 6) h2 := by
  obtain ⟨v, h1, h2, e1, e2, r⟩ := s32 m h (xs (i + 1)) (xs (i + 2)) h64 hr
  refine ⟨h2, r, fun G => ?_⟩
  simp only [L_law_72_g1296, L_law_72_f1296, nn_one, sc0_0, ixp1 hi, ixp2 hi, e1, e2, cI_some, if_true, L_law_72_g1807, L_law_72_f1807]
theorem case_1329 {R : Nat → PH → Prop} (s33 : ∀ m h (a0 : Int32), m < 64 → R m h → Pr (R (m + 1)) (X11_seed 0 a0) (X12_seed 0 a0) h) {L i m : Nat} {xs : Nat → Int32} {h : PH} (hi : i + 6 ≤ L ∧ L ≤ 384) (h64 : m < 64) (hr : R m h) : ∃ h2, R (m + 1) h2 ∧ ∀ G, L_law_72_g1329 L xs G 1 1 1 (nI i) h = G 1 1 1 (nI i + 6) h2 := by
  obtain ⟨v, h1, h2, e1, e2, r⟩ := s33 m h (xs (i + 1)) h64 hr
  refine ⟨h2, r, fun G => ?_⟩
  simp only [L_law_72_g1329, L_law_72_f1329, nn_one, sc0_0, ixp1 hi, e1, e2, cI_some, if_true, L_law_72_g1807, L_law_72_f1807]
theorem case_1352 {R : Nat → PH → Prop} (s34 : ∀ m h (a0 : Int32), m < 64 → R m h → Pr (R (m + 1)) (X11_strangers 0 a0) (X12_strangers 0 a0) h) {L i m : Nat} {xs : Nat → Int32} {h : PH} (hi : i + 6 ≤ L ∧ L ≤ 384) (h64 : m < 64) (hr : R m h) : ∃ h2, R (m + 1) h2 ∧ ∀ G, L_law_72_g1352 L xs G 1 1 1 (nI i) h = G 1 1 1 (nI i + 6) h2 := by
  obtain ⟨v, h1, h2, e1, e2, r⟩ := s34 m h (xs (i + 1)) h64 hr
  refine ⟨h2, r, fun G => ?_⟩
  simp only [L_law_72_g1352, L_law_72_f1352, nn_one, sc0_0, ixp1 hi, e1, e2, cI_some, if_true, L_law_72_g1807, L_law_72_f1807]
theorem case_1375 {R : Nat → PH → Prop} (s35 : ∀ m h, m < 64 → R m h → Pr (R (m + 1)) (X11_led 0) (X12_led 0) h) {L i m : Nat} {xs : Nat → Int32} {h : PH} (hi : i + 6 ≤ L ∧ L ≤ 384) (h64 : m < 64) (hr : R m h) : ∃ h2, R (m + 1) h2 ∧ ∀ G, L_law_72_g1375 L xs G 1 1 1 (nI i) h = G 1 1 1 (nI i + 6) h2 := by
  obtain ⟨v, h1, h2, e1, e2, r⟩ := s35 m h h64 hr
  refine ⟨h2, r, fun G => ?_⟩
  simp only [L_law_72_g1375, L_law_72_f1375, nn_one, sc0_0, e1, e2, cI_some, if_true, L_law_72_g1807, L_law_72_f1807]
theorem case_1388 {R : Nat → PH → Prop} (s36 : ∀ m h (a0 a1 a2 : Int32), m < 64 → R m h → Pr (R (m + 1)) (X11_sheet 0 a0 a1 a2) (X12_sheet 0 a0 a1 a2) h) {L i m : Nat} {xs : Nat → Int32} {h : PH} (hi : i + 6 ≤ L ∧ L ≤ 384) (h64 : m < 64) (hr : R m h) : ∃ h2, R (m + 1) h2 ∧ ∀ G, L_law_72_g1388 L xs G 1 1 1 (nI i) h = G 1 1 1 (nI i + 6) h2 := by
  obtain ⟨v, h1, h2, e1, e2, r⟩ := s36 m h (xs (i + 1)) (xs (i + 2)) (xs (i + 3)) h64 hr
  refine ⟨h2, r, fun G => ?_⟩
  simp only [L_law_72_g1388, L_law_72_f1388, nn_one, sc0_0, ixp1 hi, ixp2 hi, ixp3 hi, e1, e2, cI_some, if_true, L_law_72_g1807, L_law_72_f1807]
theorem case_1431 {R : Nat → PH → Prop} (s37 : ∀ m h (a0 a1 a2 : Int32), m < 64 → R m h → Pr (R (m + 1)) (X11_mark 0 a0 a1 a2) (X12_mark 0 a0 a1 a2) h) {L i m : Nat} {xs : Nat → Int32} {h : PH} (hi : i + 6 ≤ L ∧ L ≤ 384) (h64 : m < 64) (hr : R m h) : ∃ h2, R (m + 1) h2 ∧ ∀ G, L_law_72_g1431 L xs G 1 1 1 (nI i) h = G 1 1 1 (nI i + 6) h2 := by
  obtain ⟨v, h1, h2, e1, e2, r⟩ := s37 m h (xs (i + 1)) (xs (i + 2)) (xs (i + 3)) h64 hr
  refine ⟨h2, r, fun G => ?_⟩
  simp only [L_law_72_g1431, L_law_72_f1431, nn_one, sc0_0, ixp1 hi, ixp2 hi, ixp3 hi, e1, e2, cI_some, if_true, L_law_72_g1807, L_law_72_f1807]
theorem case_1474 {R : Nat → PH → Prop} (s38 : ∀ m h (a0 a1 : Int32), m < 64 → R m h → Pr (R (m + 1)) (X11_fill 0 a0 a1) (X12_fill 0 a0 a1) h) {L i m : Nat} {xs : Nat → Int32} {h : PH} (hi : i + 6 ≤ L ∧ L ≤ 384) (h64 : m < 64) (hr : R m h) : ∃ h2, R (m + 1) h2 ∧ ∀ G, L_law_72_g1474 L xs G 1 1 1 (nI i) h = G 1 1 1 (nI i + 6) h2 := by
  obtain ⟨v, h1, h2, e1, e2, r⟩ := s38 m h (xs (i + 1)) (xs (i + 2)) h64 hr
  refine ⟨h2, r, fun G => ?_⟩
  simp only [L_law_72_g1474, L_law_72_f1474, nn_one, sc0_0, ixp1 hi, ixp2 hi, e1, e2, cI_some, if_true, L_law_72_g1807, L_law_72_f1807]
theorem case_1507 {R : Nat → PH → Prop} (s39 : ∀ m h (a0 a1 a2 a3 a4 : Int32), m < 64 → R m h → Pr (R (m + 1)) (X11_copy 0 a0 a1 a2 a3 a4) (X12_copy 0 a0 a1 a2 a3 a4) h) {L i m : Nat} {xs : Nat → Int32} {h : PH} (hi : i + 6 ≤ L ∧ L ≤ 384) (h64 : m < 64) (hr : R m h) : ∃ h2, R (m + 1) h2 ∧ ∀ G, L_law_72_g1507 L xs G 1 1 1 (nI i) h = G 1 1 1 (nI i + 6) h2 := by
  obtain ⟨v, h1, h2, e1, e2, r⟩ := s39 m h (xs (i + 1)) (xs (i + 2)) (xs (i + 3)) (xs (i + 4)) (xs (i + 5)) h64 hr
  refine ⟨h2, r, fun G => ?_⟩
  simp only [L_law_72_g1507, L_law_72_f1507, nn_one, sc0_0, ixp1 hi, ixp2 hi, ixp3 hi, ixp4 hi, ixp5 hi, e1, e2, cI_some, if_true, L_law_72_g1807, L_law_72_f1807]
theorem case_1570 {R : Nat → PH → Prop} (s40 : ∀ m h (a0 a1 a2 : Int32), m < 64 → R m h → Pr (R (m + 1)) (X11_lay 0 a0 a1 a2) (X12_lay 0 a0 a1 a2) h) {L i m : Nat} {xs : Nat → Int32} {h : PH} (hi : i + 6 ≤ L ∧ L ≤ 384) (h64 : m < 64) (hr : R m h) : ∃ h2, R (m + 1) h2 ∧ ∀ G, L_law_72_g1570 L xs G 1 1 1 (nI i) h = G 1 1 1 (nI i + 6) h2 := by
  obtain ⟨v, h1, h2, e1, e2, r⟩ := s40 m h (xs (i + 1)) (xs (i + 2)) (xs (i + 3)) h64 hr
  refine ⟨h2, r, fun G => ?_⟩
  simp only [L_law_72_g1570, L_law_72_f1570, nn_one, sc0_0, ixp1 hi, ixp2 hi, ixp3 hi, e1, e2, cI_some, if_true, L_law_72_g1807, L_law_72_f1807]
theorem case_1613 {R : Nat → PH → Prop} (s41 : ∀ m h (a0 a1 : Int32), m < 64 → R m h → Pr (R (m + 1)) (X11_ask 0 a0 a1) (X12_ask 0 a0 a1) h) {L i m : Nat} {xs : Nat → Int32} {h : PH} (hi : i + 6 ≤ L ∧ L ≤ 384) (h64 : m < 64) (hr : R m h) : ∃ h2, R (m + 1) h2 ∧ ∀ G, L_law_72_g1613 L xs G 1 1 1 (nI i) h = G 1 1 1 (nI i + 6) h2 := by
  obtain ⟨v, h1, h2, e1, e2, r⟩ := s41 m h (xs (i + 1)) (xs (i + 2)) h64 hr
  refine ⟨h2, r, fun G => ?_⟩
  simp only [L_law_72_g1613, L_law_72_f1613, nn_one, sc0_0, ixp1 hi, ixp2 hi, e1, e2, cI_some, if_true, L_law_72_g1807, L_law_72_f1807]
theorem case_1646 {R : Nat → PH → Prop} (s42 : ∀ m h (a0 a1 : Int32), m < 64 → R m h → Pr (R (m + 1)) (X11_item 0 a0 a1) (X12_item 0 a0 a1) h) {L i m : Nat} {xs : Nat → Int32} {h : PH} (hi : i + 6 ≤ L ∧ L ≤ 384) (h64 : m < 64) (hr : R m h) : ∃ h2, R (m + 1) h2 ∧ ∀ G, L_law_72_g1646 L xs G 1 1 1 (nI i) h = G 1 1 1 (nI i + 6) h2 := by
  obtain ⟨v, h1, h2, e1, e2, r⟩ := s42 m h (xs (i + 1)) (xs (i + 2)) h64 hr
  refine ⟨h2, r, fun G => ?_⟩
  simp only [L_law_72_g1646, L_law_72_f1646, nn_one, sc0_0, ixp1 hi, ixp2 hi, e1, e2, cI_some, if_true, L_law_72_g1807, L_law_72_f1807]
theorem case_1679 {R : Nat → PH → Prop} (s43 : ∀ m h (a0 a1 : Int32), m < 64 → R m h → Pr (R (m + 1)) (X11_rest 0 a0 a1) (X12_rest 0 a0 a1) h) {L i m : Nat} {xs : Nat → Int32} {h : PH} (hi : i + 6 ≤ L ∧ L ≤ 384) (h64 : m < 64) (hr : R m h) : ∃ h2, R (m + 1) h2 ∧ ∀ G, L_law_72_g1679 L xs G 1 1 1 (nI i) h = G 1 1 1 (nI i + 6) h2 := by
  obtain ⟨v, h1, h2, e1, e2, r⟩ := s43 m h (xs (i + 1)) (xs (i + 2)) h64 hr
  refine ⟨h2, r, fun G => ?_⟩
  simp only [L_law_72_g1679, L_law_72_f1679, nn_one, sc0_0, ixp1 hi, ixp2 hi, e1, e2, cI_some, if_true, L_law_72_g1807, L_law_72_f1807]
theorem case_1712 {R : Nat → PH → Prop} (s44 : ∀ m h (a0 : Int32), m < 64 → R m h → Pr (R (m + 1)) (X11_tell 0 a0) (X12_tell 0 a0) h) {L i m : Nat} {xs : Nat → Int32} {h : PH} (hi : i + 6 ≤ L ∧ L ≤ 384) (h64 : m < 64) (hr : R m h) : ∃ h2, R (m + 1) h2 ∧ ∀ G, L_law_72_g1712 L xs G 1 1 1 (nI i) h = G 1 1 1 (nI i + 6) h2 := by
  obtain ⟨v, h1, h2, e1, e2, r⟩ := s44 m h (xs (i + 1)) h64 hr
  refine ⟨h2, r, fun G => ?_⟩
  simp only [L_law_72_g1712, L_law_72_f1712, nn_one, sc0_0, ixp1 hi, e1, e2, cI_some, if_true, L_law_72_g1807, L_law_72_f1807]
theorem case_1735 {R : Nat → PH → Prop} (s45 : ∀ m h (a0 : Int32), m < 64 → R m h → Pr (R (m + 1)) (X11_check 0 a0) (X12_check 0 a0) h) {L i m : Nat} {xs : Nat → Int32} {h : PH} (hi : i + 6 ≤ L ∧ L ≤ 384) (h64 : m < 64) (hr : R m h) : ∃ h2, R (m + 1) h2 ∧ ∀ G, L_law_72_g1735 L xs G 1 1 1 (nI i) h = G 1 1 1 (nI i + 6) h2 := by
  obtain ⟨v, h1, h2, e1, e2, r⟩ := s45 m h (xs (i + 1)) h64 hr
  refine ⟨h2, r, fun G => ?_⟩
  simp only [L_law_72_g1735, L_law_72_f1735, nn_one, sc0_0, ixp1 hi, e1, e2, cI_some, if_true, L_law_72_g1807, L_law_72_f1807]
theorem case_1758 {R : Nat → PH → Prop} (s46 : ∀ m h, m < 64 → R m h → Pr (R (m + 1)) (X11_keep 0) (X12_keep 0) h) {L i m : Nat} {xs : Nat → Int32} {h : PH} (hi : i + 6 ≤ L ∧ L ≤ 384) (h64 : m < 64) (hr : R m h) : ∃ h2, R (m + 1) h2 ∧ ∀ G, L_law_72_g1758 L xs G 1 1 1 (nI i) h = G 1 1 1 (nI i + 6) h2 := by
  obtain ⟨v, h1, h2, e1, e2, r⟩ := s46 m h h64 hr
  refine ⟨h2, r, fun G => ?_⟩
  simp only [L_law_72_g1758, L_law_72_f1758, nn_one, sc0_0, e1, e2, cI_some, if_true, L_law_72_g1807, L_law_72_f1807]
theorem case_1771 {R : Nat → PH → Prop} (s47 : ∀ m h, m < 64 → R m h → Pr (R (m + 1)) (X11_back 0) (X12_back 0) h) {L i m : Nat} {xs : Nat → Int32} {h : PH} (hi : i + 6 ≤ L ∧ L ≤ 384) (h64 : m < 64) (hr : R m h) : ∃ h2, R (m + 1) h2 ∧ ∀ G, L_law_72_g1771 L xs G 1 1 1 (nI i) h = G 1 1 1 (nI i + 6) h2 := by
  obtain ⟨v, h1, h2, e1, e2, r⟩ := s47 m h h64 hr
  refine ⟨h2, r, fun G => ?_⟩
  simp only [L_law_72_g1771, L_law_72_f1771, nn_one, sc0_0, e1, e2, cI_some, if_true, L_law_72_g1807, L_law_72_f1807]
theorem case_1784 {R : Nat → PH → Prop} (s48 : ∀ m h (a0 : Int32), m < 64 → R m h → Pr (R (m + 1)) (X11_count 0 a0) (X12_count 0 a0) h) {L i m : Nat} {xs : Nat → Int32} {h : PH} (hi : i + 6 ≤ L ∧ L ≤ 384) (h64 : m < 64) (hr : R m h) : ∃ h2, R (m + 1) h2 ∧ ∀ G, L_law_72_g1784 L xs G 1 1 1 (nI i) h = G 1 1 1 (nI i + 6) h2 := by
  obtain ⟨v, h1, h2, e1, e2, r⟩ := s48 m h (xs (i + 1)) h64 hr
  refine ⟨h2, r, fun G => ?_⟩
  simp only [L_law_72_g1784, L_law_72_f1784, nn_one, sc0_0, ixp1 hi, e1, e2, cI_some, if_true, L_law_72_g1807, L_law_72_f1807]
/-- every pair of calls keeps to a relation, m calls later -/
def AllSteps (R : Nat → PH → Prop) : Prop :=
  (∀ m h, m < 64 → R m h → Pr (R (m + 1)) (X11_place 0) (X12_place 0) h) ∧
  (∀ m h (a0 a1 a2 a3 : Int32), m < 64 → R m h → Pr (R (m + 1)) (X11_way 0 a0 a1 a2 a3) (X12_way 0 a0 a1 a2 a3) h) ∧
  (∀ m h (a0 a1 : Int32), m < 64 → R m h → Pr (R (m + 1)) (X11_wayTold 0 a0 a1) (X12_wayTold 0 a0 a1) h) ∧
  (∀ m h (a b : Int32), b = 0 ∨ b = 1 → m < 64 → R m h → Pr (R (m + 1)) (X11_shut 0 a b) (X12_shut 0 a b) h) ∧
  (∀ m h (a0 a1 : Int32), m < 64 → R m h → Pr (R (m + 1)) (X11_goal 0 a0 a1) (X12_goal 0 a0 a1) h) ∧
  (∀ m h (a0 a1 : Int32), m < 64 → R m h → Pr (R (m + 1)) (X11_goalTold 0 a0 a1) (X12_goalTold 0 a0 a1) h) ∧
  (∀ m h (a0 : Int32), m < 64 → R m h → Pr (R (m + 1)) (X11_hours 0 a0) (X12_hours 0 a0) h) ∧
  (∀ m h (a0 a1 a2 : Int32), m < 64 → R m h → Pr (R (m + 1)) (X11_sign 0 a0 a1 a2) (X12_sign 0 a0 a1 a2) h) ∧
  (∀ m h (a0 a1 : Int32), m < 64 → R m h → Pr (R (m + 1)) (X11_told 0 a0 a1) (X12_told 0 a0 a1) h) ∧
  (∀ m h (a0 a1 : Int32), m < 64 → R m h → Pr (R (m + 1)) (X11_as 0 a0 a1) (X12_as 0 a0 a1) h) ∧
  (∀ m h (a0 a1 : Int32), m < 64 → R m h → Pr (R (m + 1)) (X11_turns 0 a0 a1) (X12_turns 0 a0 a1) h) ∧
  (∀ m h (a0 a1 a2 : Int32), m < 64 → R m h → Pr (R (m + 1)) (X11_row 0 a0 a1 a2) (X12_row 0 a0 a1 a2) h) ∧
  (∀ m h (a0 a1 a2 : Int32), m < 64 → R m h → Pr (R (m + 1)) (X11_rowTold 0 a0 a1 a2) (X12_rowTold 0 a0 a1 a2) h) ∧
  (∀ m h (a0 a1 : Int32), m < 64 → R m h → Pr (R (m + 1)) (X11_drop 0 a0 a1) (X12_drop 0 a0 a1) h) ∧
  (∀ m h (a0 a1 a2 : Int32), m < 64 → R m h → Pr (R (m + 1)) (X11_aim 0 a0 a1 a2) (X12_aim 0 a0 a1 a2) h) ∧
  (∀ m h, m < 64 → R m h → Pr (R (m + 1)) (X11_undo 0) (X12_undo 0) h) ∧
  (∀ m h (a0 a1 a2 : Int32), m < 64 → R m h → Pr (R (m + 1)) (X11_feed 0 a0 a1 a2) (X12_feed 0 a0 a1 a2) h) ∧
  (∀ m h (a0 : Int32), m < 64 → R m h → Pr (R (m + 1)) (X11_trim 0 a0) (X12_trim 0 a0) h) ∧
  (∀ m h, m < 64 → R m h → Pr (R (m + 1)) (X11_text 0) (X12_text 0) h) ∧
  (∀ m h (a0 a1 : Int32), m < 64 → R m h → Pr (R (m + 1)) (X11_textTold 0 a0 a1) (X12_textTold 0 a0 a1) h) ∧
  (∀ m h (a0 : Int32), m < 64 → R m h → Pr (R (m + 1)) (X11_why 0 a0) (X12_why 0 a0) h) ∧
  (∀ m h (a0 a1 a2 a3 : Int32), m < 64 → R m h → Pr (R (m + 1)) (X11_walk 0 a0 a1 a2 a3) (X12_walk 0 a0 a1 a2 a3) h) ∧
  (∀ m h (a0 a1 a2 a3 : Int32), m < 64 → R m h → Pr (R (m + 1)) (X11_via 0 a0 a1 a2 a3) (X12_via 0 a0 a1 a2 a3) h) ∧
  (∀ m h (a0 a1 a2 : Int32), m < 64 → R m h → Pr (R (m + 1)) (X11_far 0 a0 a1 a2) (X12_far 0 a0 a1 a2) h) ∧
  (∀ m h (a0 a1 a2 : Int32), m < 64 → R m h → Pr (R (m + 1)) (X11_next 0 a0 a1 a2) (X12_next 0 a0 a1 a2) h) ∧
  (∀ m h (a0 : Int32), m < 64 → R m h → Pr (R (m + 1)) (X11_breaches 0 a0) (X12_breaches 0 a0) h) ∧
  (∀ m h (a0 a1 : Int32), m < 64 → R m h → Pr (R (m + 1)) (X11_breach 0 a0 a1) (X12_breach 0 a0 a1) h) ∧
  (∀ m h (a0 a1 : Int32), m < 64 → R m h → Pr (R (m + 1)) (X11_needs 0 a0 a1) (X12_needs 0 a0 a1) h) ∧
  (∀ m h (a0 : Int32), m < 64 → R m h → Pr (R (m + 1)) (X11_wrong 0 a0) (X12_wrong 0 a0) h) ∧
  (∀ m h (a0 : Int32), m < 64 → R m h → Pr (R (m + 1)) (X11_mend 0 a0) (X12_mend 0 a0) h) ∧
  (∀ m h (a0 : Int32), m < 64 → R m h → Pr (R (m + 1)) (X11_choose 0 a0) (X12_choose 0 a0) h) ∧
  (∀ m h, m < 64 → R m h → Pr (R (m + 1)) (X11_clear 0) (X12_clear 0) h) ∧
  (∀ m h (a0 a1 : Int32), m < 64 → R m h → Pr (R (m + 1)) (X11_fewest 0 a0 a1) (X12_fewest 0 a0 a1) h) ∧
  (∀ m h (a0 : Int32), m < 64 → R m h → Pr (R (m + 1)) (X11_seed 0 a0) (X12_seed 0 a0) h) ∧
  (∀ m h (a0 : Int32), m < 64 → R m h → Pr (R (m + 1)) (X11_strangers 0 a0) (X12_strangers 0 a0) h) ∧
  (∀ m h, m < 64 → R m h → Pr (R (m + 1)) (X11_led 0) (X12_led 0) h) ∧
  (∀ m h (a0 a1 a2 : Int32), m < 64 → R m h → Pr (R (m + 1)) (X11_sheet 0 a0 a1 a2) (X12_sheet 0 a0 a1 a2) h) ∧
  (∀ m h (a0 a1 a2 : Int32), m < 64 → R m h → Pr (R (m + 1)) (X11_mark 0 a0 a1 a2) (X12_mark 0 a0 a1 a2) h) ∧
  (∀ m h (a0 a1 : Int32), m < 64 → R m h → Pr (R (m + 1)) (X11_fill 0 a0 a1) (X12_fill 0 a0 a1) h) ∧
  (∀ m h (a0 a1 a2 a3 a4 : Int32), m < 64 → R m h → Pr (R (m + 1)) (X11_copy 0 a0 a1 a2 a3 a4) (X12_copy 0 a0 a1 a2 a3 a4) h) ∧
  (∀ m h (a0 a1 a2 : Int32), m < 64 → R m h → Pr (R (m + 1)) (X11_lay 0 a0 a1 a2) (X12_lay 0 a0 a1 a2) h) ∧
  (∀ m h (a0 a1 : Int32), m < 64 → R m h → Pr (R (m + 1)) (X11_ask 0 a0 a1) (X12_ask 0 a0 a1) h) ∧
  (∀ m h (a0 a1 : Int32), m < 64 → R m h → Pr (R (m + 1)) (X11_item 0 a0 a1) (X12_item 0 a0 a1) h) ∧
  (∀ m h (a0 a1 : Int32), m < 64 → R m h → Pr (R (m + 1)) (X11_rest 0 a0 a1) (X12_rest 0 a0 a1) h) ∧
  (∀ m h (a0 : Int32), m < 64 → R m h → Pr (R (m + 1)) (X11_tell 0 a0) (X12_tell 0 a0) h) ∧
  (∀ m h (a0 : Int32), m < 64 → R m h → Pr (R (m + 1)) (X11_check 0 a0) (X12_check 0 a0) h) ∧
  (∀ m h, m < 64 → R m h → Pr (R (m + 1)) (X11_keep 0) (X12_keep 0) h) ∧
  (∀ m h, m < 64 → R m h → Pr (R (m + 1)) (X11_back 0) (X12_back 0) h) ∧
  (∀ m h (a0 : Int32), m < 64 → R m h → Pr (R (m + 1)) (X11_count 0 a0) (X12_count 0 a0) h)
theorem law_case {R : Nat → PH → Prop} (hS : AllSteps R) (hm : ∀ m h, R m h → R (m + 1) h) {L i m : Nat} {xs : Nat → Int32} {h : PH} (hi : i + 6 ≤ L ∧ L ≤ 384) (h64 : m < 64) (hr : R m h) : ∃ h2, R (m + 1) h2 ∧ ∀ G, L_law_72_g18 L xs G 1 1 1 (nI i) h = G 1 1 1 (nI i + 6) h2 := by
  obtain ⟨s0, s1, s2, s3, s4, s5, s6, s7, s8, s9, s10, s11, s12, s13, s14, s15, s16, s17, s18, s19, s20, s21, s22, s23, s24, s25, s26, s27, s28, s29, s30, s31, s32, s33, s34, s35, s36, s37, s38, s39, s40, s41, s42, s43, s44, s45, s46, s47, s48⟩ := hS
  have hlt : ¬ (Int32.ofNat L) - 6 < nI i := by
    show ¬ nI L - 6 < nI i
    have e : (nI L - 6).toInt = L - 6 := by
      have h6 : (6 : Int32).toInt = 6 := by decide
      have hL := nI_toInt (n := L) (by omega)
      rw [i_sub (by omega), h6, hL]
    rw [i_lt, e, nI_toInt (by omega)]
    omega
  simp only [L_law_72_g18, L_law_72_f18, nn_one, sc0_0, hlt, if_false, ixp0 hi, wi_eq]
  by_cases c0 : xs i &&& 63 = 0
  · simp only [c0, if_true]; exact case_244 s0 hi h64 hr
  simp only [c0, if_false]
  by_cases c1 : xs i &&& 63 = 1
  · simp only [c1, if_true]; exact case_257 s1 hi h64 hr
  simp only [c1, if_false]
  by_cases c2 : xs i &&& 63 = 2
  · simp only [c2, if_true]; exact case_310 s2 hi h64 hr
  simp only [c2, if_false]
  by_cases c3 : xs i &&& 63 = 3
  · simp only [c3, if_true]; exact case_343 s3 hi h64 hr
  simp only [c3, if_false]
  by_cases c4 : xs i &&& 63 = 4
  · simp only [c4, if_true]; exact case_392 s4 hi h64 hr
  simp only [c4, if_false]
  by_cases c5 : xs i &&& 63 = 5
  · simp only [c5, if_true]; exact case_425 s5 hi h64 hr
  simp only [c5, if_false]
  by_cases c6 : xs i &&& 63 = 6
  · simp only [c6, if_true]; exact case_458 s6 hi h64 hr
  simp only [c6, if_false]
  by_cases c7 : xs i &&& 63 = 7
  · simp only [c7, if_true]; exact case_481 s7 hi h64 hr
  simp only [c7, if_false]
  by_cases c8 : xs i &&& 63 = 8
  · simp only [c8, if_true]; exact case_524 s8 hi h64 hr
  simp only [c8, if_false]
  by_cases c9 : xs i &&& 63 = 9
  · simp only [c9, if_true]; exact case_557 s9 hi h64 hr
  simp only [c9, if_false]
  by_cases c10 : xs i &&& 63 = 10
  · simp only [c10, if_true]; exact case_590 s10 hi h64 hr
  simp only [c10, if_false]
  by_cases c11 : xs i &&& 63 = 11
  · simp only [c11, if_true]; exact case_623 s11 hi h64 hr
  simp only [c11, if_false]
  by_cases c12 : xs i &&& 63 = 12
  · simp only [c12, if_true]; exact case_666 s12 hi h64 hr
  simp only [c12, if_false]
  by_cases c13 : xs i &&& 63 = 13
  · simp only [c13, if_true]; exact case_709 s13 hi h64 hr
  simp only [c13, if_false]
  by_cases c14 : xs i &&& 63 = 14
  · simp only [c14, if_true]; exact case_742 s14 hi h64 hr
  simp only [c14, if_false]
  by_cases c15 : xs i &&& 63 = 15
  · simp only [c15, if_true]; exact case_785 s15 hi h64 hr
  simp only [c15, if_false]
  by_cases c16 : xs i &&& 63 = 16
  · simp only [c16, if_true]; exact case_798 s16 hi h64 hr
  simp only [c16, if_false]
  by_cases c17 : xs i &&& 63 = 17
  · simp only [c17, if_true]; exact case_841 s17 hi h64 hr
  simp only [c17, if_false]
  by_cases c18 : xs i &&& 63 = 18
  · simp only [c18, if_true]; exact case_864 s18 hi h64 hr
  simp only [c18, if_false]
  by_cases c19 : xs i &&& 63 = 19
  · simp only [c19, if_true]; exact case_877 s19 hi h64 hr
  simp only [c19, if_false]
  by_cases c20 : xs i &&& 63 = 20
  · simp only [c20, if_true]; exact case_910 s20 hi h64 hr
  simp only [c20, if_false]
  by_cases c21 : xs i &&& 63 = 21
  · simp only [c21, if_true]; exact case_933 s21 hi h64 hr
  simp only [c21, if_false]
  by_cases c22 : xs i &&& 63 = 22
  · simp only [c22, if_true]; exact case_986 s22 hi h64 hr
  simp only [c22, if_false]
  by_cases c23 : xs i &&& 63 = 23
  · simp only [c23, if_true]; exact case_1039 s23 hi h64 hr
  simp only [c23, if_false]
  by_cases c24 : xs i &&& 63 = 24
  · simp only [c24, if_true]; exact case_1082 s24 hi h64 hr
  simp only [c24, if_false]
  by_cases c25 : xs i &&& 63 = 25
  · simp only [c25, if_true]; exact case_1125 s25 hi h64 hr
  simp only [c25, if_false]
  by_cases c26 : xs i &&& 63 = 26
  · simp only [c26, if_true]; exact case_1148 s26 hi h64 hr
  simp only [c26, if_false]
  by_cases c27 : xs i &&& 63 = 27
  · simp only [c27, if_true]; exact case_1181 s27 hi h64 hr
  simp only [c27, if_false]
  by_cases c28 : xs i &&& 63 = 28
  · simp only [c28, if_true]; exact case_1214 s28 hi h64 hr
  simp only [c28, if_false]
  by_cases c29 : xs i &&& 63 = 29
  · simp only [c29, if_true]; exact case_1237 s29 hi h64 hr
  simp only [c29, if_false]
  by_cases c30 : xs i &&& 63 = 30
  · simp only [c30, if_true]; exact case_1260 s30 hi h64 hr
  simp only [c30, if_false]
  by_cases c31 : xs i &&& 63 = 31
  · simp only [c31, if_true]; exact case_1283 s31 hi h64 hr
  simp only [c31, if_false]
  by_cases c32 : xs i &&& 63 = 32
  · simp only [c32, if_true]; exact case_1296 s32 hi h64 hr
  simp only [c32, if_false]
  by_cases c33 : xs i &&& 63 = 33
  · simp only [c33, if_true]; exact case_1329 s33 hi h64 hr
  simp only [c33, if_false]
  by_cases c34 : xs i &&& 63 = 34
  · simp only [c34, if_true]; exact case_1352 s34 hi h64 hr
  simp only [c34, if_false]
  by_cases c35 : xs i &&& 63 = 35
  · simp only [c35, if_true]; exact case_1375 s35 hi h64 hr
  simp only [c35, if_false]
  by_cases c36 : xs i &&& 63 = 36
  · simp only [c36, if_true]; exact case_1388 s36 hi h64 hr
  simp only [c36, if_false]
  by_cases c37 : xs i &&& 63 = 37
  · simp only [c37, if_true]; exact case_1431 s37 hi h64 hr
  simp only [c37, if_false]
  by_cases c38 : xs i &&& 63 = 38
  · simp only [c38, if_true]; exact case_1474 s38 hi h64 hr
  simp only [c38, if_false]
  by_cases c39 : xs i &&& 63 = 39
  · simp only [c39, if_true]; exact case_1507 s39 hi h64 hr
  simp only [c39, if_false]
  by_cases c40 : xs i &&& 63 = 40
  · simp only [c40, if_true]; exact case_1570 s40 hi h64 hr
  simp only [c40, if_false]
  by_cases c41 : xs i &&& 63 = 41
  · simp only [c41, if_true]; exact case_1613 s41 hi h64 hr
  simp only [c41, if_false]
  by_cases c42 : xs i &&& 63 = 42
  · simp only [c42, if_true]; exact case_1646 s42 hi h64 hr
  simp only [c42, if_false]
  by_cases c43 : xs i &&& 63 = 43
  · simp only [c43, if_true]; exact case_1679 s43 hi h64 hr
  simp only [c43, if_false]
  by_cases c44 : xs i &&& 63 = 44
  · simp only [c44, if_true]; exact case_1712 s44 hi h64 hr
  simp only [c44, if_false]
  by_cases c45 : xs i &&& 63 = 45
  · simp only [c45, if_true]; exact case_1735 s45 hi h64 hr
  simp only [c45, if_false]
  by_cases c46 : xs i &&& 63 = 46
  · simp only [c46, if_true]; exact case_1758 s46 hi h64 hr
  simp only [c46, if_false]
  by_cases c47 : xs i &&& 63 = 47
  · simp only [c47, if_true]; exact case_1771 s47 hi h64 hr
  simp only [c47, if_false]
  by_cases c48 : xs i &&& 63 = 48
  · simp only [c48, if_true]; exact case_1784 s48 hi h64 hr
  simp only [c48, if_false]
  exact ⟨h, hm m h hr, fun G => rfl⟩
theorem law_loop {R : Nat → PH → Prop} (hS : AllSteps R) (hm : ∀ m h, R m h → R (m + 1) h) {L : Nat} {xs : Nat → Int32} (hL : L ≤ 384) : ∀ (k i m : Nat) (h : PH), L < i + 6 * k + 6 → i ≤ L → i = 6 * m → R m h → ∃ n h2, L_law_72_fam L xs n 1 1 1 (nI i) h = some (some (.inl 1), h2) ∧ ∃ m2, m2 ≤ 64 ∧ R m2 h2
  | 0, i, m, h, e, hi, hm', hr => by
    refine ⟨1, h, ?_, m, by omega, hr⟩
    show L_law_72_g18 L xs (L_law_72_fam L xs 0) 1 1 1 (nI i) h = _
    have hlt : (Int32.ofNat L) - 6 < nI i := by
      show nI L - 6 < nI i
      have e2 : (nI L - 6).toInt = (L : Int) - 6 := by
        have h6 : (6 : Int32).toInt = 6 := by decide
        have hL := nI_toInt (n := L) (by omega)
        rw [i_sub (by omega), h6, hL]
      rw [i_lt, e2, nI_toInt (by omega)]
      omega
    simp only [L_law_72_g18, L_law_72_f18, nn_one, sc0_0, hlt, if_true, bz_1]
  | k + 1, i, m, h, e, hi, hm', hr => by
    by_cases hlt : i + 6 ≤ L
    · obtain ⟨h2, r2, e2⟩ := law_case hS hm (xs := xs) ⟨hlt, hL⟩ (by omega) hr
      obtain ⟨n, h3, e3, q⟩ := law_loop hS hm hL (xs := xs) k (i + 6) (m + 1) h2 (by omega) hlt (by omega) r2
      refine ⟨n + 1, h3, ?_, q⟩
      show L_law_72_g18 L xs (L_law_72_fam L xs n) 1 1 1 (nI i) h = _
      rw [e2, show nI i + 6 = nI (i + 6) from nI_add i 6]
      exact e3
    · exact law_loop hS hm hL 0 i m h (by omega) hi hm' hr
theorem both_some : ∃ h, both = some (none, h) ∧ SH h := by
  obtain ⟨r, e, q⟩ := chkR_some both_sh
  obtain ⟨v, h⟩ := r
  rw [Bool.and_eq_true] at q
  cases v with
  | none => exact ⟨h, e, of_decide_eq_true q.2⟩
  | some w => exact absurd q.1 (by simp)
theorem law_start {L : Nat} {xs : Nat → Int32} {G : Nat → Nat → Nat → Int32 → PH → Option Rs} {h1 h : PH} (n0 : hN h00 10 = 0) (ea : X11_init 0 (nw h00 10 0 10) = some (none, h1)) (hn1 : hN h1 11 = 0) (eb : X12_init 0 (nw h1 11 0 51) = some (none, h)) : L_law_72_g0 L xs G 1 h00 = G 1 1 1 0 h := by
  simp only [L_law_72_g0, L_law_72_f0, wr_eq, n0, Nat.zero_add, nn_one, ea, cV_some, hn1, eb]
/-- the law out of a relation that holds when both are made and that every pair of calls keeps -/
theorem law_main {R : Nat → PH → Prop} (hst : AllSteps R) (hm : ∀ m h, R m h → R (m + 1) h) (h0 : ∀ h, both = some (none, h) → R 0 h) (hC64 : ∀ m h, m ≤ 64 → R m h → hC h ≤ 600000 ∧ hS h ≤ 7302250) {L : Nat} {xs : Nat → Int32} (hL : L ≤ 384) :
    ∃ h, L_law_72 L xs 1 h00 = some (some (.inl 1), h) ∧ hC h ≤ 600000 ∧ hS h ≤ 7302250 := by
  obtain ⟨h, e, -⟩ := both_some
  obtain ⟨n, h2, e2, m2, q1, q2⟩ := law_loop hst hm hL (xs := xs) 64 0 0 h (by omega) (by omega) rfl (h0 h e)
  refine ⟨h2, L_law_72_iff.mpr ⟨n, ?_⟩, hC64 m2 h2 q1 q2⟩
  obtain ⟨h1, ea, eb⟩ := cV_of2 e
  obtain ⟨r, e5, q5⟩ := chkR_some X11e_n
  have hn1 : hN h1 11 = 0 := by
    rw [ea] at e5
    cases e5
    exact Nat.eq_of_beq_eq_true q5
  rw [law_start (hN_h00 (by decide)) (X11e_mo 0 _ _ ea) hn1 eb]
  exact e2
