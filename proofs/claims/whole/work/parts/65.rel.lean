/-! the relation between a house (number b) and the model's row of numbers N: all but the texts -/
def rgI (x : Int32) (l u : Int) : Prop := l ≤ x.toInt ∧ x.toInt ≤ u
def HScal (h : PH) (b : Nat) (N : Nat → Int32) : Prop :=
  hI h 72 b 0 = N 3 ∧ hI h 73 b 0 = N 4 ∧ hI h 74 b 0 = N 5 ∧ hI h 75 b 0 = N 6 ∧ hI h 76 b 0 = N 8 ∧ hI h 77 b 0 = N 7 ∧ hI h 78 b 0 = N 1 ∧ hI h 79 b 0 = N 2 ∧ hI h 80 b 0 = N 0
def HRange (N : Nat → Int32) : Prop :=
  rgI (N 3) 0 12 ∧ rgI (N 4) 0 20 ∧ rgI (N 5) 0 10 ∧ rgI (N 6) 0 14 ∧ rgI (N 8) 0 14 ∧ rgI (N 7) 0 6 ∧ rgI (N 1) 0 23 ∧ rgI (N 2) 0 999
/-- a way leads from a place in a direction -/
def leads (N : Nat → Int32) (w : Nat) (p d : Int) : Prop :=
  ((N (15 + 6 * w)).toInt = p ∧ (N (17 + 6 * w)).toInt = d) ∨ ((N (16 + 6 * w)).toInt = p ∧ ((N (17 + 6 * w)).toInt + 4) % 8 = d)
def HWays (h : PH) (b : Nat) (N : Nat → Int32) : Prop :=
  (∀ w : Nat, (w : Int) < (N 4).toInt → (∀ f, f < 6 → hI h (576 + f) (20 * b + w) 0 = N (15 + 6 * w + f)) ∧ (0 ≤ (N (15 + 6 * w)).toInt ∧ (N (15 + 6 * w)).toInt < (N 3).toInt) ∧ (0 ≤ (N (16 + 6 * w)).toInt ∧ (N (16 + 6 * w)).toInt < (N 3).toInt) ∧
    (N (15 + 6 * w)).toInt ≠ (N (16 + 6 * w)).toInt ∧ rgI (N (17 + 6 * w)) 0 7 ∧ rgI (N (18 + 6 * w)) 0 3 ∧ rgI (N (19 + 6 * w)) 1 30 ∧ rgI (N (20 + 6 * w)) 0 1) ∧
  (∀ p d : Nat, p < 12 → d < 8 → (hI h 960 b (8 * p + d) = -1 ∧ ∀ w : Nat, (w : Int) < (N 4).toInt → ¬ leads N w p d) ∨
    (∃ w : Nat, (w : Int) < (N 4).toInt ∧ hI h 960 b (8 * p + d) = nI w ∧ leads N w p d ∧ ∀ w2 : Nat, (w2 : Int) < (N 4).toInt → leads N w2 p d → w2 = w))
def HGoals (h : PH) (b : Nat) (N : Nat → Int32) : Prop :=
  ∀ g : Nat, (g : Int) < (N 5).toInt → hI h 1024 b g = N (135 + 2 * g) ∧ hI h 1088 b g = N (136 + 2 * g) ∧ (0 ≤ (N (135 + 2 * g)).toInt ∧ (N (135 + 2 * g)).toInt < (N 3).toInt) ∧ rgI (N (136 + 2 * g)) (-1) 3
def HSigns (h : PH) (b : Nat) (N : Nat → Int32) : Prop :=
  ∀ s : Nat, (s : Int) < (N 6).toInt → hI h 320 (14 * b + s) 0 = N (155 + 5 * s) ∧ hI h 321 (14 * b + s) 0 = N (156 + 5 * s) ∧ hI h 324 (14 * b + s) 0 = N (157 + 5 * s) ∧ hI h 323 (14 * b + s) 0 = N (158 + 5 * s) ∧
    hI h 322 (14 * b + s) 0 = (if N (156 + 5 * s) = 5 then N (159 + 5 * s) else -1000000005) ∧
    (0 ≤ (N (155 + 5 * s)).toInt ∧ (N (155 + 5 * s)).toInt < (N 3).toInt) ∧ rgI (N (156 + 5 * s)) 0 5 ∧ rgI (N (157 + 5 * s)) 0 6 ∧ rgI (N (158 + 5 * s)) 0 9999 ∧
    ∀ r : Nat, (r : Int) < (N (157 + 5 * s)).toInt → hI h 1728 (14 * b + s) r = N (225 + 12 * s + 2 * r) ∧ hI h 1792 (14 * b + s) r = N (226 + 12 * s + 2 * r) ∧ rgI (N (225 + 12 * s + 2 * r)) 0 13 ∧ rgI (N (226 + 12 * s + 2 * r)) 0 7
def HChosen (h : PH) (b : Nat) (N : Nat → Int32) : Prop :=
  ∀ k : Nat, (k : Int) < (N 7).toInt → hI h 1344 b k = N (9 + k) ∧ (0 ≤ (N (9 + k)).toInt ∧ (N (9 + k)).toInt < (N 3).toInt)
def HRel (h : PH) (b : Nat) (N : Nat → Int32) : Prop := HScal h b N ∧ HRange N ∧ HWays h b N ∧ HGoals h b N ∧ HSigns h b N ∧ HChosen h b N
/-- it speaks of these columns alone -/
def hrCols : List Nat := [72, 73, 74, 75, 76, 77, 78, 79, 80, 576, 577, 578, 579, 580, 581, 960, 1024, 1088, 320, 321, 322, 323, 324, 1728, 1792, 1344]
theorem HRel.same {h h' : PH} {b : Nat} {N : Nat → Int32} (a : HRel h b N) (e : ∀ c ∈ hrCols, hI h' c = hI h c) : HRel h' b N := by
  obtain ⟨a1, a2, a3, a4, a5, a6⟩ := a
  refine ⟨?_, a2, ?_, ?_, ?_, ?_⟩
  · unfold HScal at a1 ⊢
    rw [e 72 (by decide), e 73 (by decide), e 74 (by decide), e 75 (by decide), e 76 (by decide), e 77 (by decide), e 78 (by decide), e 79 (by decide), e 80 (by decide)]
    exact a1
  · have ef : ∀ f, f < 6 → hI h' (576 + f) = hI h (576 + f) := fun f hf => e _ (by
      have : ∀ f, f < 6 → 576 + f ∈ hrCols := by decide
      exact this f hf)
    refine ⟨fun w hw => ⟨fun f hf => ?_, (a3.1 w hw).2⟩, ?_⟩
    · rw [ef f hf]; exact (a3.1 w hw).1 f hf
    · rw [e 960 (by decide)]; exact a3.2
  · unfold HGoals at a4 ⊢
    rw [e 1024 (by decide), e 1088 (by decide)]
    exact a4
  · unfold HSigns at a5 ⊢
    rw [e 320 (by decide), e 321 (by decide), e 322 (by decide), e 323 (by decide), e 324 (by decide), e 1728 (by decide), e 1792 (by decide)]
    exact a5
  · unfold HChosen at a6 ⊢
    rw [e 1344 (by decide)]
    exact a6
