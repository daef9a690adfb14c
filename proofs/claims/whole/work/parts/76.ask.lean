/-! what a token is, asked of the reference, and as the tokens that were cut have it -/
def KW (b : Nat → Nat) (N s e w : Nat) : Prop := kdN b N s = 1 ∧ IsW b s e w
abbrev NM (b : Nat → Nat) (N s e ℓ c0 c1 c2 c3 : Nat) : Prop := kdN b N s = 1 ∧ e - s = ℓ ∧ b s = c0 ∧ b (s + 1) = c1 ∧ b (s + 2) = c2 ∧ b (s + (ℓ - 1)) = c3
def EndOk (b : Nat → Nat) (N s e : Nat) : Prop := (s = N ∧ e = N) ∨ (s < N ∧ Tok b N s e)
theorem isW_0 {b : Nat → Nat} {s e : Nat} : IsW b s e 0 ↔ (e - s = 3 ∧ b (s) = 115 ∧ b (s + 1) = 101 ∧ b (s + 2) = 116) := by
  unfold IsW
  constructor
  · rintro ⟨h1, h2⟩
    exact ⟨h1, h2 0 (by decide), h2 1 (by decide), h2 2 (by decide)⟩
  · rintro ⟨h1, k0, k1, k2⟩
    refine ⟨h1, fun j hj => ?_⟩
    rcases (show j = 0 ∨ j = 1 ∨ j = 2 by have : j < 3 := hj; omega) with rfl | rfl | rfl
    · exact k0
    · exact k1
    · exact k2
theorem isW_1 {b : Nat → Nat} {s e : Nat} : IsW b s e 1 ↔ (e - s = 5 ∧ b (s) = 97 ∧ b (s + 1) = 108 ∧ b (s + 2) = 111 ∧ b (s + 3) = 110 ∧ b (s + 4) = 101) := by
  unfold IsW
  constructor
  · rintro ⟨h1, h2⟩
    exact ⟨h1, h2 0 (by decide), h2 1 (by decide), h2 2 (by decide), h2 3 (by decide), h2 4 (by decide)⟩
  · rintro ⟨h1, k0, k1, k2, k3, k4⟩
    refine ⟨h1, fun j hj => ?_⟩
    rcases (show j = 0 ∨ j = 1 ∨ j = 2 ∨ j = 3 ∨ j = 4 by have : j < 5 := hj; omega) with rfl | rfl | rfl | rfl | rfl
    · exact k0
    · exact k1
    · exact k2
    · exact k3
    · exact k4
theorem isW_2 {b : Nat → Nat} {s e : Nat} : IsW b s e 2 ↔ (e - s = 6 ∧ b (s) = 115 ∧ b (s + 1) = 104 ∧ b (s + 2) = 97 ∧ b (s + 3) = 114 ∧ b (s + 4) = 101 ∧ b (s + 5) = 100) := by
  unfold IsW
  constructor
  · rintro ⟨h1, h2⟩
    exact ⟨h1, h2 0 (by decide), h2 1 (by decide), h2 2 (by decide), h2 3 (by decide), h2 4 (by decide), h2 5 (by decide)⟩
  · rintro ⟨h1, k0, k1, k2, k3, k4, k5⟩
    refine ⟨h1, fun j hj => ?_⟩
    rcases (show j = 0 ∨ j = 1 ∨ j = 2 ∨ j = 3 ∨ j = 4 ∨ j = 5 by have : j < 6 := hj; omega) with rfl | rfl | rfl | rfl | rfl | rfl
    · exact k0
    · exact k1
    · exact k2
    · exact k3
    · exact k4
    · exact k5
theorem isW_3 {b : Nat → Nat} {s e : Nat} : IsW b s e 3 ↔ (e - s = 6 ∧ b (s) = 112 ∧ b (s + 1) = 97 ∧ b (s + 2) = 105 ∧ b (s + 3) = 114 ∧ b (s + 4) = 101 ∧ b (s + 5) = 100) := by
  unfold IsW
  constructor
  · rintro ⟨h1, h2⟩
    exact ⟨h1, h2 0 (by decide), h2 1 (by decide), h2 2 (by decide), h2 3 (by decide), h2 4 (by decide), h2 5 (by decide)⟩
  · rintro ⟨h1, k0, k1, k2, k3, k4, k5⟩
    refine ⟨h1, fun j hj => ?_⟩
    rcases (show j = 0 ∨ j = 1 ∨ j = 2 ∨ j = 3 ∨ j = 4 ∨ j = 5 by have : j < 6 := hj; omega) with rfl | rfl | rfl | rfl | rfl | rfl
    · exact k0
    · exact k1
    · exact k2
    · exact k3
    · exact k4
    · exact k5
theorem isW_4 {b : Nat → Nat} {s e : Nat} : IsW b s e 4 ↔ (e - s = 4 ∧ b (s) = 104 ∧ b (s + 1) = 101 ∧ b (s + 2) = 108 ∧ b (s + 3) = 100) := by
  unfold IsW
  constructor
  · rintro ⟨h1, h2⟩
    exact ⟨h1, h2 0 (by decide), h2 1 (by decide), h2 2 (by decide), h2 3 (by decide)⟩
  · rintro ⟨h1, k0, k1, k2, k3⟩
    refine ⟨h1, fun j hj => ?_⟩
    rcases (show j = 0 ∨ j = 1 ∨ j = 2 ∨ j = 3 by have : j < 4 := hj; omega) with rfl | rfl | rfl | rfl
    · exact k0
    · exact k1
    · exact k2
    · exact k3
theorem isW_5 {b : Nat → Nat} {s e : Nat} : IsW b s e 5 ↔ (e - s = 7 ∧ b (s) = 117 ∧ b (s + 1) = 110 ∧ b (s + 2) = 97 ∧ b (s + 3) = 115 ∧ b (s + 4) = 107 ∧ b (s + 5) = 101 ∧ b (s + 6) = 100) := by
  unfold IsW
  constructor
  · rintro ⟨h1, h2⟩
    exact ⟨h1, h2 0 (by decide), h2 1 (by decide), h2 2 (by decide), h2 3 (by decide), h2 4 (by decide), h2 5 (by decide), h2 6 (by decide)⟩
  · rintro ⟨h1, k0, k1, k2, k3, k4, k5, k6⟩
    refine ⟨h1, fun j hj => ?_⟩
    rcases (show j = 0 ∨ j = 1 ∨ j = 2 ∨ j = 3 ∨ j = 4 ∨ j = 5 ∨ j = 6 by have : j < 7 := hj; omega) with rfl | rfl | rfl | rfl | rfl | rfl | rfl
    · exact k0
    · exact k1
    · exact k2
    · exact k3
    · exact k4
    · exact k5
    · exact k6
theorem isW_6 {b : Nat → Nat} {s e : Nat} : IsW b s e 6 ↔ (e - s = 4 ∧ b (s) = 108 ∧ b (s + 1) = 105 ∧ b (s + 2) = 102 ∧ b (s + 3) = 116) := by
  unfold IsW
  constructor
  · rintro ⟨h1, h2⟩
    exact ⟨h1, h2 0 (by decide), h2 1 (by decide), h2 2 (by decide), h2 3 (by decide)⟩
  · rintro ⟨h1, k0, k1, k2, k3⟩
    refine ⟨h1, fun j hj => ?_⟩
    rcases (show j = 0 ∨ j = 1 ∨ j = 2 ∨ j = 3 by have : j < 4 := hj; omega) with rfl | rfl | rfl | rfl
    · exact k0
    · exact k1
    · exact k2
    · exact k3
theorem isW_7 {b : Nat → Nat} {s e : Nat} : IsW b s e 7 ↔ (e - s = 4 ∧ b (s) = 101 ∧ b (s + 1) = 97 ∧ b (s + 2) = 115 ∧ b (s + 3) = 101) := by
  unfold IsW
  constructor
  · rintro ⟨h1, h2⟩
    exact ⟨h1, h2 0 (by decide), h2 1 (by decide), h2 2 (by decide), h2 3 (by decide)⟩
  · rintro ⟨h1, k0, k1, k2, k3⟩
    refine ⟨h1, fun j hj => ?_⟩
    rcases (show j = 0 ∨ j = 1 ∨ j = 2 ∨ j = 3 by have : j < 4 := hj; omega) with rfl | rfl | rfl | rfl
    · exact k0
    · exact k1
    · exact k2
    · exact k3
theorem isW_8 {b : Nat → Nat} {s e : Nat} : IsW b s e 8 ↔ (e - s = 4 ∧ b (s) = 119 ∧ b (s + 1) = 97 ∧ b (s + 2) = 105 ∧ b (s + 3) = 116) := by
  unfold IsW
  constructor
  · rintro ⟨h1, h2⟩
    exact ⟨h1, h2 0 (by decide), h2 1 (by decide), h2 2 (by decide), h2 3 (by decide)⟩
  · rintro ⟨h1, k0, k1, k2, k3⟩
    refine ⟨h1, fun j hj => ?_⟩
    rcases (show j = 0 ∨ j = 1 ∨ j = 2 ∨ j = 3 by have : j < 4 := hj; omega) with rfl | rfl | rfl | rfl
    · exact k0
    · exact k1
    · exact k2
    · exact k3
theorem isW_9 {b : Nat → Nat} {s e : Nat} : IsW b s e 9 ↔ (e - s = 2 ∧ b (s) = 105 ∧ b (s + 1) = 102) := by
  unfold IsW
  constructor
  · rintro ⟨h1, h2⟩
    exact ⟨h1, h2 0 (by decide), h2 1 (by decide)⟩
  · rintro ⟨h1, k0, k1⟩
    refine ⟨h1, fun j hj => ?_⟩
    rcases (show j = 0 ∨ j = 1 by have : j < 2 := hj; omega) with rfl | rfl
    · exact k0
    · exact k1
theorem isW_10 {b : Nat → Nat} {s e : Nat} : IsW b s e 10 ↔ (e - s = 2 ∧ b (s) = 111 ∧ b (s + 1) = 114) := by
  unfold IsW
  constructor
  · rintro ⟨h1, h2⟩
    exact ⟨h1, h2 0 (by decide), h2 1 (by decide)⟩
  · rintro ⟨h1, k0, k1⟩
    refine ⟨h1, fun j hj => ?_⟩
    rcases (show j = 0 ∨ j = 1 by have : j < 2 := hj; omega) with rfl | rfl
    · exact k0
    · exact k1
theorem isW_11 {b : Nat → Nat} {s e : Nat} : IsW b s e 11 ↔ (e - s = 3 ∧ b (s) = 97 ∧ b (s + 1) = 110 ∧ b (s + 2) = 100) := by
  unfold IsW
  constructor
  · rintro ⟨h1, h2⟩
    exact ⟨h1, h2 0 (by decide), h2 1 (by decide), h2 2 (by decide)⟩
  · rintro ⟨h1, k0, k1, k2⟩
    refine ⟨h1, fun j hj => ?_⟩
    rcases (show j = 0 ∨ j = 1 ∨ j = 2 by have : j < 3 := hj; omega) with rfl | rfl | rfl
    · exact k0
    · exact k1
    · exact k2
theorem isW_12 {b : Nat → Nat} {s e : Nat} : IsW b s e 12 ↔ (e - s = 3 ∧ b (s) = 110 ∧ b (s + 1) = 111 ∧ b (s + 2) = 116) := by
  unfold IsW
  constructor
  · rintro ⟨h1, h2⟩
    exact ⟨h1, h2 0 (by decide), h2 1 (by decide), h2 2 (by decide)⟩
  · rintro ⟨h1, k0, k1, k2⟩
    refine ⟨h1, fun j hj => ?_⟩
    rcases (show j = 0 ∨ j = 1 ∨ j = 2 by have : j < 3 := hj; omega) with rfl | rfl | rfl
    · exact k0
    · exact k1
    · exact k2
theorem isW_13 {b : Nat → Nat} {s e : Nat} : IsW b s e 13 ↔ (e - s = 6 ∧ b (s) = 109 ∧ b (s + 1) = 105 ∧ b (s + 2) = 110 ∧ b (s + 3) = 117 ∧ b (s + 4) = 116 ∧ b (s + 5) = 101) := by
  unfold IsW
  constructor
  · rintro ⟨h1, h2⟩
    exact ⟨h1, h2 0 (by decide), h2 1 (by decide), h2 2 (by decide), h2 3 (by decide), h2 4 (by decide), h2 5 (by decide)⟩
  · rintro ⟨h1, k0, k1, k2, k3, k4, k5⟩
    refine ⟨h1, fun j hj => ?_⟩
    rcases (show j = 0 ∨ j = 1 ∨ j = 2 ∨ j = 3 ∨ j = 4 ∨ j = 5 by have : j < 6 := hj; omega) with rfl | rfl | rfl | rfl | rfl | rfl
    · exact k0
    · exact k1
    · exact k2
    · exact k3
    · exact k4
    · exact k5
theorem isW_14 {b : Nat → Nat} {s e : Nat} : IsW b s e 14 ↔ (e - s = 6 ∧ b (s) = 119 ∧ b (s + 1) = 101 ∧ b (s + 2) = 105 ∧ b (s + 3) = 103 ∧ b (s + 4) = 104 ∧ b (s + 5) = 116) := by
  unfold IsW
  constructor
  · rintro ⟨h1, h2⟩
    exact ⟨h1, h2 0 (by decide), h2 1 (by decide), h2 2 (by decide), h2 3 (by decide), h2 4 (by decide), h2 5 (by decide)⟩
  · rintro ⟨h1, k0, k1, k2, k3, k4, k5⟩
    refine ⟨h1, fun j hj => ?_⟩
    rcases (show j = 0 ∨ j = 1 ∨ j = 2 ∨ j = 3 ∨ j = 4 ∨ j = 5 by have : j < 6 := hj; omega) with rfl | rfl | rfl | rfl | rfl | rfl
    · exact k0
    · exact k1
    · exact k2
    · exact k3
    · exact k4
    · exact k5
theorem isW_15 {b : Nat → Nat} {s e : Nat} : IsW b s e 15 ↔ (e - s = 5 ∧ b (s) = 116 ∧ b (s + 1) = 105 ∧ b (s + 2) = 114 ∧ b (s + 3) = 101 ∧ b (s + 4) = 100) := by
  unfold IsW
  constructor
  · rintro ⟨h1, h2⟩
    exact ⟨h1, h2 0 (by decide), h2 1 (by decide), h2 2 (by decide), h2 3 (by decide), h2 4 (by decide)⟩
  · rintro ⟨h1, k0, k1, k2, k3, k4⟩
    refine ⟨h1, fun j hj => ?_⟩
    rcases (show j = 0 ∨ j = 1 ∨ j = 2 ∨ j = 3 ∨ j = 4 by have : j < 5 := hj; omega) with rfl | rfl | rfl | rfl | rfl
    · exact k0
    · exact k1
    · exact k2
    · exact k3
    · exact k4
theorem isW_16 {b : Nat → Nat} {s e : Nat} : IsW b s e 16 ↔ (e - s = 4 ∧ b (s) = 108 ∧ b (s + 1) = 101 ∧ b (s + 2) = 102 ∧ b (s + 3) = 116) := by
  unfold IsW
  constructor
  · rintro ⟨h1, h2⟩
    exact ⟨h1, h2 0 (by decide), h2 1 (by decide), h2 2 (by decide), h2 3 (by decide)⟩
  · rintro ⟨h1, k0, k1, k2, k3⟩
    refine ⟨h1, fun j hj => ?_⟩
    rcases (show j = 0 ∨ j = 1 ∨ j = 2 ∨ j = 3 by have : j < 4 := hj; omega) with rfl | rfl | rfl | rfl
    · exact k0
    · exact k1
    · exact k2
    · exact k3
theorem isW_17 {b : Nat → Nat} {s e : Nat} : IsW b s e 17 ↔ (e - s = 6 ∧ b (s) = 110 ∧ b (s + 1) = 117 ∧ b (s + 2) = 109 ∧ b (s + 3) = 98 ∧ b (s + 4) = 101 ∧ b (s + 5) = 114) := by
  unfold IsW
  constructor
  · rintro ⟨h1, h2⟩
    exact ⟨h1, h2 0 (by decide), h2 1 (by decide), h2 2 (by decide), h2 3 (by decide), h2 4 (by decide), h2 5 (by decide)⟩
  · rintro ⟨h1, k0, k1, k2, k3, k4, k5⟩
    refine ⟨h1, fun j hj => ?_⟩
    rcases (show j = 0 ∨ j = 1 ∨ j = 2 ∨ j = 3 ∨ j = 4 ∨ j = 5 by have : j < 6 := hj; omega) with rfl | rfl | rfl | rfl | rfl | rfl
    · exact k0
    · exact k1
    · exact k2
    · exact k3
    · exact k4
    · exact k5
theorem kw_0 {b : Nat → Nat} {N s e : Nat} : KW b N s e 0 ↔ (NM b N s e 3 115 101 116 116) := by
  constructor
  · rintro ⟨h0, h⟩
    obtain ⟨h1, k0, k1, k2⟩ := isW_0.mp h
    exact ⟨h0, h1, k0, k1, k2, k2⟩
  · rintro ⟨h0, h1, z0, z1, z2, z3⟩
    exact ⟨h0, isW_0.mpr ⟨h1, z0, z1, z3⟩⟩
theorem kw_1 {b : Nat → Nat} {N s e : Nat} : KW b N s e 1 ↔ (NM b N s e 5 97 108 111 101 ∧ b (s + 3) = 110) := by
  constructor
  · rintro ⟨h0, h⟩
    obtain ⟨h1, k0, k1, k2, k3, k4⟩ := isW_1.mp h
    exact ⟨⟨h0, h1, k0, k1, k2, k4⟩, k3⟩
  · rintro ⟨⟨h0, h1, z0, z1, z2, z3⟩, y0⟩
    exact ⟨h0, isW_1.mpr ⟨h1, z0, z1, z2, y0, z3⟩⟩
theorem kw_2 {b : Nat → Nat} {N s e : Nat} : KW b N s e 2 ↔ (NM b N s e 6 115 104 97 100 ∧ (b (s + 2) = 97 ∧ b (s + 2 + 1) = 114 ∧ b (s + 2 + 2) = 101)) := by
  constructor
  · rintro ⟨h0, h⟩
    obtain ⟨h1, k0, k1, k2, k3, k4, k5⟩ := isW_2.mp h
    exact ⟨⟨h0, h1, k0, k1, k2, k5⟩, k2, k3, k4⟩
  · rintro ⟨⟨h0, h1, z0, z1, z2, z3⟩, y0, y1, y2⟩
    exact ⟨h0, isW_2.mpr ⟨h1, z0, z1, z2, y1, y2, z3⟩⟩
theorem kw_3 {b : Nat → Nat} {N s e : Nat} : KW b N s e 3 ↔ (NM b N s e 6 112 97 105 100 ∧ (b (s + 2) = 105 ∧ b (s + 2 + 1) = 114 ∧ b (s + 2 + 2) = 101)) := by
  constructor
  · rintro ⟨h0, h⟩
    obtain ⟨h1, k0, k1, k2, k3, k4, k5⟩ := isW_3.mp h
    exact ⟨⟨h0, h1, k0, k1, k2, k5⟩, k2, k3, k4⟩
  · rintro ⟨⟨h0, h1, z0, z1, z2, z3⟩, y0, y1, y2⟩
    exact ⟨h0, isW_3.mpr ⟨h1, z0, z1, z2, y1, y2, z3⟩⟩
theorem kw_4 {b : Nat → Nat} {N s e : Nat} : KW b N s e 4 ↔ (NM b N s e 4 104 101 108 100) := by
  constructor
  · rintro ⟨h0, h⟩
    obtain ⟨h1, k0, k1, k2, k3⟩ := isW_4.mp h
    exact ⟨h0, h1, k0, k1, k2, k3⟩
  · rintro ⟨h0, h1, z0, z1, z2, z3⟩
    exact ⟨h0, isW_4.mpr ⟨h1, z0, z1, z2, z3⟩⟩
theorem kw_5 {b : Nat → Nat} {N s e : Nat} : KW b N s e 5 ↔ (NM b N s e 7 117 110 97 100 ∧ (b (s + 3) = 115 ∧ b (s + 3 + 1) = 107 ∧ b (s + 3 + 2) = 101)) := by
  constructor
  · rintro ⟨h0, h⟩
    obtain ⟨h1, k0, k1, k2, k3, k4, k5, k6⟩ := isW_5.mp h
    exact ⟨⟨h0, h1, k0, k1, k2, k6⟩, k3, k4, k5⟩
  · rintro ⟨⟨h0, h1, z0, z1, z2, z3⟩, y0, y1, y2⟩
    exact ⟨h0, isW_5.mpr ⟨h1, z0, z1, z2, y0, y1, y2, z3⟩⟩
theorem kw_6 {b : Nat → Nat} {N s e : Nat} : KW b N s e 6 ↔ (NM b N s e 4 108 105 102 116) := by
  constructor
  · rintro ⟨h0, h⟩
    obtain ⟨h1, k0, k1, k2, k3⟩ := isW_6.mp h
    exact ⟨h0, h1, k0, k1, k2, k3⟩
  · rintro ⟨h0, h1, z0, z1, z2, z3⟩
    exact ⟨h0, isW_6.mpr ⟨h1, z0, z1, z2, z3⟩⟩
theorem kw_7 {b : Nat → Nat} {N s e : Nat} : KW b N s e 7 ↔ (NM b N s e 4 101 97 115 101) := by
  constructor
  · rintro ⟨h0, h⟩
    obtain ⟨h1, k0, k1, k2, k3⟩ := isW_7.mp h
    exact ⟨h0, h1, k0, k1, k2, k3⟩
  · rintro ⟨h0, h1, z0, z1, z2, z3⟩
    exact ⟨h0, isW_7.mpr ⟨h1, z0, z1, z2, z3⟩⟩
theorem kw_8 {b : Nat → Nat} {N s e : Nat} : KW b N s e 8 ↔ (NM b N s e 4 119 97 105 116) := by
  constructor
  · rintro ⟨h0, h⟩
    obtain ⟨h1, k0, k1, k2, k3⟩ := isW_8.mp h
    exact ⟨h0, h1, k0, k1, k2, k3⟩
  · rintro ⟨h0, h1, z0, z1, z2, z3⟩
    exact ⟨h0, isW_8.mpr ⟨h1, z0, z1, z2, z3⟩⟩
theorem kw_11 {b : Nat → Nat} {N s e : Nat} : KW b N s e 11 ↔ (NM b N s e 3 97 110 100 100) := by
  constructor
  · rintro ⟨h0, h⟩
    obtain ⟨h1, k0, k1, k2⟩ := isW_11.mp h
    exact ⟨h0, h1, k0, k1, k2, k2⟩
  · rintro ⟨h0, h1, z0, z1, z2, z3⟩
    exact ⟨h0, isW_11.mpr ⟨h1, z0, z1, z3⟩⟩
theorem kw_12 {b : Nat → Nat} {N s e : Nat} : KW b N s e 12 ↔ (NM b N s e 3 110 111 116 116) := by
  constructor
  · rintro ⟨h0, h⟩
    obtain ⟨h1, k0, k1, k2⟩ := isW_12.mp h
    exact ⟨h0, h1, k0, k1, k2, k2⟩
  · rintro ⟨h0, h1, z0, z1, z2, z3⟩
    exact ⟨h0, isW_12.mpr ⟨h1, z0, z1, z3⟩⟩
theorem kw_13 {b : Nat → Nat} {N s e : Nat} : KW b N s e 13 ↔ (NM b N s e 6 109 105 110 101 ∧ (b (s + 2) = 110 ∧ b (s + 2 + 1) = 117 ∧ b (s + 2 + 2) = 116)) := by
  constructor
  · rintro ⟨h0, h⟩
    obtain ⟨h1, k0, k1, k2, k3, k4, k5⟩ := isW_13.mp h
    exact ⟨⟨h0, h1, k0, k1, k2, k5⟩, k2, k3, k4⟩
  · rintro ⟨⟨h0, h1, z0, z1, z2, z3⟩, y0, y1, y2⟩
    exact ⟨h0, isW_13.mpr ⟨h1, z0, z1, z2, y1, y2, z3⟩⟩
theorem kw_14 {b : Nat → Nat} {N s e : Nat} : KW b N s e 14 ↔ (NM b N s e 6 119 101 105 116 ∧ (b (s + 2) = 105 ∧ b (s + 2 + 1) = 103 ∧ b (s + 2 + 2) = 104)) := by
  constructor
  · rintro ⟨h0, h⟩
    obtain ⟨h1, k0, k1, k2, k3, k4, k5⟩ := isW_14.mp h
    exact ⟨⟨h0, h1, k0, k1, k2, k5⟩, k2, k3, k4⟩
  · rintro ⟨⟨h0, h1, z0, z1, z2, z3⟩, y0, y1, y2⟩
    exact ⟨h0, isW_14.mpr ⟨h1, z0, z1, z2, y1, y2, z3⟩⟩
theorem kw_15 {b : Nat → Nat} {N s e : Nat} : KW b N s e 15 ↔ (NM b N s e 5 116 105 114 100 ∧ b (s + 3) = 101) := by
  constructor
  · rintro ⟨h0, h⟩
    obtain ⟨h1, k0, k1, k2, k3, k4⟩ := isW_15.mp h
    exact ⟨⟨h0, h1, k0, k1, k2, k4⟩, k3⟩
  · rintro ⟨⟨h0, h1, z0, z1, z2, z3⟩, y0⟩
    exact ⟨h0, isW_15.mpr ⟨h1, z0, z1, z2, y0, z3⟩⟩
theorem kw_16 {b : Nat → Nat} {N s e : Nat} : KW b N s e 16 ↔ (NM b N s e 4 108 101 102 116) := by
  constructor
  · rintro ⟨h0, h⟩
    obtain ⟨h1, k0, k1, k2, k3⟩ := isW_16.mp h
    exact ⟨h0, h1, k0, k1, k2, k3⟩
  · rintro ⟨h0, h1, z0, z1, z2, z3⟩
    exact ⟨h0, isW_16.mpr ⟨h1, z0, z1, z2, z3⟩⟩
theorem kw_17 {b : Nat → Nat} {N s e : Nat} : KW b N s e 17 ↔ (NM b N s e 6 110 117 109 114 ∧ (b (s + 2) = 109 ∧ b (s + 2 + 1) = 98 ∧ b (s + 2 + 2) = 101)) := by
  constructor
  · rintro ⟨h0, h⟩
    obtain ⟨h1, k0, k1, k2, k3, k4, k5⟩ := isW_17.mp h
    exact ⟨⟨h0, h1, k0, k1, k2, k5⟩, k2, k3, k4⟩
  · rintro ⟨⟨h0, h1, z0, z1, z2, z3⟩, y0, y1, y2⟩
    exact ⟨h0, isW_17.mpr ⟨h1, z0, z1, z2, y1, y2, z3⟩⟩
theorem kw_9 {b : Nat → Nat} {N s e : Nat} : KW b N s e 9 ↔ (kdN b N s = 1 ∧ e - s = 2 ∧ b s = 105 ∧ b (s + 1) = 102) := by
  constructor
  · rintro ⟨h0, h⟩
    obtain ⟨h1, k0, k1⟩ := isW_9.mp h
    exact ⟨h0, h1, k0, k1⟩
  · rintro ⟨h0, h1, k0, k1⟩
    exact ⟨h0, isW_9.mpr ⟨h1, k0, k1⟩⟩
theorem kw_10 {b : Nat → Nat} {N s e : Nat} : KW b N s e 10 ↔ (kdN b N s = 1 ∧ e - s = 2 ∧ b s = 111 ∧ b (s + 1) = 114) := by
  constructor
  · rintro ⟨h0, h⟩
    obtain ⟨h1, k0, k1⟩ := isW_10.mp h
    exact ⟨h0, h1, k0, k1⟩
  · rintro ⟨h0, h1, k0, k1⟩
    exact ⟨h0, isW_10.mpr ⟨h1, k0, k1⟩⟩
section QU
variable {b : Nat → Nat} {N s e : Nat} {m : Mm}
theorem kd_in (k : kdN b N s = 1) (h : EndOk b N s e) : s < N ∧ s < e ∧ e ≤ N ∧ Ltr b s := by
  unfold kdN at k
  by_cases c : N ≤ s
  · rw [if_pos c] at k; omega
  · rw [if_neg c] at k
    by_cases c2 : 97 ≤ b s ∧ b s ≤ 122
    · rcases h with ⟨h1, h2⟩ | ⟨h1, h2, h3, -⟩
      · omega
      · exact ⟨h1, h2, h3, c2⟩
    · rw [if_neg c2] at k
      split at k <;> omega
theorem ne_n {x y : Nat} (hx : x < 256) (hy : y < 256) (h : ¬ x = y) : ¬ nI x = nI y := fun z => h ((nI_eq (by omega) (by omega)).mp z)
theorem isName_r (hT : RT m b N) (hN : N ≤ 200) (hA : AtTok b N s e m) (hE : EndOk b N s e) {ℓ c0 c1 c2 c3 : Nat} (h3 : 3 ≤ ℓ) (hl : ℓ < 100) (h0 : c0 < 256) (h1 : c1 < 256) (h2 : c2 < 256) (h9 : c3 < 256) :
    fX12_isName (nI ℓ) (nI c0) (nI c1) (nI c2) (nI c3) m = some (b2 (decide (NM b N s e ℓ c0 c1 c2 c3)), m) := by
  obtain ⟨a7, a8, a6, -⟩ := hA
  unfold fX12_isName
  rw [a6]
  by_cases k : kdN b N s = 1
  · obtain ⟨hs, hse, heN, -⟩ := kd_in k hE
    rw [if_pos (show nI (kdN b N s) = 1 by rw [k]; rfl), a7, a8, pk_sub (by omega)]
    by_cases l : e - s = ℓ
    · rw [if_pos (show nI (e - s) = nI ℓ by rw [l]), byteIn_r hT hN hs, bd_s]
      by_cases k0 : b s = c0
      · rw [if_pos (show nI (b s) = nI c0 by rw [k0]), a7, p1, byteIn_r hT hN (by omega), bd_s]
        by_cases k1 : b (s + 1) = c1
        · rw [if_pos (show nI (b (s + 1)) = nI c1 by rw [k1]), a7, p2, byteIn_r hT hN (by omega), bd_s]
          by_cases k2 : b (s + 2) = c2
          · rw [if_pos (show nI (b (s + 2)) = nI c2 by rw [k2]), a8, m1 (by omega), show e - 1 = s + (ℓ - 1) by omega, byteIn_r hT hN (by omega), bd_s]
            by_cases k3 : b (s + (ℓ - 1)) = c3
            · rw [if_pos (show nI (b (s + (ℓ - 1))) = nI c3 by rw [k3]), decide_eq_true (show NM b N s e ℓ c0 c1 c2 c3 from ⟨k, l, k0, k1, k2, k3⟩)]; rfl
            · rw [if_neg (ne_n (hT.2 _ (by omega)).2 h9 k3), decide_eq_false (show ¬ NM b N s e ℓ c0 c1 c2 c3 from fun z => k3 z.2.2.2.2.2)]; rfl
          · rw [if_neg (ne_n (hT.2 _ (by omega)).2 h2 k2), decide_eq_false (show ¬ NM b N s e ℓ c0 c1 c2 c3 from fun z => k2 z.2.2.2.2.1)]; rfl
        · rw [if_neg (ne_n (hT.2 _ (by omega)).2 h1 k1), decide_eq_false (show ¬ NM b N s e ℓ c0 c1 c2 c3 from fun z => k1 z.2.2.2.1)]; rfl
      · rw [if_neg (ne_n (hT.2 _ (by omega)).2 h0 k0), decide_eq_false (show ¬ NM b N s e ℓ c0 c1 c2 c3 from fun z => k0 z.2.2.1)]; rfl
    · rw [if_neg (show ¬ nI (e - s) = nI ℓ from fun z => l ((nI_eq (by omega) (by omega)).mp z)), decide_eq_false (show ¬ NM b N s e ℓ c0 c1 c2 c3 from fun z => l z.2.1)]; rfl
  · have hk : kdN b N s ≤ 3 := by unfold kdN; repeat' split
                                  all_goals omega
    rw [if_neg (show ¬ nI (kdN b N s) = 1 from fun z => k ((nI_eq (a := kdN b N s) (b := 1) (by omega) (by decide)).mp z)), decide_eq_false (show ¬ NM b N s e ℓ c0 c1 c2 c3 from fun z => k z.1)]; rfl
theorem isTwo_r (hT : RT m b N) (hN : N ≤ 200) (hA : AtTok b N s e m) (hE : EndOk b N s e) {c0 c1 : Nat} (h0 : c0 < 256) (h1 : c1 < 256) :
    fX12_isTwo (nI c0) (nI c1) m = some (b2 (decide (kdN b N s = 1 ∧ e - s = 2 ∧ b s = c0 ∧ b (s + 1) = c1)), m) := by
  obtain ⟨a7, a8, a6, -⟩ := hA
  unfold fX12_isTwo
  rw [a6]
  by_cases k : kdN b N s = 1
  · obtain ⟨hs, hse, heN, -⟩ := kd_in k hE
    rw [if_pos (show nI (kdN b N s) = 1 by rw [k]; rfl), a7, a8, pk_sub (by omega)]
    by_cases l : e - s = 2
    · rw [if_pos (show nI (e - s) = 2 by rw [l]; rfl), byteIn_r hT hN hs, bd_s]
      by_cases k0 : b s = c0
      · rw [if_pos (show nI (b s) = nI c0 by rw [k0]), a7, p1, byteIn_r hT hN (by omega), bd_s]
        by_cases k1 : b (s + 1) = c1
        · rw [if_pos (show nI (b (s + 1)) = nI c1 by rw [k1]), decide_eq_true ⟨k, l, k0, k1⟩]; rfl
        · rw [if_neg (ne_n (hT.2 _ (by omega)).2 h1 k1), decide_eq_false (fun z => k1 z.2.2.2)]; rfl
      · rw [if_neg (ne_n (hT.2 _ (by omega)).2 h0 k0), decide_eq_false (fun z => k0 z.2.2.1)]; rfl
    · rw [if_neg (show ¬ nI (e - s) = 2 from fun z => l ((nI_eq (a := e - s) (b := 2) (by omega) (by decide)).mp z)), decide_eq_false (fun z => l z.2.1)]; rfl
  · have hk : kdN b N s ≤ 3 := by unfold kdN; repeat' split
                                  all_goals omega
    rw [if_neg (show ¬ nI (kdN b N s) = 1 from fun z => k ((nI_eq (a := kdN b N s) (b := 1) (by omega) (by decide)).mp z)), decide_eq_false (fun z => k z.1)]; rfl
theorem isSame_r (hT : RT m b N) (hN : N ≤ 200) (hA : AtTok b N s e m) {i c0 c1 c2 : Nat} (hi : s + i + 2 < N) (h0 : c0 < 256) (h1 : c1 < 256) (h2 : c2 < 256) :
    fX12_isSame (nI i) (nI c0) (nI c1) (nI c2) m = some (b2 (decide (b (s + i) = c0 ∧ b (s + i + 1) = c1 ∧ b (s + i + 2) = c2)), m) := by
  obtain ⟨a7, -⟩ := hA
  unfold fX12_isSame
  rw [a7, nI_add, byteIn_r hT hN (by omega), bd_s]
  by_cases k0 : b (s + i) = c0
  · rw [if_pos (show nI (b (s + i)) = nI c0 by rw [k0]), a7, nI_add, p1, byteIn_r hT hN (by omega), bd_s]
    by_cases k1 : b (s + i + 1) = c1
    · rw [if_pos (show nI (b (s + i + 1)) = nI c1 by rw [k1]), a7, nI_add, p2, byteIn_r hT hN (by omega), bd_s]
      by_cases k2 : b (s + i + 2) = c2
      · rw [if_pos (show nI (b (s + i + 2)) = nI c2 by rw [k2]), decide_eq_true ⟨k0, k1, k2⟩]; rfl
      · rw [if_neg (ne_n (hT.2 _ (by omega)).2 h2 k2), decide_eq_false (fun z => k2 z.2.2)]; rfl
    · rw [if_neg (ne_n (hT.2 _ (by omega)).2 h1 k1), decide_eq_false (fun z => k1 z.2.1)]; rfl
  · rw [if_neg (ne_n (hT.2 _ (by omega)).2 h0 k0), decide_eq_false (fun z => k0 z.1)]; rfl
theorem isByte_r (hT : RT m b N) (hN : N ≤ 200) (hA : AtTok b N s e m) {c : Nat} (hc : c < 256) : fX12_isByte (nI c) m = some (b2 (decide (kdN b N s = 3 ∧ b s = c)), m) := by
  obtain ⟨a7, -, a6, -⟩ := hA
  unfold fX12_isByte
  have hk : kdN b N s ≤ 3 := by unfold kdN; repeat' split
                                all_goals omega
  rw [a6, a7]
  by_cases k : kdN b N s = 3
  · have hs : s < N := by
      unfold kdN at k
      by_cases c : N ≤ s
      · rw [if_pos c] at k; omega
      · omega
    rw [if_pos (show nI (kdN b N s) = 3 by rw [k]; rfl), byteIn_r hT hN hs, bd_s]
    by_cases k0 : b s = c
    · rw [if_pos (show nI (b s) = nI c by rw [k0]), decide_eq_true ⟨k, k0⟩]; rfl
    · rw [if_neg (ne_n (hT.2 _ hs).2 hc k0), decide_eq_false (fun z => k0 z.2)]; rfl
  · rw [if_neg (show ¬ nI (kdN b N s) = 3 from fun z => k ((nI_eq (a := kdN b N s) (b := 3) (by omega) (by decide)).mp z)), decide_eq_false (fun z => k z.1)]; rfl
/-- one of the words lo .. hi, told by its number from lo -/
def Res (b : Nat → Nat) (N s e : Nat) (m : Mm) (off lo hi : Nat) (f : Option (Int32 × Mm)) : Prop := ∃ r, f = some (r, m) ∧ ((∃ w, lo ≤ w ∧ w ≤ hi ∧ KW b N s e w ∧ r = nI (w - off)) ∨ (r = -1 ∧ ∀ w, lo ≤ w → w ≤ hi → ¬ KW b N s e w))
theorem res_no {off lo hi : Nat} {f : Option (Int32 × Mm)} (h : ¬ KW b N s e lo) (r : Res b N s e m off (lo + 1) hi f) : Res b N s e m off lo hi f := by
  obtain ⟨r, e1, e2⟩ := r
  refine ⟨r, e1, ?_⟩
  rcases e2 with ⟨w, w1, w2, w3⟩ | ⟨r1, r2⟩
  · exact Or.inl ⟨w, by omega, w2, w3⟩
  · refine Or.inr ⟨r1, fun w w1 w2 => ?_⟩
    by_cases c : w = lo
    · rw [c]; exact h
    · exact r2 w (by omega) w2
theorem res_yes {off lo hi : Nat} {r : Int32} (hw : lo ≤ hi) (h : KW b N s e lo) (hr : r = nI (lo - off)) : Res b N s e m off lo hi (some (r, m)) := ⟨r, rfl, Or.inl ⟨lo, Nat.le_refl _, hw, h, hr⟩⟩
theorem res_end {off lo hi : Nat} (h : hi < lo) : Res b N s e m off lo hi (some (-1, m)) := ⟨-1, rfl, Or.inr ⟨rfl, fun w h1 h2 => by omega⟩⟩
theorem kind117_r (hT : RT m b N) (hN : N ≤ 200) (hA : AtTok b N s e m) (hE : EndOk b N s e) : Res b N s e m 0 4 5 (fX12_kindHere_117 m) := by
  have n4 : fX12_isName 4 104 101 108 100 m = some (b2 (decide (NM b N s e 4 104 101 108 100)), m) := isName_r hT hN hA hE (ℓ := 4) (c0 := 104) (c1 := 101) (c2 := 108) (c3 := 100) (by decide) (by decide) (by decide) (by decide) (by decide) (by decide)
  have n5 : fX12_isName 7 117 110 97 100 m = some (b2 (decide (NM b N s e 7 117 110 97 100)), m) := isName_r hT hN hA hE (ℓ := 7) (c0 := 117) (c1 := 110) (c2 := 97) (c3 := 100) (by decide) (by decide) (by decide) (by decide) (by decide) (by decide)
  unfold fX12_kindHere_117
  rw [n4, bd_s]
  by_cases c4 : NM b N s e 4 104 101 108 100
  · rw [decide_eq_true c4, if_neg b2t]; exact res_yes (by decide) (kw_4.mpr c4) rfl
  · rw [decide_eq_false c4, if_pos b2f]
    refine res_no (fun z => c4 (kw_4.mp z)) ?_
    rw [n5, bd_s]
    by_cases c5 : NM b N s e 7 117 110 97 100
    · obtain ⟨hs, hse, heN, -⟩ := kd_in c5.1 hE
      have l5 : e - s = 7 := c5.2.1
      have q5 : fX12_isSame 3 115 107 101 m = some (b2 (decide (b (s + 3) = 115 ∧ b (s + 3 + 1) = 107 ∧ b (s + 3 + 2) = 101)), m) := isSame_r hT hN hA (i := 3) (c0 := 115) (c1 := 107) (c2 := 101) (by omega) (by decide) (by decide) (by decide)
      rw [decide_eq_true c5, if_neg b2t, q5, bd_s]
      by_cases d5 : b (s + 3) = 115 ∧ b (s + 3 + 1) = 107 ∧ b (s + 3 + 2) = 101
      · rw [decide_eq_true d5, if_neg b2t]; exact res_yes (by decide) (kw_5.mpr ⟨c5, d5⟩) rfl
      · rw [decide_eq_false d5, if_pos b2f]; exact res_no (fun z => d5 (kw_5.mp z).2) (res_end (by decide))
    · rw [decide_eq_false c5, if_pos b2f]
      refine res_no (fun z => c5 (kw_5.mp z).1) ?_
      exact res_end (by decide)
theorem kind84_r (hT : RT m b N) (hN : N ≤ 200) (hA : AtTok b N s e m) (hE : EndOk b N s e) : Res b N s e m 0 3 5 (fX12_kindHere_84 m) := by
  have n3 : fX12_isName 6 112 97 105 100 m = some (b2 (decide (NM b N s e 6 112 97 105 100)), m) := isName_r hT hN hA hE (ℓ := 6) (c0 := 112) (c1 := 97) (c2 := 105) (c3 := 100) (by decide) (by decide) (by decide) (by decide) (by decide) (by decide)
  unfold fX12_kindHere_84
  rw [n3, bd_s]
  by_cases c3 : NM b N s e 6 112 97 105 100
  · obtain ⟨hs, hse, heN, -⟩ := kd_in c3.1 hE
    have l3 : e - s = 6 := c3.2.1
    have q3 : fX12_isSame 2 105 114 101 m = some (b2 (decide (b (s + 2) = 105 ∧ b (s + 2 + 1) = 114 ∧ b (s + 2 + 2) = 101)), m) := isSame_r hT hN hA (i := 2) (c0 := 105) (c1 := 114) (c2 := 101) (by omega) (by decide) (by decide) (by decide)
    rw [decide_eq_true c3, if_neg b2t, q3, bd_s]
    by_cases d3 : b (s + 2) = 105 ∧ b (s + 2 + 1) = 114 ∧ b (s + 2 + 2) = 101
    · rw [decide_eq_true d3, if_neg b2t]; exact res_yes (by decide) (kw_3.mpr ⟨c3, d3⟩) rfl
    · rw [decide_eq_false d3, if_pos b2f]; exact res_no (fun z => d3 (kw_3.mp z).2) (kind117_r hT hN hA hE)
  · rw [decide_eq_false c3, if_pos b2f]
    refine res_no (fun z => c3 (kw_3.mp z).1) ?_
    exact kind117_r hT hN hA hE
theorem kind51_r (hT : RT m b N) (hN : N ≤ 200) (hA : AtTok b N s e m) (hE : EndOk b N s e) : Res b N s e m 0 2 5 (fX12_kindHere_51 m) := by
  have n2 : fX12_isName 6 115 104 97 100 m = some (b2 (decide (NM b N s e 6 115 104 97 100)), m) := isName_r hT hN hA hE (ℓ := 6) (c0 := 115) (c1 := 104) (c2 := 97) (c3 := 100) (by decide) (by decide) (by decide) (by decide) (by decide) (by decide)
  unfold fX12_kindHere_51
  rw [n2, bd_s]
  by_cases c2 : NM b N s e 6 115 104 97 100
  · obtain ⟨hs, hse, heN, -⟩ := kd_in c2.1 hE
    have l2 : e - s = 6 := c2.2.1
    have q2 : fX12_isSame 2 97 114 101 m = some (b2 (decide (b (s + 2) = 97 ∧ b (s + 2 + 1) = 114 ∧ b (s + 2 + 2) = 101)), m) := isSame_r hT hN hA (i := 2) (c0 := 97) (c1 := 114) (c2 := 101) (by omega) (by decide) (by decide) (by decide)
    rw [decide_eq_true c2, if_neg b2t, q2, bd_s]
    by_cases d2 : b (s + 2) = 97 ∧ b (s + 2 + 1) = 114 ∧ b (s + 2 + 2) = 101
    · rw [decide_eq_true d2, if_neg b2t]; exact res_yes (by decide) (kw_2.mpr ⟨c2, d2⟩) rfl
    · rw [decide_eq_false d2, if_pos b2f]; exact res_no (fun z => d2 (kw_2.mp z).2) (kind84_r hT hN hA hE)
  · rw [decide_eq_false c2, if_pos b2f]
    refine res_no (fun z => c2 (kw_2.mp z).1) ?_
    exact kind84_r hT hN hA hE
theorem kindH_r (hT : RT m b N) (hN : N ≤ 200) (hA : AtTok b N s e m) (hE : EndOk b N s e) : Res b N s e m 0 0 5 (fX12_kindHere m) := by
  have n0 : fX12_isName 3 115 101 116 116 m = some (b2 (decide (NM b N s e 3 115 101 116 116)), m) := isName_r hT hN hA hE (ℓ := 3) (c0 := 115) (c1 := 101) (c2 := 116) (c3 := 116) (by decide) (by decide) (by decide) (by decide) (by decide) (by decide)
  have n1 : fX12_isName 5 97 108 111 101 m = some (b2 (decide (NM b N s e 5 97 108 111 101)), m) := isName_r hT hN hA hE (ℓ := 5) (c0 := 97) (c1 := 108) (c2 := 111) (c3 := 101) (by decide) (by decide) (by decide) (by decide) (by decide) (by decide)
  unfold fX12_kindHere
  rw [n0, bd_s]
  by_cases c0 : NM b N s e 3 115 101 116 116
  · rw [decide_eq_true c0, if_neg b2t]; exact res_yes (by decide) (kw_0.mpr c0) rfl
  · rw [decide_eq_false c0, if_pos b2f]
    refine res_no (fun z => c0 (kw_0.mp z)) ?_
    rw [n1, bd_s]
    by_cases c1 : NM b N s e 5 97 108 111 101
    · obtain ⟨hs, hse, heN, -⟩ := kd_in c1.1 hE
      have l1 : e - s = 5 := c1.2.1
      rw [decide_eq_true c1, if_neg b2t, hA.1, p3, byteIn_r hT hN (by omega), bd_s]
      by_cases d1 : b (s + 3) = 110
      · rw [if_pos (show nI (b (s + 3)) = 110 by rw [d1]; rfl)]; exact res_yes (by decide) (kw_1.mpr ⟨c1, d1⟩) rfl
      · rw [if_neg (show ¬ nI (b (s + 3)) = 110 from ne_n (y := 110) (hT.2 _ (by omega)).2 (by decide) d1)]; exact res_no (fun z => d1 (kw_1.mp z).2) (kind51_r hT hN hA hE)
    · rw [decide_eq_false c1, if_pos b2f]
      refine res_no (fun z => c1 (kw_1.mp z).1) ?_
      exact kind51_r hT hN hA hE
theorem doH_r (hT : RT m b N) (hN : N ≤ 200) (hA : AtTok b N s e m) (hE : EndOk b N s e) : Res b N s e m 6 6 8 (fX12_doHere m) := by
  have n6 : fX12_isName 4 108 105 102 116 m = some (b2 (decide (NM b N s e 4 108 105 102 116)), m) := isName_r hT hN hA hE (ℓ := 4) (c0 := 108) (c1 := 105) (c2 := 102) (c3 := 116) (by decide) (by decide) (by decide) (by decide) (by decide) (by decide)
  have n7 : fX12_isName 4 101 97 115 101 m = some (b2 (decide (NM b N s e 4 101 97 115 101)), m) := isName_r hT hN hA hE (ℓ := 4) (c0 := 101) (c1 := 97) (c2 := 115) (c3 := 101) (by decide) (by decide) (by decide) (by decide) (by decide) (by decide)
  have n8 : fX12_isName 4 119 97 105 116 m = some (b2 (decide (NM b N s e 4 119 97 105 116)), m) := isName_r hT hN hA hE (ℓ := 4) (c0 := 119) (c1 := 97) (c2 := 105) (c3 := 116) (by decide) (by decide) (by decide) (by decide) (by decide) (by decide)
  unfold fX12_doHere
  rw [n6, bd_s]
  by_cases c6 : NM b N s e 4 108 105 102 116
  · rw [decide_eq_true c6, if_neg b2t]; exact res_yes (by decide) (kw_6.mpr c6) rfl
  · rw [decide_eq_false c6, if_pos b2f]
    refine res_no (fun z => c6 (kw_6.mp z)) ?_
    rw [n7, bd_s]
    by_cases c7 : NM b N s e 4 101 97 115 101
    · rw [decide_eq_true c7, if_neg b2t]; exact res_yes (by decide) (kw_7.mpr c7) rfl
    · rw [decide_eq_false c7, if_pos b2f]
      refine res_no (fun z => c7 (kw_7.mp z)) ?_
      rw [n8, bd_s]
      by_cases c8 : NM b N s e 4 119 97 105 116
      · rw [decide_eq_true c8, if_neg b2t]; exact res_yes (by decide) (kw_8.mpr c8) rfl
      · rw [decide_eq_false c8, if_pos b2f]
        refine res_no (fun z => c8 (kw_8.mp z)) ?_
        exact res_end (by decide)
theorem fact99_r (hT : RT m b N) (hN : N ≤ 200) (hA : AtTok b N s e m) (hE : EndOk b N s e) : Res b N s e m 13 16 17 (fX12_factHere_99 m) := by
  have n16 : fX12_isName 4 108 101 102 116 m = some (b2 (decide (NM b N s e 4 108 101 102 116)), m) := isName_r hT hN hA hE (ℓ := 4) (c0 := 108) (c1 := 101) (c2 := 102) (c3 := 116) (by decide) (by decide) (by decide) (by decide) (by decide) (by decide)
  have n17 : fX12_isName 6 110 117 109 114 m = some (b2 (decide (NM b N s e 6 110 117 109 114)), m) := isName_r hT hN hA hE (ℓ := 6) (c0 := 110) (c1 := 117) (c2 := 109) (c3 := 114) (by decide) (by decide) (by decide) (by decide) (by decide) (by decide)
  unfold fX12_factHere_99
  rw [n16, bd_s]
  by_cases c16 : NM b N s e 4 108 101 102 116
  · rw [decide_eq_true c16, if_neg b2t]; exact res_yes (by decide) (kw_16.mpr c16) rfl
  · rw [decide_eq_false c16, if_pos b2f]
    refine res_no (fun z => c16 (kw_16.mp z)) ?_
    rw [n17, bd_s]
    by_cases c17 : NM b N s e 6 110 117 109 114
    · obtain ⟨hs, hse, heN, -⟩ := kd_in c17.1 hE
      have l17 : e - s = 6 := c17.2.1
      have q17 : fX12_isSame 2 109 98 101 m = some (b2 (decide (b (s + 2) = 109 ∧ b (s + 2 + 1) = 98 ∧ b (s + 2 + 2) = 101)), m) := isSame_r hT hN hA (i := 2) (c0 := 109) (c1 := 98) (c2 := 101) (by omega) (by decide) (by decide) (by decide)
      rw [decide_eq_true c17, if_neg b2t, q17, bd_s]
      by_cases d17 : b (s + 2) = 109 ∧ b (s + 2 + 1) = 98 ∧ b (s + 2 + 2) = 101
      · rw [decide_eq_true d17, if_neg b2t]; exact res_yes (by decide) (kw_17.mpr ⟨c17, d17⟩) rfl
      · rw [decide_eq_false d17, if_pos b2f]; exact res_no (fun z => d17 (kw_17.mp z).2) (res_end (by decide))
    · rw [decide_eq_false c17, if_pos b2f]
      refine res_no (fun z => c17 (kw_17.mp z).1) ?_
      exact res_end (by decide)
theorem fact66_r (hT : RT m b N) (hN : N ≤ 200) (hA : AtTok b N s e m) (hE : EndOk b N s e) : Res b N s e m 13 15 17 (fX12_factHere_66 m) := by
  have n15 : fX12_isName 5 116 105 114 100 m = some (b2 (decide (NM b N s e 5 116 105 114 100)), m) := isName_r hT hN hA hE (ℓ := 5) (c0 := 116) (c1 := 105) (c2 := 114) (c3 := 100) (by decide) (by decide) (by decide) (by decide) (by decide) (by decide)
  unfold fX12_factHere_66
  rw [n15, bd_s]
  by_cases c15 : NM b N s e 5 116 105 114 100
  · obtain ⟨hs, hse, heN, -⟩ := kd_in c15.1 hE
    have l15 : e - s = 5 := c15.2.1
    rw [decide_eq_true c15, if_neg b2t, hA.1, p3, byteIn_r hT hN (by omega), bd_s]
    by_cases d15 : b (s + 3) = 101
    · rw [if_pos (show nI (b (s + 3)) = 101 by rw [d15]; rfl)]; exact res_yes (by decide) (kw_15.mpr ⟨c15, d15⟩) rfl
    · rw [if_neg (show ¬ nI (b (s + 3)) = 101 from ne_n (y := 101) (hT.2 _ (by omega)).2 (by decide) d15)]; exact res_no (fun z => d15 (kw_15.mp z).2) (fact99_r hT hN hA hE)
  · rw [decide_eq_false c15, if_pos b2f]
    refine res_no (fun z => c15 (kw_15.mp z).1) ?_
    exact fact99_r hT hN hA hE
theorem fact33_r (hT : RT m b N) (hN : N ≤ 200) (hA : AtTok b N s e m) (hE : EndOk b N s e) : Res b N s e m 13 14 17 (fX12_factHere_33 m) := by
  have n14 : fX12_isName 6 119 101 105 116 m = some (b2 (decide (NM b N s e 6 119 101 105 116)), m) := isName_r hT hN hA hE (ℓ := 6) (c0 := 119) (c1 := 101) (c2 := 105) (c3 := 116) (by decide) (by decide) (by decide) (by decide) (by decide) (by decide)
  unfold fX12_factHere_33
  rw [n14, bd_s]
  by_cases c14 : NM b N s e 6 119 101 105 116
  · obtain ⟨hs, hse, heN, -⟩ := kd_in c14.1 hE
    have l14 : e - s = 6 := c14.2.1
    have q14 : fX12_isSame 2 105 103 104 m = some (b2 (decide (b (s + 2) = 105 ∧ b (s + 2 + 1) = 103 ∧ b (s + 2 + 2) = 104)), m) := isSame_r hT hN hA (i := 2) (c0 := 105) (c1 := 103) (c2 := 104) (by omega) (by decide) (by decide) (by decide)
    rw [decide_eq_true c14, if_neg b2t, q14, bd_s]
    by_cases d14 : b (s + 2) = 105 ∧ b (s + 2 + 1) = 103 ∧ b (s + 2 + 2) = 104
    · rw [decide_eq_true d14, if_neg b2t]; exact res_yes (by decide) (kw_14.mpr ⟨c14, d14⟩) rfl
    · rw [decide_eq_false d14, if_pos b2f]; exact res_no (fun z => d14 (kw_14.mp z).2) (fact66_r hT hN hA hE)
  · rw [decide_eq_false c14, if_pos b2f]
    refine res_no (fun z => c14 (kw_14.mp z).1) ?_
    exact fact66_r hT hN hA hE
theorem factH_r (hT : RT m b N) (hN : N ≤ 200) (hA : AtTok b N s e m) (hE : EndOk b N s e) : Res b N s e m 13 13 17 (fX12_factHere m) := by
  have n13 : fX12_isName 6 109 105 110 101 m = some (b2 (decide (NM b N s e 6 109 105 110 101)), m) := isName_r hT hN hA hE (ℓ := 6) (c0 := 109) (c1 := 105) (c2 := 110) (c3 := 101) (by decide) (by decide) (by decide) (by decide) (by decide) (by decide)
  unfold fX12_factHere
  rw [n13, bd_s]
  by_cases c13 : NM b N s e 6 109 105 110 101
  · obtain ⟨hs, hse, heN, -⟩ := kd_in c13.1 hE
    have l13 : e - s = 6 := c13.2.1
    have q13 : fX12_isSame 2 110 117 116 m = some (b2 (decide (b (s + 2) = 110 ∧ b (s + 2 + 1) = 117 ∧ b (s + 2 + 2) = 116)), m) := isSame_r hT hN hA (i := 2) (c0 := 110) (c1 := 117) (c2 := 116) (by omega) (by decide) (by decide) (by decide)
    rw [decide_eq_true c13, if_neg b2t, q13, bd_s]
    by_cases d13 : b (s + 2) = 110 ∧ b (s + 2 + 1) = 117 ∧ b (s + 2 + 2) = 116
    · rw [decide_eq_true d13, if_neg b2t]; exact res_yes (by decide) (kw_13.mpr ⟨c13, d13⟩) rfl
    · rw [decide_eq_false d13, if_pos b2f]; exact res_no (fun z => d13 (kw_13.mp z).2) (fact33_r hT hN hA hE)
  · rw [decide_eq_false c13, if_pos b2f]
    refine res_no (fun z => c13 (kw_13.mp z).1) ?_
    exact fact33_r hT hN hA hE
/-! the same, of the cut token -/
theorem tv (hb : ∀ k, k < N → b k < 256) (hN : N ≤ 200) (hE : EndOk b N s e) :
    (kdN b N s = 0 ∧ tokV b N s e = -1) ∨ (kdN b N s = 1 ∧ ∃ w, w < 18 ∧ IsW b s e w ∧ tokV b N s e = nI w) ∨ (kdN b N s = 1 ∧ (∀ w, w < 18 → ¬ IsW b s e w) ∧ tokV b N s e = -2) ∨
    (kdN b N s = 2 ∧ e - s ≤ 4 ∧ ∃ v, v ≤ 9999 ∧ tokV b N s e = nI (1000 + v) ∧ numI b (e - s) s 0 = nI v) ∨ (kdN b N s = 2 ∧ ¬ e - s ≤ 4 ∧ tokV b N s e = -2) ∨ (kdN b N s = 3 ∧ tokV b N s e = nI (256 + b s) ∧ b s < 256) := by
  unfold kdN tokV
  by_cases c : N ≤ s
  · rw [if_pos c, if_pos c]; exact Or.inl ⟨rfl, rfl⟩
  rw [if_neg c, if_neg c]
  by_cases c1 : 97 ≤ b s ∧ b s ≤ 122
  · rw [if_pos c1, if_pos c1]
    rcases word_cases b s e with ⟨w, w1, w2, w3⟩ | ⟨h1, h2⟩
    · exact Or.inr (Or.inl ⟨rfl, w, w1, w2, w3⟩)
    · exact Or.inr (Or.inr (Or.inl ⟨rfl, h1, h2⟩))
  rw [if_neg c1, if_neg c1]
  by_cases c2 : 48 ≤ b s ∧ b s ≤ 57
  · rw [if_pos c2, if_pos c2]
    by_cases c3 : e - s ≤ 4
    · rw [if_pos c3]
      have hD : ∀ q, s ≤ q → q < s + (e - s) → Dgt b q := by
        rcases hE with ⟨h1, -⟩ | ⟨h1, h2, h3, h4⟩
        · omega
        · rcases h4 with ⟨h4, -⟩ | ⟨-, h4, -⟩ | ⟨-, h4, -⟩
          · exact absurd h4 c1
          · exact fun q q1 q2 => h4 q q1 (by omega)
          · exact absurd c2 h4
      obtain ⟨r, r1, r2, -⟩ := num_small (b := b) (e - s) s 0 0 (by decide) (by omega) hD
      have r4 : 10 ^ (0 + (e - s)) ≤ 10 ^ 4 := Nat.pow_le_pow_right (by decide) (by omega)
      have r2' : numI b (e - s) s 0 = nI r := r2
      refine Or.inr (Or.inr (Or.inr (Or.inl ⟨rfl, c3, r, by omega, ?_, r2'⟩)))
      rw [r2', show (1000 : Int32) = nI 1000 from rfl, nI_add]
    · rw [if_neg c3]
      exact Or.inr (Or.inr (Or.inr (Or.inr (Or.inl ⟨rfl, c3, rfl⟩))))
  · rw [if_neg c2, if_neg c2]
    exact Or.inr (Or.inr (Or.inr (Or.inr (Or.inr ⟨rfl, rfl, hb s (by omega)⟩))))
theorem n_m1 {v : Nat} (h : v < 2 ^ 31) : ¬ (-1 : Int32) = nI v := fun e => nI_nm1 h e.symm
theorem n_m2 {v : Nat} (h : v < 2 ^ 31) : ¬ (-2 : Int32) = nI v := fun e => by
  have := nI_pos (n := v) h
  rw [← e] at this
  exact this (by decide)
theorem kw_t (hb : ∀ k, k < N → b k < 256) (hN : N ≤ 200) (hE : EndOk b N s e) {w : Nat} (hw : w < 18) : KW b N s e w ↔ tokV b N s e = nI w := by
  constructor
  · rintro ⟨h1, h2⟩
    rcases tv hb hN hE with ⟨k, -⟩ | ⟨-, v, v1, v2, v3⟩ | ⟨-, k, -⟩ | ⟨k, -⟩ | ⟨k, -⟩ | ⟨k, -⟩
    · omega
    · have := wrd_of hw h2 18 0 (by omega) (Nat.zero_le _)
      have e2 := wrd_of v1 v2 18 0 (by omega) (Nat.zero_le _)
      rw [v3, ← e2, this]
    · exact absurd h2 (k w hw)
    · omega
    · omega
    · omega
  · intro h
    rcases tv hb hN hE with ⟨-, k⟩ | ⟨k, v, v1, v2, v3⟩ | ⟨-, -, k⟩ | ⟨-, -, v, v1, k, -⟩ | ⟨-, -, k⟩ | ⟨-, k, k2⟩
    · exact absurd (k.symm.trans h) (n_m1 (by omega))
    · have := (nI_eq (by omega) (by omega)).mp (v3.symm.trans h)
      subst this
      exact ⟨k, v2⟩
    · exact absurd (k.symm.trans h) (n_m2 (by omega))
    · have := (nI_eq (by omega) (by omega)).mp (k.symm.trans h)
      omega
    · exact absurd (k.symm.trans h) (n_m2 (by omega))
    · have := (nI_eq (by omega) (by omega)).mp (k.symm.trans h)
      omega
theorem tvn (hb : ∀ k, k < N → b k < 256) (hN : N ≤ 200) (hE : EndOk b N s e) : tokV b N s e = -1 ∨ tokV b N s e = -2 ∨ ∃ t, t < 20000 ∧ tokV b N s e = nI t := by
  rcases tv hb hN hE with ⟨-, k⟩ | ⟨-, w, w1, -, k⟩ | ⟨-, -, k⟩ | ⟨-, -, v, v1, k, -⟩ | ⟨-, -, k⟩ | ⟨-, k, k2⟩
  · exact Or.inl k
  · exact Or.inr (Or.inr ⟨w, by omega, k⟩)
  · exact Or.inr (Or.inl k)
  · exact Or.inr (Or.inr ⟨1000 + v, by omega, k⟩)
  · exact Or.inr (Or.inl k)
  · exact Or.inr (Or.inr ⟨256 + b s, by omega, k⟩)
theorem neg_lt {k : Nat} (hk : k < 2 ^ 31) : (-1 : Int32) < nI k ∧ (-2 : Int32) < nI k := by
  rw [i_lt, i_lt, toI hk, show (-1 : Int32).toInt = -1 from rfl, show (-2 : Int32).toInt = -2 from rfl]
  omega
theorem res_t (hb : ∀ k, k < N → b k < 256) (hN : N ≤ 200) (hE : EndOk b N s e) {off lo hi : Nat} {f : Option (Int32 × Mm)} (hl : lo < 18) (hh : hi < 18) (h : Res b N s e m off lo hi f) :
    ∃ r, f = some (r, m) ∧ ((∃ w, lo ≤ w ∧ w ≤ hi ∧ tokV b N s e = nI w ∧ r = nI (w - off)) ∨ (r = -1 ∧ (tokV b N s e < nI lo ∨ (¬ tokV b N s e < nI lo ∧ nI hi < tokV b N s e)))) := by
  obtain ⟨r, e1, e2⟩ := h
  refine ⟨r, e1, ?_⟩
  rcases e2 with ⟨w, w1, w2, w3, w4⟩ | ⟨r1, r2⟩
  · exact Or.inl ⟨w, w1, w2, (kw_t hb hN hE (by omega)).mp w3, w4⟩
  · refine Or.inr ⟨r1, ?_⟩
    rcases tvn hb hN hE with k | k | ⟨t, t1, k⟩
    · rw [k]; exact Or.inl (neg_lt (by omega)).1
    · rw [k]; exact Or.inl (neg_lt (by omega)).2
    · rw [k]
      by_cases c : t < lo
      · exact Or.inl (nI_lt c (by omega))
      · refine Or.inr ⟨nI_nlt (by omega) (by omega), nI_lt ?_ (by omega)⟩
        refine Nat.not_le.mp fun z => ?_
        exact r2 t (by omega) z ((kw_t hb hN hE (by omega)).mpr k)
theorem isOr_t (hT : RT m b N) (hN : N ≤ 200) (hA : AtTok b N s e m) (hE : EndOk b N s e) : fX12_isTwo 111 114 m = some (b2 (decide (tokV b N s e = 10)), m) := by
  have h : fX12_isTwo 111 114 m = _ := isTwo_r hT hN hA hE (c0 := 111) (c1 := 114) (by decide) (by decide)
  rw [h, d_congr ((kw_10.symm).trans (kw_t (fun k hk => (hT.2 k hk).2) hN hE (w := 10) (by decide)))]; rfl
theorem isIf_t (hT : RT m b N) (hN : N ≤ 200) (hA : AtTok b N s e m) (hE : EndOk b N s e) : fX12_isTwo 105 102 m = some (b2 (decide (tokV b N s e = 9)), m) := by
  have h : fX12_isTwo 105 102 m = _ := isTwo_r hT hN hA hE (c0 := 105) (c1 := 102) (by decide) (by decide)
  rw [h, d_congr ((kw_9.symm).trans (kw_t (fun k hk => (hT.2 k hk).2) hN hE (w := 9) (by decide)))]; rfl
theorem isAnd_t (hT : RT m b N) (hN : N ≤ 200) (hA : AtTok b N s e m) (hE : EndOk b N s e) : fX12_isName 3 97 110 100 100 m = some (b2 (decide (tokV b N s e = 11)), m) := by
  have h : fX12_isName 3 97 110 100 100 m = _ := isName_r hT hN hA hE (ℓ := 3) (c0 := 97) (c1 := 110) (c2 := 100) (c3 := 100) (by decide) (by decide) (by decide) (by decide) (by decide) (by decide)
  rw [h, d_congr ((kw_11.symm).trans (kw_t (fun k hk => (hT.2 k hk).2) hN hE (w := 11) (by decide)))]; rfl
theorem isNot_t (hT : RT m b N) (hN : N ≤ 200) (hA : AtTok b N s e m) (hE : EndOk b N s e) : fX12_isName 3 110 111 116 116 m = some (b2 (decide (tokV b N s e = 12)), m) := by
  have h : fX12_isName 3 110 111 116 116 m = _ := isName_r hT hN hA hE (ℓ := 3) (c0 := 110) (c1 := 111) (c2 := 116) (c3 := 116) (by decide) (by decide) (by decide) (by decide) (by decide) (by decide)
  rw [h, d_congr ((kw_12.symm).trans (kw_t (fun k hk => (hT.2 k hk).2) hN hE (w := 12) (by decide)))]; rfl
theorem isByte_t (hT : RT m b N) (hN : N ≤ 200) (hA : AtTok b N s e m) (hE : EndOk b N s e) {c : Nat} (hc : c < 256) : fX12_isByte (nI c) m = some (b2 (decide (tokV b N s e = nI (256 + c))), m) := by
  rw [isByte_r hT hN hA hc]
  rw [d_congr (q := tokV b N s e = nI (256 + c)) ?_]
  rcases tv (fun k hk => (hT.2 k hk).2) hN hE with ⟨k0, k⟩ | ⟨k0, w, w1, -, k⟩ | ⟨k0, -, k⟩ | ⟨k0, -, v, v1, k, -⟩ | ⟨k0, -, k⟩ | ⟨k0, k, k2⟩
  · exact ⟨fun z => by omega, fun z => absurd (k.symm.trans z) (n_m1 (by omega))⟩
  · exact ⟨fun z => by omega, fun z => by have := (nI_eq (by omega) (by omega)).mp (k.symm.trans z); omega⟩
  · exact ⟨fun z => by omega, fun z => absurd (k.symm.trans z) (n_m2 (by omega))⟩
  · exact ⟨fun z => by omega, fun z => by have := (nI_eq (by omega) (by omega)).mp (k.symm.trans z); omega⟩
  · exact ⟨fun z => by omega, fun z => absurd (k.symm.trans z) (n_m2 (by omega))⟩
  · exact ⟨fun z => by rw [k, z.2], fun z => ⟨k0, by have := (nI_eq (by omega) (by omega)).mp (k.symm.trans z); omega⟩⟩
/-- the length of a word, of a byte -/
theorem len_t (hb : ∀ k, k < N → b k < 256) (hN : N ≤ 200) (hE : EndOk b N s e) {w : Nat} (hw : w < 18) (h : tokV b N s e = nI w) : e - s = wlen w := ((kw_t hb hN hE hw).mpr h).2.1
theorem end_t (hE : EndOk b N s e) (h : tokV b N s e = -1) (hb : ∀ k, k < N → b k < 256) (hN : N ≤ 200) : ¬ s < N := by
  intro hs
  rcases tv hb hN hE with ⟨k, -⟩ | ⟨-, w, w1, -, k⟩ | ⟨-, -, k⟩ | ⟨-, -, v, v1, k, -⟩ | ⟨-, -, k⟩ | ⟨-, k, k2⟩
  · unfold kdN at k
    rw [if_neg (by omega)] at k
    repeat' split at k
    all_goals omega
  · exact n_m1 (by omega) (h.symm.trans k)
  · exact absurd (h.symm.trans k) (by decide)
  · exact n_m1 (by omega) (h.symm.trans k)
  · exact absurd (h.symm.trans k) (by decide)
  · exact n_m1 (by omega) (h.symm.trans k)
/-- a number of at most four digits -/
theorem num_t (hb : ∀ k, k < N → b k < 256) (hN : N ≤ 200) (hE : EndOk b N s e) : (kdN b N s = 2 ∧ e - s ≤ 4 ∧ ∃ v, v ≤ 9999 ∧ tokV b N s e = nI (1000 + v) ∧ numI b (e - s) s 0 = nI v) ∨ (¬ (kdN b N s = 2 ∧ e - s ≤ 4) ∧ tokV b N s e < 1000) := by
  have lt : ∀ t, t < 1000 → nI t < 1000 := fun t h => nI_lt (b := 1000) h (by decide)
  rcases tv hb hN hE with ⟨k0, k⟩ | ⟨k0, w, w1, -, k⟩ | ⟨k0, -, k⟩ | ⟨k0, k1, v, v1, k, k2⟩ | ⟨k0, k1, k⟩ | ⟨k0, k, k2⟩
  · exact Or.inr ⟨fun z => by omega, by rw [k]; decide⟩
  · exact Or.inr ⟨fun z => by omega, by rw [k]; exact lt w (by omega)⟩
  · exact Or.inr ⟨fun z => by omega, by rw [k]; decide⟩
  · exact Or.inl ⟨k0, k1, v, v1, k, k2⟩
  · exact Or.inr ⟨fun z => k1 z.2, by rw [k]; decide⟩
  · exact Or.inr ⟨fun z => by omega, by rw [k]; exact lt _ (by omega)⟩
end QU
