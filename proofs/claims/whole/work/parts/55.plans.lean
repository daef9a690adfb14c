/-! plans: what both keep of a search -/
def Found (L : Nat) (mc mr : Mm) : Prop := mr 0 18 = nI L ∧ (∃ v : Nat, mr 0 16 = nI v ∧ v ≤ 100) ∧ ∀ k, k < L → mc 67 k = mr 7 k
def PR (L : Nat) (mc mr : Mm) : Prop :=
  mc 64 2 = nI L ∧ mc 64 5 = nI L ∧ mc 64 3 = mr 0 19 ∧ mc 64 6 = mr 0 16 ∧ mc 64 7 = mr 0 17 ∧ (mc 64 8 = mr 0 20 ∨ (mc 64 8 = 5 ∧ mr 0 20 = 9)) ∧ mc 64 9 = mr 0 21 ∧ ((mr 0 16 = -1 ∧ mr 0 17 = 0) ∨ Found L mc mr) ∧ (mr 0 20 = 9 ∨ ∃ v : Nat, v ≤ 4 ∧ mr 0 20 = nI v)
theorem first_c {L : Nat} (hL : L ≤ 4) : ∀ (d k q : Nat) (m : Mm), k + d = L → d < q → m 64 5 = nI L → ∃ f, fX7_weigh_73 q (nI k) m = some (0, upA m 67 f) ∧ (∀ j, k ≤ j → j < L → f j = m 66 j) ∧ (∀ j, j < k → f j = m 67 j) := by
  intro d
  induction d with
  | zero =>
    intro k q m hd hq h5
    obtain ⟨q, rfl⟩ : ∃ q', q = q' + 1 := ⟨q - 1, by omega⟩
    rw [fX7_weigh_73, h5, if_pos (nI_le (by omega) (by omega))]
    exact ⟨m 67, by rw [upA_self], fun j h1 h2 => by omega, fun j _ => rfl⟩
  | succ d ih =>
    intro k q m hd hq h5
    obtain ⟨q, rfl⟩ : ∃ q', q = q' + 1 := ⟨q - 1, by omega⟩
    rw [fX7_weigh_73, h5, if_neg (nI_ge (by omega) (by omega)), gx_n (by omega) (by decide), ix_n (by omega), lt_v, lt_v, p1]
    obtain ⟨f, f1, f2, f3⟩ := ih (k + 1) q (up m 67 k (m 66 k)) (by omega) (by omega) (by rw [up_row (by decide)]; exact h5)
    refine ⟨f, ?_, fun j j1 j2 => ?_, fun j hj => by rw [f3 j (by omega), up_ne (Or.inr (by omega))]⟩
    · rw [f1]
      show some ((0 : Int32), upA (upA m 67 _) 67 f) = _
      rw [upA_upA]
    · by_cases e : j = k
      · subst e; rw [f3 _ (by omega), up_at]
      · rw [f2 j (by omega) j2, up_row (by decide)]
theorem first_r {rec : Int32 → Int32 → Int32 → Int32 → Int32 → Mm → Option (Int32 × Mm)} {x3 x4 x5 : Int32} : ∀ (d k q : Nat) (m : Mm), k + d = 4 → d < q → ∃ f, fX12_plans_38 rec q x3 x4 x5 (nI k) m = fX12_plans_64 rec x3 x4 x5 (upA m 7 f) ∧ (∀ j, k ≤ j → j < 4 → f j = m 6 j) ∧ (∀ j, j < k → f j = m 7 j) := by
  intro d
  induction d with
  | zero =>
    intro k q m hd hq
    obtain ⟨q, rfl⟩ : ∃ q', q = q' + 1 := ⟨q - 1, by omega⟩
    rw [fX12_plans_38, if_pos (show (4 : Int32) ≤ nI k from nI_le (a := 4) (by omega) (by omega))]
    exact ⟨m 7, by rw [upA_self], fun j h1 h2 => by omega, fun j _ => rfl⟩
  | succ d ih =>
    intro k q m hd hq
    obtain ⟨q, rfl⟩ : ∃ q', q = q' + 1 := ⟨q - 1, by omega⟩
    rw [fX12_plans_38, if_neg (show ¬ (4 : Int32) ≤ nI k from nI_ge (b := 4) (by omega) (by decide)), gx_n (by omega) (by decide), ix_n (by omega), lt_v, lt_v, p1]
    obtain ⟨f, f1, f2, f3⟩ := ih (k + 1) q (up m 7 k (m 6 k)) (by omega) (by omega)
    refine ⟨f, ?_, fun j j1 j2 => ?_, fun j hj => by rw [f3 j (by omega), up_ne (Or.inr (by omega))]⟩
    · rw [f1]
      show fX12_plans_64 rec x3 x4 x5 (upA (upA m 7 _) 7 f) = _
      rw [upA_upA]
    · by_cases e : j = k
      · subst e; rw [f3 _ (by omega), up_at]
      · rw [f2 j (by omega) j2, up_row (by decide)]
/-- what a search may change, in the class's memory and in the reference's -/
def LfC (m m' : Mm) : Prop := (∀ q, q ≠ 64 → q ≠ 67 → m' q = m q) ∧ ∀ k, (k < 6 ∨ 9 < k) → m' 64 k = m 64 k
def LfR (m m' : Mm) : Prop := (∀ q, q ≠ 0 → q ≠ 7 → m' q = m q) ∧ ∀ k, (k < 16 ∨ k = 19 ∨ 21 < k) → m' 0 k = m 0 k
/-- a whole plan is weighed, in both -/
theorem leaf_b {rec : Int32 → Int32 → Int32 → Int32 → Int32 → Mm → Option (Int32 × Mm)} {L v τ : Nat} {done : Int32} {mc mr : Mm} (hL : L ≤ 4) (hv : v ≤ 100) (hτ : τ ≤ 4) (h : PR L mc mr) (ha : ∀ k, k < L → mc 66 k = mr 6 k) :
    ∃ mc' mr', fX7_weigh (nI v) (nI τ) done mc = some (0, mc') ∧ fX12_plans_12 rec (nI L) (nI v) (nI τ) done mr = some (0, mr') ∧ PR L mc' mr' ∧ Found L mc' mr' ∧ LfC mc mc' ∧ LfR mr mr' := by
  obtain ⟨h2, h5, h3, h6, h7, h8, h9, hF, h20⟩ := h
  -- the class
  let m1 := up mc 64 9 (mc 64 9 ||| done)
  let few := if mr 0 19 &&& (done ^^^ (-1)) = 0 then (if nI τ < mc 64 8 then nI τ else mc 64 8) else mc 64 8
  let m2 := up m1 64 8 few
  have l1 : LfC mc m2 := ⟨fun q q1 q2 => by show up m1 64 8 few q = _; rw [up_row q1]; show up mc 64 9 _ q = _; rw [up_row q1], fun k hk => by show up m1 64 8 few 64 k = _; rw [up_ne (Or.inr (by omega))]; show up mc 64 9 _ 64 k = _; rw [up_ne (Or.inr (by omega))]⟩
  sorry
